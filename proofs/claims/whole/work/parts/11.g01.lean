noncomputable section g01
variable {l : Launch} {B : Nat} {D : va_G} {ac : Nat → ClassId} {wa wb wt sb sL : Nat} {sx : Nat → Int32} {S : v_S} {I : v_I} {J : v_J} {F : v_F}
def f_X10_tells_J66_206 (S : v_S) (F : v_F) (w0 : Nat) (w1 : Int32) (I : v_I) (y4 : Int64) : Option ((Int64 × v_I) ⊕ (Int64 × v_I)) :=
(p_ob S 10 w0).bind fun _ =>
p_let (v_up I w0 22 ((I w0 22) + (1 : Int32))) fun I_48 =>
some (.inl (y4, I_48))
def f_X10_tells_J66_204 (S : v_S) (F : v_F) (w0 : Nat) (w1 : Int32) (I : v_I) (z0 : Int64) : Option ((Int64 × v_I) ⊕ (Int64 × v_I)) :=
f_X10_tells_J66_206 S F w0 w1 I z0
def f_X10_tells_J66_151 (S : v_S) (F : v_F) (w0 : Nat) (w1 : Int32) (I : v_I) (y4 : Int64) (y6 : Int32) (y7 : Int64) (y9 : Int32) (z0 : Int32) : Option ((Int64 × v_I) ⊕ (Int64 × v_I)) :=
if y6 = w1 then (
if z0 = (0 : Int32) then (
f_X10_tells_J66_206 S F w0 w1 I y4)
else (
(p_ob S 10 w0).bind fun _ =>
if (I w0 24) = (0 : Int32) then (
if y9 = (0 : Int32) then (
if (0 : Int32) ≤ (lg_cmp y7 (0 : Int64)) then (
if (lg_cmp y7 (9 : Int64)) ≤ (0 : Int32) then (
f_X10_tells_J66_204 S F w0 w1 I y7)
else (
f_X10_tells_J66_204 S F w0 w1 I (9 : Int64)))
else (
f_X10_tells_J66_204 S F w0 w1 I (0 : Int64)))
else (
f_X10_tells_J66_206 S F w0 w1 I y4))
else (
f_X10_tells_J66_206 S F w0 w1 I y4)))
else (
f_X10_tells_J66_206 S F w0 w1 I y4)
def f_X10_tells_J66_146 (S : v_S) (F : v_F) (w0 : Nat) (w1 : Int32) (I : v_I) (y4 : Int64) (y6 : Int32) (y7 : Int64) (y9 : Int32) : Option ((Int64 × v_I) ⊕ (Int64 × v_I)) :=
f_X10_tells_J66_151 S F w0 w1 I y4 y6 y7 y9 (1 : Int32)
def f_X10_tells_J66_117 (S : v_S) (F : v_F) (w0 : Nat) (w1 : Int32) (I : v_I) (y4 : Int64) (y6 : Int32) (z0 : Int64) : Option ((Int64 × v_I) ⊕ (Int64 × v_I)) :=
(p_ob S 10 w0).bind fun _ =>
p_let (I w0 24) fun x_39 =>
p_let (v_up I w0 24 (0 : Int32)) fun I_41 =>
(f_X10_passes0 S I_41 F w0 (4 : Int32)).bind fun r_43 =>
if r_43.1 = (0 : Int32) then (
f_X10_tells_J66_146 S F w0 w1 r_43.2 y4 y6 z0 x_39)
else (
(g_X10_testOf GNN 0 w0 (1 : Int32) S r_43.2 F).bind fun r_56 =>
if r_56.1 = (0 : Int32) then (
f_X10_tells_J66_151 S F w0 w1 r_56.2 y4 y6 z0 x_39 (0 : Int32))
else (
f_X10_tells_J66_146 S F w0 w1 r_56.2 y4 y6 z0 x_39))
def f_X10_tells_B66 (S : v_S) (F : v_F) (w0 : Nat) (w1 : Int32) (s66 : Int64 × v_I) : Option ((Int64 × v_I) ⊕ (Int64 × v_I)) :=
(p_ob S 10 w0).bind fun _ =>
if (s66.2 w0 23) ≤ (s66.2 w0 22) then (
some (.inr (s66.1, s66.2)))
else (
(f_X10_codeAt S s66.2 F w0 (s66.2 w0 22)).bind fun r_29 =>
p_let (v_up s66.2 w0 24 (0 : Int32)) fun I_31 =>
p_let (v_up I_31 w0 22 ((I_31 w0 22) + (1 : Int32))) fun I_33 =>
if r_29 = (3 : Int32) then (
f_X10_tells_J66_117 S F w0 w1 I_33 s66.1 r_29 (1 : Int64))
else (
(g_X10_sumOf GNN 0 w0 (1 : Int32) S I_33 F).bind fun r_36 =>
f_X10_tells_J66_117 S F w0 w1 r_36.2 s66.1 r_29 r_36.1))
def f_X10_tells (S : v_S) (I : v_I) (F : v_F) (p0 : Nat) (p1 : Int32) (p2 : Int32) (p3 : Int32) : Option (Int32 × v_I) :=
(p_ob S 10 p0).bind fun _ =>
(F p0 2).bind fun a_2 =>
(p_ix S 20 a_2 (52 : Int32)).bind fun j_4 =>
if (I a_2 j_4) = (-1 : Int32) then (
some (p3, I))
else (
(f_X10_setsAsked S I F p0 p2).bind fun r_7 =>
p_let (v_up r_7 p0 25 (0 : Int32)) fun I_9 =>
(F p0 2).bind fun a_11 =>
(p_ix S 20 a_11 (52 : Int32)).bind fun j_13 =>
p_let (v_up I_9 p0 22 ((400 : Int32) * (I_9 a_11 j_13))) fun I_15 =>
(F p0 2).bind fun a_17 =>
(F p0 2).bind fun a_19 =>
(p_ix S 20 a_19 (52 : Int32)).bind fun j_21 =>
(p_ix S 20 a_17 ((53 : Int32) + (I_15 a_19 j_21))).bind fun j_23 =>
p_let (v_up I_15 p0 23 ((I_15 p0 22) + (I_15 a_17 j_23))) fun I_25 =>
(v_loop (f_X10_tells_B66 S F p0 p1) FU (p3.toInt64, I_25)).bind fun q_59 =>
some (q_59.1.toInt32, q_59.2))
set_option maxHeartbeats 4000000 in
set_option maxRecDepth 100000 in
theorem t_X10_tells {p0 : Nat} {p1 : Int32} {p2 : Int32} {p3 : Int32} {r : Int32 × v_I} (h : f_X10_tells S I F p0 p1 p2 p3 = some r) : v_R l B D ac (v_EE B wa wb wt sb sL sx) yX10_tells cX10_tells 11 (some .int) 206 0 0 [.ref (B + p0), .int p1, .int p2, .int p3] S I J F (v_D (some (.int r.1)) S r.2 J F) := by
  refine v_R.of (by decide) (Nat.le_of_ble_eq_true rfl) fun d hd => ?_
  generalize hQ : v_D (some (.int r.1)) S r.2 J F = Q
  have b66 : ∀ (w0 : Nat) (w1 : Int32) (s66 : Int64 × v_I) (rx66 : (Int64 × v_I) ⊕ (Int64 × v_I)), f_X10_tells_B66 S F w0 w1 s66 = some rx66 → v_K (fun (sP : Int64 × v_I) => V l B D ac (v_EE B wa wb wt sb sL sx) yX10_tells cX10_tells 11 (some .int) d 0 0 0 0 S sP.2 J F 66 [(0, .ref (B + w0)), (1, .int w1), (4, .long sP.1)] [] Q) (fun (rE : Int64 × v_I) => V l B D ac (v_EE B wa wb wt sb sL sx) yX10_tells cX10_tells 11 (some .int) d 0 0 0 0 S rE.2 J F 219 [(4, .long rE.1)] [] Q) rx66 → V l B D ac (v_EE B wa wb wt sb sL sx) yX10_tells cX10_tells 11 (some .int) d 0 0 0 0 S s66.2 J F 66 [(0, .ref (B + w0)), (1, .int w1), (4, .long s66.1)] [] Q := by
    intro w0 w1 s66 rx66 h hk
    have j206 : ∀ (I : v_I) (y4 : Int64), f_X10_tells_J66_206 S F w0 w1 I y4 = some rx66 → V l B D ac (v_EE B wa wb wt sb sL sx) yX10_tells cX10_tells 11 (some .int) d 0 0 0 0 S I J F 206 [(0, .ref (B + w0)), (1, .int w1), (4, .long y4)] [] Q := by
      intro I y4 h
      unfold f_X10_tells_J66_206 at h
      refine v_aload_n dX10_tells_206 rfl ?_
      refine v_dup dX10_tells_207 rfl ?_
      replace h := p_bind_elim h
      obtain ⟨_, q_47, h⟩ := h
      have q_47 := p_ob_spec q_47
      refine v_getI rfl fl_X10_277 dX10_tells_208 q_47 ?_
      refine v_iconstE (1 : Int32) dX10_tells_211 (by decide) ?_
      refine v_iadd dX10_tells_212 ?_
      refine v_putI rfl fl_X10_277 dX10_tells_213 q_47 rfl rfl ?_
      replace h := p_let_elim h
      obtain ⟨I_48, h_49, h⟩ := h
      rw [← h_49]
      refine v_goto 66 dX10_tells_216 (by decide) ?_
      cases h
      refine v_sub [(0, .ref (B + w0)), (1, .int w1), (4, .long y4)] ⟨rfl, rfl, rfl, trivial⟩ ?_
      exact hk
    have j204 : ∀ (I : v_I) (z0 : Int64), f_X10_tells_J66_204 S F w0 w1 I z0 = some rx66 → V l B D ac (v_EE B wa wb wt sb sL sx) yX10_tells cX10_tells 11 (some .int) d 0 0 0 0 S I J F 204 [(0, .ref (B + w0)), (1, .int w1)] [.long z0] Q := by
      intro I z0 h
      unfold f_X10_tells_J66_204 at h
      refine v_lstore dX10_tells_204 (by decide) ?_
      refine v_sub [(0, .ref (B + w0)), (1, .int w1), (4, .long z0)] ⟨rfl, rfl, rfl, trivial⟩ ?_
      refine v_sub [(0, .ref (B + w0)), (1, .int w1), (4, .long z0)] ⟨rfl, rfl, rfl, trivial⟩ ?_
      exact j206 _ _ h
    have j151 : ∀ (I : v_I) (y4 : Int64) (y6 : Int32) (y7 : Int64) (y9 : Int32) (z0 : Int32), f_X10_tells_J66_151 S F w0 w1 I y4 y6 y7 y9 z0 = some rx66 → V l B D ac (v_EE B wa wb wt sb sL sx) yX10_tells cX10_tells 11 (some .int) d 0 0 0 0 S I J F 151 [(0, .ref (B + w0)), (1, .int w1), (4, .long y4), (6, .int y6), (7, .long y7), (9, .int y9)] [.int z0] Q := by
      intro I y4 y6 y7 y9 z0 h
      unfold f_X10_tells_J66_151 at h
      refine v_istore dX10_tells_151 (by decide) ?_
      refine v_sub [(0, .ref (B + w0)), (1, .int w1), (4, .long y4), (6, .int y6), (7, .long y7), (9, .int y9), (10, .int z0)] ⟨rfl, rfl, rfl, rfl, rfl, rfl, rfl, trivial⟩ ?_
      refine v_iload dX10_tells_153 rfl ?_
      refine v_iload_n dX10_tells_155 rfl ?_
      refine v_icmp_ne 206 dX10_tells_156 (by decide) (fun c_46 => ?_) (fun c_46 => ?_)
      · rw [if_neg c_46] at h
        refine v_sub [(0, .ref (B + w0)), (1, .int w1), (4, .long y4)] ⟨rfl, rfl, rfl, trivial⟩ ?_
        exact j206 _ _ h
      · rw [if_pos c_46] at h
        refine v_iload dX10_tells_159 rfl ?_
        refine v_if_eq 206 dX10_tells_161 (by decide) (fun c_50 => ?_) (fun c_50 => ?_)
        · rw [if_pos c_50] at h
          refine v_sub [(0, .ref (B + w0)), (1, .int w1), (4, .long y4)] ⟨rfl, rfl, rfl, trivial⟩ ?_
          exact j206 _ _ h
        · rw [if_neg c_50] at h
          refine v_aload_n dX10_tells_164 rfl ?_
          replace h := p_bind_elim h
          obtain ⟨_, q_51, h⟩ := h
          have q_51 := p_ob_spec q_51
          refine v_getI rfl fl_X10_287 dX10_tells_165 q_51 ?_
          refine v_if_ne 206 dX10_tells_168 (by decide) (fun c_52 => ?_) (fun c_52 => ?_)
          · rw [if_neg c_52] at h
            refine v_sub [(0, .ref (B + w0)), (1, .int w1), (4, .long y4)] ⟨rfl, rfl, rfl, trivial⟩ ?_
            exact j206 _ _ h
          · rw [if_pos c_52] at h
            refine v_iload dX10_tells_171 rfl ?_
            refine v_if_ne 206 dX10_tells_173 (by decide) (fun c_53 => ?_) (fun c_53 => ?_)
            · rw [if_neg c_53] at h
              refine v_sub [(0, .ref (B + w0)), (1, .int w1), (4, .long y4)] ⟨rfl, rfl, rfl, trivial⟩ ?_
              exact j206 _ _ h
            · rw [if_pos c_53] at h
              refine v_lload dX10_tells_176 rfl ?_
              refine v_lconst (0 : Int64) dX10_tells_178 (by decide) ?_
              refine v_lcmp dX10_tells_179 ?_
              refine v_if_ge 187 dX10_tells_180 (by decide) (fun c_54 => ?_) (fun c_54 => ?_)
              · rw [if_pos c_54] at h
                refine v_lload dX10_tells_187 rfl ?_
                refine v_ldc2 (9 : Int64) dX10_tells_189 kn_X10_340 ?_
                refine v_lcmp dX10_tells_192 ?_
                refine v_if_le 202 dX10_tells_193 (by decide) (fun c_55 => ?_) (fun c_55 => ?_)
                · rw [if_pos c_55] at h
                  refine v_lload dX10_tells_202 rfl ?_
                  refine v_sub [(0, .ref (B + w0)), (1, .int w1)] ⟨rfl, rfl, trivial⟩ ?_
                  exact j204 _ _ h
                · rw [if_neg c_55] at h
                  refine v_ldc2 (9 : Int64) dX10_tells_196 kn_X10_340 ?_
                  refine v_goto 204 dX10_tells_199 (by decide) ?_
                  refine v_sub [(0, .ref (B + w0)), (1, .int w1)] ⟨rfl, rfl, trivial⟩ ?_
                  exact j204 _ _ h
              · rw [if_neg c_54] at h
                refine v_lconst (0 : Int64) dX10_tells_183 (by decide) ?_
                refine v_goto 204 dX10_tells_184 (by decide) ?_
                refine v_sub [(0, .ref (B + w0)), (1, .int w1)] ⟨rfl, rfl, trivial⟩ ?_
                exact j204 _ _ h
    have j146 : ∀ (I : v_I) (y4 : Int64) (y6 : Int32) (y7 : Int64) (y9 : Int32), f_X10_tells_J66_146 S F w0 w1 I y4 y6 y7 y9 = some rx66 → V l B D ac (v_EE B wa wb wt sb sL sx) yX10_tells cX10_tells 11 (some .int) d 0 0 0 0 S I J F 146 [(0, .ref (B + w0)), (1, .int w1), (4, .long y4), (6, .int y6), (7, .long y7), (9, .int y9)] [] Q := by
      intro I y4 y6 y7 y9 h
      unfold f_X10_tells_J66_146 at h
      refine v_iconstE (1 : Int32) dX10_tells_146 (by decide) ?_
      refine v_goto 151 dX10_tells_147 (by decide) ?_
      refine v_sub [(0, .ref (B + w0)), (1, .int w1), (4, .long y4), (6, .int y6), (7, .long y7), (9, .int y9)] ⟨rfl, rfl, rfl, rfl, rfl, rfl, trivial⟩ ?_
      exact j151 _ _ _ _ _ _ h
    have j117 : ∀ (I : v_I) (y4 : Int64) (y6 : Int32) (z0 : Int64), f_X10_tells_J66_117 S F w0 w1 I y4 y6 z0 = some rx66 → V l B D ac (v_EE B wa wb wt sb sL sx) yX10_tells cX10_tells 11 (some .int) d 0 0 0 0 S I J F 117 [(0, .ref (B + w0)), (1, .int w1), (4, .long y4), (6, .int y6)] [.long z0] Q := by
      intro I y4 y6 z0 h
      unfold f_X10_tells_J66_117 at h
      refine v_lstore dX10_tells_117 (by decide) ?_
      refine v_sub [(0, .ref (B + w0)), (1, .int w1), (4, .long y4), (6, .int y6), (7, .long z0)] ⟨rfl, rfl, rfl, rfl, rfl, trivial⟩ ?_
      refine v_aload_n dX10_tells_119 rfl ?_
      replace h := p_bind_elim h
      obtain ⟨_, q_38, h⟩ := h
      have q_38 := p_ob_spec q_38
      refine v_getI rfl fl_X10_287 dX10_tells_120 q_38 ?_
      replace h := p_let_elim h
      obtain ⟨x_39, h_40, h⟩ := h
      rw [← h_40]
      refine v_istore dX10_tells_123 (by decide) ?_
      refine v_sub [(0, .ref (B + w0)), (1, .int w1), (4, .long y4), (6, .int y6), (7, .long z0), (9, .int x_39)] ⟨rfl, rfl, rfl, rfl, rfl, rfl, trivial⟩ ?_
      refine v_aload_n dX10_tells_125 rfl ?_
      refine v_iconstE (0 : Int32) dX10_tells_126 (by decide) ?_
      refine v_putI rfl fl_X10_287 dX10_tells_127 q_38 rfl rfl ?_
      replace h := p_let_elim h
      obtain ⟨I_41, h_42, h⟩ := h
      rw [← h_42]
      refine v_aload_n dX10_tells_130 rfl ?_
      refine v_iconstE (4 : Int32) dX10_tells_131 (by decide) ?_
      replace h := p_bind_elim h
      obtain ⟨r_43, q_44, h⟩ := h
      refine v_cVr (t_X10_passes0 q_44) cal_X10_passes0 ml_X10_301 sel_X10_passes0 q_38 kk_10 dX10_tells_132 (by omega) (by decide) (by decide) (Nat.le_of_ble_eq_true rfl) rfl ?_
      refine v_if_eq 146 dX10_tells_135 (by decide) (fun c_45 => ?_) (fun c_45 => ?_)
      · rw [if_pos c_45] at h
        refine v_sub [(0, .ref (B + w0)), (1, .int w1), (4, .long y4), (6, .int y6), (7, .long z0), (9, .int x_39)] ⟨rfl, rfl, rfl, rfl, rfl, rfl, trivial⟩ ?_
        exact j146 _ _ _ _ _ h
      · rw [if_neg c_45] at h
        refine v_aload_n dX10_tells_138 rfl ?_
        refine v_iconstE (1 : Int32) dX10_tells_139 (by decide) ?_
        replace h := p_bind_elim h
        obtain ⟨r_56, q_57, h⟩ := h
        refine v_cVr (tg_X10_testOf q_57) cal_X10_testOf ml_X10_331 sel_X10_testOf q_38 kk_10 dX10_tells_140 (by omega) (by decide) (by decide) (Nat.le_of_ble_eq_true rfl) rfl ?_
        refine v_if_eq 150 dX10_tells_143 (by decide) (fun c_58 => ?_) (fun c_58 => ?_)
        · rw [if_pos c_58] at h
          refine v_iconstE (0 : Int32) dX10_tells_150 (by decide) ?_
          refine v_sub [(0, .ref (B + w0)), (1, .int w1), (4, .long y4), (6, .int y6), (7, .long z0), (9, .int x_39)] ⟨rfl, rfl, rfl, rfl, rfl, rfl, trivial⟩ ?_
          exact j151 _ _ _ _ _ _ h
        · rw [if_neg c_58] at h
          refine v_sub [(0, .ref (B + w0)), (1, .int w1), (4, .long y4), (6, .int y6), (7, .long z0), (9, .int x_39)] ⟨rfl, rfl, rfl, rfl, rfl, rfl, trivial⟩ ?_
          exact j146 _ _ _ _ _ h
    unfold f_X10_tells_B66 at h
    refine v_aload_n dX10_tells_66 rfl ?_
    replace h := p_bind_elim h
    obtain ⟨_, q_27, h⟩ := h
    have q_27 := p_ob_spec q_27
    refine v_getI rfl fl_X10_277 dX10_tells_67 q_27 ?_
    refine v_aload_n dX10_tells_70 rfl ?_
    refine v_getI rfl fl_X10_274 dX10_tells_71 q_27 ?_
    refine v_icmp_ge 219 dX10_tells_74 (by decide) (fun c_28 => ?_) (fun c_28 => ?_)
    · rw [if_pos c_28] at h
      cases h
      refine v_sub [(4, .long s66.1)] ⟨rfl, trivial⟩ ?_
      exact hk
    · rw [if_neg c_28] at h
      refine v_aload_n dX10_tells_77 rfl ?_
      refine v_aload_n dX10_tells_78 rfl ?_
      refine v_getI rfl fl_X10_277 dX10_tells_79 q_27 ?_
      replace h := p_bind_elim h
      obtain ⟨r_29, q_30, h⟩ := h
      refine v_cVr (t_X10_codeAt q_30) cal_X10_codeAt ml_X10_280 sel_X10_codeAt q_27 kk_10 dX10_tells_82 (by omega) (by decide) (by decide) (Nat.le_of_ble_eq_true rfl) rfl ?_
      refine v_istore dX10_tells_85 (by decide) ?_
      refine v_sub [(0, .ref (B + w0)), (1, .int w1), (4, .long s66.1), (6, .int r_29)] ⟨rfl, rfl, rfl, rfl, trivial⟩ ?_
      refine v_aload_n dX10_tells_87 rfl ?_
      refine v_iconstE (0 : Int32) dX10_tells_88 (by decide) ?_
      refine v_putI rfl fl_X10_287 dX10_tells_89 q_27 rfl rfl ?_
      replace h := p_let_elim h
      obtain ⟨I_31, h_32, h⟩ := h
      rw [← h_32]
      refine v_aload_n dX10_tells_92 rfl ?_
      refine v_dup dX10_tells_93 rfl ?_
      refine v_getI rfl fl_X10_277 dX10_tells_94 q_27 ?_
      refine v_iconstE (1 : Int32) dX10_tells_97 (by decide) ?_
      refine v_iadd dX10_tells_98 ?_
      refine v_putI rfl fl_X10_277 dX10_tells_99 q_27 rfl rfl ?_
      replace h := p_let_elim h
      obtain ⟨I_33, h_34, h⟩ := h
      rw [← h_34]
      refine v_iload dX10_tells_102 rfl ?_
      refine v_iconstE (3 : Int32) dX10_tells_104 (by decide) ?_
      refine v_icmp_ne 112 dX10_tells_105 (by decide) (fun c_35 => ?_) (fun c_35 => ?_)
      · rw [if_neg c_35] at h
        refine v_aload_n dX10_tells_112 rfl ?_
        refine v_iconstE (1 : Int32) dX10_tells_113 (by decide) ?_
        replace h := p_bind_elim h
        obtain ⟨r_36, q_37, h⟩ := h
        refine v_cVr (tg_X10_sumOf q_37) cal_X10_sumOf ml_X10_304 sel_X10_sumOf q_27 kk_10 dX10_tells_114 (by omega) (by decide) (by decide) (Nat.le_of_ble_eq_true rfl) rfl ?_
        refine v_sub [(0, .ref (B + w0)), (1, .int w1), (4, .long s66.1), (6, .int r_29)] ⟨rfl, rfl, rfl, rfl, trivial⟩ ?_
        exact j117 _ _ _ _ h
      · rw [if_pos c_35] at h
        refine v_lconst (1 : Int64) dX10_tells_108 (by decide) ?_
        refine v_goto 117 dX10_tells_109 (by decide) ?_
        refine v_sub [(0, .ref (B + w0)), (1, .int w1), (4, .long s66.1), (6, .int r_29)] ⟨rfl, rfl, rfl, rfl, trivial⟩ ?_
        exact j117 _ _ _ _ h
  unfold f_X10_tells at h
  refine v_sub [(0, .ref (B + p0)), (1, .int p1), (2, .int p2), (3, .int p3)] ⟨rfl, rfl, rfl, rfl, trivial⟩ ?_
  refine v_aload_n dX10_tells_0 rfl ?_
  replace h := p_bind_elim h
  obtain ⟨_, q_1, h⟩ := h
  have q_1 := p_ob_spec q_1
  replace h := p_bind_elim h
  obtain ⟨a_2, q_3, h⟩ := h
  refine v_getR q_3 rfl fl_X10_28 dX10_tells_1 q_1 ?_
  refine v_bipush (52 : Int32) dX10_tells_4 (by decide) ?_
  replace h := p_bind_elim h
  obtain ⟨j_4, q_5, h⟩ := h
  refine v_ialdP dX10_tells_6 q_5 ?_
  refine v_iconstE (-1 : Int32) dX10_tells_7 (by decide) ?_
  refine v_icmp_ne 13 dX10_tells_8 (by decide) (fun c_6 => ?_) (fun c_6 => ?_)
  · rw [if_neg c_6] at h
    refine v_aload_n dX10_tells_13 rfl ?_
    refine v_iload_n dX10_tells_14 rfl ?_
    replace h := p_bind_elim h
    obtain ⟨r_7, q_8, h⟩ := h
    refine v_cVn (t_X10_setsAsked q_8) cal_X10_setsAsked ml_X10_337 sel_X10_setsAsked q_1 kk_10 dX10_tells_15 (by omega) (by decide) (by decide) (Nat.le_of_ble_eq_true rfl) rfl ?_
    refine v_aload_n dX10_tells_18 rfl ?_
    refine v_iconstE (0 : Int32) dX10_tells_19 (by decide) ?_
    refine v_putI rfl fl_X10_307 dX10_tells_20 q_1 rfl rfl ?_
    replace h := p_let_elim h
    obtain ⟨I_9, h_10, h⟩ := h
    rw [← h_10]
    refine v_iload_n dX10_tells_23 rfl ?_
    refine v_i2l dX10_tells_24 ?_
    refine v_lstore dX10_tells_25 (by decide) ?_
    refine v_sub [(0, .ref (B + p0)), (1, .int p1), (4, .long p3.toInt64)] ⟨rfl, rfl, rfl, trivial⟩ ?_
    refine v_aload_n dX10_tells_27 rfl ?_
    refine v_sipush (400 : Int32) dX10_tells_28 (by decide) ?_
    refine v_aload_n dX10_tells_31 rfl ?_
    replace h := p_bind_elim h
    obtain ⟨a_11, q_12, h⟩ := h
    refine v_getR q_12 rfl fl_X10_28 dX10_tells_32 q_1 ?_
    refine v_bipush (52 : Int32) dX10_tells_35 (by decide) ?_
    replace h := p_bind_elim h
    obtain ⟨j_13, q_14, h⟩ := h
    refine v_ialdP dX10_tells_37 q_14 ?_
    refine v_imul dX10_tells_38 ?_
    refine v_putI rfl fl_X10_277 dX10_tells_39 q_1 rfl rfl ?_
    replace h := p_let_elim h
    obtain ⟨I_15, h_16, h⟩ := h
    rw [← h_16]
    refine v_aload_n dX10_tells_42 rfl ?_
    refine v_aload_n dX10_tells_43 rfl ?_
    refine v_getI rfl fl_X10_277 dX10_tells_44 q_1 ?_
    refine v_aload_n dX10_tells_47 rfl ?_
    replace h := p_bind_elim h
    obtain ⟨a_17, q_18, h⟩ := h
    refine v_getR q_18 rfl fl_X10_28 dX10_tells_48 q_1 ?_
    refine v_bipush (53 : Int32) dX10_tells_51 (by decide) ?_
    refine v_aload_n dX10_tells_53 rfl ?_
    replace h := p_bind_elim h
    obtain ⟨a_19, q_20, h⟩ := h
    refine v_getR q_20 rfl fl_X10_28 dX10_tells_54 q_1 ?_
    refine v_bipush (52 : Int32) dX10_tells_57 (by decide) ?_
    replace h := p_bind_elim h
    obtain ⟨j_21, q_22, h⟩ := h
    refine v_ialdP dX10_tells_59 q_22 ?_
    refine v_iadd dX10_tells_60 ?_
    replace h := p_bind_elim h
    obtain ⟨j_23, q_24, h⟩ := h
    refine v_ialdP dX10_tells_61 q_24 ?_
    refine v_iadd dX10_tells_62 ?_
    refine v_putI rfl fl_X10_274 dX10_tells_63 q_1 rfl rfl ?_
    replace h := p_let_elim h
    obtain ⟨I_25, h_26, h⟩ := h
    rw [← h_26]
    replace h := p_bind_elim h
    obtain ⟨q_59, h_60, h⟩ := h
    refine v_sub [(0, .ref (B + p0)), (1, .int p1), (4, .long p3.toInt64)] ⟨rfl, rfl, rfl, trivial⟩ ?_
    refine v_loopV (fun (sP : Int64 × v_I) => V l B D ac (v_EE B wa wb wt sb sL sx) yX10_tells cX10_tells 11 (some .int) d 0 0 0 0 S sP.2 J F 66 [(0, .ref (B + p0)), (1, .int p1), (4, .long sP.1)] [] Q) (fun (rE : Int64 × v_I) => V l B D ac (v_EE B wa wb wt sb sL sx) yX10_tells cX10_tells 11 (some .int) d 0 0 0 0 S rE.2 J F 219 [(4, .long rE.1)] [] Q) (fun s_ x_ hb hk => b66 _ _ s_ x_ hb hk) (r := q_59) ?_ h_60
    try dsimp only
    refine v_lload dX10_tells_219 rfl ?_
    refine v_l2i dX10_tells_221 ?_
    cases h
    exact v_iret dX10_tells_222 rfl (by decide) (by decide) (by rw [← hQ]; exact ⟨rfl, rfl, rfl, rfl, rfl⟩)
  · rw [if_pos c_6] at h
    refine v_iload_n dX10_tells_11 rfl ?_
    cases h
    exact v_iret dX10_tells_12 rfl (by decide) (by decide) (by rw [← hQ]; exact ⟨rfl, rfl, rfl, rfl, rfl⟩)

def f_X10_needsNow (S : v_S) (I : v_I) (F : v_F) (p0 : Nat) (p1 : Int32) : Option (Int32 × v_I) :=
(p_ob S 10 p0).bind fun _ =>
(F p0 2).bind fun a_2 =>
(p_ix S 20 a_2 ((1 : Int32) + p1)).bind fun j_4 =>
(f_X10_tells S I F p0 (1 : Int32) p1 (I a_2 j_4)).bind fun r_6 =>
some (r_6.1, r_6.2)
set_option maxHeartbeats 4000000 in
set_option maxRecDepth 100000 in
theorem t_X10_needsNow {p0 : Nat} {p1 : Int32} {r : Int32 × v_I} (h : f_X10_needsNow S I F p0 p1 = some r) : v_R l B D ac (v_EE B wa wb wt sb sL sx) yX10_needsNow cX10_needsNow 2 (some .int) 207 0 0 [.ref (B + p0), .int p1] S I J F (v_D (some (.int r.1)) S r.2 J F) := by
  refine v_R.of (by decide) (Nat.le_of_ble_eq_true rfl) fun d hd => ?_
  generalize hQ : v_D (some (.int r.1)) S r.2 J F = Q
  unfold f_X10_needsNow at h
  refine v_sub [(0, .ref (B + p0)), (1, .int p1)] ⟨rfl, rfl, trivial⟩ ?_
  refine v_aload_n dX10_needsNow_0 rfl ?_
  refine v_iconstE (1 : Int32) dX10_needsNow_1 (by decide) ?_
  refine v_iload_n dX10_needsNow_2 rfl ?_
  refine v_aload_n dX10_needsNow_3 rfl ?_
  replace h := p_bind_elim h
  obtain ⟨_, q_1, h⟩ := h
  have q_1 := p_ob_spec q_1
  replace h := p_bind_elim h
  obtain ⟨a_2, q_3, h⟩ := h
  refine v_getR q_3 rfl fl_X10_28 dX10_needsNow_4 q_1 ?_
  refine v_iconstE (1 : Int32) dX10_needsNow_7 (by decide) ?_
  refine v_iload_n dX10_needsNow_8 rfl ?_
  refine v_iadd dX10_needsNow_9 ?_
  replace h := p_bind_elim h
  obtain ⟨j_4, q_5, h⟩ := h
  refine v_ialdP dX10_needsNow_10 q_5 ?_
  replace h := p_bind_elim h
  obtain ⟨r_6, q_7, h⟩ := h
  refine v_cVr (t_X10_tells q_7) cal_X10_tells ml_X10_342 sel_X10_tells q_1 kk_10 dX10_needsNow_11 (by omega) (by decide) (by decide) (Nat.le_of_ble_eq_true rfl) rfl ?_
  cases h
  exact v_iret dX10_needsNow_14 rfl (by decide) (by decide) (by rw [← hQ]; exact ⟨rfl, rfl, rfl, rfl, rfl⟩)

def f_X10_shutsNow (S : v_S) (I : v_I) (F : v_F) (p0 : Nat) (p1 : Int32) : Option (Int32 × v_I) :=
(p_ob S 10 p0).bind fun _ =>
(f_X10_tells S I F p0 (3 : Int32) p1 (0 : Int32)).bind fun r_1 =>
if r_1.1 = (1 : Int32) then (
some ((1 : Int32), r_1.2))
else (
some ((0 : Int32), r_1.2))
set_option maxHeartbeats 4000000 in
set_option maxRecDepth 100000 in
theorem t_X10_shutsNow {p0 : Nat} {p1 : Int32} {r : Int32 × v_I} (h : f_X10_shutsNow S I F p0 p1 = some r) : v_R l B D ac (v_EE B wa wb wt sb sL sx) yX10_shutsNow cX10_shutsNow 2 (some .boolean) 207 0 0 [.ref (B + p0), .int p1] S I J F (v_D (some (.int r.1)) S r.2 J F) := by
  refine v_R.of (by decide) (Nat.le_of_ble_eq_true rfl) fun d hd => ?_
  generalize hQ : v_D (some (.int r.1)) S r.2 J F = Q
  unfold f_X10_shutsNow at h
  refine v_sub [(0, .ref (B + p0)), (1, .int p1)] ⟨rfl, rfl, trivial⟩ ?_
  refine v_aload_n dX10_shutsNow_0 rfl ?_
  refine v_iconstE (3 : Int32) dX10_shutsNow_1 (by decide) ?_
  refine v_iload_n dX10_shutsNow_2 rfl ?_
  refine v_iconstE (0 : Int32) dX10_shutsNow_3 (by decide) ?_
  replace h := p_bind_elim h
  obtain ⟨_, q_3, h⟩ := h
  have q_3 := p_ob_spec q_3
  replace h := p_bind_elim h
  obtain ⟨r_1, q_2, h⟩ := h
  refine v_cVr (t_X10_tells q_2) cal_X10_tells ml_X10_342 sel_X10_tells q_3 kk_10 dX10_shutsNow_4 (by omega) (by decide) (by decide) (Nat.le_of_ble_eq_true rfl) rfl ?_
  refine v_iconstE (1 : Int32) dX10_shutsNow_7 (by decide) ?_
  refine v_icmp_ne 15 dX10_shutsNow_8 (by decide) (fun c_4 => ?_) (fun c_4 => ?_)
  · rw [if_neg c_4] at h
    refine v_iconstE (0 : Int32) dX10_shutsNow_15 (by decide) ?_
    cases h
    exact v_zret dX10_shutsNow_16 rfl rfl (by decide) (by decide) (by rw [← hQ]; exact ⟨rfl, rfl, rfl, rfl, rfl⟩)
  · rw [if_pos c_4] at h
    refine v_iconstE (1 : Int32) dX10_shutsNow_11 (by decide) ?_
    refine v_goto 16 dX10_shutsNow_12 (by decide) ?_
    cases h
    exact v_zret dX10_shutsNow_16 rfl rfl (by decide) (by decide) (by rw [← hQ]; exact ⟨rfl, rfl, rfl, rfl, rfl⟩)

def f_X10_opensNext (S : v_S) (I : v_I) (F : v_F) (p0 : Nat) (p1 : Int32) : Option (Int32 × v_I) :=
(p_ob S 10 p0).bind fun _ =>
(f_X10_isOpen S I F p0 p1).bind fun r_1 =>
if r_1 = (0 : Int32) then (
(f_X10_nearOf S I F p0 p1).bind fun r_5 =>
(f_X10_needsNow S I F p0 p1).bind fun r_7 =>
if r_5 < r_7.1 then (
some ((0 : Int32), r_7.2))
else (
some ((1 : Int32), r_7.2)))
else (
(f_X10_shutsNow S I F p0 p1).bind fun r_10 =>
if r_10.1 = (0 : Int32) then (
some ((1 : Int32), r_10.2))
else (
some ((0 : Int32), r_10.2)))
set_option maxHeartbeats 4000000 in
set_option maxRecDepth 100000 in
theorem t_X10_opensNext {p0 : Nat} {p1 : Int32} {r : Int32 × v_I} (h : f_X10_opensNext S I F p0 p1 = some r) : v_R l B D ac (v_EE B wa wb wt sb sL sx) yX10_opensNext cX10_opensNext 2 (some .boolean) 208 0 0 [.ref (B + p0), .int p1] S I J F (v_D (some (.int r.1)) S r.2 J F) := by
  refine v_R.of (by decide) (Nat.le_of_ble_eq_true rfl) fun d hd => ?_
  generalize hQ : v_D (some (.int r.1)) S r.2 J F = Q
  unfold f_X10_opensNext at h
  refine v_sub [(0, .ref (B + p0)), (1, .int p1)] ⟨rfl, rfl, trivial⟩ ?_
  refine v_aload_n dX10_opensNext_0 rfl ?_
  refine v_iload_n dX10_opensNext_1 rfl ?_
  replace h := p_bind_elim h
  obtain ⟨_, q_3, h⟩ := h
  have q_3 := p_ob_spec q_3
  replace h := p_bind_elim h
  obtain ⟨r_1, q_2, h⟩ := h
  refine v_cVr (t_X10_isOpen q_2) cal_X10_isOpen ml_X10_131 sel_X10_isOpen q_3 kk_10 dX10_opensNext_2 (by omega) (by decide) (by decide) (Nat.le_of_ble_eq_true rfl) rfl ?_
  refine v_if_eq 24 dX10_opensNext_5 (by decide) (fun c_4 => ?_) (fun c_4 => ?_)
  · rw [if_pos c_4] at h
    refine v_aload_n dX10_opensNext_24 rfl ?_
    refine v_iload_n dX10_opensNext_25 rfl ?_
    replace h := p_bind_elim h
    obtain ⟨r_5, q_6, h⟩ := h
    refine v_cVr (t_X10_nearOf q_6) cal_X10_nearOf ml_X10_334 sel_X10_nearOf q_3 kk_10 dX10_opensNext_26 (by omega) (by decide) (by decide) (Nat.le_of_ble_eq_true rfl) rfl ?_
    refine v_aload_n dX10_opensNext_29 rfl ?_
    refine v_iload_n dX10_opensNext_30 rfl ?_
    replace h := p_bind_elim h
    obtain ⟨r_7, q_8, h⟩ := h
    refine v_cVr (t_X10_needsNow q_8) cal_X10_needsNow ml_X10_134 sel_X10_needsNow q_3 kk_10 dX10_opensNext_31 (by omega) (by decide) (by decide) (Nat.le_of_ble_eq_true rfl) rfl ?_
    refine v_icmp_lt 41 dX10_opensNext_34 (by decide) (fun c_9 => ?_) (fun c_9 => ?_)
    · rw [if_pos c_9] at h
      refine v_iconstE (0 : Int32) dX10_opensNext_41 (by decide) ?_
      cases h
      exact v_zret dX10_opensNext_42 rfl rfl (by decide) (by decide) (by rw [← hQ]; exact ⟨rfl, rfl, rfl, rfl, rfl⟩)
    · rw [if_neg c_9] at h
      refine v_iconstE (1 : Int32) dX10_opensNext_37 (by decide) ?_
      refine v_goto 42 dX10_opensNext_38 (by decide) ?_
      cases h
      exact v_zret dX10_opensNext_42 rfl rfl (by decide) (by decide) (by rw [← hQ]; exact ⟨rfl, rfl, rfl, rfl, rfl⟩)
  · rw [if_neg c_4] at h
    refine v_aload_n dX10_opensNext_8 rfl ?_
    refine v_iload_n dX10_opensNext_9 rfl ?_
    replace h := p_bind_elim h
    obtain ⟨r_10, q_11, h⟩ := h
    refine v_cVr (t_X10_shutsNow q_11) cal_X10_shutsNow ml_X10_140 sel_X10_shutsNow q_3 kk_10 dX10_opensNext_10 (by omega) (by decide) (by decide) (Nat.le_of_ble_eq_true rfl) rfl ?_
    refine v_if_ne 20 dX10_opensNext_13 (by decide) (fun c_12 => ?_) (fun c_12 => ?_)
    · rw [if_neg c_12] at h
      refine v_iconstE (0 : Int32) dX10_opensNext_20 (by decide) ?_
      refine v_goto 42 dX10_opensNext_21 (by decide) ?_
      cases h
      exact v_zret dX10_opensNext_42 rfl rfl (by decide) (by decide) (by rw [← hQ]; exact ⟨rfl, rfl, rfl, rfl, rfl⟩)
    · rw [if_pos c_12] at h
      refine v_iconstE (1 : Int32) dX10_opensNext_16 (by decide) ?_
      refine v_goto 42 dX10_opensNext_17 (by decide) ?_
      cases h
      exact v_zret dX10_opensNext_42 rfl rfl (by decide) (by decide) (by rw [← hQ]; exact ⟨rfl, rfl, rfl, rfl, rfl⟩)

def f_X10_wantsNow (S : v_S) (I : v_I) (F : v_F) (p0 : Nat) (p1 : Int32) : Option (Int32 × v_I) :=
(p_ob S 10 p0).bind fun _ =>
(F p0 2).bind fun a_2 =>
(p_ix S 20 a_2 ((1 : Int32) + p1)).bind fun j_4 =>
(f_X10_tells S I F p0 (2 : Int32) p1 (I a_2 j_4)).bind fun r_6 =>
some (r_6.1, r_6.2)
set_option maxHeartbeats 4000000 in
set_option maxRecDepth 100000 in
theorem t_X10_wantsNow {p0 : Nat} {p1 : Int32} {r : Int32 × v_I} (h : f_X10_wantsNow S I F p0 p1 = some r) : v_R l B D ac (v_EE B wa wb wt sb sL sx) yX10_wantsNow cX10_wantsNow 2 (some .int) 207 0 0 [.ref (B + p0), .int p1] S I J F (v_D (some (.int r.1)) S r.2 J F) := by
  refine v_R.of (by decide) (Nat.le_of_ble_eq_true rfl) fun d hd => ?_
  generalize hQ : v_D (some (.int r.1)) S r.2 J F = Q
  unfold f_X10_wantsNow at h
  refine v_sub [(0, .ref (B + p0)), (1, .int p1)] ⟨rfl, rfl, trivial⟩ ?_
  refine v_aload_n dX10_wantsNow_0 rfl ?_
  refine v_iconstE (2 : Int32) dX10_wantsNow_1 (by decide) ?_
  refine v_iload_n dX10_wantsNow_2 rfl ?_
  refine v_aload_n dX10_wantsNow_3 rfl ?_
  replace h := p_bind_elim h
  obtain ⟨_, q_1, h⟩ := h
  have q_1 := p_ob_spec q_1
  replace h := p_bind_elim h
  obtain ⟨a_2, q_3, h⟩ := h
  refine v_getR q_3 rfl fl_X10_28 dX10_wantsNow_4 q_1 ?_
  refine v_iconstE (1 : Int32) dX10_wantsNow_7 (by decide) ?_
  refine v_iload_n dX10_wantsNow_8 rfl ?_
  refine v_iadd dX10_wantsNow_9 ?_
  replace h := p_bind_elim h
  obtain ⟨j_4, q_5, h⟩ := h
  refine v_ialdP dX10_wantsNow_10 q_5 ?_
  replace h := p_bind_elim h
  obtain ⟨r_6, q_7, h⟩ := h
  refine v_cVr (t_X10_tells q_7) cal_X10_tells ml_X10_342 sel_X10_tells q_1 kk_10 dX10_wantsNow_11 (by omega) (by decide) (by decide) (Nat.le_of_ble_eq_true rfl) rfl ?_
  cases h
  exact v_iret dX10_wantsNow_14 rfl (by decide) (by decide) (by rw [← hQ]; exact ⟨rfl, rfl, rfl, rfl, rfl⟩)

def f_X10_toldByLaw (S : v_S) (I : v_I) (F : v_F) (p0 : Nat) (p1 : Int32) (p2 : Int32) : Option (Int32 × v_I) :=
if p2 = (5 : Int32) then (
(p_ob S 10 p0).bind fun _ =>
(f_X10_needsNow S I F p0 p1).bind fun r_1 =>
some (r_1.1, r_1.2))
else if p2 = (6 : Int32) then (
(p_ob S 10 p0).bind fun _ =>
(f_X10_wantsNow S I F p0 p1).bind fun r_4 =>
some (r_4.1, r_4.2))
else if p2 = (7 : Int32) then (
(p_ob S 10 p0).bind fun _ =>
(f_X10_shutsNow S I F p0 p1).bind fun r_7 =>
if r_7.1 = (0 : Int32) then (
some ((0 : Int32), r_7.2))
else (
some ((1 : Int32), r_7.2)))
else (
(p_ob S 10 p0).bind fun _ =>
(f_X10_opensNext S I F p0 p1).bind fun r_11 =>
if r_11.1 = (0 : Int32) then (
some ((0 : Int32), r_11.2))
else (
some ((1 : Int32), r_11.2)))
set_option maxHeartbeats 4000000 in
set_option maxRecDepth 100000 in
theorem t_X10_toldByLaw {p0 : Nat} {p1 : Int32} {p2 : Int32} {r : Int32 × v_I} (h : f_X10_toldByLaw S I F p0 p1 p2 = some r) : v_R l B D ac (v_EE B wa wb wt sb sL sx) yX10_toldByLaw cX10_toldByLaw 3 (some .int) 209 0 0 [.ref (B + p0), .int p1, .int p2] S I J F (v_D (some (.int r.1)) S r.2 J F) := by
  refine v_R.of (by decide) (Nat.le_of_ble_eq_true rfl) fun d hd => ?_
  generalize hQ : v_D (some (.int r.1)) S r.2 J F = Q
  unfold f_X10_toldByLaw at h
  refine v_sub [(0, .ref (B + p0)), (1, .int p1), (2, .int p2)] ⟨rfl, rfl, rfl, trivial⟩ ?_
  refine v_iload_n dX10_toldByLaw_0 rfl ?_
  by_cases c_15 : p2 = (5 : Int32)
  · rw [if_pos c_15] at h
    refine v_swIn 28 (5 : Int32) c_15 dX10_toldByLaw_1 (by decide) (by decide) rfl (by decide) ?_
    refine v_aload_n dX10_toldByLaw_28 rfl ?_
    refine v_iload_n dX10_toldByLaw_29 rfl ?_
    replace h := p_bind_elim h
    obtain ⟨_, q_3, h⟩ := h
    have q_3 := p_ob_spec q_3
    replace h := p_bind_elim h
    obtain ⟨r_1, q_2, h⟩ := h
    refine v_cVr (t_X10_needsNow q_2) cal_X10_needsNow ml_X10_134 sel_X10_needsNow q_3 kk_10 dX10_toldByLaw_30 (by omega) (by decide) (by decide) (Nat.le_of_ble_eq_true rfl) rfl ?_
    cases h
    exact v_iret dX10_toldByLaw_33 rfl (by decide) (by decide) (by rw [← hQ]; exact ⟨rfl, rfl, rfl, rfl, rfl⟩)
  · rw [if_neg c_15] at h
    by_cases c_16 : p2 = (6 : Int32)
    · rw [if_pos c_16] at h
      refine v_swIn 34 (6 : Int32) c_16 dX10_toldByLaw_1 (by decide) (by decide) rfl (by decide) ?_
      refine v_aload_n dX10_toldByLaw_34 rfl ?_
      refine v_iload_n dX10_toldByLaw_35 rfl ?_
      replace h := p_bind_elim h
      obtain ⟨_, q_6, h⟩ := h
      have q_6 := p_ob_spec q_6
      replace h := p_bind_elim h
      obtain ⟨r_4, q_5, h⟩ := h
      refine v_cVr (t_X10_wantsNow q_5) cal_X10_wantsNow ml_X10_137 sel_X10_wantsNow q_6 kk_10 dX10_toldByLaw_36 (by omega) (by decide) (by decide) (Nat.le_of_ble_eq_true rfl) rfl ?_
      cases h
      exact v_iret dX10_toldByLaw_39 rfl (by decide) (by decide) (by rw [← hQ]; exact ⟨rfl, rfl, rfl, rfl, rfl⟩)
    · rw [if_neg c_16] at h
      by_cases c_17 : p2 = (7 : Int32)
      · rw [if_pos c_17] at h
        refine v_swIn 40 (7 : Int32) c_17 dX10_toldByLaw_1 (by decide) (by decide) rfl (by decide) ?_
        refine v_aload_n dX10_toldByLaw_40 rfl ?_
        refine v_iload_n dX10_toldByLaw_41 rfl ?_
        replace h := p_bind_elim h
        obtain ⟨_, q_9, h⟩ := h
        have q_9 := p_ob_spec q_9
        replace h := p_bind_elim h
        obtain ⟨r_7, q_8, h⟩ := h
        refine v_cVr (t_X10_shutsNow q_8) cal_X10_shutsNow ml_X10_140 sel_X10_shutsNow q_9 kk_10 dX10_toldByLaw_42 (by omega) (by decide) (by decide) (Nat.le_of_ble_eq_true rfl) rfl ?_
        refine v_if_eq 52 dX10_toldByLaw_45 (by decide) (fun c_10 => ?_) (fun c_10 => ?_)
        · rw [if_pos c_10] at h
          refine v_iconstE (0 : Int32) dX10_toldByLaw_52 (by decide) ?_
          cases h
          exact v_iret dX10_toldByLaw_53 rfl (by decide) (by decide) (by rw [← hQ]; exact ⟨rfl, rfl, rfl, rfl, rfl⟩)
        · rw [if_neg c_10] at h
          refine v_iconstE (1 : Int32) dX10_toldByLaw_48 (by decide) ?_
          refine v_goto 53 dX10_toldByLaw_49 (by decide) ?_
          cases h
          exact v_iret dX10_toldByLaw_53 rfl (by decide) (by decide) (by rw [← hQ]; exact ⟨rfl, rfl, rfl, rfl, rfl⟩)
      · rw [if_neg c_17] at h
        refine v_tableOut 54 dX10_toldByLaw_1 (p_sw_out (fun k h1 h2 => by have h3 : k = 5 ∨ k = 6 ∨ k = 7 := (by omega); rcases h3 with rfl | rfl | rfl <;> first | exact c_15 | exact c_16 | exact c_17)) (by decide) ?_
        refine v_aload_n dX10_toldByLaw_54 rfl ?_
        refine v_iload_n dX10_toldByLaw_55 rfl ?_
        replace h := p_bind_elim h
        obtain ⟨_, q_13, h⟩ := h
        have q_13 := p_ob_spec q_13
        replace h := p_bind_elim h
        obtain ⟨r_11, q_12, h⟩ := h
        refine v_cVr (t_X10_opensNext q_12) cal_X10_opensNext ml_X10_143 sel_X10_opensNext q_13 kk_10 dX10_toldByLaw_56 (by omega) (by decide) (by decide) (Nat.le_of_ble_eq_true rfl) rfl ?_
        refine v_if_eq 66 dX10_toldByLaw_59 (by decide) (fun c_14 => ?_) (fun c_14 => ?_)
        · rw [if_pos c_14] at h
          refine v_iconstE (0 : Int32) dX10_toldByLaw_66 (by decide) ?_
          cases h
          exact v_iret dX10_toldByLaw_67 rfl (by decide) (by decide) (by rw [← hQ]; exact ⟨rfl, rfl, rfl, rfl, rfl⟩)
        · rw [if_neg c_14] at h
          refine v_iconstE (1 : Int32) dX10_toldByLaw_62 (by decide) ?_
          refine v_goto 67 dX10_toldByLaw_63 (by decide) ?_
          cases h
          exact v_iret dX10_toldByLaw_67 rfl (by decide) (by decide) (by rw [← hQ]; exact ⟨rfl, rfl, rfl, rfl, rfl⟩)

def f_X10_of (S : v_S) (I : v_I) (F : v_F) (p0 : Nat) (p1 : Int32) (p2 : Int32) : Option (Int32 × v_I) :=
(p_ob S 10 p0).bind fun _ =>
(f_X10_isOne S I F p0 p1).bind fun r_1 =>
if r_1 = (0 : Int32) then (
some ((-1 : Int32), I))
else (
(f_X10_lies p2 (0 : Int32) (8 : Int32)).bind fun r_5 =>
if r_5 = (0 : Int32) then (
some ((-1 : Int32), I))
else (
if (5 : Int32) ≤ p2 then (
(f_X10_toldByLaw S I F p0 p1 p2).bind fun r_9 =>
some (r_9.1, r_9.2))
else (
(f_X10_toldBare S I F p0 p1 p2).bind fun r_11 =>
some (r_11, I))))
set_option maxHeartbeats 4000000 in
set_option maxRecDepth 100000 in
theorem t_X10_of {p0 : Nat} {p1 : Int32} {p2 : Int32} {r : Int32 × v_I} (h : f_X10_of S I F p0 p1 p2 = some r) : v_R l B D ac (v_EE B wa wb wt sb sL sx) yX10_of cX10_of 3 (some .int) 210 0 0 [.ref (B + p0), .int p1, .int p2] S I J F (v_D (some (.int r.1)) S r.2 J F) := by
  refine v_R.of (by decide) (Nat.le_of_ble_eq_true rfl) fun d hd => ?_
  generalize hQ : v_D (some (.int r.1)) S r.2 J F = Q
  unfold f_X10_of at h
  refine v_sub [(0, .ref (B + p0)), (1, .int p1), (2, .int p2)] ⟨rfl, rfl, rfl, trivial⟩ ?_
  refine v_aload_n dX10_of_0 rfl ?_
  refine v_iload_n dX10_of_1 rfl ?_
  replace h := p_bind_elim h
  obtain ⟨_, q_3, h⟩ := h
  have q_3 := p_ob_spec q_3
  replace h := p_bind_elim h
  obtain ⟨r_1, q_2, h⟩ := h
  refine v_cVr (t_X10_isOne q_2) cal_X10_isOne ml_X10_128 sel_X10_isOne q_3 kk_10 dX10_of_2 (by omega) (by decide) (by decide) (Nat.le_of_ble_eq_true rfl) rfl ?_
  refine v_if_eq 18 dX10_of_5 (by decide) (fun c_4 => ?_) (fun c_4 => ?_)
  · rw [if_pos c_4] at h
    refine v_iconstE (-1 : Int32) dX10_of_18 (by decide) ?_
    cases h
    exact v_iret dX10_of_19 rfl (by decide) (by decide) (by rw [← hQ]; exact ⟨rfl, rfl, rfl, rfl, rfl⟩)
  · rw [if_neg c_4] at h
    refine v_iload_n dX10_of_8 rfl ?_
    refine v_iconstE (0 : Int32) dX10_of_9 (by decide) ?_
    refine v_bipush (8 : Int32) dX10_of_10 (by decide) ?_
    replace h := p_bind_elim h
    obtain ⟨r_5, q_6, h⟩ := h
    refine v_cSr (t_X10_lies q_6) cal_X10_lies ml_X10_18 sta_X10_lies dX10_of_12 (by omega) (by decide) (by decide) (Nat.le_of_ble_eq_true rfl) rfl ?_
    refine v_if_ne 20 dX10_of_15 (by decide) (fun c_7 => ?_) (fun c_7 => ?_)
    · rw [if_neg c_7] at h
      refine v_iload_n dX10_of_20 rfl ?_
      refine v_iconstE (5 : Int32) dX10_of_21 (by decide) ?_
      refine v_icmp_ge 34 dX10_of_22 (by decide) (fun c_8 => ?_) (fun c_8 => ?_)
      · rw [if_pos c_8] at h
        refine v_aload_n dX10_of_34 rfl ?_
        refine v_iload_n dX10_of_35 rfl ?_
        refine v_iload_n dX10_of_36 rfl ?_
        replace h := p_bind_elim h
        obtain ⟨r_9, q_10, h⟩ := h
        refine v_cVr (t_X10_toldByLaw q_10) cal_X10_toldByLaw ml_X10_150 sel_X10_toldByLaw q_3 kk_10 dX10_of_37 (by omega) (by decide) (by decide) (Nat.le_of_ble_eq_true rfl) rfl ?_
        cases h
        exact v_iret dX10_of_40 rfl (by decide) (by decide) (by rw [← hQ]; exact ⟨rfl, rfl, rfl, rfl, rfl⟩)
      · rw [if_neg c_8] at h
        refine v_aload_n dX10_of_25 rfl ?_
        refine v_iload_n dX10_of_26 rfl ?_
        refine v_iload_n dX10_of_27 rfl ?_
        replace h := p_bind_elim h
        obtain ⟨r_11, q_12, h⟩ := h
        refine v_cVr (t_X10_toldBare q_12) cal_X10_toldBare ml_X10_146 sel_X10_toldBare q_3 kk_10 dX10_of_28 (by omega) (by decide) (by decide) (Nat.le_of_ble_eq_true rfl) rfl ?_
        refine v_goto 40 dX10_of_31 (by decide) ?_
        cases h
        exact v_iret dX10_of_40 rfl (by decide) (by decide) (by rw [← hQ]; exact ⟨rfl, rfl, rfl, rfl, rfl⟩)
    · rw [if_pos c_7] at h
      refine v_iconstE (-1 : Int32) dX10_of_18 (by decide) ?_
      cases h
      exact v_iret dX10_of_19 rfl (by decide) (by decide) (by rw [← hQ]; exact ⟨rfl, rfl, rfl, rfl, rfl⟩)

def f_X10_readTest_B5 (rc : Nat → Nat → Int32 → v_S → v_I → v_F → Option (v_I)) (S : v_S) (F : v_F) (w0 : Nat) (w1 : Int32) (s5 : v_I) : Option ((v_I) ⊕ (v_I)) :=
(p_ob S 10 w0).bind fun _ =>
(f_X10_takes0 S s5 F w0 (5 : Int32)).bind fun r_4 =>
if r_4.1 = (0 : Int32) then (
some (.inr r_4.2))
else (
(rc 1 w0 w1 S r_4.2 F).bind fun r_8 =>
some (.inl r_8))
def f_X10_readTest (rc : Nat → Nat → Int32 → v_S → v_I → v_F → Option (v_I)) (S : v_S) (I : v_I) (F : v_F) (p0 : Nat) (p1 : Int32) : Option (v_I) :=
(p_ob S 10 p0).bind fun _ =>
(rc 1 p0 p1 S I F).bind fun r_1 =>
(v_loop (f_X10_readTest_B5 rc S F p0 p1) FU r_1).bind fun q_10 =>
some (q_10)
set_option maxHeartbeats 4000000 in
set_option maxRecDepth 100000 in
theorem t_X10_readTest {rc : Nat → Nat → Int32 → v_S → v_I → v_F → Option (v_I)} {dd : Nat} (hK : 4 ≤ dd + 1) (hrc1 : ∀ {S : v_S} {I : v_I} {J : v_J} {F : v_F} {a : Nat} {b : Int32} {r : v_I}, rc 1 a b S I F = some r → v_R l B D ac (v_EE B wa wb wt sb sL sx) yX10_readBoth cX10_readBoth 2 none dd 0 0 [.ref (B + a), .int b] S I J F (v_D none S r J F)) {p0 : Nat} {p1 : Int32} {r : v_I} (h : f_X10_readTest rc S I F p0 p1 = some r) : v_R l B D ac (v_EE B wa wb wt sb sL sx) yX10_readTest cX10_readTest 2 none (dd + 1) 0 0 [.ref (B + p0), .int p1] S I J F (v_D none S r J F) := by
  refine v_R.of (by decide) (Nat.le_of_ble_eq_true rfl) fun d hd => ?_
  generalize hQ : v_D none S r J F = Q
  have b5 : ∀ (w0 : Nat) (w1 : Int32) (s5 : v_I) (rx5 : (v_I) ⊕ (v_I)), f_X10_readTest_B5 rc S F w0 w1 s5 = some rx5 → v_K (fun (sP : v_I) => V l B D ac (v_EE B wa wb wt sb sL sx) yX10_readTest cX10_readTest 2 none d 0 0 0 0 S sP J F 5 [(0, .ref (B + w0)), (1, .int w1)] [] Q) (fun (rE : v_I) => V l B D ac (v_EE B wa wb wt sb sL sx) yX10_readTest cX10_readTest 2 none d 0 0 0 0 S rE J F 21 [] [] Q) rx5 → V l B D ac (v_EE B wa wb wt sb sL sx) yX10_readTest cX10_readTest 2 none d 0 0 0 0 S s5 J F 5 [(0, .ref (B + w0)), (1, .int w1)] [] Q := by
    intro w0 w1 s5 rx5 h hk
    unfold f_X10_readTest_B5 at h
    refine v_aload_n dX10_readTest_5 rfl ?_
    refine v_iconstE (5 : Int32) dX10_readTest_6 (by decide) ?_
    replace h := p_bind_elim h
    obtain ⟨_, q_6, h⟩ := h
    have q_6 := p_ob_spec q_6
    replace h := p_bind_elim h
    obtain ⟨r_4, q_5, h⟩ := h
    refine v_cVr (t_X10_takes0 q_5) cal_X10_takes0 ml_X10_197 sel_X10_takes0 q_6 kk_10 dX10_readTest_7 (by omega) (by decide) (by decide) (Nat.le_of_ble_eq_true rfl) rfl ?_
    refine v_if_eq 21 dX10_readTest_10 (by decide) (fun c_7 => ?_) (fun c_7 => ?_)
    · rw [if_pos c_7] at h
      cases h
      refine v_sub [] trivial ?_
      exact hk
    · rw [if_neg c_7] at h
      refine v_aload_n dX10_readTest_13 rfl ?_
      refine v_iload_n dX10_readTest_14 rfl ?_
      replace h := p_bind_elim h
      obtain ⟨r_8, q_9, h⟩ := h
      refine v_cVn (hrc1 q_9) cal_X10_readBoth ml_X10_230 sel_X10_readBoth q_6 kk_10 dX10_readTest_15 (by omega) (by decide) (by decide) (Nat.le_of_ble_eq_true rfl) rfl ?_
      refine v_goto 5 dX10_readTest_18 (by decide) ?_
      cases h
      refine v_sub [(0, .ref (B + w0)), (1, .int w1)] ⟨rfl, rfl, trivial⟩ ?_
      exact hk
  unfold f_X10_readTest at h
  refine v_sub [(0, .ref (B + p0)), (1, .int p1)] ⟨rfl, rfl, trivial⟩ ?_
  refine v_aload_n dX10_readTest_0 rfl ?_
  refine v_iload_n dX10_readTest_1 rfl ?_
  replace h := p_bind_elim h
  obtain ⟨_, q_3, h⟩ := h
  have q_3 := p_ob_spec q_3
  replace h := p_bind_elim h
  obtain ⟨r_1, q_2, h⟩ := h
  refine v_cVn (hrc1 q_2) cal_X10_readBoth ml_X10_230 sel_X10_readBoth q_3 kk_10 dX10_readTest_2 (by omega) (by decide) (by decide) (Nat.le_of_ble_eq_true rfl) rfl ?_
  replace h := p_bind_elim h
  obtain ⟨q_10, h_11, h⟩ := h
  refine v_sub [(0, .ref (B + p0)), (1, .int p1)] ⟨rfl, rfl, trivial⟩ ?_
  refine v_loopV (fun (sP : v_I) => V l B D ac (v_EE B wa wb wt sb sL sx) yX10_readTest cX10_readTest 2 none d 0 0 0 0 S sP J F 5 [(0, .ref (B + p0)), (1, .int p1)] [] Q) (fun (rE : v_I) => V l B D ac (v_EE B wa wb wt sb sL sx) yX10_readTest cX10_readTest 2 none d 0 0 0 0 S rE J F 21 [] [] Q) (fun s_ x_ hb hk => b5 _ _ s_ x_ hb hk) (r := q_10) ?_ h_11
  try dsimp only
  cases h
  exact v_vret dX10_readTest_21 rfl (by decide) (by decide) (by rw [← hQ]; exact ⟨rfl, rfl, rfl, rfl, rfl⟩)

def f_X10_readBoth_B5 (rc : Nat → Nat → Int32 → v_S → v_I → v_F → Option (v_I)) (S : v_S) (F : v_F) (w0 : Nat) (w1 : Int32) (s5 : v_I) : Option ((v_I) ⊕ (v_I)) :=
(p_ob S 10 w0).bind fun _ =>
(f_X10_takes0 S s5 F w0 (6 : Int32)).bind fun r_4 =>
if r_4.1 = (0 : Int32) then (
some (.inr r_4.2))
else (
(rc 2 w0 w1 S r_4.2 F).bind fun r_8 =>
some (.inl r_8))
def f_X10_readBoth (rc : Nat → Nat → Int32 → v_S → v_I → v_F → Option (v_I)) (S : v_S) (I : v_I) (F : v_F) (p0 : Nat) (p1 : Int32) : Option (v_I) :=
(p_ob S 10 p0).bind fun _ =>
(rc 2 p0 p1 S I F).bind fun r_1 =>
(v_loop (f_X10_readBoth_B5 rc S F p0 p1) FU r_1).bind fun q_10 =>
some (q_10)
set_option maxHeartbeats 4000000 in
set_option maxRecDepth 100000 in
theorem t_X10_readBoth {rc : Nat → Nat → Int32 → v_S → v_I → v_F → Option (v_I)} {dd : Nat} (hK : 4 ≤ dd + 1) (hrc2 : ∀ {S : v_S} {I : v_I} {J : v_J} {F : v_F} {a : Nat} {b : Int32} {r : v_I}, rc 2 a b S I F = some r → v_R l B D ac (v_EE B wa wb wt sb sL sx) yX10_readPlain cX10_readPlain 4 none dd 0 0 [.ref (B + a), .int b] S I J F (v_D none S r J F)) {p0 : Nat} {p1 : Int32} {r : v_I} (h : f_X10_readBoth rc S I F p0 p1 = some r) : v_R l B D ac (v_EE B wa wb wt sb sL sx) yX10_readBoth cX10_readBoth 2 none (dd + 1) 0 0 [.ref (B + p0), .int p1] S I J F (v_D none S r J F) := by
  refine v_R.of (by decide) (Nat.le_of_ble_eq_true rfl) fun d hd => ?_
  generalize hQ : v_D none S r J F = Q
  have b5 : ∀ (w0 : Nat) (w1 : Int32) (s5 : v_I) (rx5 : (v_I) ⊕ (v_I)), f_X10_readBoth_B5 rc S F w0 w1 s5 = some rx5 → v_K (fun (sP : v_I) => V l B D ac (v_EE B wa wb wt sb sL sx) yX10_readBoth cX10_readBoth 2 none d 0 0 0 0 S sP J F 5 [(0, .ref (B + w0)), (1, .int w1)] [] Q) (fun (rE : v_I) => V l B D ac (v_EE B wa wb wt sb sL sx) yX10_readBoth cX10_readBoth 2 none d 0 0 0 0 S rE J F 22 [] [] Q) rx5 → V l B D ac (v_EE B wa wb wt sb sL sx) yX10_readBoth cX10_readBoth 2 none d 0 0 0 0 S s5 J F 5 [(0, .ref (B + w0)), (1, .int w1)] [] Q := by
    intro w0 w1 s5 rx5 h hk
    unfold f_X10_readBoth_B5 at h
    refine v_aload_n dX10_readBoth_5 rfl ?_
    refine v_bipush (6 : Int32) dX10_readBoth_6 (by decide) ?_
    replace h := p_bind_elim h
    obtain ⟨_, q_6, h⟩ := h
    have q_6 := p_ob_spec q_6
    replace h := p_bind_elim h
    obtain ⟨r_4, q_5, h⟩ := h
    refine v_cVr (t_X10_takes0 q_5) cal_X10_takes0 ml_X10_197 sel_X10_takes0 q_6 kk_10 dX10_readBoth_8 (by omega) (by decide) (by decide) (Nat.le_of_ble_eq_true rfl) rfl ?_
    refine v_if_eq 22 dX10_readBoth_11 (by decide) (fun c_7 => ?_) (fun c_7 => ?_)
    · rw [if_pos c_7] at h
      cases h
      refine v_sub [] trivial ?_
      exact hk
    · rw [if_neg c_7] at h
      refine v_aload_n dX10_readBoth_14 rfl ?_
      refine v_iload_n dX10_readBoth_15 rfl ?_
      replace h := p_bind_elim h
      obtain ⟨r_8, q_9, h⟩ := h
      refine v_cVn (hrc2 q_9) cal_X10_readPlain ml_X10_233 sel_X10_readPlain q_6 kk_10 dX10_readBoth_16 (by omega) (by decide) (by decide) (Nat.le_of_ble_eq_true rfl) rfl ?_
      refine v_goto 5 dX10_readBoth_19 (by decide) ?_
      cases h
      refine v_sub [(0, .ref (B + w0)), (1, .int w1)] ⟨rfl, rfl, trivial⟩ ?_
      exact hk
  unfold f_X10_readBoth at h
  refine v_sub [(0, .ref (B + p0)), (1, .int p1)] ⟨rfl, rfl, trivial⟩ ?_
  refine v_aload_n dX10_readBoth_0 rfl ?_
  refine v_iload_n dX10_readBoth_1 rfl ?_
  replace h := p_bind_elim h
  obtain ⟨_, q_3, h⟩ := h
  have q_3 := p_ob_spec q_3
  replace h := p_bind_elim h
  obtain ⟨r_1, q_2, h⟩ := h
  refine v_cVn (hrc2 q_2) cal_X10_readPlain ml_X10_233 sel_X10_readPlain q_3 kk_10 dX10_readBoth_2 (by omega) (by decide) (by decide) (Nat.le_of_ble_eq_true rfl) rfl ?_
  replace h := p_bind_elim h
  obtain ⟨q_10, h_11, h⟩ := h
  refine v_sub [(0, .ref (B + p0)), (1, .int p1)] ⟨rfl, rfl, trivial⟩ ?_
  refine v_loopV (fun (sP : v_I) => V l B D ac (v_EE B wa wb wt sb sL sx) yX10_readBoth cX10_readBoth 2 none d 0 0 0 0 S sP J F 5 [(0, .ref (B + p0)), (1, .int p1)] [] Q) (fun (rE : v_I) => V l B D ac (v_EE B wa wb wt sb sL sx) yX10_readBoth cX10_readBoth 2 none d 0 0 0 0 S rE J F 22 [] [] Q) (fun s_ x_ hb hk => b5 _ _ s_ x_ hb hk) (r := q_10) ?_ h_11
  try dsimp only
  cases h
  exact v_vret dX10_readBoth_22 rfl (by decide) (by decide) (by rw [← hQ]; exact ⟨rfl, rfl, rfl, rfl, rfl⟩)

def f_X10_readPlain_B2 (rc : Nat → Nat → Int32 → v_S → v_I → v_F → Option (v_I)) (S : v_S) (F : v_F) (w0 : Nat) (w1 : Int32) (s2 : Int32 × v_I) : Option ((Int32 × v_I) ⊕ (Int32 × v_I)) :=
if s2.1 = (0 : Int32) then (
some (.inr (s2.1, s2.2)))
else (
(p_ob S 10 w0).bind fun _ =>
(f_X10_takes0 S s2.2 F w0 (7 : Int32)).bind fun r_2 =>
some (.inl (r_2.1, r_2.2)))
def f_X10_readPlain_J128 (rc : Nat → Nat → Int32 → v_S → v_I → v_F → Option (v_I)) (S : v_S) (F : v_F) (I : v_I) (y0 : Nat) (y1 : Int32) : Option (v_I) :=
(p_ob S 10 y0).bind fun _ =>
(rc 3 y0 y1 S I F).bind fun r_27 =>
some (r_27)
def f_X10_readPlain_J53 (rc : Nat → Nat → Int32 → v_S → v_I → v_F → Option (v_I)) (S : v_S) (F : v_F) (I : v_I) (y0 : Nat) (y1 : Int32) : Option (v_I) :=
(p_ob S 10 y0).bind fun _ =>
(f_X10_fine S I y0).bind fun r_40 =>
if r_40 = (0 : Int32) then (
some (I))
else (
p_let (v_up I y0 19 ((I y0 19) + (1 : Int32))) fun I_44 =>
(rc 0 y0 (y1 + (1 : Int32)) S I_44 F).bind fun r_46 =>
(f_X10_sign (41 : Int32)).bind fun r_48 =>
(f_X10_must S r_46 F y0 r_48).bind fun r_50 =>
some (r_50))
def f_X10_readPlain (rc : Nat → Nat → Int32 → v_S → v_I → v_F → Option (v_I)) (S : v_S) (I : v_I) (F : v_F) (p0 : Nat) (p1 : Int32) : Option (v_I) :=
(v_loop (f_X10_readPlain_B2 rc S F p0 p1) FU ((1 : Int32), I)).bind fun q_5 =>
(p_ob S 10 p0).bind fun _ =>
(f_X10_fine S q_5.2 p0).bind fun r_7 =>
if r_7 = (0 : Int32) then (
some (q_5.2))
else (
(F p0 15).bind fun a_11 =>
(p_ix S 20 a_11 (q_5.2 p0 19)).bind fun j_13 =>
p_let (q_5.2 a_11 j_13) fun x_15 =>
(f_X10_sign (40 : Int32)).bind fun r_17 =>
if x_15 = r_17 then (
if p1 = (8 : Int32) then (
(f_X10_faults S q_5.2 F p0).bind fun r_52 =>
f_X10_readPlain_J53 rc S F r_52 p0 p1)
else (
f_X10_readPlain_J53 rc S F q_5.2 p0 p1))
else (
(rc 3 p0 p1 S q_5.2 F).bind fun r_20 =>
(f_X10_sign (60 : Int32)).bind fun r_22 =>
(f_X10_takes0 S r_20 F p0 r_22).bind fun r_24 =>
if r_24.1 = (0 : Int32) then (
(f_X10_sign (62 : Int32)).bind fun r_30 =>
(f_X10_takes0 S r_24.2 F p0 r_30).bind fun r_32 =>
if r_32.1 = (0 : Int32) then (
(f_X10_sign (61 : Int32)).bind fun r_35 =>
(f_X10_must S r_32.2 F p0 r_35).bind fun r_37 =>
f_X10_readPlain_J128 rc S F r_37 p0 p1)
else (
f_X10_readPlain_J128 rc S F r_32.2 p0 p1))
else (
f_X10_readPlain_J128 rc S F r_24.2 p0 p1)))
set_option maxHeartbeats 4000000 in
set_option maxRecDepth 100000 in
theorem t_X10_readPlain {rc : Nat → Nat → Int32 → v_S → v_I → v_F → Option (v_I)} {dd : Nat} (hK : 4 ≤ dd + 1) (hrc0 : ∀ {S : v_S} {I : v_I} {J : v_J} {F : v_F} {a : Nat} {b : Int32} {r : v_I}, rc 0 a b S I F = some r → v_R l B D ac (v_EE B wa wb wt sb sL sx) yX10_readTest cX10_readTest 2 none dd 0 0 [.ref (B + a), .int b] S I J F (v_D none S r J F)) (hrc3 : ∀ {S : v_S} {I : v_I} {J : v_J} {F : v_F} {a : Nat} {b : Int32} {r : v_I}, rc 3 a b S I F = some r → v_R l B D ac (v_EE B wa wb wt sb sL sx) yX10_readSum cX10_readSum 2 none dd 0 0 [.ref (B + a), .int b] S I J F (v_D none S r J F)) {p0 : Nat} {p1 : Int32} {r : v_I} (h : f_X10_readPlain rc S I F p0 p1 = some r) : v_R l B D ac (v_EE B wa wb wt sb sL sx) yX10_readPlain cX10_readPlain 4 none (dd + 1) 0 0 [.ref (B + p0), .int p1] S I J F (v_D none S r J F) := by
  refine v_R.of (by decide) (Nat.le_of_ble_eq_true rfl) fun d hd => ?_
  generalize hQ : v_D none S r J F = Q
  have b2 : ∀ (w0 : Nat) (w1 : Int32) (s2 : Int32 × v_I) (rx2 : (Int32 × v_I) ⊕ (Int32 × v_I)), f_X10_readPlain_B2 rc S F w0 w1 s2 = some rx2 → v_K (fun (sP : Int32 × v_I) => V l B D ac (v_EE B wa wb wt sb sL sx) yX10_readPlain cX10_readPlain 4 none d 0 0 0 0 S sP.2 J F 2 [(0, .ref (B + w0)), (1, .int w1), (2, .int sP.1)] [] Q) (fun (rE : Int32 × v_I) => V l B D ac (v_EE B wa wb wt sb sL sx) yX10_readPlain cX10_readPlain 4 none d 0 0 0 0 S rE.2 J F 16 [(0, .ref (B + w0)), (1, .int w1)] [] Q) rx2 → V l B D ac (v_EE B wa wb wt sb sL sx) yX10_readPlain cX10_readPlain 4 none d 0 0 0 0 S s2.2 J F 2 [(0, .ref (B + w0)), (1, .int w1), (2, .int s2.1)] [] Q := by
    intro w0 w1 s2 rx2 h hk
    unfold f_X10_readPlain_B2 at h
    refine v_iload_n dX10_readPlain_2 rfl ?_
    refine v_if_eq 16 dX10_readPlain_3 (by decide) (fun c_1 => ?_) (fun c_1 => ?_)
    · rw [if_pos c_1] at h
      cases h
      refine v_sub [(0, .ref (B + w0)), (1, .int w1)] ⟨rfl, rfl, trivial⟩ ?_
      exact hk
    · rw [if_neg c_1] at h
      refine v_aload_n dX10_readPlain_6 rfl ?_
      refine v_bipush (7 : Int32) dX10_readPlain_7 (by decide) ?_
      replace h := p_bind_elim h
      obtain ⟨_, q_4, h⟩ := h
      have q_4 := p_ob_spec q_4
      replace h := p_bind_elim h
      obtain ⟨r_2, q_3, h⟩ := h
      refine v_cVr (t_X10_takes0 q_3) cal_X10_takes0 ml_X10_197 sel_X10_takes0 q_4 kk_10 dX10_readPlain_9 (by omega) (by decide) (by decide) (Nat.le_of_ble_eq_true rfl) rfl ?_
      refine v_istore_n dX10_readPlain_12 (by decide) ?_
      refine v_sub [(0, .ref (B + w0)), (1, .int w1), (2, .int r_2.1)] ⟨rfl, rfl, rfl, trivial⟩ ?_
      refine v_goto 2 dX10_readPlain_13 (by decide) ?_
      cases h
      refine v_sub [(0, .ref (B + w0)), (1, .int w1), (2, .int r_2.1)] ⟨rfl, rfl, rfl, trivial⟩ ?_
      exact hk
  have j128 : ∀ (I : v_I) (y0 : Nat) (y1 : Int32), f_X10_readPlain_J128 rc S F I y0 y1 = some r → V l B D ac (v_EE B wa wb wt sb sL sx) yX10_readPlain cX10_readPlain 4 none d 0 0 0 0 S I J F 128 [(0, .ref (B + y0)), (1, .int y1)] [] Q := by
    intro I y0 y1 h
    unfold f_X10_readPlain_J128 at h
    refine v_aload_n dX10_readPlain_128 rfl ?_
    refine v_iload_n dX10_readPlain_129 rfl ?_
    replace h := p_bind_elim h
    obtain ⟨_, q_29, h⟩ := h
    have q_29 := p_ob_spec q_29
    replace h := p_bind_elim h
    obtain ⟨r_27, q_28, h⟩ := h
    refine v_cVn (hrc3 q_28) cal_X10_readSum ml_X10_206 sel_X10_readSum q_29 kk_10 dX10_readPlain_130 (by omega) (by decide) (by decide) (Nat.le_of_ble_eq_true rfl) rfl ?_
    cases h
    exact v_vret dX10_readPlain_133 rfl (by decide) (by decide) (by rw [← hQ]; exact ⟨rfl, rfl, rfl, rfl, rfl⟩)
  have j53 : ∀ (I : v_I) (y0 : Nat) (y1 : Int32), f_X10_readPlain_J53 rc S F I y0 y1 = some r → V l B D ac (v_EE B wa wb wt sb sL sx) yX10_readPlain cX10_readPlain 4 none d 0 0 0 0 S I J F 53 [(0, .ref (B + y0)), (1, .int y1)] [] Q := by
    intro I y0 y1 h
    unfold f_X10_readPlain_J53 at h
    refine v_aload_n dX10_readPlain_53 rfl ?_
    replace h := p_bind_elim h
    obtain ⟨_, q_42, h⟩ := h
    have q_42 := p_ob_spec q_42
    replace h := p_bind_elim h
    obtain ⟨r_40, q_41, h⟩ := h
    refine v_cVr (t_X10_fine q_41) cal_X10_fine ml_X10_190 sel_X10_fine q_42 kk_10 dX10_readPlain_54 (by omega) (by decide) (by decide) (Nat.le_of_ble_eq_true rfl) rfl ?_
    refine v_if_ne 61 dX10_readPlain_57 (by decide) (fun c_43 => ?_) (fun c_43 => ?_)
    · rw [if_neg c_43] at h
      refine v_aload_n dX10_readPlain_61 rfl ?_
      refine v_dup dX10_readPlain_62 rfl ?_
      refine v_getI rfl fl_X10_194 dX10_readPlain_63 q_42 ?_
      refine v_iconstE (1 : Int32) dX10_readPlain_66 (by decide) ?_
      refine v_iadd dX10_readPlain_67 ?_
      refine v_putI rfl fl_X10_194 dX10_readPlain_68 q_42 rfl rfl ?_
      replace h := p_let_elim h
      obtain ⟨I_44, h_45, h⟩ := h
      rw [← h_45]
      refine v_aload_n dX10_readPlain_71 rfl ?_
      refine v_iload_n dX10_readPlain_72 rfl ?_
      refine v_iconstE (1 : Int32) dX10_readPlain_73 (by decide) ?_
      refine v_iadd dX10_readPlain_74 ?_
      replace h := p_bind_elim h
      obtain ⟨r_46, q_47, h⟩ := h
      refine v_cVn (hrc0 q_47) cal_X10_readTest ml_X10_213 sel_X10_readTest q_42 kk_10 dX10_readPlain_75 (by omega) (by decide) (by decide) (Nat.le_of_ble_eq_true rfl) rfl ?_
      refine v_aload_n dX10_readPlain_78 rfl ?_
      refine v_bipush (41 : Int32) dX10_readPlain_79 (by decide) ?_
      replace h := p_bind_elim h
      obtain ⟨r_48, q_49, h⟩ := h
      refine v_cSr (t_X10_sign q_49) cal_X10_sign ml_X10_236 sta_X10_sign dX10_readPlain_81 (by omega) (by decide) (by decide) (Nat.le_of_ble_eq_true rfl) rfl ?_
      replace h := p_bind_elim h
      obtain ⟨r_50, q_51, h⟩ := h
      refine v_cVn (t_X10_must q_51) cal_X10_must ml_X10_210 sel_X10_must q_42 kk_10 dX10_readPlain_84 (by omega) (by decide) (by decide) (Nat.le_of_ble_eq_true rfl) rfl ?_
      refine v_goto 133 dX10_readPlain_87 (by decide) ?_
      cases h
      exact v_vret dX10_readPlain_133 rfl (by decide) (by decide) (by rw [← hQ]; exact ⟨rfl, rfl, rfl, rfl, rfl⟩)
    · rw [if_pos c_43] at h
      cases h
      exact v_vret dX10_readPlain_60 rfl (by decide) (by decide) (by rw [← hQ]; exact ⟨rfl, rfl, rfl, rfl, rfl⟩)
  unfold f_X10_readPlain at h
  refine v_sub [(0, .ref (B + p0)), (1, .int p1)] ⟨rfl, rfl, trivial⟩ ?_
  refine v_iconstE (1 : Int32) dX10_readPlain_0 (by decide) ?_
  refine v_istore_n dX10_readPlain_1 (by decide) ?_
  refine v_sub [(0, .ref (B + p0)), (1, .int p1), (2, .int (1 : Int32))] ⟨rfl, rfl, rfl, trivial⟩ ?_
  replace h := p_bind_elim h
  obtain ⟨q_5, h_6, h⟩ := h
  refine v_sub [(0, .ref (B + p0)), (1, .int p1), (2, .int (1 : Int32))] ⟨rfl, rfl, rfl, trivial⟩ ?_
  refine v_loopV (fun (sP : Int32 × v_I) => V l B D ac (v_EE B wa wb wt sb sL sx) yX10_readPlain cX10_readPlain 4 none d 0 0 0 0 S sP.2 J F 2 [(0, .ref (B + p0)), (1, .int p1), (2, .int sP.1)] [] Q) (fun (rE : Int32 × v_I) => V l B D ac (v_EE B wa wb wt sb sL sx) yX10_readPlain cX10_readPlain 4 none d 0 0 0 0 S rE.2 J F 16 [(0, .ref (B + p0)), (1, .int p1)] [] Q) (fun s_ x_ hb hk => b2 _ _ s_ x_ hb hk) (r := q_5) ?_ h_6
  try dsimp only
  refine v_aload_n dX10_readPlain_16 rfl ?_
  replace h := p_bind_elim h
  obtain ⟨_, q_9, h⟩ := h
  have q_9 := p_ob_spec q_9
  replace h := p_bind_elim h
  obtain ⟨r_7, q_8, h⟩ := h
  refine v_cVr (t_X10_fine q_8) cal_X10_fine ml_X10_190 sel_X10_fine q_9 kk_10 dX10_readPlain_17 (by omega) (by decide) (by decide) (Nat.le_of_ble_eq_true rfl) rfl ?_
  refine v_if_ne 24 dX10_readPlain_20 (by decide) (fun c_10 => ?_) (fun c_10 => ?_)
  · rw [if_neg c_10] at h
    refine v_aload_n dX10_readPlain_24 rfl ?_
    replace h := p_bind_elim h
    obtain ⟨a_11, q_12, h⟩ := h
    refine v_getR q_12 rfl fl_X10_54 dX10_readPlain_25 q_9 ?_
    refine v_aload_n dX10_readPlain_28 rfl ?_
    refine v_getI rfl fl_X10_194 dX10_readPlain_29 q_9 ?_
    replace h := p_bind_elim h
    obtain ⟨j_13, q_14, h⟩ := h
    refine v_ialdP dX10_readPlain_32 q_14 ?_
    replace h := p_let_elim h
    obtain ⟨x_15, h_16, h⟩ := h
    rw [← h_16]
    refine v_istore_n dX10_readPlain_33 (by decide) ?_
    refine v_sub [(0, .ref (B + p0)), (1, .int p1), (3, .int x_15)] ⟨rfl, rfl, rfl, trivial⟩ ?_
    refine v_iload_n dX10_readPlain_34 rfl ?_
    refine v_bipush (40 : Int32) dX10_readPlain_35 (by decide) ?_
    replace h := p_bind_elim h
    obtain ⟨r_17, q_18, h⟩ := h
    refine v_cSr (t_X10_sign q_18) cal_X10_sign ml_X10_236 sta_X10_sign dX10_readPlain_37 (by omega) (by decide) (by decide) (Nat.le_of_ble_eq_true rfl) rfl ?_
    refine v_icmp_ne 90 dX10_readPlain_40 (by decide) (fun c_19 => ?_) (fun c_19 => ?_)
    · rw [if_neg c_19] at h
      refine v_aload_n dX10_readPlain_90 rfl ?_
      refine v_iload_n dX10_readPlain_91 rfl ?_
      replace h := p_bind_elim h
      obtain ⟨r_20, q_21, h⟩ := h
      refine v_cVn (hrc3 q_21) cal_X10_readSum ml_X10_206 sel_X10_readSum q_9 kk_10 dX10_readPlain_92 (by omega) (by decide) (by decide) (Nat.le_of_ble_eq_true rfl) rfl ?_
      refine v_aload_n dX10_readPlain_95 rfl ?_
      refine v_bipush (60 : Int32) dX10_readPlain_96 (by decide) ?_
      replace h := p_bind_elim h
      obtain ⟨r_22, q_23, h⟩ := h
      refine v_cSr (t_X10_sign q_23) cal_X10_sign ml_X10_236 sta_X10_sign dX10_readPlain_98 (by omega) (by decide) (by decide) (Nat.le_of_ble_eq_true rfl) rfl ?_
      replace h := p_bind_elim h
      obtain ⟨r_24, q_25, h⟩ := h
      refine v_cVr (t_X10_takes0 q_25) cal_X10_takes0 ml_X10_197 sel_X10_takes0 q_9 kk_10 dX10_readPlain_101 (by omega) (by decide) (by decide) (Nat.le_of_ble_eq_true rfl) rfl ?_
      refine v_if_ne 128 dX10_readPlain_104 (by decide) (fun c_26 => ?_) (fun c_26 => ?_)
      · rw [if_neg c_26] at h
        refine v_sub [(0, .ref (B + p0)), (1, .int p1)] ⟨rfl, rfl, trivial⟩ ?_
        exact j128 _ _ _ h
      · rw [if_pos c_26] at h
        refine v_aload_n dX10_readPlain_107 rfl ?_
        refine v_bipush (62 : Int32) dX10_readPlain_108 (by decide) ?_
        replace h := p_bind_elim h
        obtain ⟨r_30, q_31, h⟩ := h
        refine v_cSr (t_X10_sign q_31) cal_X10_sign ml_X10_236 sta_X10_sign dX10_readPlain_110 (by omega) (by decide) (by decide) (Nat.le_of_ble_eq_true rfl) rfl ?_
        replace h := p_bind_elim h
        obtain ⟨r_32, q_33, h⟩ := h
        refine v_cVr (t_X10_takes0 q_33) cal_X10_takes0 ml_X10_197 sel_X10_takes0 q_9 kk_10 dX10_readPlain_113 (by omega) (by decide) (by decide) (Nat.le_of_ble_eq_true rfl) rfl ?_
        refine v_if_ne 128 dX10_readPlain_116 (by decide) (fun c_34 => ?_) (fun c_34 => ?_)
        · rw [if_neg c_34] at h
          refine v_sub [(0, .ref (B + p0)), (1, .int p1)] ⟨rfl, rfl, trivial⟩ ?_
          exact j128 _ _ _ h
        · rw [if_pos c_34] at h
          refine v_aload_n dX10_readPlain_119 rfl ?_
          refine v_bipush (61 : Int32) dX10_readPlain_120 (by decide) ?_
          replace h := p_bind_elim h
          obtain ⟨r_35, q_36, h⟩ := h
          refine v_cSr (t_X10_sign q_36) cal_X10_sign ml_X10_236 sta_X10_sign dX10_readPlain_122 (by omega) (by decide) (by decide) (Nat.le_of_ble_eq_true rfl) rfl ?_
          replace h := p_bind_elim h
          obtain ⟨r_37, q_38, h⟩ := h
          refine v_cVn (t_X10_must q_38) cal_X10_must ml_X10_210 sel_X10_must q_9 kk_10 dX10_readPlain_125 (by omega) (by decide) (by decide) (Nat.le_of_ble_eq_true rfl) rfl ?_
          refine v_sub [(0, .ref (B + p0)), (1, .int p1)] ⟨rfl, rfl, trivial⟩ ?_
          exact j128 _ _ _ h
    · rw [if_pos c_19] at h
      refine v_iload_n dX10_readPlain_43 rfl ?_
      refine v_bipush (8 : Int32) dX10_readPlain_44 (by decide) ?_
      refine v_icmp_ne 53 dX10_readPlain_46 (by decide) (fun c_39 => ?_) (fun c_39 => ?_)
      · rw [if_neg c_39] at h
        refine v_sub [(0, .ref (B + p0)), (1, .int p1)] ⟨rfl, rfl, trivial⟩ ?_
        exact j53 _ _ _ h
      · rw [if_pos c_39] at h
        refine v_aload_n dX10_readPlain_49 rfl ?_
        replace h := p_bind_elim h
        obtain ⟨r_52, q_53, h⟩ := h
        refine v_cVn (t_X10_faults q_53) cal_X10_faults ml_X10_200 sel_X10_faults q_9 kk_10 dX10_readPlain_50 (by omega) (by decide) (by decide) (Nat.le_of_ble_eq_true rfl) rfl ?_
        refine v_sub [(0, .ref (B + p0)), (1, .int p1)] ⟨rfl, rfl, trivial⟩ ?_
        exact j53 _ _ _ h
  · rw [if_pos c_10] at h
    cases h
    exact v_vret dX10_readPlain_23 rfl (by decide) (by decide) (by rw [← hQ]; exact ⟨rfl, rfl, rfl, rfl, rfl⟩)

def f_X10_readSum_J5_29 (rc : Nat → Nat → Int32 → v_S → v_I → v_F → Option (v_I)) (S : v_S) (F : v_F) (w0 : Nat) (w1 : Int32) (I : v_I) : Option ((v_I) ⊕ (v_I)) :=
(p_ob S 10 w0).bind fun _ =>
(rc 4 w0 w1 S I F).bind fun r_10 =>
some (.inl r_10)
def f_X10_readSum_B5 (rc : Nat → Nat → Int32 → v_S → v_I → v_F → Option (v_I)) (S : v_S) (F : v_F) (w0 : Nat) (w1 : Int32) (s5 : v_I) : Option ((v_I) ⊕ (v_I)) :=
(f_X10_sign (43 : Int32)).bind fun r_4 =>
(p_ob S 10 w0).bind fun _ =>
(f_X10_takes0 S s5 F w0 r_4).bind fun r_6 =>
if r_6.1 = (0 : Int32) then (
(f_X10_sign (45 : Int32)).bind fun r_13 =>
(f_X10_takes0 S r_6.2 F w0 r_13).bind fun r_15 =>
if r_15.1 = (0 : Int32) then (
some (.inr r_15.2))
else (
f_X10_readSum_J5_29 rc S F w0 w1 r_15.2))
else (
f_X10_readSum_J5_29 rc S F w0 w1 r_6.2)
def f_X10_readSum (rc : Nat → Nat → Int32 → v_S → v_I → v_F → Option (v_I)) (S : v_S) (I : v_I) (F : v_F) (p0 : Nat) (p1 : Int32) : Option (v_I) :=
(p_ob S 10 p0).bind fun _ =>
(rc 4 p0 p1 S I F).bind fun r_1 =>
(v_loop (f_X10_readSum_B5 rc S F p0 p1) FU r_1).bind fun q_18 =>
some (q_18)
set_option maxHeartbeats 4000000 in
set_option maxRecDepth 100000 in
theorem t_X10_readSum {rc : Nat → Nat → Int32 → v_S → v_I → v_F → Option (v_I)} {dd : Nat} (hK : 4 ≤ dd + 1) (hrc4 : ∀ {S : v_S} {I : v_I} {J : v_J} {F : v_F} {a : Nat} {b : Int32} {r : v_I}, rc 4 a b S I F = some r → v_R l B D ac (v_EE B wa wb wt sb sL sx) yX10_readTerm cX10_readTerm 2 none dd 0 0 [.ref (B + a), .int b] S I J F (v_D none S r J F)) {p0 : Nat} {p1 : Int32} {r : v_I} (h : f_X10_readSum rc S I F p0 p1 = some r) : v_R l B D ac (v_EE B wa wb wt sb sL sx) yX10_readSum cX10_readSum 2 none (dd + 1) 0 0 [.ref (B + p0), .int p1] S I J F (v_D none S r J F) := by
  refine v_R.of (by decide) (Nat.le_of_ble_eq_true rfl) fun d hd => ?_
  generalize hQ : v_D none S r J F = Q
  have b5 : ∀ (w0 : Nat) (w1 : Int32) (s5 : v_I) (rx5 : (v_I) ⊕ (v_I)), f_X10_readSum_B5 rc S F w0 w1 s5 = some rx5 → v_K (fun (sP : v_I) => V l B D ac (v_EE B wa wb wt sb sL sx) yX10_readSum cX10_readSum 2 none d 0 0 0 0 S sP J F 5 [(0, .ref (B + w0)), (1, .int w1)] [] Q) (fun (rE : v_I) => V l B D ac (v_EE B wa wb wt sb sL sx) yX10_readSum cX10_readSum 2 none d 0 0 0 0 S rE J F 37 [] [] Q) rx5 → V l B D ac (v_EE B wa wb wt sb sL sx) yX10_readSum cX10_readSum 2 none d 0 0 0 0 S s5 J F 5 [(0, .ref (B + w0)), (1, .int w1)] [] Q := by
    intro w0 w1 s5 rx5 h hk
    have j29 : ∀ (I : v_I), f_X10_readSum_J5_29 rc S F w0 w1 I = some rx5 → V l B D ac (v_EE B wa wb wt sb sL sx) yX10_readSum cX10_readSum 2 none d 0 0 0 0 S I J F 29 [(0, .ref (B + w0)), (1, .int w1)] [] Q := by
      intro I h
      unfold f_X10_readSum_J5_29 at h
      refine v_aload_n dX10_readSum_29 rfl ?_
      refine v_iload_n dX10_readSum_30 rfl ?_
      replace h := p_bind_elim h
      obtain ⟨_, q_12, h⟩ := h
      have q_12 := p_ob_spec q_12
      replace h := p_bind_elim h
      obtain ⟨r_10, q_11, h⟩ := h
      refine v_cVn (hrc4 q_11) cal_X10_readTerm ml_X10_240 sel_X10_readTerm q_12 kk_10 dX10_readSum_31 (by omega) (by decide) (by decide) (Nat.le_of_ble_eq_true rfl) rfl ?_
      refine v_goto 5 dX10_readSum_34 (by decide) ?_
      cases h
      refine v_sub [(0, .ref (B + w0)), (1, .int w1)] ⟨rfl, rfl, trivial⟩ ?_
      exact hk
    unfold f_X10_readSum_B5 at h
    refine v_aload_n dX10_readSum_5 rfl ?_
    refine v_bipush (43 : Int32) dX10_readSum_6 (by decide) ?_
    replace h := p_bind_elim h
    obtain ⟨r_4, q_5, h⟩ := h
    refine v_cSr (t_X10_sign q_5) cal_X10_sign ml_X10_236 sta_X10_sign dX10_readSum_8 (by omega) (by decide) (by decide) (Nat.le_of_ble_eq_true rfl) rfl ?_
    replace h := p_bind_elim h
    obtain ⟨_, q_8, h⟩ := h
    have q_8 := p_ob_spec q_8
    replace h := p_bind_elim h
    obtain ⟨r_6, q_7, h⟩ := h
    refine v_cVr (t_X10_takes0 q_7) cal_X10_takes0 ml_X10_197 sel_X10_takes0 q_8 kk_10 dX10_readSum_11 (by omega) (by decide) (by decide) (Nat.le_of_ble_eq_true rfl) rfl ?_
    refine v_if_ne 29 dX10_readSum_14 (by decide) (fun c_9 => ?_) (fun c_9 => ?_)
    · rw [if_neg c_9] at h
      refine v_sub [(0, .ref (B + w0)), (1, .int w1)] ⟨rfl, rfl, trivial⟩ ?_
      exact j29 _ h
    · rw [if_pos c_9] at h
      refine v_aload_n dX10_readSum_17 rfl ?_
      refine v_bipush (45 : Int32) dX10_readSum_18 (by decide) ?_
      replace h := p_bind_elim h
      obtain ⟨r_13, q_14, h⟩ := h
      refine v_cSr (t_X10_sign q_14) cal_X10_sign ml_X10_236 sta_X10_sign dX10_readSum_20 (by omega) (by decide) (by decide) (Nat.le_of_ble_eq_true rfl) rfl ?_
      replace h := p_bind_elim h
      obtain ⟨r_15, q_16, h⟩ := h
      refine v_cVr (t_X10_takes0 q_16) cal_X10_takes0 ml_X10_197 sel_X10_takes0 q_8 kk_10 dX10_readSum_23 (by omega) (by decide) (by decide) (Nat.le_of_ble_eq_true rfl) rfl ?_
      refine v_if_eq 37 dX10_readSum_26 (by decide) (fun c_17 => ?_) (fun c_17 => ?_)
      · rw [if_pos c_17] at h
        cases h
        refine v_sub [] trivial ?_
        exact hk
      · rw [if_neg c_17] at h
        refine v_sub [(0, .ref (B + w0)), (1, .int w1)] ⟨rfl, rfl, trivial⟩ ?_
        exact j29 _ h
  unfold f_X10_readSum at h
  refine v_sub [(0, .ref (B + p0)), (1, .int p1)] ⟨rfl, rfl, trivial⟩ ?_
  refine v_aload_n dX10_readSum_0 rfl ?_
  refine v_iload_n dX10_readSum_1 rfl ?_
  replace h := p_bind_elim h
  obtain ⟨_, q_3, h⟩ := h
  have q_3 := p_ob_spec q_3
  replace h := p_bind_elim h
  obtain ⟨r_1, q_2, h⟩ := h
  refine v_cVn (hrc4 q_2) cal_X10_readTerm ml_X10_240 sel_X10_readTerm q_3 kk_10 dX10_readSum_2 (by omega) (by decide) (by decide) (Nat.le_of_ble_eq_true rfl) rfl ?_
  replace h := p_bind_elim h
  obtain ⟨q_18, h_19, h⟩ := h
  refine v_sub [(0, .ref (B + p0)), (1, .int p1)] ⟨rfl, rfl, trivial⟩ ?_
  refine v_loopV (fun (sP : v_I) => V l B D ac (v_EE B wa wb wt sb sL sx) yX10_readSum cX10_readSum 2 none d 0 0 0 0 S sP J F 5 [(0, .ref (B + p0)), (1, .int p1)] [] Q) (fun (rE : v_I) => V l B D ac (v_EE B wa wb wt sb sL sx) yX10_readSum cX10_readSum 2 none d 0 0 0 0 S rE J F 37 [] [] Q) (fun s_ x_ hb hk => b5 _ _ s_ x_ hb hk) (r := q_18) ?_ h_19
  try dsimp only
  cases h
  exact v_vret dX10_readSum_37 rfl (by decide) (by decide) (by rw [← hQ]; exact ⟨rfl, rfl, rfl, rfl, rfl⟩)

def f_X10_readTerm_J5_41 (rc : Nat → Nat → Int32 → v_S → v_I → v_F → Option (v_I)) (S : v_S) (F : v_F) (w0 : Nat) (w1 : Int32) (I : v_I) : Option ((v_I) ⊕ (v_I)) :=
(p_ob S 10 w0).bind fun _ =>
(rc 5 w0 w1 S I F).bind fun r_10 =>
some (.inl r_10)
def f_X10_readTerm_B5 (rc : Nat → Nat → Int32 → v_S → v_I → v_F → Option (v_I)) (S : v_S) (F : v_F) (w0 : Nat) (w1 : Int32) (s5 : v_I) : Option ((v_I) ⊕ (v_I)) :=
(f_X10_sign (42 : Int32)).bind fun r_4 =>
(p_ob S 10 w0).bind fun _ =>
(f_X10_takes0 S s5 F w0 r_4).bind fun r_6 =>
if r_6.1 = (0 : Int32) then (
(f_X10_sign (47 : Int32)).bind fun r_13 =>
(f_X10_takes0 S r_6.2 F w0 r_13).bind fun r_15 =>
if r_15.1 = (0 : Int32) then (
(f_X10_sign (37 : Int32)).bind fun r_18 =>
(f_X10_takes0 S r_15.2 F w0 r_18).bind fun r_20 =>
if r_20.1 = (0 : Int32) then (
some (.inr r_20.2))
else (
f_X10_readTerm_J5_41 rc S F w0 w1 r_20.2))
else (
f_X10_readTerm_J5_41 rc S F w0 w1 r_15.2))
else (
f_X10_readTerm_J5_41 rc S F w0 w1 r_6.2)
def f_X10_readTerm (rc : Nat → Nat → Int32 → v_S → v_I → v_F → Option (v_I)) (S : v_S) (I : v_I) (F : v_F) (p0 : Nat) (p1 : Int32) : Option (v_I) :=
(p_ob S 10 p0).bind fun _ =>
(rc 5 p0 p1 S I F).bind fun r_1 =>
(v_loop (f_X10_readTerm_B5 rc S F p0 p1) FU r_1).bind fun q_23 =>
some (q_23)
set_option maxHeartbeats 4000000 in
set_option maxRecDepth 100000 in
theorem t_X10_readTerm {rc : Nat → Nat → Int32 → v_S → v_I → v_F → Option (v_I)} {dd : Nat} (hK : 4 ≤ dd + 1) (hrc5 : ∀ {S : v_S} {I : v_I} {J : v_J} {F : v_F} {a : Nat} {b : Int32} {r : v_I}, rc 5 a b S I F = some r → v_R l B D ac (v_EE B wa wb wt sb sL sx) yX10_readPart cX10_readPart 3 none dd 0 0 [.ref (B + a), .int b] S I J F (v_D none S r J F)) {p0 : Nat} {p1 : Int32} {r : v_I} (h : f_X10_readTerm rc S I F p0 p1 = some r) : v_R l B D ac (v_EE B wa wb wt sb sL sx) yX10_readTerm cX10_readTerm 2 none (dd + 1) 0 0 [.ref (B + p0), .int p1] S I J F (v_D none S r J F) := by
  refine v_R.of (by decide) (Nat.le_of_ble_eq_true rfl) fun d hd => ?_
  generalize hQ : v_D none S r J F = Q
  have b5 : ∀ (w0 : Nat) (w1 : Int32) (s5 : v_I) (rx5 : (v_I) ⊕ (v_I)), f_X10_readTerm_B5 rc S F w0 w1 s5 = some rx5 → v_K (fun (sP : v_I) => V l B D ac (v_EE B wa wb wt sb sL sx) yX10_readTerm cX10_readTerm 2 none d 0 0 0 0 S sP J F 5 [(0, .ref (B + w0)), (1, .int w1)] [] Q) (fun (rE : v_I) => V l B D ac (v_EE B wa wb wt sb sL sx) yX10_readTerm cX10_readTerm 2 none d 0 0 0 0 S rE J F 49 [] [] Q) rx5 → V l B D ac (v_EE B wa wb wt sb sL sx) yX10_readTerm cX10_readTerm 2 none d 0 0 0 0 S s5 J F 5 [(0, .ref (B + w0)), (1, .int w1)] [] Q := by
    intro w0 w1 s5 rx5 h hk
    have j41 : ∀ (I : v_I), f_X10_readTerm_J5_41 rc S F w0 w1 I = some rx5 → V l B D ac (v_EE B wa wb wt sb sL sx) yX10_readTerm cX10_readTerm 2 none d 0 0 0 0 S I J F 41 [(0, .ref (B + w0)), (1, .int w1)] [] Q := by
      intro I h
      unfold f_X10_readTerm_J5_41 at h
      refine v_aload_n dX10_readTerm_41 rfl ?_
      refine v_iload_n dX10_readTerm_42 rfl ?_
      replace h := p_bind_elim h
      obtain ⟨_, q_12, h⟩ := h
      have q_12 := p_ob_spec q_12
      replace h := p_bind_elim h
      obtain ⟨r_10, q_11, h⟩ := h
      refine v_cVn (hrc5 q_11) cal_X10_readPart ml_X10_243 sel_X10_readPart q_12 kk_10 dX10_readTerm_43 (by omega) (by decide) (by decide) (Nat.le_of_ble_eq_true rfl) rfl ?_
      refine v_goto 5 dX10_readTerm_46 (by decide) ?_
      cases h
      refine v_sub [(0, .ref (B + w0)), (1, .int w1)] ⟨rfl, rfl, trivial⟩ ?_
      exact hk
    unfold f_X10_readTerm_B5 at h
    refine v_aload_n dX10_readTerm_5 rfl ?_
    refine v_bipush (42 : Int32) dX10_readTerm_6 (by decide) ?_
    replace h := p_bind_elim h
    obtain ⟨r_4, q_5, h⟩ := h
    refine v_cSr (t_X10_sign q_5) cal_X10_sign ml_X10_236 sta_X10_sign dX10_readTerm_8 (by omega) (by decide) (by decide) (Nat.le_of_ble_eq_true rfl) rfl ?_
    replace h := p_bind_elim h
    obtain ⟨_, q_8, h⟩ := h
    have q_8 := p_ob_spec q_8
    replace h := p_bind_elim h
    obtain ⟨r_6, q_7, h⟩ := h
    refine v_cVr (t_X10_takes0 q_7) cal_X10_takes0 ml_X10_197 sel_X10_takes0 q_8 kk_10 dX10_readTerm_11 (by omega) (by decide) (by decide) (Nat.le_of_ble_eq_true rfl) rfl ?_
    refine v_if_ne 41 dX10_readTerm_14 (by decide) (fun c_9 => ?_) (fun c_9 => ?_)
    · rw [if_neg c_9] at h
      refine v_sub [(0, .ref (B + w0)), (1, .int w1)] ⟨rfl, rfl, trivial⟩ ?_
      exact j41 _ h
    · rw [if_pos c_9] at h
      refine v_aload_n dX10_readTerm_17 rfl ?_
      refine v_bipush (47 : Int32) dX10_readTerm_18 (by decide) ?_
      replace h := p_bind_elim h
      obtain ⟨r_13, q_14, h⟩ := h
      refine v_cSr (t_X10_sign q_14) cal_X10_sign ml_X10_236 sta_X10_sign dX10_readTerm_20 (by omega) (by decide) (by decide) (Nat.le_of_ble_eq_true rfl) rfl ?_
      replace h := p_bind_elim h
      obtain ⟨r_15, q_16, h⟩ := h
      refine v_cVr (t_X10_takes0 q_16) cal_X10_takes0 ml_X10_197 sel_X10_takes0 q_8 kk_10 dX10_readTerm_23 (by omega) (by decide) (by decide) (Nat.le_of_ble_eq_true rfl) rfl ?_
      refine v_if_ne 41 dX10_readTerm_26 (by decide) (fun c_17 => ?_) (fun c_17 => ?_)
      · rw [if_neg c_17] at h
        refine v_sub [(0, .ref (B + w0)), (1, .int w1)] ⟨rfl, rfl, trivial⟩ ?_
        exact j41 _ h
      · rw [if_pos c_17] at h
        refine v_aload_n dX10_readTerm_29 rfl ?_
        refine v_bipush (37 : Int32) dX10_readTerm_30 (by decide) ?_
        replace h := p_bind_elim h
        obtain ⟨r_18, q_19, h⟩ := h
        refine v_cSr (t_X10_sign q_19) cal_X10_sign ml_X10_236 sta_X10_sign dX10_readTerm_32 (by omega) (by decide) (by decide) (Nat.le_of_ble_eq_true rfl) rfl ?_
        replace h := p_bind_elim h
        obtain ⟨r_20, q_21, h⟩ := h
        refine v_cVr (t_X10_takes0 q_21) cal_X10_takes0 ml_X10_197 sel_X10_takes0 q_8 kk_10 dX10_readTerm_35 (by omega) (by decide) (by decide) (Nat.le_of_ble_eq_true rfl) rfl ?_
        refine v_if_eq 49 dX10_readTerm_38 (by decide) (fun c_22 => ?_) (fun c_22 => ?_)
        · rw [if_pos c_22] at h
          cases h
          refine v_sub [] trivial ?_
          exact hk
        · rw [if_neg c_22] at h
          refine v_sub [(0, .ref (B + w0)), (1, .int w1)] ⟨rfl, rfl, trivial⟩ ?_
          exact j41 _ h
  unfold f_X10_readTerm at h
  refine v_sub [(0, .ref (B + p0)), (1, .int p1)] ⟨rfl, rfl, trivial⟩ ?_
  refine v_aload_n dX10_readTerm_0 rfl ?_
  refine v_iload_n dX10_readTerm_1 rfl ?_
  replace h := p_bind_elim h
  obtain ⟨_, q_3, h⟩ := h
  have q_3 := p_ob_spec q_3
  replace h := p_bind_elim h
  obtain ⟨r_1, q_2, h⟩ := h
  refine v_cVn (hrc5 q_2) cal_X10_readPart ml_X10_243 sel_X10_readPart q_3 kk_10 dX10_readTerm_2 (by omega) (by decide) (by decide) (Nat.le_of_ble_eq_true rfl) rfl ?_
  replace h := p_bind_elim h
  obtain ⟨q_23, h_24, h⟩ := h
  refine v_sub [(0, .ref (B + p0)), (1, .int p1)] ⟨rfl, rfl, trivial⟩ ?_
  refine v_loopV (fun (sP : v_I) => V l B D ac (v_EE B wa wb wt sb sL sx) yX10_readTerm cX10_readTerm 2 none d 0 0 0 0 S sP J F 5 [(0, .ref (B + p0)), (1, .int p1)] [] Q) (fun (rE : v_I) => V l B D ac (v_EE B wa wb wt sb sL sx) yX10_readTerm cX10_readTerm 2 none d 0 0 0 0 S rE J F 49 [] [] Q) (fun s_ x_ hb hk => b5 _ _ s_ x_ hb hk) (r := q_23) ?_ h_24
  try dsimp only
  cases h
  exact v_vret dX10_readTerm_49 rfl (by decide) (by decide) (by rw [← hQ]; exact ⟨rfl, rfl, rfl, rfl, rfl⟩)

def f_X10_readPart_J150 (rc : Nat → Nat → Int32 → v_S → v_I → v_F → Option (v_I)) (S : v_S) (F : v_F) (I : v_I) (y0 : Nat) : Option (v_I) :=
(p_ob S 10 y0).bind fun _ =>
(f_X10_faults S I F y0).bind fun r_17 =>
some (r_17)
def f_X10_readPart_J140 (rc : Nat → Nat → Int32 → v_S → v_I → v_F → Option (v_I)) (S : v_S) (F : v_F) (I : v_I) (y0 : Nat) : Option (v_I) :=
(p_ob S 10 y0).bind fun _ =>
(f_X10_mustNumber S I F y0 (0 : Int32) (7 : Int32)).bind fun r_26 =>
some (r_26)
def f_X10_readPart_J111 (rc : Nat → Nat → Int32 → v_S → v_I → v_F → Option (v_I)) (S : v_S) (F : v_F) (I : v_I) (y0 : Nat) (y2 : Int32) : Option (v_I) :=
(p_ob S 10 y0).bind fun _ =>
(f_X10_leaf S I F y0).bind fun r_21 =>
if (r_21 y0 10) = (0 : Int32) then (
some (r_21))
else (
if y2 = (13 : Int32) then (
f_X10_readPart_J140 rc S F r_21 y0)
else (
if y2 = (14 : Int32) then (
f_X10_readPart_J140 rc S F r_21 y0)
else (
if y2 = (19 : Int32) then (
f_X10_readPart_J140 rc S F r_21 y0)
else (
some (r_21)))))
def f_X10_readPart_J95 (rc : Nat → Nat → Int32 → v_S → v_I → v_F → Option (v_I)) (S : v_S) (F : v_F) (I : v_I) (y0 : Nat) (y2 : Int32) : Option (v_I) :=
(p_ob S 10 y0).bind fun _ =>
if y2 < (I y0 8) then (
f_X10_readPart_J150 rc S F I y0)
else (
if (I y0 9) < y2 then (
f_X10_readPart_J150 rc S F I y0)
else (
f_X10_readPart_J111 rc S F I y0 y2))
def f_X10_readPart_J37 (rc : Nat → Nat → Int32 → v_S → v_I → v_F → Option (v_I)) (S : v_S) (F : v_F) (I : v_I) (y0 : Nat) (y1 : Int32) : Option (v_I) :=
(p_ob S 10 y0).bind fun _ =>
(f_X10_fine S I y0).bind fun r_37 =>
if r_37 = (0 : Int32) then (
some (I))
else (
p_let (v_up I y0 19 ((I y0 19) + (1 : Int32))) fun I_41 =>
(rc 3 y0 (y1 + (1 : Int32)) S I_41 F).bind fun r_43 =>
(f_X10_sign (93 : Int32)).bind fun r_45 =>
(f_X10_must S r_43 F y0 r_45).bind fun r_47 =>
some (r_47))
def f_X10_readPart (rc : Nat → Nat → Int32 → v_S → v_I → v_F → Option (v_I)) (S : v_S) (I : v_I) (F : v_F) (p0 : Nat) (p1 : Int32) : Option (v_I) :=
(p_ob S 10 p0).bind fun _ =>
(f_X10_fine S I p0).bind fun r_1 =>
if r_1 = (0 : Int32) then (
some (I))
else (
(F p0 15).bind fun a_5 =>
(p_ix S 20 a_5 (I p0 19)).bind fun j_7 =>
p_let (I a_5 j_7) fun x_9 =>
(f_X10_sign (91 : Int32)).bind fun r_11 =>
if x_9 = r_11 then (
if p1 = (8 : Int32) then (
(f_X10_faults S I F p0).bind fun r_49 =>
f_X10_readPart_J37 rc S F r_49 p0 p1)
else (
f_X10_readPart_J37 rc S F I p0 p1))
else (
if x_9 = (50 : Int32) then (
(F p0 16).bind fun a_31 =>
(p_ix S 20 a_31 (I p0 19)).bind fun j_33 =>
if (I a_31 j_33) ≤ (1000 : Int32) then (
f_X10_readPart_J111 rc S F I p0 x_9)
else (
f_X10_readPart_J95 rc S F I p0 x_9))
else (
f_X10_readPart_J95 rc S F I p0 x_9)))
set_option maxHeartbeats 4000000 in
set_option maxRecDepth 100000 in
theorem t_X10_readPart {rc : Nat → Nat → Int32 → v_S → v_I → v_F → Option (v_I)} {dd : Nat} (hK : 4 ≤ dd + 1) (hrc3 : ∀ {S : v_S} {I : v_I} {J : v_J} {F : v_F} {a : Nat} {b : Int32} {r : v_I}, rc 3 a b S I F = some r → v_R l B D ac (v_EE B wa wb wt sb sL sx) yX10_readSum cX10_readSum 2 none dd 0 0 [.ref (B + a), .int b] S I J F (v_D none S r J F)) {p0 : Nat} {p1 : Int32} {r : v_I} (h : f_X10_readPart rc S I F p0 p1 = some r) : v_R l B D ac (v_EE B wa wb wt sb sL sx) yX10_readPart cX10_readPart 3 none (dd + 1) 0 0 [.ref (B + p0), .int p1] S I J F (v_D none S r J F) := by
  refine v_R.of (by decide) (Nat.le_of_ble_eq_true rfl) fun d hd => ?_
  generalize hQ : v_D none S r J F = Q
  have j150 : ∀ (I : v_I) (y0 : Nat), f_X10_readPart_J150 rc S F I y0 = some r → V l B D ac (v_EE B wa wb wt sb sL sx) yX10_readPart cX10_readPart 3 none d 0 0 0 0 S I J F 150 [(0, .ref (B + y0))] [] Q := by
    intro I y0 h
    unfold f_X10_readPart_J150 at h
    refine v_aload_n dX10_readPart_150 rfl ?_
    replace h := p_bind_elim h
    obtain ⟨_, q_19, h⟩ := h
    have q_19 := p_ob_spec q_19
    replace h := p_bind_elim h
    obtain ⟨r_17, q_18, h⟩ := h
    refine v_cVn (t_X10_faults q_18) cal_X10_faults ml_X10_200 sel_X10_faults q_19 kk_10 dX10_readPart_151 (by omega) (by decide) (by decide) (Nat.le_of_ble_eq_true rfl) rfl ?_
    cases h
    exact v_vret dX10_readPart_154 rfl (by decide) (by decide) (by rw [← hQ]; exact ⟨rfl, rfl, rfl, rfl, rfl⟩)
  have j140 : ∀ (I : v_I) (y0 : Nat), f_X10_readPart_J140 rc S F I y0 = some r → V l B D ac (v_EE B wa wb wt sb sL sx) yX10_readPart cX10_readPart 3 none d 0 0 0 0 S I J F 140 [(0, .ref (B + y0))] [] Q := by
    intro I y0 h
    unfold f_X10_readPart_J140 at h
    refine v_aload_n dX10_readPart_140 rfl ?_
    refine v_iconstE (0 : Int32) dX10_readPart_141 (by decide) ?_
    refine v_bipush (7 : Int32) dX10_readPart_142 (by decide) ?_
    replace h := p_bind_elim h
    obtain ⟨_, q_28, h⟩ := h
    have q_28 := p_ob_spec q_28
    replace h := p_bind_elim h
    obtain ⟨r_26, q_27, h⟩ := h
    refine v_cVn (t_X10_mustNumber q_27) cal_X10_mustNumber ml_X10_216 sel_X10_mustNumber q_28 kk_10 dX10_readPart_144 (by omega) (by decide) (by decide) (Nat.le_of_ble_eq_true rfl) rfl ?_
    refine v_goto 154 dX10_readPart_147 (by decide) ?_
    cases h
    exact v_vret dX10_readPart_154 rfl (by decide) (by decide) (by rw [← hQ]; exact ⟨rfl, rfl, rfl, rfl, rfl⟩)
  have j111 : ∀ (I : v_I) (y0 : Nat) (y2 : Int32), f_X10_readPart_J111 rc S F I y0 y2 = some r → V l B D ac (v_EE B wa wb wt sb sL sx) yX10_readPart cX10_readPart 3 none d 0 0 0 0 S I J F 111 [(0, .ref (B + y0)), (2, .int y2)] [] Q := by
    intro I y0 y2 h
    unfold f_X10_readPart_J111 at h
    refine v_aload_n dX10_readPart_111 rfl ?_
    replace h := p_bind_elim h
    obtain ⟨_, q_23, h⟩ := h
    have q_23 := p_ob_spec q_23
    replace h := p_bind_elim h
    obtain ⟨r_21, q_22, h⟩ := h
    refine v_cVn (t_X10_leaf q_22) cal_X10_leaf ml_X10_252 sel_X10_leaf q_23 kk_10 dX10_readPart_112 (by omega) (by decide) (by decide) (Nat.le_of_ble_eq_true rfl) rfl ?_
    refine v_aload_n dX10_readPart_115 rfl ?_
    refine v_getI rfl fl_X10_220 dX10_readPart_116 q_23 ?_
    refine v_if_eq 154 dX10_readPart_119 (by decide) (fun c_24 => ?_) (fun c_24 => ?_)
    · rw [if_pos c_24] at h
      cases h
      exact v_vret dX10_readPart_154 rfl (by decide) (by decide) (by rw [← hQ]; exact ⟨rfl, rfl, rfl, rfl, rfl⟩)
    · rw [if_neg c_24] at h
      refine v_iload_n dX10_readPart_122 rfl ?_
      refine v_bipush (13 : Int32) dX10_readPart_123 (by decide) ?_
      refine v_icmp_eq 140 dX10_readPart_125 (by decide) (fun c_25 => ?_) (fun c_25 => ?_)
      · rw [if_pos c_25] at h
        refine v_sub [(0, .ref (B + y0))] ⟨rfl, trivial⟩ ?_
        exact j140 _ _ h
      · rw [if_neg c_25] at h
        refine v_iload_n dX10_readPart_128 rfl ?_
        refine v_bipush (14 : Int32) dX10_readPart_129 (by decide) ?_
        refine v_icmp_eq 140 dX10_readPart_131 (by decide) (fun c_29 => ?_) (fun c_29 => ?_)
        · rw [if_pos c_29] at h
          refine v_sub [(0, .ref (B + y0))] ⟨rfl, trivial⟩ ?_
          exact j140 _ _ h
        · rw [if_neg c_29] at h
          refine v_iload_n dX10_readPart_134 rfl ?_
          refine v_bipush (19 : Int32) dX10_readPart_135 (by decide) ?_
          refine v_icmp_ne 154 dX10_readPart_137 (by decide) (fun c_30 => ?_) (fun c_30 => ?_)
          · rw [if_neg c_30] at h
            cases h
            exact v_vret dX10_readPart_154 rfl (by decide) (by decide) (by rw [← hQ]; exact ⟨rfl, rfl, rfl, rfl, rfl⟩)
          · rw [if_pos c_30] at h
            refine v_sub [(0, .ref (B + y0))] ⟨rfl, trivial⟩ ?_
            exact j140 _ _ h
  have j95 : ∀ (I : v_I) (y0 : Nat) (y2 : Int32), f_X10_readPart_J95 rc S F I y0 y2 = some r → V l B D ac (v_EE B wa wb wt sb sL sx) yX10_readPart cX10_readPart 3 none d 0 0 0 0 S I J F 95 [(0, .ref (B + y0)), (2, .int y2)] [] Q := by
    intro I y0 y2 h
    unfold f_X10_readPart_J95 at h
    refine v_iload_n dX10_readPart_95 rfl ?_
    refine v_aload_n dX10_readPart_96 rfl ?_
    replace h := p_bind_elim h
    obtain ⟨_, q_15, h⟩ := h
    have q_15 := p_ob_spec q_15
    refine v_getI rfl fl_X10_246 dX10_readPart_97 q_15 ?_
    refine v_icmp_lt 150 dX10_readPart_100 (by decide) (fun c_16 => ?_) (fun c_16 => ?_)
    · rw [if_pos c_16] at h
      refine v_sub [(0, .ref (B + y0))] ⟨rfl, trivial⟩ ?_
      exact j150 _ _ h
    · rw [if_neg c_16] at h
      refine v_iload_n dX10_readPart_103 rfl ?_
      refine v_aload_n dX10_readPart_104 rfl ?_
      refine v_getI rfl fl_X10_249 dX10_readPart_105 q_15 ?_
      refine v_icmp_gt 150 dX10_readPart_108 (by decide) (fun c_20 => ?_) (fun c_20 => ?_)
      · rw [if_pos c_20] at h
        refine v_sub [(0, .ref (B + y0))] ⟨rfl, trivial⟩ ?_
        exact j150 _ _ h
      · rw [if_neg c_20] at h
        refine v_sub [(0, .ref (B + y0)), (2, .int y2)] ⟨rfl, rfl, trivial⟩ ?_
        exact j111 _ _ _ h
  have j37 : ∀ (I : v_I) (y0 : Nat) (y1 : Int32), f_X10_readPart_J37 rc S F I y0 y1 = some r → V l B D ac (v_EE B wa wb wt sb sL sx) yX10_readPart cX10_readPart 3 none d 0 0 0 0 S I J F 37 [(0, .ref (B + y0)), (1, .int y1)] [] Q := by
    intro I y0 y1 h
    unfold f_X10_readPart_J37 at h
    refine v_aload_n dX10_readPart_37 rfl ?_
    replace h := p_bind_elim h
    obtain ⟨_, q_39, h⟩ := h
    have q_39 := p_ob_spec q_39
    replace h := p_bind_elim h
    obtain ⟨r_37, q_38, h⟩ := h
    refine v_cVr (t_X10_fine q_38) cal_X10_fine ml_X10_190 sel_X10_fine q_39 kk_10 dX10_readPart_38 (by omega) (by decide) (by decide) (Nat.le_of_ble_eq_true rfl) rfl ?_
    refine v_if_ne 45 dX10_readPart_41 (by decide) (fun c_40 => ?_) (fun c_40 => ?_)
    · rw [if_neg c_40] at h
      refine v_aload_n dX10_readPart_45 rfl ?_
      refine v_dup dX10_readPart_46 rfl ?_
      refine v_getI rfl fl_X10_194 dX10_readPart_47 q_39 ?_
      refine v_iconstE (1 : Int32) dX10_readPart_50 (by decide) ?_
      refine v_iadd dX10_readPart_51 ?_
      refine v_putI rfl fl_X10_194 dX10_readPart_52 q_39 rfl rfl ?_
      replace h := p_let_elim h
      obtain ⟨I_41, h_42, h⟩ := h
      rw [← h_42]
      refine v_aload_n dX10_readPart_55 rfl ?_
      refine v_iload_n dX10_readPart_56 rfl ?_
      refine v_iconstE (1 : Int32) dX10_readPart_57 (by decide) ?_
      refine v_iadd dX10_readPart_58 ?_
      replace h := p_bind_elim h
      obtain ⟨r_43, q_44, h⟩ := h
      refine v_cVn (hrc3 q_44) cal_X10_readSum ml_X10_206 sel_X10_readSum q_39 kk_10 dX10_readPart_59 (by omega) (by decide) (by decide) (Nat.le_of_ble_eq_true rfl) rfl ?_
      refine v_aload_n dX10_readPart_62 rfl ?_
      refine v_bipush (93 : Int32) dX10_readPart_63 (by decide) ?_
      replace h := p_bind_elim h
      obtain ⟨r_45, q_46, h⟩ := h
      refine v_cSr (t_X10_sign q_46) cal_X10_sign ml_X10_236 sta_X10_sign dX10_readPart_65 (by omega) (by decide) (by decide) (Nat.le_of_ble_eq_true rfl) rfl ?_
      replace h := p_bind_elim h
      obtain ⟨r_47, q_48, h⟩ := h
      refine v_cVn (t_X10_must q_48) cal_X10_must ml_X10_210 sel_X10_must q_39 kk_10 dX10_readPart_68 (by omega) (by decide) (by decide) (Nat.le_of_ble_eq_true rfl) rfl ?_
      refine v_goto 154 dX10_readPart_71 (by decide) ?_
      cases h
      exact v_vret dX10_readPart_154 rfl (by decide) (by decide) (by rw [← hQ]; exact ⟨rfl, rfl, rfl, rfl, rfl⟩)
    · rw [if_pos c_40] at h
      cases h
      exact v_vret dX10_readPart_44 rfl (by decide) (by decide) (by rw [← hQ]; exact ⟨rfl, rfl, rfl, rfl, rfl⟩)
  unfold f_X10_readPart at h
  refine v_sub [(0, .ref (B + p0)), (1, .int p1)] ⟨rfl, rfl, trivial⟩ ?_
  refine v_aload_n dX10_readPart_0 rfl ?_
  replace h := p_bind_elim h
  obtain ⟨_, q_3, h⟩ := h
  have q_3 := p_ob_spec q_3
  replace h := p_bind_elim h
  obtain ⟨r_1, q_2, h⟩ := h
  refine v_cVr (t_X10_fine q_2) cal_X10_fine ml_X10_190 sel_X10_fine q_3 kk_10 dX10_readPart_1 (by omega) (by decide) (by decide) (Nat.le_of_ble_eq_true rfl) rfl ?_
  refine v_if_ne 8 dX10_readPart_4 (by decide) (fun c_4 => ?_) (fun c_4 => ?_)
  · rw [if_neg c_4] at h
    refine v_aload_n dX10_readPart_8 rfl ?_
    replace h := p_bind_elim h
    obtain ⟨a_5, q_6, h⟩ := h
    refine v_getR q_6 rfl fl_X10_54 dX10_readPart_9 q_3 ?_
    refine v_aload_n dX10_readPart_12 rfl ?_
    refine v_getI rfl fl_X10_194 dX10_readPart_13 q_3 ?_
    replace h := p_bind_elim h
    obtain ⟨j_7, q_8, h⟩ := h
    refine v_ialdP dX10_readPart_16 q_8 ?_
    replace h := p_let_elim h
    obtain ⟨x_9, h_10, h⟩ := h
    rw [← h_10]
    refine v_istore_n dX10_readPart_17 (by decide) ?_
    refine v_sub [(0, .ref (B + p0)), (1, .int p1), (2, .int x_9)] ⟨rfl, rfl, rfl, trivial⟩ ?_
    refine v_iload_n dX10_readPart_18 rfl ?_
    refine v_bipush (91 : Int32) dX10_readPart_19 (by decide) ?_
    replace h := p_bind_elim h
    obtain ⟨r_11, q_12, h⟩ := h
    refine v_cSr (t_X10_sign q_12) cal_X10_sign ml_X10_236 sta_X10_sign dX10_readPart_21 (by omega) (by decide) (by decide) (Nat.le_of_ble_eq_true rfl) rfl ?_
    refine v_icmp_ne 74 dX10_readPart_24 (by decide) (fun c_13 => ?_) (fun c_13 => ?_)
    · rw [if_neg c_13] at h
      refine v_iload_n dX10_readPart_74 rfl ?_
      refine v_bipush (50 : Int32) dX10_readPart_75 (by decide) ?_
      refine v_icmp_ne 95 dX10_readPart_77 (by decide) (fun c_14 => ?_) (fun c_14 => ?_)
      · rw [if_neg c_14] at h
        refine v_sub [(0, .ref (B + p0)), (2, .int x_9)] ⟨rfl, rfl, trivial⟩ ?_
        exact j95 _ _ _ h
      · rw [if_pos c_14] at h
        refine v_aload_n dX10_readPart_80 rfl ?_
        replace h := p_bind_elim h
        obtain ⟨a_31, q_32, h⟩ := h
        refine v_getR q_32 rfl fl_X10_57 dX10_readPart_81 q_3 ?_
        refine v_aload_n dX10_readPart_84 rfl ?_
        refine v_getI rfl fl_X10_194 dX10_readPart_85 q_3 ?_
        replace h := p_bind_elim h
        obtain ⟨j_33, q_34, h⟩ := h
        refine v_ialdP dX10_readPart_88 q_34 ?_
        refine v_sipush (1000 : Int32) dX10_readPart_89 (by decide) ?_
        refine v_icmp_le 111 dX10_readPart_92 (by decide) (fun c_35 => ?_) (fun c_35 => ?_)
        · rw [if_pos c_35] at h
          refine v_sub [(0, .ref (B + p0)), (2, .int x_9)] ⟨rfl, rfl, trivial⟩ ?_
          exact j111 _ _ _ h
        · rw [if_neg c_35] at h
          refine v_sub [(0, .ref (B + p0)), (2, .int x_9)] ⟨rfl, rfl, trivial⟩ ?_
          exact j95 _ _ _ h
    · rw [if_pos c_13] at h
      refine v_iload_n dX10_readPart_27 rfl ?_
      refine v_bipush (8 : Int32) dX10_readPart_28 (by decide) ?_
      refine v_icmp_ne 37 dX10_readPart_30 (by decide) (fun c_36 => ?_) (fun c_36 => ?_)
      · rw [if_neg c_36] at h
        refine v_sub [(0, .ref (B + p0)), (1, .int p1)] ⟨rfl, rfl, trivial⟩ ?_
        exact j37 _ _ _ h
      · rw [if_pos c_36] at h
        refine v_aload_n dX10_readPart_33 rfl ?_
        replace h := p_bind_elim h
        obtain ⟨r_49, q_50, h⟩ := h
        refine v_cVn (t_X10_faults q_50) cal_X10_faults ml_X10_200 sel_X10_faults q_3 kk_10 dX10_readPart_34 (by omega) (by decide) (by decide) (Nat.le_of_ble_eq_true rfl) rfl ?_
        refine v_sub [(0, .ref (B + p0)), (1, .int p1)] ⟨rfl, rfl, trivial⟩ ?_
        exact j37 _ _ _ h
  · rw [if_pos c_4] at h
    cases h
    exact v_vret dX10_readPart_7 rfl (by decide) (by decide) (by rw [← hQ]; exact ⟨rfl, rfl, rfl, rfl, rfl⟩)

def g_X10_readTest : Nat → Nat → Nat → Int32 → v_S → v_I → v_F → Option (v_I)
  | 0, _, _, _, _, _, _ => none
  | n + 1, 0, a, b, S, I, F => f_X10_readTest (g_X10_readTest n) S I F a b
  | n + 1, 1, a, b, S, I, F => f_X10_readBoth (g_X10_readTest n) S I F a b
  | n + 1, 2, a, b, S, I, F => f_X10_readPlain (g_X10_readTest n) S I F a b
  | n + 1, 3, a, b, S, I, F => f_X10_readSum (g_X10_readTest n) S I F a b
  | n + 1, 4, a, b, S, I, F => f_X10_readTerm (g_X10_readTest n) S I F a b
  | n + 1, _, a, b, S, I, F => f_X10_readPart (g_X10_readTest n) S I F a b
set_option maxHeartbeats 4000000 in
theorem tgr_X10_readTest : ∀ n : Nat, (∀ {S : v_S} {I : v_I} {J : v_J} {F : v_F} {a : Nat} {b : Int32} {r : v_I}, g_X10_readTest n 0 a b S I F = some r → v_R l B D ac (v_EE B wa wb wt sb sL sx) yX10_readTest cX10_readTest 2 none (4 + n) 0 0 [.ref (B + a), .int b] S I J F (v_D none S r J F)) ∧ (∀ {S : v_S} {I : v_I} {J : v_J} {F : v_F} {a : Nat} {b : Int32} {r : v_I}, g_X10_readTest n 1 a b S I F = some r → v_R l B D ac (v_EE B wa wb wt sb sL sx) yX10_readBoth cX10_readBoth 2 none (4 + n) 0 0 [.ref (B + a), .int b] S I J F (v_D none S r J F)) ∧ (∀ {S : v_S} {I : v_I} {J : v_J} {F : v_F} {a : Nat} {b : Int32} {r : v_I}, g_X10_readTest n 2 a b S I F = some r → v_R l B D ac (v_EE B wa wb wt sb sL sx) yX10_readPlain cX10_readPlain 4 none (4 + n) 0 0 [.ref (B + a), .int b] S I J F (v_D none S r J F)) ∧ (∀ {S : v_S} {I : v_I} {J : v_J} {F : v_F} {a : Nat} {b : Int32} {r : v_I}, g_X10_readTest n 3 a b S I F = some r → v_R l B D ac (v_EE B wa wb wt sb sL sx) yX10_readSum cX10_readSum 2 none (4 + n) 0 0 [.ref (B + a), .int b] S I J F (v_D none S r J F)) ∧ (∀ {S : v_S} {I : v_I} {J : v_J} {F : v_F} {a : Nat} {b : Int32} {r : v_I}, g_X10_readTest n 4 a b S I F = some r → v_R l B D ac (v_EE B wa wb wt sb sL sx) yX10_readTerm cX10_readTerm 2 none (4 + n) 0 0 [.ref (B + a), .int b] S I J F (v_D none S r J F)) ∧ (∀ {S : v_S} {I : v_I} {J : v_J} {F : v_F} {a : Nat} {b : Int32} {r : v_I}, g_X10_readTest n 5 a b S I F = some r → v_R l B D ac (v_EE B wa wb wt sb sL sx) yX10_readPart cX10_readPart 3 none (4 + n) 0 0 [.ref (B + a), .int b] S I J F (v_D none S r J F))
  | 0 => ⟨(fun h => by cases h), (fun h => by cases h), (fun h => by cases h), (fun h => by cases h), (fun h => by cases h), (fun h => by cases h)⟩
  | n + 1 => by
    have ih := @tgr_X10_readTest n
    obtain ⟨i0, i1, i2, i3, i4, i5⟩ := ih
    exact ⟨(fun h => t_X10_readTest (dd := 4 + n) (by omega) i1 h), (fun h => t_X10_readBoth (dd := 4 + n) (by omega) i2 h), (fun h => t_X10_readPlain (dd := 4 + n) (by omega) i0 i3 h), (fun h => t_X10_readSum (dd := 4 + n) (by omega) i4 h), (fun h => t_X10_readTerm (dd := 4 + n) (by omega) i5 h), (fun h => t_X10_readPart (dd := 4 + n) (by omega) i3 h)⟩
theorem tg_X10_readTest {a : Nat} {b : Int32} {r : v_I} (h : g_X10_readTest GNN 0 a b S I F = some r) : v_R l B D ac (v_EE B wa wb wt sb sL sx) yX10_readTest cX10_readTest 2 none 104 0 0 [.ref (B + a), .int b] S I J F (v_D none S r J F) := v_R.mono ((tgr_X10_readTest GNN).1 h) (by rw [GN_eq]; omega)
theorem tg_X10_readBoth {a : Nat} {b : Int32} {r : v_I} (h : g_X10_readTest GNN 1 a b S I F = some r) : v_R l B D ac (v_EE B wa wb wt sb sL sx) yX10_readBoth cX10_readBoth 2 none 104 0 0 [.ref (B + a), .int b] S I J F (v_D none S r J F) := v_R.mono ((tgr_X10_readTest GNN).2.1 h) (by rw [GN_eq]; omega)
theorem tg_X10_readPlain {a : Nat} {b : Int32} {r : v_I} (h : g_X10_readTest GNN 2 a b S I F = some r) : v_R l B D ac (v_EE B wa wb wt sb sL sx) yX10_readPlain cX10_readPlain 4 none 104 0 0 [.ref (B + a), .int b] S I J F (v_D none S r J F) := v_R.mono ((tgr_X10_readTest GNN).2.2.1 h) (by rw [GN_eq]; omega)
theorem tg_X10_readSum {a : Nat} {b : Int32} {r : v_I} (h : g_X10_readTest GNN 3 a b S I F = some r) : v_R l B D ac (v_EE B wa wb wt sb sL sx) yX10_readSum cX10_readSum 2 none 104 0 0 [.ref (B + a), .int b] S I J F (v_D none S r J F) := v_R.mono ((tgr_X10_readTest GNN).2.2.2.1 h) (by rw [GN_eq]; omega)
theorem tg_X10_readTerm {a : Nat} {b : Int32} {r : v_I} (h : g_X10_readTest GNN 4 a b S I F = some r) : v_R l B D ac (v_EE B wa wb wt sb sL sx) yX10_readTerm cX10_readTerm 2 none 104 0 0 [.ref (B + a), .int b] S I J F (v_D none S r J F) := v_R.mono ((tgr_X10_readTest GNN).2.2.2.2.1 h) (by rw [GN_eq]; omega)
theorem tg_X10_readPart {a : Nat} {b : Int32} {r : v_I} (h : g_X10_readTest GNN 5 a b S I F = some r) : v_R l B D ac (v_EE B wa wb wt sb sL sx) yX10_readPart cX10_readPart 3 none 104 0 0 [.ref (B + a), .int b] S I J F (v_D none S r J F) := v_R.mono ((tgr_X10_readTest GNN).2.2.2.2.2 h) (by rw [GN_eq]; omega)

def f_X10_readClause_J29 (S : v_S) (F : v_F) (I : v_I) (y0 : Nat) : Option (v_I) :=
(p_ob S 10 y0).bind fun _ =>
(f_X10_takes0 S I F y0 (4 : Int32)).bind fun r_8 =>
if r_8.1 = (0 : Int32) then (
some (r_8.2))
else (
(g_X10_readTest GNN 0 y0 (0 : Int32) S r_8.2 F).bind fun r_12 =>
some (r_12))
def f_X10_readClause_J16 (S : v_S) (F : v_F) (I : v_I) (y0 : Nat) : Option (v_I) :=
(p_ob S 10 y0).bind fun _ =>
(g_X10_readTest GNN 3 y0 (0 : Int32) S I F).bind fun r_5 =>
f_X10_readClause_J29 S F r_5 y0
def f_X10_readClause (S : v_S) (I : v_I) (F : v_F) (p0 : Nat) : Option (v_I) :=
(p_ob S 10 p0).bind fun _ =>
(f_X10_takes0 S I F p0 (1 : Int32)).bind fun r_1 =>
if r_1.1 = (0 : Int32) then (
(f_X10_takes0 S r_1.2 F p0 (2 : Int32)).bind fun r_14 =>
if r_14.1 = (0 : Int32) then (
(f_X10_must S r_14.2 F p0 (3 : Int32)).bind fun r_17 =>
f_X10_readClause_J29 S F r_17 p0)
else (
f_X10_readClause_J16 S F r_14.2 p0))
else (
f_X10_readClause_J16 S F r_1.2 p0)
set_option maxHeartbeats 4000000 in
set_option maxRecDepth 100000 in
theorem t_X10_readClause {p0 : Nat} {r : v_I} (h : f_X10_readClause S I F p0 = some r) : v_R l B D ac (v_EE B wa wb wt sb sL sx) yX10_readClause cX10_readClause 1 none 105 0 0 [.ref (B + p0)] S I J F (v_D none S r J F) := by
  refine v_R.of (by decide) (Nat.le_of_ble_eq_true rfl) fun d hd => ?_
  generalize hQ : v_D none S r J F = Q
  have j29 : ∀ (I : v_I) (y0 : Nat), f_X10_readClause_J29 S F I y0 = some r → V l B D ac (v_EE B wa wb wt sb sL sx) yX10_readClause cX10_readClause 1 none d 0 0 0 0 S I J F 29 [(0, .ref (B + y0))] [] Q := by
    intro I y0 h
    unfold f_X10_readClause_J29 at h
    refine v_aload_n dX10_readClause_29 rfl ?_
    refine v_iconstE (4 : Int32) dX10_readClause_30 (by decide) ?_
    replace h := p_bind_elim h
    obtain ⟨_, q_10, h⟩ := h
    have q_10 := p_ob_spec q_10
    replace h := p_bind_elim h
    obtain ⟨r_8, q_9, h⟩ := h
    refine v_cVr (t_X10_takes0 q_9) cal_X10_takes0 ml_X10_197 sel_X10_takes0 q_10 kk_10 dX10_readClause_31 (by omega) (by decide) (by decide) (Nat.le_of_ble_eq_true rfl) rfl ?_
    refine v_if_eq 42 dX10_readClause_34 (by decide) (fun c_11 => ?_) (fun c_11 => ?_)
    · rw [if_pos c_11] at h
      cases h
      exact v_vret dX10_readClause_42 rfl (by decide) (by decide) (by rw [← hQ]; exact ⟨rfl, rfl, rfl, rfl, rfl⟩)
    · rw [if_neg c_11] at h
      refine v_aload_n dX10_readClause_37 rfl ?_
      refine v_iconstE (0 : Int32) dX10_readClause_38 (by decide) ?_
      replace h := p_bind_elim h
      obtain ⟨r_12, q_13, h⟩ := h
      refine v_cVn (tg_X10_readTest q_13) cal_X10_readTest ml_X10_213 sel_X10_readTest q_10 kk_10 dX10_readClause_39 (by omega) (by decide) (by decide) (Nat.le_of_ble_eq_true rfl) rfl ?_
      cases h
      exact v_vret dX10_readClause_42 rfl (by decide) (by decide) (by rw [← hQ]; exact ⟨rfl, rfl, rfl, rfl, rfl⟩)
  have j16 : ∀ (I : v_I) (y0 : Nat), f_X10_readClause_J16 S F I y0 = some r → V l B D ac (v_EE B wa wb wt sb sL sx) yX10_readClause cX10_readClause 1 none d 0 0 0 0 S I J F 16 [(0, .ref (B + y0))] [] Q := by
    intro I y0 h
    unfold f_X10_readClause_J16 at h
    refine v_aload_n dX10_readClause_16 rfl ?_
    refine v_iconstE (0 : Int32) dX10_readClause_17 (by decide) ?_
    replace h := p_bind_elim h
    obtain ⟨_, q_7, h⟩ := h
    have q_7 := p_ob_spec q_7
    replace h := p_bind_elim h
    obtain ⟨r_5, q_6, h⟩ := h
    refine v_cVn (tg_X10_readSum q_6) cal_X10_readSum ml_X10_206 sel_X10_readSum q_7 kk_10 dX10_readClause_18 (by omega) (by decide) (by decide) (Nat.le_of_ble_eq_true rfl) rfl ?_
    refine v_goto 29 dX10_readClause_21 (by decide) ?_
    refine v_sub [(0, .ref (B + y0))] ⟨rfl, trivial⟩ ?_
    exact j29 _ _ h
  unfold f_X10_readClause at h
  refine v_sub [(0, .ref (B + p0))] ⟨rfl, trivial⟩ ?_
  refine v_aload_n dX10_readClause_0 rfl ?_
  refine v_iconstE (1 : Int32) dX10_readClause_1 (by decide) ?_
  replace h := p_bind_elim h
  obtain ⟨_, q_3, h⟩ := h
  have q_3 := p_ob_spec q_3
  replace h := p_bind_elim h
  obtain ⟨r_1, q_2, h⟩ := h
  refine v_cVr (t_X10_takes0 q_2) cal_X10_takes0 ml_X10_197 sel_X10_takes0 q_3 kk_10 dX10_readClause_2 (by omega) (by decide) (by decide) (Nat.le_of_ble_eq_true rfl) rfl ?_
  refine v_if_ne 16 dX10_readClause_5 (by decide) (fun c_4 => ?_) (fun c_4 => ?_)
  · rw [if_neg c_4] at h
    refine v_sub [(0, .ref (B + p0))] ⟨rfl, trivial⟩ ?_
    exact j16 _ _ h
  · rw [if_pos c_4] at h
    refine v_aload_n dX10_readClause_8 rfl ?_
    refine v_iconstE (2 : Int32) dX10_readClause_9 (by decide) ?_
    replace h := p_bind_elim h
    obtain ⟨r_14, q_15, h⟩ := h
    refine v_cVr (t_X10_takes0 q_15) cal_X10_takes0 ml_X10_197 sel_X10_takes0 q_3 kk_10 dX10_readClause_10 (by omega) (by decide) (by decide) (Nat.le_of_ble_eq_true rfl) rfl ?_
    refine v_if_eq 24 dX10_readClause_13 (by decide) (fun c_16 => ?_) (fun c_16 => ?_)
    · rw [if_pos c_16] at h
      refine v_aload_n dX10_readClause_24 rfl ?_
      refine v_iconstE (3 : Int32) dX10_readClause_25 (by decide) ?_
      replace h := p_bind_elim h
      obtain ⟨r_17, q_18, h⟩ := h
      refine v_cVn (t_X10_must q_18) cal_X10_must ml_X10_210 sel_X10_must q_3 kk_10 dX10_readClause_26 (by omega) (by decide) (by decide) (Nat.le_of_ble_eq_true rfl) rfl ?_
      refine v_sub [(0, .ref (B + p0))] ⟨rfl, trivial⟩ ?_
      exact j29 _ _ h
    · rw [if_neg c_16] at h
      refine v_sub [(0, .ref (B + p0))] ⟨rfl, trivial⟩ ?_
      exact j16 _ _ h

def f_X10_readOrder_J76 (S : v_S) (F : v_F) (I : v_I) (y0 : Nat) : Option (v_I) :=
(p_ob S 10 y0).bind fun _ =>
(f_X10_takes0 S I F y0 (4 : Int32)).bind fun r_15 =>
if r_15.1 = (0 : Int32) then (
some (r_15.2))
else (
(g_X10_readTest GNN 0 y0 (0 : Int32) S r_15.2 F).bind fun r_19 =>
some (r_19))
def f_X10_readOrder_J60 (S : v_S) (F : v_F) (I : v_I) (y0 : Nat) : Option (v_I) :=
(p_ob S 10 y0).bind fun _ =>
(f_X10_takes0 S I F y0 (25 : Int32)).bind fun r_11 =>
if r_11.1 = (0 : Int32) then (
f_X10_readOrder_J76 S F r_11.2 y0)
else (
(f_X10_mustNumber S r_11.2 F y0 (1 : Int32) (20 : Int32)).bind fun r_21 =>
f_X10_readOrder_J76 S F r_21 y0)
def f_X10_readOrder_J46 (S : v_S) (F : v_F) (I : v_I) (y0 : Nat) : Option (v_I) :=
(p_ob S 10 y0).bind fun _ =>
(g_X10_readTest GNN 3 y0 (0 : Int32) S I F).bind fun r_8 =>
f_X10_readOrder_J60 S F r_8 y0
def f_X10_readOrder (S : v_S) (I : v_I) (F : v_F) (p0 : Nat) : Option (v_I) :=
(p_ob S 10 p0).bind fun _ =>
(f_X10_takes0 S I F p0 (22 : Int32)).bind fun r_1 =>
if r_1.1 = (0 : Int32) then (
(f_X10_takes0 S r_1.2 F p0 (20 : Int32)).bind fun r_5 =>
if r_5.1 = (0 : Int32) then (
(f_X10_takes0 S r_5.2 F p0 (21 : Int32)).bind fun r_23 =>
if r_23.1 = (0 : Int32) then (
(f_X10_must S r_23.2 F p0 (24 : Int32)).bind fun r_26 =>
f_X10_readOrder_J60 S F r_26 p0)
else (
f_X10_readOrder_J46 S F r_23.2 p0))
else (
f_X10_readOrder_J46 S F r_5.2 p0))
else (
(g_X10_readTest GNN 3 p0 (0 : Int32) S r_1.2 F).bind fun r_28 =>
(f_X10_must S r_28 F p0 (23 : Int32)).bind fun r_30 =>
(g_X10_readTest GNN 3 p0 (0 : Int32) S r_30 F).bind fun r_32 =>
f_X10_readOrder_J60 S F r_32 p0)
set_option maxHeartbeats 4000000 in
set_option maxRecDepth 100000 in
theorem t_X10_readOrder {p0 : Nat} {r : v_I} (h : f_X10_readOrder S I F p0 = some r) : v_R l B D ac (v_EE B wa wb wt sb sL sx) yX10_readOrder cX10_readOrder 1 none 105 0 0 [.ref (B + p0)] S I J F (v_D none S r J F) := by
  refine v_R.of (by decide) (Nat.le_of_ble_eq_true rfl) fun d hd => ?_
  generalize hQ : v_D none S r J F = Q
  have j76 : ∀ (I : v_I) (y0 : Nat), f_X10_readOrder_J76 S F I y0 = some r → V l B D ac (v_EE B wa wb wt sb sL sx) yX10_readOrder cX10_readOrder 1 none d 0 0 0 0 S I J F 76 [(0, .ref (B + y0))] [] Q := by
    intro I y0 h
    unfold f_X10_readOrder_J76 at h
    refine v_aload_n dX10_readOrder_76 rfl ?_
    refine v_iconstE (4 : Int32) dX10_readOrder_77 (by decide) ?_
    replace h := p_bind_elim h
    obtain ⟨_, q_17, h⟩ := h
    have q_17 := p_ob_spec q_17
    replace h := p_bind_elim h
    obtain ⟨r_15, q_16, h⟩ := h
    refine v_cVr (t_X10_takes0 q_16) cal_X10_takes0 ml_X10_197 sel_X10_takes0 q_17 kk_10 dX10_readOrder_78 (by omega) (by decide) (by decide) (Nat.le_of_ble_eq_true rfl) rfl ?_
    refine v_if_eq 89 dX10_readOrder_81 (by decide) (fun c_18 => ?_) (fun c_18 => ?_)
    · rw [if_pos c_18] at h
      cases h
      exact v_vret dX10_readOrder_89 rfl (by decide) (by decide) (by rw [← hQ]; exact ⟨rfl, rfl, rfl, rfl, rfl⟩)
    · rw [if_neg c_18] at h
      refine v_aload_n dX10_readOrder_84 rfl ?_
      refine v_iconstE (0 : Int32) dX10_readOrder_85 (by decide) ?_
      replace h := p_bind_elim h
      obtain ⟨r_19, q_20, h⟩ := h
      refine v_cVn (tg_X10_readTest q_20) cal_X10_readTest ml_X10_213 sel_X10_readTest q_17 kk_10 dX10_readOrder_86 (by omega) (by decide) (by decide) (Nat.le_of_ble_eq_true rfl) rfl ?_
      cases h
      exact v_vret dX10_readOrder_89 rfl (by decide) (by decide) (by rw [← hQ]; exact ⟨rfl, rfl, rfl, rfl, rfl⟩)
  have j60 : ∀ (I : v_I) (y0 : Nat), f_X10_readOrder_J60 S F I y0 = some r → V l B D ac (v_EE B wa wb wt sb sL sx) yX10_readOrder cX10_readOrder 1 none d 0 0 0 0 S I J F 60 [(0, .ref (B + y0))] [] Q := by
    intro I y0 h
    unfold f_X10_readOrder_J60 at h
    refine v_aload_n dX10_readOrder_60 rfl ?_
    refine v_bipush (25 : Int32) dX10_readOrder_61 (by decide) ?_
    replace h := p_bind_elim h
    obtain ⟨_, q_13, h⟩ := h
    have q_13 := p_ob_spec q_13
    replace h := p_bind_elim h
    obtain ⟨r_11, q_12, h⟩ := h
    refine v_cVr (t_X10_takes0 q_12) cal_X10_takes0 ml_X10_197 sel_X10_takes0 q_13 kk_10 dX10_readOrder_63 (by omega) (by decide) (by decide) (Nat.le_of_ble_eq_true rfl) rfl ?_
    refine v_if_eq 76 dX10_readOrder_66 (by decide) (fun c_14 => ?_) (fun c_14 => ?_)
    · rw [if_pos c_14] at h
      refine v_sub [(0, .ref (B + y0))] ⟨rfl, trivial⟩ ?_
      exact j76 _ _ h
    · rw [if_neg c_14] at h
      refine v_aload_n dX10_readOrder_69 rfl ?_
      refine v_iconstE (1 : Int32) dX10_readOrder_70 (by decide) ?_
      refine v_bipush (20 : Int32) dX10_readOrder_71 (by decide) ?_
      replace h := p_bind_elim h
      obtain ⟨r_21, q_22, h⟩ := h
      refine v_cVn (t_X10_mustNumber q_22) cal_X10_mustNumber ml_X10_216 sel_X10_mustNumber q_13 kk_10 dX10_readOrder_73 (by omega) (by decide) (by decide) (Nat.le_of_ble_eq_true rfl) rfl ?_
      refine v_sub [(0, .ref (B + y0))] ⟨rfl, trivial⟩ ?_
      exact j76 _ _ h
  have j46 : ∀ (I : v_I) (y0 : Nat), f_X10_readOrder_J46 S F I y0 = some r → V l B D ac (v_EE B wa wb wt sb sL sx) yX10_readOrder cX10_readOrder 1 none d 0 0 0 0 S I J F 46 [(0, .ref (B + y0))] [] Q := by
    intro I y0 h
    unfold f_X10_readOrder_J46 at h
    refine v_aload_n dX10_readOrder_46 rfl ?_
    refine v_iconstE (0 : Int32) dX10_readOrder_47 (by decide) ?_
    replace h := p_bind_elim h
    obtain ⟨_, q_10, h⟩ := h
    have q_10 := p_ob_spec q_10
    replace h := p_bind_elim h
    obtain ⟨r_8, q_9, h⟩ := h
    refine v_cVn (tg_X10_readSum q_9) cal_X10_readSum ml_X10_206 sel_X10_readSum q_10 kk_10 dX10_readOrder_48 (by omega) (by decide) (by decide) (Nat.le_of_ble_eq_true rfl) rfl ?_
    refine v_goto 60 dX10_readOrder_51 (by decide) ?_
    refine v_sub [(0, .ref (B + y0))] ⟨rfl, trivial⟩ ?_
    exact j60 _ _ h
  unfold f_X10_readOrder at h
  refine v_sub [(0, .ref (B + p0))] ⟨rfl, trivial⟩ ?_
  refine v_aload_n dX10_readOrder_0 rfl ?_
  refine v_bipush (22 : Int32) dX10_readOrder_1 (by decide) ?_
  replace h := p_bind_elim h
  obtain ⟨_, q_3, h⟩ := h
  have q_3 := p_ob_spec q_3
  replace h := p_bind_elim h
  obtain ⟨r_1, q_2, h⟩ := h
  refine v_cVr (t_X10_takes0 q_2) cal_X10_takes0 ml_X10_197 sel_X10_takes0 q_3 kk_10 dX10_readOrder_3 (by omega) (by decide) (by decide) (Nat.le_of_ble_eq_true rfl) rfl ?_
  refine v_if_eq 28 dX10_readOrder_6 (by decide) (fun c_4 => ?_) (fun c_4 => ?_)
  · rw [if_pos c_4] at h
    refine v_aload_n dX10_readOrder_28 rfl ?_
    refine v_bipush (20 : Int32) dX10_readOrder_29 (by decide) ?_
    replace h := p_bind_elim h
    obtain ⟨r_5, q_6, h⟩ := h
    refine v_cVr (t_X10_takes0 q_6) cal_X10_takes0 ml_X10_197 sel_X10_takes0 q_3 kk_10 dX10_readOrder_31 (by omega) (by decide) (by decide) (Nat.le_of_ble_eq_true rfl) rfl ?_
    refine v_if_ne 46 dX10_readOrder_34 (by decide) (fun c_7 => ?_) (fun c_7 => ?_)
    · rw [if_neg c_7] at h
      refine v_sub [(0, .ref (B + p0))] ⟨rfl, trivial⟩ ?_
      exact j46 _ _ h
    · rw [if_pos c_7] at h
      refine v_aload_n dX10_readOrder_37 rfl ?_
      refine v_bipush (21 : Int32) dX10_readOrder_38 (by decide) ?_
      replace h := p_bind_elim h
      obtain ⟨r_23, q_24, h⟩ := h
      refine v_cVr (t_X10_takes0 q_24) cal_X10_takes0 ml_X10_197 sel_X10_takes0 q_3 kk_10 dX10_readOrder_40 (by omega) (by decide) (by decide) (Nat.le_of_ble_eq_true rfl) rfl ?_
      refine v_if_eq 54 dX10_readOrder_43 (by decide) (fun c_25 => ?_) (fun c_25 => ?_)
      · rw [if_pos c_25] at h
        refine v_aload_n dX10_readOrder_54 rfl ?_
        refine v_bipush (24 : Int32) dX10_readOrder_55 (by decide) ?_
        replace h := p_bind_elim h
        obtain ⟨r_26, q_27, h⟩ := h
        refine v_cVn (t_X10_must q_27) cal_X10_must ml_X10_210 sel_X10_must q_3 kk_10 dX10_readOrder_57 (by omega) (by decide) (by decide) (Nat.le_of_ble_eq_true rfl) rfl ?_
        refine v_sub [(0, .ref (B + p0))] ⟨rfl, trivial⟩ ?_
        exact j60 _ _ h
      · rw [if_neg c_25] at h
        refine v_sub [(0, .ref (B + p0))] ⟨rfl, trivial⟩ ?_
        exact j46 _ _ h
  · rw [if_neg c_4] at h
    refine v_aload_n dX10_readOrder_9 rfl ?_
    refine v_iconstE (0 : Int32) dX10_readOrder_10 (by decide) ?_
    replace h := p_bind_elim h
    obtain ⟨r_28, q_29, h⟩ := h
    refine v_cVn (tg_X10_readSum q_29) cal_X10_readSum ml_X10_206 sel_X10_readSum q_3 kk_10 dX10_readOrder_11 (by omega) (by decide) (by decide) (Nat.le_of_ble_eq_true rfl) rfl ?_
    refine v_aload_n dX10_readOrder_14 rfl ?_
    refine v_bipush (23 : Int32) dX10_readOrder_15 (by decide) ?_
    replace h := p_bind_elim h
    obtain ⟨r_30, q_31, h⟩ := h
    refine v_cVn (t_X10_must q_31) cal_X10_must ml_X10_210 sel_X10_must q_3 kk_10 dX10_readOrder_17 (by omega) (by decide) (by decide) (Nat.le_of_ble_eq_true rfl) rfl ?_
    refine v_aload_n dX10_readOrder_20 rfl ?_
    refine v_iconstE (0 : Int32) dX10_readOrder_21 (by decide) ?_
    replace h := p_bind_elim h
    obtain ⟨r_32, q_33, h⟩ := h
    refine v_cVn (tg_X10_readSum q_33) cal_X10_readSum ml_X10_206 sel_X10_readSum q_3 kk_10 dX10_readOrder_22 (by omega) (by decide) (by decide) (Nat.le_of_ble_eq_true rfl) rfl ?_
    refine v_goto 60 dX10_readOrder_25 (by decide) ?_
    refine v_sub [(0, .ref (B + p0))] ⟨rfl, trivial⟩ ?_
    exact j60 _ _ h

def f_X10_readOne (S : v_S) (I : v_I) (F : v_F) (p0 : Nat) : Option (v_I) :=
(p_ob S 10 p0).bind fun _ =>
if (I p0 10) = (0 : Int32) then (
(f_X10_readClause S I F p0).bind fun r_3 =>
some (r_3))
else (
(f_X10_readOrder S I F p0).bind fun r_5 =>
some (r_5))
set_option maxHeartbeats 4000000 in
set_option maxRecDepth 100000 in
theorem t_X10_readOne {p0 : Nat} {r : v_I} (h : f_X10_readOne S I F p0 = some r) : v_R l B D ac (v_EE B wa wb wt sb sL sx) yX10_readOne cX10_readOne 1 none 106 0 0 [.ref (B + p0)] S I J F (v_D none S r J F) := by
  refine v_R.of (by decide) (Nat.le_of_ble_eq_true rfl) fun d hd => ?_
  generalize hQ : v_D none S r J F = Q
  unfold f_X10_readOne at h
  refine v_sub [(0, .ref (B + p0))] ⟨rfl, trivial⟩ ?_
  refine v_aload_n dX10_readOne_0 rfl ?_
  replace h := p_bind_elim h
  obtain ⟨_, q_1, h⟩ := h
  have q_1 := p_ob_spec q_1
  refine v_getI rfl fl_X10_220 dX10_readOne_1 q_1 ?_
  refine v_if_eq 14 dX10_readOne_4 (by decide) (fun c_2 => ?_) (fun c_2 => ?_)
  · rw [if_pos c_2] at h
    refine v_aload_n dX10_readOne_14 rfl ?_
    replace h := p_bind_elim h
    obtain ⟨r_3, q_4, h⟩ := h
    refine v_cVn (t_X10_readClause q_4) cal_X10_readClause ml_X10_227 sel_X10_readClause q_1 kk_10 dX10_readOne_15 (by omega) (by decide) (by decide) (Nat.le_of_ble_eq_true rfl) rfl ?_
    cases h
    exact v_vret dX10_readOne_18 rfl (by decide) (by decide) (by rw [← hQ]; exact ⟨rfl, rfl, rfl, rfl, rfl⟩)
  · rw [if_neg c_2] at h
    refine v_aload_n dX10_readOne_7 rfl ?_
    replace h := p_bind_elim h
    obtain ⟨r_5, q_6, h⟩ := h
    refine v_cVn (t_X10_readOrder q_6) cal_X10_readOrder ml_X10_224 sel_X10_readOrder q_1 kk_10 dX10_readOne_8 (by omega) (by decide) (by decide) (Nat.le_of_ble_eq_true rfl) rfl ?_
    refine v_goto 18 dX10_readOne_11 (by decide) ?_
    cases h
    exact v_vret dX10_readOne_18 rfl (by decide) (by decide) (by rw [← hQ]; exact ⟨rfl, rfl, rfl, rfl, rfl⟩)

def f_X10_reads_J34_67 (S : v_S) (F : v_F) (w0 : Nat) (I : v_I) (y1 : Int32) : Option ((Int32 × v_I) ⊕ (Int32 × v_I)) :=
p_let (y1 + (1 : Int32)) fun x_25 =>
some (.inl (x_25, I))
def f_X10_reads_J34_56 (S : v_S) (F : v_F) (w0 : Nat) (I : v_I) (y1 : Int32) : Option ((Int32 × v_I) ⊕ (Int32 × v_I)) :=
(p_ob S 10 w0).bind fun _ =>
(f_X10_fine S I w0).bind fun r_21 =>
if r_21 = (0 : Int32) then (
f_X10_reads_J34_67 S F w0 I y1)
else (
(f_X10_readOne S I F w0).bind fun r_27 =>
f_X10_reads_J34_67 S F w0 r_27 y1)
def f_X10_reads_B34 (S : v_S) (F : v_F) (w0 : Nat) (s34 : Int32 × v_I) : Option ((Int32 × v_I) ⊕ (Int32 × v_I)) :=
(f_X10_sign (59 : Int32)).bind fun r_14 =>
(p_ob S 10 w0).bind fun _ =>
(f_X10_takes0 S s34.2 F w0 r_14).bind fun r_16 =>
if r_16.1 = (0 : Int32) then (
some (.inr (s34.1, r_16.2)))
else (
if s34.1 = (12 : Int32) then (
(f_X10_faults S r_16.2 F w0).bind fun r_29 =>
f_X10_reads_J34_56 S F w0 r_29 s34.1)
else (
f_X10_reads_J34_56 S F w0 r_16.2 s34.1))
def f_X10_reads_J95 (S : v_S) (F : v_F) (I : v_I) (y0 : Nat) : Option (Int32 × v_I) :=
(p_ob S 10 y0).bind fun _ =>
p_let (v_up I y0 14 (I y0 21)) fun I_37 =>
(f_X10_fine S I_37 y0).bind fun r_39 =>
(p_bl r_39).bind fun _ =>
some (r_39, I_37)
def f_X10_reads (S : v_S) (I : v_I) (F : v_F) (p0 : Nat) : Option (Int32 × v_I) :=
(p_ob S 10 p0).bind fun _ =>
(f_X10_splits S I F p0 (I p0 13)).bind fun r_2 =>
p_let (v_up r_2 p0 13 (0 : Int32)) fun I_4 =>
p_let (v_up I_4 p0 19 (0 : Int32)) fun I_6 =>
p_let (v_up I_6 p0 20 (0 : Int32)) fun I_8 =>
p_let (v_up I_8 p0 21 (-1 : Int32)) fun I_10 =>
(f_X10_readOne S I_10 F p0).bind fun r_12 =>
(v_loop (f_X10_reads_B34 S F p0) FU ((1 : Int32), r_12)).bind fun q_31 =>
(f_X10_fine S q_31.2 p0).bind fun r_33 =>
if r_33 = (0 : Int32) then (
f_X10_reads_J95 S F q_31.2 p0)
else (
if (q_31.2 p0 18) ≤ (q_31.2 p0 19) then (
f_X10_reads_J95 S F q_31.2 p0)
else (
(f_X10_faults S q_31.2 F p0).bind fun r_43 =>
f_X10_reads_J95 S F r_43 p0))
set_option maxHeartbeats 4000000 in
set_option maxRecDepth 100000 in
theorem t_X10_reads {p0 : Nat} {r : Int32 × v_I} (h : f_X10_reads S I F p0 = some r) : v_R l B D ac (v_EE B wa wb wt sb sL sx) yX10_reads cX10_reads 2 (some .boolean) 107 0 0 [.ref (B + p0)] S I J F (v_D (some (.int r.1)) S r.2 J F) := by
  refine v_R.of (by decide) (Nat.le_of_ble_eq_true rfl) fun d hd => ?_
  generalize hQ : v_D (some (.int r.1)) S r.2 J F = Q
  have b34 : ∀ (w0 : Nat) (s34 : Int32 × v_I) (rx34 : (Int32 × v_I) ⊕ (Int32 × v_I)), f_X10_reads_B34 S F w0 s34 = some rx34 → v_K (fun (sP : Int32 × v_I) => V l B D ac (v_EE B wa wb wt sb sL sx) yX10_reads cX10_reads 2 (some .boolean) d 0 0 0 0 S sP.2 J F 34 [(0, .ref (B + w0)), (1, .int sP.1)] [] Q) (fun (rE : Int32 × v_I) => V l B D ac (v_EE B wa wb wt sb sL sx) yX10_reads cX10_reads 2 (some .boolean) d 0 0 0 0 S rE.2 J F 73 [(0, .ref (B + w0))] [] Q) rx34 → V l B D ac (v_EE B wa wb wt sb sL sx) yX10_reads cX10_reads 2 (some .boolean) d 0 0 0 0 S s34.2 J F 34 [(0, .ref (B + w0)), (1, .int s34.1)] [] Q := by
    intro w0 s34 rx34 h hk
    have j67 : ∀ (I : v_I) (y1 : Int32), f_X10_reads_J34_67 S F w0 I y1 = some rx34 → V l B D ac (v_EE B wa wb wt sb sL sx) yX10_reads cX10_reads 2 (some .boolean) d 0 0 0 0 S I J F 67 [(0, .ref (B + w0)), (1, .int y1)] [] Q := by
      intro I y1 h
      unfold f_X10_reads_J34_67 at h
      replace h := p_let_elim h
      obtain ⟨x_25, h_26, h⟩ := h
      refine v_iincE (1 : Int32) dX10_reads_67 (by decide) rfl (by decide) ?_
      rw [← h_26]
      refine v_sub [(0, .ref (B + w0)), (1, .int x_25)] ⟨rfl, rfl, trivial⟩ ?_
      refine v_goto 34 dX10_reads_70 (by decide) ?_
      cases h
      refine v_sub [(0, .ref (B + w0)), (1, .int x_25)] ⟨rfl, rfl, trivial⟩ ?_
      exact hk
    have j56 : ∀ (I : v_I) (y1 : Int32), f_X10_reads_J34_56 S F w0 I y1 = some rx34 → V l B D ac (v_EE B wa wb wt sb sL sx) yX10_reads cX10_reads 2 (some .boolean) d 0 0 0 0 S I J F 56 [(0, .ref (B + w0)), (1, .int y1)] [] Q := by
      intro I y1 h
      unfold f_X10_reads_J34_56 at h
      refine v_aload_n dX10_reads_56 rfl ?_
      replace h := p_bind_elim h
      obtain ⟨_, q_23, h⟩ := h
      have q_23 := p_ob_spec q_23
      replace h := p_bind_elim h
      obtain ⟨r_21, q_22, h⟩ := h
      refine v_cVr (t_X10_fine q_22) cal_X10_fine ml_X10_190 sel_X10_fine q_23 kk_10 dX10_reads_57 (by omega) (by decide) (by decide) (Nat.le_of_ble_eq_true rfl) rfl ?_
      refine v_if_eq 67 dX10_reads_60 (by decide) (fun c_24 => ?_) (fun c_24 => ?_)
      · rw [if_pos c_24] at h
        refine v_sub [(0, .ref (B + w0)), (1, .int y1)] ⟨rfl, rfl, trivial⟩ ?_
        exact j67 _ _ h
      · rw [if_neg c_24] at h
        refine v_aload_n dX10_reads_63 rfl ?_
        replace h := p_bind_elim h
        obtain ⟨r_27, q_28, h⟩ := h
        refine v_cVn (t_X10_readOne q_28) cal_X10_readOne ml_X10_258 sel_X10_readOne q_23 kk_10 dX10_reads_64 (by omega) (by decide) (by decide) (Nat.le_of_ble_eq_true rfl) rfl ?_
        refine v_sub [(0, .ref (B + w0)), (1, .int y1)] ⟨rfl, rfl, trivial⟩ ?_
        exact j67 _ _ h
    unfold f_X10_reads_B34 at h
    refine v_aload_n dX10_reads_34 rfl ?_
    refine v_bipush (59 : Int32) dX10_reads_35 (by decide) ?_
    replace h := p_bind_elim h
    obtain ⟨r_14, q_15, h⟩ := h
    refine v_cSr (t_X10_sign q_15) cal_X10_sign ml_X10_236 sta_X10_sign dX10_reads_37 (by omega) (by decide) (by decide) (Nat.le_of_ble_eq_true rfl) rfl ?_
    replace h := p_bind_elim h
    obtain ⟨_, q_18, h⟩ := h
    have q_18 := p_ob_spec q_18
    replace h := p_bind_elim h
    obtain ⟨r_16, q_17, h⟩ := h
    refine v_cVr (t_X10_takes0 q_17) cal_X10_takes0 ml_X10_197 sel_X10_takes0 q_18 kk_10 dX10_reads_40 (by omega) (by decide) (by decide) (Nat.le_of_ble_eq_true rfl) rfl ?_
    refine v_if_eq 73 dX10_reads_43 (by decide) (fun c_19 => ?_) (fun c_19 => ?_)
    · rw [if_pos c_19] at h
      cases h
      refine v_sub [(0, .ref (B + w0))] ⟨rfl, trivial⟩ ?_
      exact hk
    · rw [if_neg c_19] at h
      refine v_iload_n dX10_reads_46 rfl ?_
      refine v_bipush (12 : Int32) dX10_reads_47 (by decide) ?_
      refine v_icmp_ne 56 dX10_reads_49 (by decide) (fun c_20 => ?_) (fun c_20 => ?_)
      · rw [if_neg c_20] at h
        refine v_sub [(0, .ref (B + w0)), (1, .int s34.1)] ⟨rfl, rfl, trivial⟩ ?_
        exact j56 _ _ h
      · rw [if_pos c_20] at h
        refine v_aload_n dX10_reads_52 rfl ?_
        replace h := p_bind_elim h
        obtain ⟨r_29, q_30, h⟩ := h
        refine v_cVn (t_X10_faults q_30) cal_X10_faults ml_X10_200 sel_X10_faults q_18 kk_10 dX10_reads_53 (by omega) (by decide) (by decide) (Nat.le_of_ble_eq_true rfl) rfl ?_
        refine v_sub [(0, .ref (B + w0)), (1, .int s34.1)] ⟨rfl, rfl, trivial⟩ ?_
        exact j56 _ _ h
  have j95 : ∀ (I : v_I) (y0 : Nat), f_X10_reads_J95 S F I y0 = some r → V l B D ac (v_EE B wa wb wt sb sL sx) yX10_reads cX10_reads 2 (some .boolean) d 0 0 0 0 S I J F 95 [(0, .ref (B + y0))] [] Q := by
    intro I y0 h
    unfold f_X10_reads_J95 at h
    refine v_aload_n dX10_reads_95 rfl ?_
    refine v_aload_n dX10_reads_96 rfl ?_
    replace h := p_bind_elim h
    obtain ⟨_, q_36, h⟩ := h
    have q_36 := p_ob_spec q_36
    refine v_getI rfl fl_X10_187 dX10_reads_97 q_36 ?_
    refine v_putI rfl fl_X10_51 dX10_reads_100 q_36 rfl rfl ?_
    replace h := p_let_elim h
    obtain ⟨I_37, h_38, h⟩ := h
    rw [← h_38]
    refine v_aload_n dX10_reads_103 rfl ?_
    replace h := p_bind_elim h
    obtain ⟨r_39, q_40, h⟩ := h
    refine v_cVr (t_X10_fine q_40) cal_X10_fine ml_X10_190 sel_X10_fine q_36 kk_10 dX10_reads_104 (by omega) (by decide) (by decide) (Nat.le_of_ble_eq_true rfl) rfl ?_
    replace h := p_bind_elim h
    obtain ⟨_, q_41, h⟩ := h
    cases h
    exact v_zret dX10_reads_107 rfl (p_bl_spec q_41).1 (by decide) (by decide) (by rw [← hQ]; exact ⟨rfl, rfl, rfl, rfl, rfl⟩)
  unfold f_X10_reads at h
  refine v_sub [(0, .ref (B + p0))] ⟨rfl, trivial⟩ ?_
  refine v_aload_n dX10_reads_0 rfl ?_
  refine v_aload_n dX10_reads_1 rfl ?_
  replace h := p_bind_elim h
  obtain ⟨_, q_1, h⟩ := h
  have q_1 := p_ob_spec q_1
  refine v_getI rfl fl_X10_165 dX10_reads_2 q_1 ?_
  replace h := p_bind_elim h
  obtain ⟨r_2, q_3, h⟩ := h
  refine v_cVn (t_X10_splits q_3) cal_X10_splits ml_X10_255 sel_X10_splits q_1 kk_10 dX10_reads_5 (by omega) (by decide) (by decide) (Nat.le_of_ble_eq_true rfl) rfl ?_
  refine v_aload_n dX10_reads_8 rfl ?_
  refine v_iconstE (0 : Int32) dX10_reads_9 (by decide) ?_
  refine v_putI rfl fl_X10_165 dX10_reads_10 q_1 rfl rfl ?_
  replace h := p_let_elim h
  obtain ⟨I_4, h_5, h⟩ := h
  rw [← h_5]
  refine v_aload_n dX10_reads_13 rfl ?_
  refine v_iconstE (0 : Int32) dX10_reads_14 (by decide) ?_
  refine v_putI rfl fl_X10_194 dX10_reads_15 q_1 rfl rfl ?_
  replace h := p_let_elim h
  obtain ⟨I_6, h_7, h⟩ := h
  rw [← h_7]
  refine v_aload_n dX10_reads_18 rfl ?_
  refine v_iconstE (0 : Int32) dX10_reads_19 (by decide) ?_
  refine v_putI rfl fl_X10_203 dX10_reads_20 q_1 rfl rfl ?_
  replace h := p_let_elim h
  obtain ⟨I_8, h_9, h⟩ := h
  rw [← h_9]
  refine v_aload_n dX10_reads_23 rfl ?_
  refine v_iconstE (-1 : Int32) dX10_reads_24 (by decide) ?_
  refine v_putI rfl fl_X10_187 dX10_reads_25 q_1 rfl rfl ?_
  replace h := p_let_elim h
  obtain ⟨I_10, h_11, h⟩ := h
  rw [← h_11]
  refine v_aload_n dX10_reads_28 rfl ?_
  replace h := p_bind_elim h
  obtain ⟨r_12, q_13, h⟩ := h
  refine v_cVn (t_X10_readOne q_13) cal_X10_readOne ml_X10_258 sel_X10_readOne q_1 kk_10 dX10_reads_29 (by omega) (by decide) (by decide) (Nat.le_of_ble_eq_true rfl) rfl ?_
  refine v_iconstE (1 : Int32) dX10_reads_32 (by decide) ?_
  refine v_istore_n dX10_reads_33 (by decide) ?_
  refine v_sub [(0, .ref (B + p0)), (1, .int (1 : Int32))] ⟨rfl, rfl, trivial⟩ ?_
  replace h := p_bind_elim h
  obtain ⟨q_31, h_32, h⟩ := h
  refine v_sub [(0, .ref (B + p0)), (1, .int (1 : Int32))] ⟨rfl, rfl, trivial⟩ ?_
  refine v_loopV (fun (sP : Int32 × v_I) => V l B D ac (v_EE B wa wb wt sb sL sx) yX10_reads cX10_reads 2 (some .boolean) d 0 0 0 0 S sP.2 J F 34 [(0, .ref (B + p0)), (1, .int sP.1)] [] Q) (fun (rE : Int32 × v_I) => V l B D ac (v_EE B wa wb wt sb sL sx) yX10_reads cX10_reads 2 (some .boolean) d 0 0 0 0 S rE.2 J F 73 [(0, .ref (B + p0))] [] Q) (fun s_ x_ hb hk => b34 _ s_ x_ hb hk) (r := q_31) ?_ h_32
  try dsimp only
  refine v_aload_n dX10_reads_73 rfl ?_
  replace h := p_bind_elim h
  obtain ⟨r_33, q_34, h⟩ := h
  refine v_cVr (t_X10_fine q_34) cal_X10_fine ml_X10_190 sel_X10_fine q_1 kk_10 dX10_reads_74 (by omega) (by decide) (by decide) (Nat.le_of_ble_eq_true rfl) rfl ?_
  refine v_if_eq 95 dX10_reads_77 (by decide) (fun c_35 => ?_) (fun c_35 => ?_)
  · rw [if_pos c_35] at h
    refine v_sub [(0, .ref (B + p0))] ⟨rfl, trivial⟩ ?_
    exact j95 _ _ h
  · rw [if_neg c_35] at h
    refine v_aload_n dX10_reads_80 rfl ?_
    refine v_getI rfl fl_X10_194 dX10_reads_81 q_1 ?_
    refine v_aload_n dX10_reads_84 rfl ?_
    refine v_getI rfl fl_X10_174 dX10_reads_85 q_1 ?_
    refine v_icmp_ge 95 dX10_reads_88 (by decide) (fun c_42 => ?_) (fun c_42 => ?_)
    · rw [if_pos c_42] at h
      refine v_sub [(0, .ref (B + p0))] ⟨rfl, trivial⟩ ?_
      exact j95 _ _ h
    · rw [if_neg c_42] at h
      refine v_aload_n dX10_reads_91 rfl ?_
      replace h := p_bind_elim h
      obtain ⟨r_43, q_44, h⟩ := h
      refine v_cVn (t_X10_faults q_44) cal_X10_faults ml_X10_200 sel_X10_faults q_1 kk_10 dX10_reads_92 (by omega) (by decide) (by decide) (Nat.le_of_ble_eq_true rfl) rfl ?_
      refine v_sub [(0, .ref (B + p0))] ⟨rfl, trivial⟩ ?_
      exact j95 _ _ h

def f_X10_readsAs_J32 (S : v_S) (F : v_F) (I : v_I) (y0 : Nat) (z0 : Int32) (z1 : Nat) : Option (Int32 × v_I) :=
(p_ob S 10 z1).bind fun _ =>
p_let (v_up I z1 9 z0) fun I_11 =>
(p_ob S 10 y0).bind fun _ =>
(f_X10_reads S I_11 F y0).bind fun r_13 =>
(p_bl r_13.1).bind fun _ =>
some (r_13.1, r_13.2)
def f_X10_readsAs_J17 (S : v_S) (F : v_F) (I : v_I) (y0 : Nat) (y1 : Int32) (z0 : Int32) (z1 : Nat) : Option (Int32 × v_I) :=
(p_ob S 10 z1).bind fun _ =>
p_let (v_up I z1 8 z0) fun I_7 =>
if y1 = (0 : Int32) then (
f_X10_readsAs_J32 S F I_7 y0 (16 : Int32) y0)
else (
f_X10_readsAs_J32 S F I_7 y0 (19 : Int32) y0)
def f_X10_readsAs (S : v_S) (I : v_I) (F : v_F) (p0 : Nat) (p1 : Int32) : Option (Int32 × v_I) :=
(p_ob S 10 p0).bind fun _ =>
(p_bl p1).bind fun _ =>
p_let (v_up I p0 10 p1) fun I_3 =>
if p1 = (0 : Int32) then (
f_X10_readsAs_J17 S F I_3 p0 p1 (8 : Int32) p0)
else (
f_X10_readsAs_J17 S F I_3 p0 p1 (13 : Int32) p0)
set_option maxHeartbeats 4000000 in
set_option maxRecDepth 100000 in
theorem t_X10_readsAs {p0 : Nat} {p1 : Int32} {r : Int32 × v_I} (h : f_X10_readsAs S I F p0 p1 = some r) : v_R l B D ac (v_EE B wa wb wt sb sL sx) yX10_readsAs cX10_readsAs 2 (some .boolean) 108 0 0 [.ref (B + p0), .int p1] S I J F (v_D (some (.int r.1)) S r.2 J F) := by
  refine v_R.of (by decide) (Nat.le_of_ble_eq_true rfl) fun d hd => ?_
  generalize hQ : v_D (some (.int r.1)) S r.2 J F = Q
  have j32 : ∀ (I : v_I) (y0 : Nat) (z0 : Int32) (z1 : Nat), f_X10_readsAs_J32 S F I y0 z0 z1 = some r → V l B D ac (v_EE B wa wb wt sb sL sx) yX10_readsAs cX10_readsAs 2 (some .boolean) d 0 0 0 0 S I J F 32 [(0, .ref (B + y0))] [.int z0, .ref (B + z1)] Q := by
    intro I y0 z0 z1 h
    unfold f_X10_readsAs_J32 at h
    replace h := p_bind_elim h
    obtain ⟨_, q_10, h⟩ := h
    have q_10 := p_ob_spec q_10
    refine v_putI rfl fl_X10_249 dX10_readsAs_32 q_10 rfl rfl ?_
    replace h := p_let_elim h
    obtain ⟨I_11, h_12, h⟩ := h
    rw [← h_12]
    refine v_aload_n dX10_readsAs_35 rfl ?_
    replace h := p_bind_elim h
    obtain ⟨_, q_15, h⟩ := h
    have q_15 := p_ob_spec q_15
    replace h := p_bind_elim h
    obtain ⟨r_13, q_14, h⟩ := h
    refine v_cVr (t_X10_reads q_14) cal_X10_reads ml_X10_261 sel_X10_reads q_15 kk_10 dX10_readsAs_36 (by omega) (by decide) (by decide) (Nat.le_of_ble_eq_true rfl) rfl ?_
    replace h := p_bind_elim h
    obtain ⟨_, q_16, h⟩ := h
    cases h
    exact v_zret dX10_readsAs_39 rfl (p_bl_spec q_16).1 (by decide) (by decide) (by rw [← hQ]; exact ⟨rfl, rfl, rfl, rfl, rfl⟩)
  have j17 : ∀ (I : v_I) (y0 : Nat) (y1 : Int32) (z0 : Int32) (z1 : Nat), f_X10_readsAs_J17 S F I y0 y1 z0 z1 = some r → V l B D ac (v_EE B wa wb wt sb sL sx) yX10_readsAs cX10_readsAs 2 (some .boolean) d 0 0 0 0 S I J F 17 [(0, .ref (B + y0)), (1, .int y1)] [.int z0, .ref (B + z1)] Q := by
    intro I y0 y1 z0 z1 h
    unfold f_X10_readsAs_J17 at h
    replace h := p_bind_elim h
    obtain ⟨_, q_6, h⟩ := h
    have q_6 := p_ob_spec q_6
    refine v_putI rfl fl_X10_246 dX10_readsAs_17 q_6 rfl rfl ?_
    replace h := p_let_elim h
    obtain ⟨I_7, h_8, h⟩ := h
    rw [← h_8]
    refine v_aload_n dX10_readsAs_20 rfl ?_
    refine v_iload_n dX10_readsAs_21 rfl ?_
    refine v_if_eq 30 dX10_readsAs_22 (by decide) (fun c_9 => ?_) (fun c_9 => ?_)
    · rw [if_pos c_9] at h
      refine v_bipush (16 : Int32) dX10_readsAs_30 (by decide) ?_
      refine v_sub [(0, .ref (B + y0))] ⟨rfl, trivial⟩ ?_
      exact j32 _ _ _ _ h
    · rw [if_neg c_9] at h
      refine v_bipush (19 : Int32) dX10_readsAs_25 (by decide) ?_
      refine v_goto 32 dX10_readsAs_27 (by decide) ?_
      refine v_sub [(0, .ref (B + y0))] ⟨rfl, trivial⟩ ?_
      exact j32 _ _ _ _ h
  unfold f_X10_readsAs at h
  refine v_sub [(0, .ref (B + p0)), (1, .int p1)] ⟨rfl, rfl, trivial⟩ ?_
  refine v_aload_n dX10_readsAs_0 rfl ?_
  refine v_iload_n dX10_readsAs_1 rfl ?_
  replace h := p_bind_elim h
  obtain ⟨_, q_1, h⟩ := h
  have q_1 := p_ob_spec q_1
  replace h := p_bind_elim h
  obtain ⟨_, q_2, h⟩ := h
  refine v_putI rfl fl_X10_220 dX10_readsAs_2 q_1 (p_bl_spec q_2).1 (p_bl_spec q_2).2 ?_
  replace h := p_let_elim h
  obtain ⟨I_3, h_4, h⟩ := h
  rw [← h_4]
  refine v_aload_n dX10_readsAs_5 rfl ?_
  refine v_iload_n dX10_readsAs_6 rfl ?_
  refine v_if_eq 15 dX10_readsAs_7 (by decide) (fun c_5 => ?_) (fun c_5 => ?_)
  · rw [if_pos c_5] at h
    refine v_bipush (8 : Int32) dX10_readsAs_15 (by decide) ?_
    refine v_sub [(0, .ref (B + p0)), (1, .int p1)] ⟨rfl, rfl, trivial⟩ ?_
    exact j17 _ _ _ _ _ h
  · rw [if_neg c_5] at h
    refine v_bipush (13 : Int32) dX10_readsAs_10 (by decide) ?_
    refine v_goto 17 dX10_readsAs_12 (by decide) ?_
    refine v_sub [(0, .ref (B + p0)), (1, .int p1)] ⟨rfl, rfl, trivial⟩ ?_
    exact j17 _ _ _ _ _ h

def f_X10_law (S : v_S) (I : v_I) (F : v_F) (p0 : Nat) : Option (Int32 × v_I) :=
(p_ob S 10 p0).bind fun _ =>
(F p0 2).bind fun a_2 =>
(p_ix S 20 a_2 (51 : Int32)).bind fun j_4 =>
if (I a_2 j_4) = (6 : Int32) then (
p_let (v_up I p0 13 (0 : Int32)) fun I_32 =>
(f_X10_refuses S I_32 F p0 (-5 : Int32)).bind fun r_34 =>
some (r_34.1, r_34.2))
else (
(f_X10_readsAs S I F p0 (0 : Int32)).bind fun r_7 =>
if r_7.1 = (0 : Int32) then (
(f_X10_refuses S r_7.2 F p0 (-6 : Int32)).bind fun r_30 =>
some (r_30.1, r_30.2))
else (
(F p0 2).bind fun a_10 =>
(p_ix S 20 a_10 (51 : Int32)).bind fun j_12 =>
(f_X10_lays S r_7.2 F p0 (r_7.2 a_10 j_12)).bind fun r_14 =>
(F p0 2).bind fun a_16 =>
(p_ix S 20 a_16 (51 : Int32)).bind fun j_18 =>
(p_ix S 20 a_16 (51 : Int32)).bind fun j_20 =>
p_let (v_up r_14 a_16 j_20 ((r_14 a_16 j_18) + (1 : Int32))) fun I_22 =>
(F p0 2).bind fun a_24 =>
(p_ix S 20 a_24 (51 : Int32)).bind fun j_26 =>
(f_X10_good S I_22 p0 ((I_22 a_24 j_26) - (1 : Int32))).bind fun r_28 =>
some (r_28.1, r_28.2)))
set_option maxHeartbeats 4000000 in
set_option maxRecDepth 100000 in
theorem t_X10_law {p0 : Nat} {r : Int32 × v_I} (h : f_X10_law S I F p0 = some r) : v_R l B D ac (v_EE B wa wb wt sb sL sx) yX10_law cX10_law 1 (some .int) 109 0 0 [.ref (B + p0)] S I J F (v_D (some (.int r.1)) S r.2 J F) := by
  refine v_R.of (by decide) (Nat.le_of_ble_eq_true rfl) fun d hd => ?_
  generalize hQ : v_D (some (.int r.1)) S r.2 J F = Q
  unfold f_X10_law at h
  refine v_sub [(0, .ref (B + p0))] ⟨rfl, trivial⟩ ?_
  refine v_aload_n dX10_law_0 rfl ?_
  replace h := p_bind_elim h
  obtain ⟨_, q_1, h⟩ := h
  have q_1 := p_ob_spec q_1
  replace h := p_bind_elim h
  obtain ⟨a_2, q_3, h⟩ := h
  refine v_getR q_3 rfl fl_X10_28 dX10_law_1 q_1 ?_
  refine v_bipush (51 : Int32) dX10_law_4 (by decide) ?_
  replace h := p_bind_elim h
  obtain ⟨j_4, q_5, h⟩ := h
  refine v_ialdP dX10_law_6 q_5 ?_
  refine v_bipush (6 : Int32) dX10_law_7 (by decide) ?_
  refine v_icmp_ne 24 dX10_law_9 (by decide) (fun c_6 => ?_) (fun c_6 => ?_)
  · rw [if_neg c_6] at h
    refine v_aload_n dX10_law_24 rfl ?_
    refine v_iconstE (0 : Int32) dX10_law_25 (by decide) ?_
    replace h := p_bind_elim h
    obtain ⟨r_7, q_8, h⟩ := h
    refine v_cVr (t_X10_readsAs q_8) cal_X10_readsAs ml_X10_264 sel_X10_readsAs q_1 kk_10 dX10_law_26 (by omega) (by decide) (by decide) (Nat.le_of_ble_eq_true rfl) rfl ?_
    refine v_if_ne 39 dX10_law_29 (by decide) (fun c_9 => ?_) (fun c_9 => ?_)
    · rw [if_neg c_9] at h
      refine v_aload_n dX10_law_39 rfl ?_
      refine v_aload_n dX10_law_40 rfl ?_
      replace h := p_bind_elim h
      obtain ⟨a_10, q_11, h⟩ := h
      refine v_getR q_11 rfl fl_X10_28 dX10_law_41 q_1 ?_
      refine v_bipush (51 : Int32) dX10_law_44 (by decide) ?_
      replace h := p_bind_elim h
      obtain ⟨j_12, q_13, h⟩ := h
      refine v_ialdP dX10_law_46 q_13 ?_
      replace h := p_bind_elim h
      obtain ⟨r_14, q_15, h⟩ := h
      refine v_cVn (t_X10_lays q_15) cal_X10_lays ml_X10_268 sel_X10_lays q_1 kk_10 dX10_law_47 (by omega) (by decide) (by decide) (Nat.le_of_ble_eq_true rfl) rfl ?_
      refine v_aload_n dX10_law_50 rfl ?_
      replace h := p_bind_elim h
      obtain ⟨a_16, q_17, h⟩ := h
      refine v_getR q_17 rfl fl_X10_28 dX10_law_51 q_1 ?_
      refine v_bipush (51 : Int32) dX10_law_54 (by decide) ?_
      refine v_dup2 dX10_law_56 rfl rfl ?_
      replace h := p_bind_elim h
      obtain ⟨j_18, q_19, h⟩ := h
      refine v_ialdP dX10_law_57 q_19 ?_
      refine v_iconstE (1 : Int32) dX10_law_58 (by decide) ?_
      refine v_iadd dX10_law_59 ?_
      replace h := p_bind_elim h
      obtain ⟨j_20, q_21, h⟩ := h
      refine v_iastP dX10_law_60 q_21 ?_
      replace h := p_let_elim h
      obtain ⟨I_22, h_23, h⟩ := h
      rw [← h_23]
      refine v_aload_n dX10_law_61 rfl ?_
      refine v_aload_n dX10_law_62 rfl ?_
      replace h := p_bind_elim h
      obtain ⟨a_24, q_25, h⟩ := h
      refine v_getR q_25 rfl fl_X10_28 dX10_law_63 q_1 ?_
      refine v_bipush (51 : Int32) dX10_law_66 (by decide) ?_
      replace h := p_bind_elim h
      obtain ⟨j_26, q_27, h⟩ := h
      refine v_ialdP dX10_law_68 q_27 ?_
      refine v_iconstE (1 : Int32) dX10_law_69 (by decide) ?_
      refine v_isub dX10_law_70 ?_
      replace h := p_bind_elim h
      obtain ⟨r_28, q_29, h⟩ := h
      refine v_cVr (t_X10_good q_29) cal_X10_good ml_X10_14 sel_X10_good q_1 kk_10 dX10_law_71 (by omega) (by decide) (by decide) (Nat.le_of_ble_eq_true rfl) rfl ?_
      cases h
      exact v_iret dX10_law_74 rfl (by decide) (by decide) (by rw [← hQ]; exact ⟨rfl, rfl, rfl, rfl, rfl⟩)
    · rw [if_pos c_9] at h
      refine v_aload_n dX10_law_32 rfl ?_
      refine v_bipush (-6 : Int32) dX10_law_33 (by decide) ?_
      replace h := p_bind_elim h
      obtain ⟨r_30, q_31, h⟩ := h
      refine v_cVr (t_X10_refuses q_31) cal_X10_refuses ml_X10_103 sel_X10_refuses q_1 kk_10 dX10_law_35 (by omega) (by decide) (by decide) (Nat.le_of_ble_eq_true rfl) rfl ?_
      cases h
      exact v_iret dX10_law_38 rfl (by decide) (by decide) (by rw [← hQ]; exact ⟨rfl, rfl, rfl, rfl, rfl⟩)
  · rw [if_pos c_6] at h
    refine v_aload_n dX10_law_12 rfl ?_
    refine v_iconstE (0 : Int32) dX10_law_13 (by decide) ?_
    refine v_putI rfl fl_X10_165 dX10_law_14 q_1 rfl rfl ?_
    replace h := p_let_elim h
    obtain ⟨I_32, h_33, h⟩ := h
    rw [← h_33]
    refine v_aload_n dX10_law_17 rfl ?_
    refine v_bipush (-5 : Int32) dX10_law_18 (by decide) ?_
    replace h := p_bind_elim h
    obtain ⟨r_34, q_35, h⟩ := h
    refine v_cVr (t_X10_refuses q_35) cal_X10_refuses ml_X10_103 sel_X10_refuses q_1 kk_10 dX10_law_20 (by omega) (by decide) (by decide) (Nat.le_of_ble_eq_true rfl) rfl ?_
    cases h
    exact v_iret dX10_law_23 rfl (by decide) (by decide) (by rw [← hQ]; exact ⟨rfl, rfl, rfl, rfl, rfl⟩)

def f_X10_minutePasses_J4_36 (S : v_S) (F : v_F) (w0 : Nat) (w1 : Int32) (I : v_I) (y3 : Int32) (z0 : Int32) (z1 : Int32) : Option ((Int32 × Int32 × v_I) ⊕ (Int32 × Int32 × v_I)) :=
p_let (z1 ||| z0) fun x_8 =>
(p_ob S 10 w0).bind fun _ =>
(F w0 29).bind fun a_11 =>
(f_X10_wantsNow S I F w0 y3).bind fun r_13 =>
(p_ix S 20 a_11 y3).bind fun j_15 =>
p_let (v_up r_13.2 a_11 j_15 r_13.1) fun I_17 =>
p_let (y3 + (1 : Int32)) fun x_19 =>
some (.inl (x_8, x_19, I_17))
def f_X10_minutePasses_J4_35 (S : v_S) (F : v_F) (w0 : Nat) (w1 : Int32) (I : v_I) (y3 : Int32) (z0 : Int32) : Option ((Int32 × Int32 × v_I) ⊕ (Int32 × Int32 × v_I)) :=
f_X10_minutePasses_J4_36 S F w0 w1 I y3 (0 : Int32) z0
def f_X10_minutePasses_B4 (S : v_S) (F : v_F) (w0 : Nat) (w1 : Int32) (s4 : Int32 × Int32 × v_I) : Option ((Int32 × Int32 × v_I) ⊕ (Int32 × Int32 × v_I)) :=
(p_ob S 10 w0).bind fun _ =>
(f_X10_many S s4.2.2 F w0).bind fun r_1 =>
if r_1 ≤ s4.2.1 then (
some (.inr (s4.1, s4.2.1, s4.2.2)))
else (
(f_X10_isIn w1 s4.2.1).bind fun r_5 =>
if r_5 = (0 : Int32) then (
(f_X10_opensNext S s4.2.2 F w0 s4.2.1).bind fun r_21 =>
if r_21.1 = (0 : Int32) then (
f_X10_minutePasses_J4_35 S F w0 w1 r_21.2 s4.2.1 s4.1)
else (
f_X10_minutePasses_J4_36 S F w0 w1 r_21.2 s4.2.1 ((1 : Int32) <<< (s4.2.1 &&& 31)) s4.1))
else (
f_X10_minutePasses_J4_35 S F w0 w1 s4.2.2 s4.2.1 s4.1))
def f_X10_minutePasses_B57 (S : v_S) (F : v_F) (w0 : Nat) (w2 : Int32) (s57 : Int32 × v_I) : Option ((Int32 × v_I) ⊕ (Int32 × v_I)) :=
(p_ob S 10 w0).bind fun _ =>
(f_X10_many S s57.2 F w0).bind fun r_26 =>
if r_26 ≤ s57.1 then (
some (.inr (s57.1, s57.2)))
else (
(F w0 2).bind fun a_30 =>
(F w0 29).bind fun a_32 =>
(p_ix S 20 a_32 s57.1).bind fun j_34 =>
(p_ix S 20 a_30 ((1 : Int32) + s57.1)).bind fun j_36 =>
p_let (v_up s57.2 a_30 j_36 (s57.2 a_32 j_34)) fun I_38 =>
(F w0 2).bind fun a_40 =>
(F w0 2).bind fun a_42 =>
(p_ix S 20 a_42 ((9 : Int32) + s57.1)).bind fun j_44 =>
(f_X10_lesser (99 : Int32) ((I_38 a_42 j_44) + (1 : Int32))).bind fun r_46 =>
(p_ix S 20 a_40 ((9 : Int32) + s57.1)).bind fun j_48 =>
p_let (v_up I_38 a_40 j_48 r_46) fun I_50 =>
p_let (s57.1 + (1 : Int32)) fun x_52 =>
some (.inl (x_52, I_50)))
def f_X10_minutePasses (S : v_S) (I : v_I) (F : v_F) (p0 : Nat) (p1 : Int32) : Option (Int32 × v_I) :=
(v_loop (f_X10_minutePasses_B4 S F p0 p1) FU ((0 : Int32), (0 : Int32), I)).bind fun q_24 =>
(v_loop (f_X10_minutePasses_B57 S F p0 q_24.1) FU ((0 : Int32), q_24.2.2)).bind fun q_54 =>
(p_ob S 10 p0).bind fun _ =>
(F p0 2).bind fun a_57 =>
(p_ix S 20 a_57 (0 : Int32)).bind fun j_59 =>
p_let (v_up q_54.2 a_57 j_59 q_24.1) fun I_61 =>
(F p0 2).bind fun a_63 =>
(p_ix S 20 a_63 (17 : Int32)).bind fun j_65 =>
(p_ix S 20 a_63 (17 : Int32)).bind fun j_67 =>
p_let (v_up I_61 a_63 j_67 ((I_61 a_63 j_65) + (1 : Int32))) fun I_69 =>
(f_X10_ones q_24.1).bind fun r_71 =>
some (r_71, I_69)
set_option maxHeartbeats 4000000 in
set_option maxRecDepth 100000 in
theorem t_X10_minutePasses {p0 : Nat} {p1 : Int32} {r : Int32 × v_I} (h : f_X10_minutePasses S I F p0 p1 = some r) : v_R l B D ac (v_EE B wa wb wt sb sL sx) yX10_minutePasses cX10_minutePasses 4 (some .int) 209 0 0 [.ref (B + p0), .int p1] S I J F (v_D (some (.int r.1)) S r.2 J F) := by
  refine v_R.of (by decide) (Nat.le_of_ble_eq_true rfl) fun d hd => ?_
  generalize hQ : v_D (some (.int r.1)) S r.2 J F = Q
  have b4 : ∀ (w0 : Nat) (w1 : Int32) (s4 : Int32 × Int32 × v_I) (rx4 : (Int32 × Int32 × v_I) ⊕ (Int32 × Int32 × v_I)), f_X10_minutePasses_B4 S F w0 w1 s4 = some rx4 → v_K (fun (sP : Int32 × Int32 × v_I) => V l B D ac (v_EE B wa wb wt sb sL sx) yX10_minutePasses cX10_minutePasses 4 (some .int) d 0 0 0 0 S sP.2.2 J F 4 [(0, .ref (B + w0)), (1, .int w1), (2, .int sP.1), (3, .int sP.2.1)] [] Q) (fun (rE : Int32 × Int32 × v_I) => V l B D ac (v_EE B wa wb wt sb sL sx) yX10_minutePasses cX10_minutePasses 4 (some .int) d 0 0 0 0 S rE.2.2 J F 55 [(0, .ref (B + w0)), (2, .int rE.1)] [] Q) rx4 → V l B D ac (v_EE B wa wb wt sb sL sx) yX10_minutePasses cX10_minutePasses 4 (some .int) d 0 0 0 0 S s4.2.2 J F 4 [(0, .ref (B + w0)), (1, .int w1), (2, .int s4.1), (3, .int s4.2.1)] [] Q := by
    intro w0 w1 s4 rx4 h hk
    have j36 : ∀ (I : v_I) (y3 : Int32) (z0 : Int32) (z1 : Int32), f_X10_minutePasses_J4_36 S F w0 w1 I y3 z0 z1 = some rx4 → V l B D ac (v_EE B wa wb wt sb sL sx) yX10_minutePasses cX10_minutePasses 4 (some .int) d 0 0 0 0 S I J F 36 [(0, .ref (B + w0)), (1, .int w1), (3, .int y3)] [.int z0, .int z1] Q := by
      intro I y3 z0 z1 h
      unfold f_X10_minutePasses_J4_36 at h
      refine v_ior dX10_minutePasses_36 ?_
      replace h := p_let_elim h
      obtain ⟨x_8, h_9, h⟩ := h
      rw [← h_9]
      refine v_istore_n dX10_minutePasses_37 (by decide) ?_
      refine v_sub [(0, .ref (B + w0)), (1, .int w1), (2, .int x_8), (3, .int y3)] ⟨rfl, rfl, rfl, rfl, trivial⟩ ?_
      refine v_aload_n dX10_minutePasses_38 rfl ?_
      replace h := p_bind_elim h
      obtain ⟨_, q_10, h⟩ := h
      have q_10 := p_ob_spec q_10
      replace h := p_bind_elim h
      obtain ⟨a_11, q_12, h⟩ := h
      refine v_getR q_12 rfl fl_X10_66 dX10_minutePasses_39 q_10 ?_
      refine v_iload_n dX10_minutePasses_42 rfl ?_
      refine v_aload_n dX10_minutePasses_43 rfl ?_
      refine v_iload_n dX10_minutePasses_44 rfl ?_
      replace h := p_bind_elim h
      obtain ⟨r_13, q_14, h⟩ := h
      refine v_cVr (t_X10_wantsNow q_14) cal_X10_wantsNow ml_X10_137 sel_X10_wantsNow q_10 kk_10 dX10_minutePasses_45 (by omega) (by decide) (by decide) (Nat.le_of_ble_eq_true rfl) rfl ?_
      replace h := p_bind_elim h
      obtain ⟨j_15, q_16, h⟩ := h
      refine v_iastP dX10_minutePasses_48 q_16 ?_
      replace h := p_let_elim h
      obtain ⟨I_17, h_18, h⟩ := h
      rw [← h_18]
      replace h := p_let_elim h
      obtain ⟨x_19, h_20, h⟩ := h
      refine v_iincE (1 : Int32) dX10_minutePasses_49 (by decide) rfl (by decide) ?_
      rw [← h_20]
      refine v_sub [(0, .ref (B + w0)), (1, .int w1), (2, .int x_8), (3, .int x_19)] ⟨rfl, rfl, rfl, rfl, trivial⟩ ?_
      refine v_goto 4 dX10_minutePasses_52 (by decide) ?_
      cases h
      refine v_sub [(0, .ref (B + w0)), (1, .int w1), (2, .int x_8), (3, .int x_19)] ⟨rfl, rfl, rfl, rfl, trivial⟩ ?_
      exact hk
    have j35 : ∀ (I : v_I) (y3 : Int32) (z0 : Int32), f_X10_minutePasses_J4_35 S F w0 w1 I y3 z0 = some rx4 → V l B D ac (v_EE B wa wb wt sb sL sx) yX10_minutePasses cX10_minutePasses 4 (some .int) d 0 0 0 0 S I J F 35 [(0, .ref (B + w0)), (1, .int w1), (3, .int y3)] [.int z0] Q := by
      intro I y3 z0 h
      unfold f_X10_minutePasses_J4_35 at h
      refine v_iconstE (0 : Int32) dX10_minutePasses_35 (by decide) ?_
      refine v_sub [(0, .ref (B + w0)), (1, .int w1), (3, .int y3)] ⟨rfl, rfl, rfl, trivial⟩ ?_
      exact j36 _ _ _ _ h
    unfold f_X10_minutePasses_B4 at h
    refine v_iload_n dX10_minutePasses_4 rfl ?_
    refine v_aload_n dX10_minutePasses_5 rfl ?_
    replace h := p_bind_elim h
    obtain ⟨_, q_3, h⟩ := h
    have q_3 := p_ob_spec q_3
    replace h := p_bind_elim h
    obtain ⟨r_1, q_2, h⟩ := h
    refine v_cVr (t_X10_many q_2) cal_X10_many ml_X10_109 sel_X10_many q_3 kk_10 dX10_minutePasses_6 (by omega) (by decide) (by decide) (Nat.le_of_ble_eq_true rfl) rfl ?_
    refine v_icmp_ge 55 dX10_minutePasses_9 (by decide) (fun c_4 => ?_) (fun c_4 => ?_)
    · rw [if_pos c_4] at h
      cases h
      refine v_sub [(0, .ref (B + w0)), (2, .int s4.1)] ⟨rfl, rfl, trivial⟩ ?_
      exact hk
    · rw [if_neg c_4] at h
      refine v_iload_n dX10_minutePasses_12 rfl ?_
      refine v_iload_n dX10_minutePasses_13 rfl ?_
      refine v_iload_n dX10_minutePasses_14 rfl ?_
      replace h := p_bind_elim h
      obtain ⟨r_5, q_6, h⟩ := h
      refine v_cSr (t_X10_isIn q_6) cal_X10_isIn ml_X10_113 sta_X10_isIn dX10_minutePasses_15 (by omega) (by decide) (by decide) (Nat.le_of_ble_eq_true rfl) rfl ?_
      refine v_if_ne 35 dX10_minutePasses_18 (by decide) (fun c_7 => ?_) (fun c_7 => ?_)
      · rw [if_neg c_7] at h
        refine v_sub [(0, .ref (B + w0)), (1, .int w1), (3, .int s4.2.1)] ⟨rfl, rfl, rfl, trivial⟩ ?_
        exact j35 _ _ _ h
      · rw [if_pos c_7] at h
        refine v_aload_n dX10_minutePasses_21 rfl ?_
        refine v_iload_n dX10_minutePasses_22 rfl ?_
        replace h := p_bind_elim h
        obtain ⟨r_21, q_22, h⟩ := h
        refine v_cVr (t_X10_opensNext q_22) cal_X10_opensNext ml_X10_143 sel_X10_opensNext q_3 kk_10 dX10_minutePasses_23 (by omega) (by decide) (by decide) (Nat.le_of_ble_eq_true rfl) rfl ?_
        refine v_if_eq 35 dX10_minutePasses_26 (by decide) (fun c_23 => ?_) (fun c_23 => ?_)
        · rw [if_pos c_23] at h
          refine v_sub [(0, .ref (B + w0)), (1, .int w1), (3, .int s4.2.1)] ⟨rfl, rfl, rfl, trivial⟩ ?_
          exact j35 _ _ _ h
        · rw [if_neg c_23] at h
          refine v_iconstE (1 : Int32) dX10_minutePasses_29 (by decide) ?_
          refine v_iload_n dX10_minutePasses_30 rfl ?_
          refine v_ishl dX10_minutePasses_31 ?_
          refine v_goto 36 dX10_minutePasses_32 (by decide) ?_
          refine v_sub [(0, .ref (B + w0)), (1, .int w1), (3, .int s4.2.1)] ⟨rfl, rfl, rfl, trivial⟩ ?_
          exact j36 _ _ _ _ h
  have b57 : ∀ (w0 : Nat) (w2 : Int32) (s57 : Int32 × v_I) (rx57 : (Int32 × v_I) ⊕ (Int32 × v_I)), f_X10_minutePasses_B57 S F w0 w2 s57 = some rx57 → v_K (fun (sP : Int32 × v_I) => V l B D ac (v_EE B wa wb wt sb sL sx) yX10_minutePasses cX10_minutePasses 4 (some .int) d 0 0 0 0 S sP.2 J F 57 [(0, .ref (B + w0)), (2, .int w2), (3, .int sP.1)] [] Q) (fun (rE : Int32 × v_I) => V l B D ac (v_EE B wa wb wt sb sL sx) yX10_minutePasses cX10_minutePasses 4 (some .int) d 0 0 0 0 S rE.2 J F 110 [(0, .ref (B + w0)), (2, .int w2)] [] Q) rx57 → V l B D ac (v_EE B wa wb wt sb sL sx) yX10_minutePasses cX10_minutePasses 4 (some .int) d 0 0 0 0 S s57.2 J F 57 [(0, .ref (B + w0)), (2, .int w2), (3, .int s57.1)] [] Q := by
    intro w0 w2 s57 rx57 h hk
    unfold f_X10_minutePasses_B57 at h
    refine v_iload_n dX10_minutePasses_57 rfl ?_
    refine v_aload_n dX10_minutePasses_58 rfl ?_
    replace h := p_bind_elim h
    obtain ⟨_, q_28, h⟩ := h
    have q_28 := p_ob_spec q_28
    replace h := p_bind_elim h
    obtain ⟨r_26, q_27, h⟩ := h
    refine v_cVr (t_X10_many q_27) cal_X10_many ml_X10_109 sel_X10_many q_28 kk_10 dX10_minutePasses_59 (by omega) (by decide) (by decide) (Nat.le_of_ble_eq_true rfl) rfl ?_
    refine v_icmp_ge 110 dX10_minutePasses_62 (by decide) (fun c_29 => ?_) (fun c_29 => ?_)
    · rw [if_pos c_29] at h
      cases h
      refine v_sub [(0, .ref (B + w0)), (2, .int w2)] ⟨rfl, rfl, trivial⟩ ?_
      exact hk
    · rw [if_neg c_29] at h
      refine v_aload_n dX10_minutePasses_65 rfl ?_
      replace h := p_bind_elim h
      obtain ⟨a_30, q_31, h⟩ := h
      refine v_getR q_31 rfl fl_X10_28 dX10_minutePasses_66 q_28 ?_
      refine v_iconstE (1 : Int32) dX10_minutePasses_69 (by decide) ?_
      refine v_iload_n dX10_minutePasses_70 rfl ?_
      refine v_iadd dX10_minutePasses_71 ?_
      refine v_aload_n dX10_minutePasses_72 rfl ?_
      replace h := p_bind_elim h
      obtain ⟨a_32, q_33, h⟩ := h
      refine v_getR q_33 rfl fl_X10_66 dX10_minutePasses_73 q_28 ?_
      refine v_iload_n dX10_minutePasses_76 rfl ?_
      replace h := p_bind_elim h
      obtain ⟨j_34, q_35, h⟩ := h
      refine v_ialdP dX10_minutePasses_77 q_35 ?_
      replace h := p_bind_elim h
      obtain ⟨j_36, q_37, h⟩ := h
      refine v_iastP dX10_minutePasses_78 q_37 ?_
      replace h := p_let_elim h
      obtain ⟨I_38, h_39, h⟩ := h
      rw [← h_39]
      refine v_aload_n dX10_minutePasses_79 rfl ?_
      replace h := p_bind_elim h
      obtain ⟨a_40, q_41, h⟩ := h
      refine v_getR q_41 rfl fl_X10_28 dX10_minutePasses_80 q_28 ?_
      refine v_bipush (9 : Int32) dX10_minutePasses_83 (by decide) ?_
      refine v_iload_n dX10_minutePasses_85 rfl ?_
      refine v_iadd dX10_minutePasses_86 ?_
      refine v_bipush (99 : Int32) dX10_minutePasses_87 (by decide) ?_
      refine v_aload_n dX10_minutePasses_89 rfl ?_
      replace h := p_bind_elim h
      obtain ⟨a_42, q_43, h⟩ := h
      refine v_getR q_43 rfl fl_X10_28 dX10_minutePasses_90 q_28 ?_
      refine v_bipush (9 : Int32) dX10_minutePasses_93 (by decide) ?_
      refine v_iload_n dX10_minutePasses_95 rfl ?_
      refine v_iadd dX10_minutePasses_96 ?_
      replace h := p_bind_elim h
      obtain ⟨j_44, q_45, h⟩ := h
      refine v_ialdP dX10_minutePasses_97 q_45 ?_
      refine v_iconstE (1 : Int32) dX10_minutePasses_98 (by decide) ?_
      refine v_iadd dX10_minutePasses_99 ?_
      replace h := p_bind_elim h
      obtain ⟨r_46, q_47, h⟩ := h
      refine v_cSr (t_X10_lesser q_47) cal_X10_lesser ml_X10_345 sta_X10_lesser dX10_minutePasses_100 (by omega) (by decide) (by decide) (Nat.le_of_ble_eq_true rfl) rfl ?_
      replace h := p_bind_elim h
      obtain ⟨j_48, q_49, h⟩ := h
      refine v_iastP dX10_minutePasses_103 q_49 ?_
      replace h := p_let_elim h
      obtain ⟨I_50, h_51, h⟩ := h
      rw [← h_51]
      replace h := p_let_elim h
      obtain ⟨x_52, h_53, h⟩ := h
      refine v_iincE (1 : Int32) dX10_minutePasses_104 (by decide) rfl (by decide) ?_
      rw [← h_53]
      refine v_sub [(0, .ref (B + w0)), (2, .int w2), (3, .int x_52)] ⟨rfl, rfl, rfl, trivial⟩ ?_
      refine v_goto 57 dX10_minutePasses_107 (by decide) ?_
      cases h
      refine v_sub [(0, .ref (B + w0)), (2, .int w2), (3, .int x_52)] ⟨rfl, rfl, rfl, trivial⟩ ?_
      exact hk
  unfold f_X10_minutePasses at h
  refine v_sub [(0, .ref (B + p0)), (1, .int p1)] ⟨rfl, rfl, trivial⟩ ?_
  refine v_iconstE (0 : Int32) dX10_minutePasses_0 (by decide) ?_
  refine v_istore_n dX10_minutePasses_1 (by decide) ?_
  refine v_sub [(0, .ref (B + p0)), (1, .int p1), (2, .int (0 : Int32))] ⟨rfl, rfl, rfl, trivial⟩ ?_
  refine v_iconstE (0 : Int32) dX10_minutePasses_2 (by decide) ?_
  refine v_istore_n dX10_minutePasses_3 (by decide) ?_
  refine v_sub [(0, .ref (B + p0)), (1, .int p1), (2, .int (0 : Int32)), (3, .int (0 : Int32))] ⟨rfl, rfl, rfl, rfl, trivial⟩ ?_
  replace h := p_bind_elim h
  obtain ⟨q_24, h_25, h⟩ := h
  refine v_sub [(0, .ref (B + p0)), (1, .int p1), (2, .int (0 : Int32)), (3, .int (0 : Int32))] ⟨rfl, rfl, rfl, rfl, trivial⟩ ?_
  refine v_loopV (fun (sP : Int32 × Int32 × v_I) => V l B D ac (v_EE B wa wb wt sb sL sx) yX10_minutePasses cX10_minutePasses 4 (some .int) d 0 0 0 0 S sP.2.2 J F 4 [(0, .ref (B + p0)), (1, .int p1), (2, .int sP.1), (3, .int sP.2.1)] [] Q) (fun (rE : Int32 × Int32 × v_I) => V l B D ac (v_EE B wa wb wt sb sL sx) yX10_minutePasses cX10_minutePasses 4 (some .int) d 0 0 0 0 S rE.2.2 J F 55 [(0, .ref (B + p0)), (2, .int rE.1)] [] Q) (fun s_ x_ hb hk => b4 _ _ s_ x_ hb hk) (r := q_24) ?_ h_25
  try dsimp only
  refine v_iconstE (0 : Int32) dX10_minutePasses_55 (by decide) ?_
  refine v_istore_n dX10_minutePasses_56 (by decide) ?_
  refine v_sub [(0, .ref (B + p0)), (2, .int q_24.1), (3, .int (0 : Int32))] ⟨rfl, rfl, rfl, trivial⟩ ?_
  replace h := p_bind_elim h
  obtain ⟨q_54, h_55, h⟩ := h
  refine v_sub [(0, .ref (B + p0)), (2, .int q_24.1), (3, .int (0 : Int32))] ⟨rfl, rfl, rfl, trivial⟩ ?_
  refine v_loopV (fun (sP : Int32 × v_I) => V l B D ac (v_EE B wa wb wt sb sL sx) yX10_minutePasses cX10_minutePasses 4 (some .int) d 0 0 0 0 S sP.2 J F 57 [(0, .ref (B + p0)), (2, .int q_24.1), (3, .int sP.1)] [] Q) (fun (rE : Int32 × v_I) => V l B D ac (v_EE B wa wb wt sb sL sx) yX10_minutePasses cX10_minutePasses 4 (some .int) d 0 0 0 0 S rE.2 J F 110 [(0, .ref (B + p0)), (2, .int q_24.1)] [] Q) (fun s_ x_ hb hk => b57 _ _ s_ x_ hb hk) (r := q_54) ?_ h_55
  try dsimp only
  refine v_aload_n dX10_minutePasses_110 rfl ?_
  replace h := p_bind_elim h
  obtain ⟨_, q_56, h⟩ := h
  have q_56 := p_ob_spec q_56
  replace h := p_bind_elim h
  obtain ⟨a_57, q_58, h⟩ := h
  refine v_getR q_58 rfl fl_X10_28 dX10_minutePasses_111 q_56 ?_
  refine v_iconstE (0 : Int32) dX10_minutePasses_114 (by decide) ?_
  refine v_iload_n dX10_minutePasses_115 rfl ?_
  replace h := p_bind_elim h
  obtain ⟨j_59, q_60, h⟩ := h
  refine v_iastP dX10_minutePasses_116 q_60 ?_
  replace h := p_let_elim h
  obtain ⟨I_61, h_62, h⟩ := h
  rw [← h_62]
  refine v_aload_n dX10_minutePasses_117 rfl ?_
  replace h := p_bind_elim h
  obtain ⟨a_63, q_64, h⟩ := h
  refine v_getR q_64 rfl fl_X10_28 dX10_minutePasses_118 q_56 ?_
  refine v_bipush (17 : Int32) dX10_minutePasses_121 (by decide) ?_
  refine v_dup2 dX10_minutePasses_123 rfl rfl ?_
  replace h := p_bind_elim h
  obtain ⟨j_65, q_66, h⟩ := h
  refine v_ialdP dX10_minutePasses_124 q_66 ?_
  refine v_iconstE (1 : Int32) dX10_minutePasses_125 (by decide) ?_
  refine v_iadd dX10_minutePasses_126 ?_
  replace h := p_bind_elim h
  obtain ⟨j_67, q_68, h⟩ := h
  refine v_iastP dX10_minutePasses_127 q_68 ?_
  replace h := p_let_elim h
  obtain ⟨I_69, h_70, h⟩ := h
  rw [← h_70]
  refine v_iload_n dX10_minutePasses_128 rfl ?_
  replace h := p_bind_elim h
  obtain ⟨r_71, q_72, h⟩ := h
  refine v_cSr (t_X10_ones q_72) cal_X10_ones ml_X10_313 sta_X10_ones dX10_minutePasses_129 (by omega) (by decide) (by decide) (Nat.le_of_ble_eq_true rfl) rfl ?_
  cases h
  exact v_iret dX10_minutePasses_132 rfl (by decide) (by decide) (by rw [← hQ]; exact ⟨rfl, rfl, rfl, rfl, rfl⟩)

def f_X10_passesKept (S : v_S) (I : v_I) (F : v_F) (p0 : Nat) : Option (Int32 × v_I) :=
(p_ob S 10 p0).bind fun _ =>
(F p0 2).bind fun a_2 =>
(p_ix S 20 a_2 (17 : Int32)).bind fun j_4 =>
if (I a_2 j_4) = (999 : Int32) then (
some ((-3 : Int32), I))
else (
(f_X10_keeps S I F p0 (3 : Int32)).bind fun r_7 =>
(f_X10_minutePasses S r_7 F p0 (0 : Int32)).bind fun r_9 =>
some (r_9.1, r_9.2))
set_option maxHeartbeats 4000000 in
set_option maxRecDepth 100000 in
theorem t_X10_passesKept {p0 : Nat} {r : Int32 × v_I} (h : f_X10_passesKept S I F p0 = some r) : v_R l B D ac (v_EE B wa wb wt sb sL sx) yX10_passesKept cX10_passesKept 1 (some .int) 210 0 0 [.ref (B + p0)] S I J F (v_D (some (.int r.1)) S r.2 J F) := by
  refine v_R.of (by decide) (Nat.le_of_ble_eq_true rfl) fun d hd => ?_
  generalize hQ : v_D (some (.int r.1)) S r.2 J F = Q
  unfold f_X10_passesKept at h
  refine v_sub [(0, .ref (B + p0))] ⟨rfl, trivial⟩ ?_
  refine v_aload_n dX10_passesKept_0 rfl ?_
  replace h := p_bind_elim h
  obtain ⟨_, q_1, h⟩ := h
  have q_1 := p_ob_spec q_1
  replace h := p_bind_elim h
  obtain ⟨a_2, q_3, h⟩ := h
  refine v_getR q_3 rfl fl_X10_28 dX10_passesKept_1 q_1 ?_
  refine v_bipush (17 : Int32) dX10_passesKept_4 (by decide) ?_
  replace h := p_bind_elim h
  obtain ⟨j_4, q_5, h⟩ := h
  refine v_ialdP dX10_passesKept_6 q_5 ?_
  refine v_sipush (999 : Int32) dX10_passesKept_7 (by decide) ?_
  refine v_icmp_ne 16 dX10_passesKept_10 (by decide) (fun c_6 => ?_) (fun c_6 => ?_)
  · rw [if_neg c_6] at h
    refine v_aload_n dX10_passesKept_16 rfl ?_
    refine v_iconstE (3 : Int32) dX10_passesKept_17 (by decide) ?_
    replace h := p_bind_elim h
    obtain ⟨r_7, q_8, h⟩ := h
    refine v_cVn (t_X10_keeps q_8) cal_X10_keeps ml_X10_348 sel_X10_keeps q_1 kk_10 dX10_passesKept_18 (by omega) (by decide) (by decide) (Nat.le_of_ble_eq_true rfl) rfl ?_
    refine v_aload_n dX10_passesKept_21 rfl ?_
    refine v_iconstE (0 : Int32) dX10_passesKept_22 (by decide) ?_
    replace h := p_bind_elim h
    obtain ⟨r_9, q_10, h⟩ := h
    refine v_cVr (t_X10_minutePasses q_10) cal_X10_minutePasses ml_X10_354 sel_X10_minutePasses q_1 kk_10 dX10_passesKept_23 (by omega) (by decide) (by decide) (Nat.le_of_ble_eq_true rfl) rfl ?_
    cases h
    exact v_iret dX10_passesKept_26 rfl (by decide) (by decide) (by rw [← hQ]; exact ⟨rfl, rfl, rfl, rfl, rfl⟩)
  · rw [if_pos c_6] at h
    refine v_bipush (-3 : Int32) dX10_passesKept_13 (by decide) ?_
    cases h
    exact v_iret dX10_passesKept_15 rfl (by decide) (by decide) (by rw [← hQ]; exact ⟨rfl, rfl, rfl, rfl, rfl⟩)

def f_X10_pass (S : v_S) (I : v_I) (F : v_F) (p0 : Nat) : Option (Int32 × v_I) :=
(p_ob S 10 p0).bind fun _ =>
(f_X10_passesKept S I F p0).bind fun r_1 =>
(f_X10_goodOr S r_1.2 F p0 r_1.1).bind fun r_4 =>
some (r_4.1, r_4.2)
set_option maxHeartbeats 4000000 in
set_option maxRecDepth 100000 in
theorem t_X10_pass {p0 : Nat} {r : Int32 × v_I} (h : f_X10_pass S I F p0 = some r) : v_R l B D ac (v_EE B wa wb wt sb sL sx) yX10_pass cX10_pass 1 (some .int) 211 0 0 [.ref (B + p0)] S I J F (v_D (some (.int r.1)) S r.2 J F) := by
  refine v_R.of (by decide) (Nat.le_of_ble_eq_true rfl) fun d hd => ?_
  generalize hQ : v_D (some (.int r.1)) S r.2 J F = Q
  unfold f_X10_pass at h
  refine v_sub [(0, .ref (B + p0))] ⟨rfl, trivial⟩ ?_
  refine v_aload_n dX10_pass_0 rfl ?_
  refine v_aload_n dX10_pass_1 rfl ?_
  replace h := p_bind_elim h
  obtain ⟨_, q_3, h⟩ := h
  have q_3 := p_ob_spec q_3
  replace h := p_bind_elim h
  obtain ⟨r_1, q_2, h⟩ := h
  refine v_cVr (t_X10_passesKept q_2) cal_X10_passesKept ml_X10_369 sel_X10_passesKept q_3 kk_10 dX10_pass_2 (by omega) (by decide) (by decide) (Nat.le_of_ble_eq_true rfl) rfl ?_
  replace h := p_bind_elim h
  obtain ⟨r_4, q_5, h⟩ := h
  refine v_cVr (t_X10_goodOr q_5) cal_X10_goodOr ml_X10_360 sel_X10_goodOr q_3 kk_10 dX10_pass_5 (by omega) (by decide) (by decide) (Nat.le_of_ble_eq_true rfl) rfl ?_
  cases h
  exact v_iret dX10_pass_8 rfl (by decide) (by decide) (by rw [← hQ]; exact ⟨rfl, rfl, rfl, rfl, rfl⟩)

def f_X10_laysMinutes_B42 (S : v_S) (F : v_F) (w0 : Nat) (w3 : Int32) (w4 : Int32) (s42 : Int32 × v_I) : Option ((Int32 × v_I) ⊕ (Int32 × v_I)) :=
if (60 : Int32) ≤ s42.1 then (
some (.inr (s42.1, s42.2)))
else (
(p_ob S 10 w0).bind fun _ =>
(F w0 33).bind fun a_26 =>
(p_ix S 20 a_26 s42.1).bind fun j_28 =>
if ((s42.2 a_26 j_28) &&& w4) = w4 then (
some (.inr (s42.1, s42.2)))
else (
(f_X10_isSettled S s42.2 F w0 s42.1).bind fun r_31 =>
if r_31 = (0 : Int32) then (
(f_X10_minutePasses S s42.2 F w0 w3).bind fun r_34 =>
p_let (s42.1 + (1 : Int32)) fun x_36 =>
(F w0 33).bind fun a_38 =>
(F w0 2).bind fun a_40 =>
(p_ix S 20 a_40 (0 : Int32)).bind fun j_42 =>
(p_ix S 20 a_38 x_36).bind fun j_44 =>
p_let (v_up r_34.2 a_38 j_44 (r_34.2 a_40 j_42)) fun I_46 =>
some (.inl (x_36, I_46)))
else (
some (.inr (s42.1, s42.2)))))
def f_X10_laysMinutes_B118 (S : v_S) (F : v_F) (w0 : Nat) (w5 : Int32) (s118 : Int32 × v_I) : Option ((Int32 × v_I) ⊕ (Int32 × v_I)) :=
if (60 : Int32) < s118.1 then (
some (.inr (s118.1, s118.2)))
else (
(p_ob S 10 w0).bind fun _ =>
(F w0 33).bind fun a_60 =>
(F w0 33).bind fun a_62 =>
(p_ix S 20 a_62 w5).bind fun j_64 =>
(p_ix S 20 a_60 s118.1).bind fun j_66 =>
p_let (v_up s118.2 a_60 j_66 (s118.2 a_62 j_64)) fun I_68 =>
p_let (s118.1 + (1 : Int32)) fun x_70 =>
some (.inl (x_70, I_68)))
def f_X10_laysMinutes_J98 (S : v_S) (F : v_F) (I : v_I) (y0 : Nat) (y5 : Int32) : Option (Int32 × v_I) :=
(p_ob S 10 y0).bind fun _ =>
(f_X10_takesBack S I F y0 (0 : Int32)).bind fun r_50 =>
(f_X10_isSettled S r_50 F y0 y5).bind fun r_53 =>
if r_53 = (0 : Int32) then (
some (y5, r_50))
else (
p_let (y5 + (1 : Int32)) fun x_56 =>
(v_loop (f_X10_laysMinutes_B118 S F y0 y5) FU (x_56, r_50)).bind fun q_72 =>
some (y5, q_72.2))
def f_X10_laysMinutes (S : v_S) (I : v_I) (F : v_F) (p0 : Nat) (p1 : Int32) (p2 : Int32) (p3 : Int32) (p4 : Int32) : Option (Int32 × v_I) :=
(p_ob S 10 p0).bind fun _ =>
(f_X10_laysAside S I F p0 (0 : Int32)).bind fun r_1 =>
(F p0 2).bind fun a_4 =>
(F p0 2).bind fun a_6 =>
(p_ix S 20 a_6 (0 : Int32)).bind fun j_8 =>
(p_ix S 20 a_4 (0 : Int32)).bind fun j_10 =>
p_let (v_up r_1 a_4 j_10 ((((r_1 a_6 j_8) ||| p1) &&& (p2 ^^^ (-1 : Int32))) &&& (p3 ^^^ (-1 : Int32)))) fun I_12 =>
(F p0 33).bind fun a_14 =>
(F p0 2).bind fun a_16 =>
(p_ix S 20 a_16 (0 : Int32)).bind fun j_18 =>
(p_ix S 20 a_14 (0 : Int32)).bind fun j_20 =>
p_let (v_up I_12 a_14 j_20 (I_12 a_16 j_18)) fun I_22 =>
(v_loop (f_X10_laysMinutes_B42 S F p0 p3 p4) FU ((0 : Int32), I_22)).bind fun q_48 =>
f_X10_laysMinutes_J98 S F q_48.2 p0 q_48.1
set_option maxHeartbeats 4000000 in
set_option maxRecDepth 100000 in
theorem t_X10_laysMinutes {p0 : Nat} {p1 : Int32} {p2 : Int32} {p3 : Int32} {p4 : Int32} {r : Int32 × v_I} (h : f_X10_laysMinutes S I F p0 p1 p2 p3 p4 = some r) : v_R l B D ac (v_EE B wa wb wt sb sL sx) yX10_laysMinutes cX10_laysMinutes 7 (some .int) 210 0 0 [.ref (B + p0), .int p1, .int p2, .int p3, .int p4] S I J F (v_D (some (.int r.1)) S r.2 J F) := by
  refine v_R.of (by decide) (Nat.le_of_ble_eq_true rfl) fun d hd => ?_
  generalize hQ : v_D (some (.int r.1)) S r.2 J F = Q
  have b42 : ∀ (w0 : Nat) (w3 : Int32) (w4 : Int32) (s42 : Int32 × v_I) (rx42 : (Int32 × v_I) ⊕ (Int32 × v_I)), f_X10_laysMinutes_B42 S F w0 w3 w4 s42 = some rx42 → v_K (fun (sP : Int32 × v_I) => V l B D ac (v_EE B wa wb wt sb sL sx) yX10_laysMinutes cX10_laysMinutes 7 (some .int) d 0 0 0 0 S sP.2 J F 42 [(0, .ref (B + w0)), (3, .int w3), (4, .int w4), (5, .int sP.1)] [] Q) (fun (rE : Int32 × v_I) => V l B D ac (v_EE B wa wb wt sb sL sx) yX10_laysMinutes cX10_laysMinutes 7 (some .int) d 0 0 0 0 S rE.2 J F 98 [(0, .ref (B + w0)), (5, .int rE.1)] [] Q) rx42 → V l B D ac (v_EE B wa wb wt sb sL sx) yX10_laysMinutes cX10_laysMinutes 7 (some .int) d 0 0 0 0 S s42.2 J F 42 [(0, .ref (B + w0)), (3, .int w3), (4, .int w4), (5, .int s42.1)] [] Q := by
    intro w0 w3 w4 s42 rx42 h hk
    unfold f_X10_laysMinutes_B42 at h
    refine v_iload dX10_laysMinutes_42 rfl ?_
    refine v_bipush (60 : Int32) dX10_laysMinutes_44 (by decide) ?_
    refine v_icmp_ge 98 dX10_laysMinutes_46 (by decide) (fun c_24 => ?_) (fun c_24 => ?_)
    · rw [if_pos c_24] at h
      cases h
      refine v_sub [(0, .ref (B + w0)), (5, .int s42.1)] ⟨rfl, rfl, trivial⟩ ?_
      exact hk
    · rw [if_neg c_24] at h
      refine v_aload_n dX10_laysMinutes_49 rfl ?_
      replace h := p_bind_elim h
      obtain ⟨_, q_25, h⟩ := h
      have q_25 := p_ob_spec q_25
      replace h := p_bind_elim h
      obtain ⟨a_26, q_27, h⟩ := h
      refine v_getR q_27 rfl fl_X10_75 dX10_laysMinutes_50 q_25 ?_
      refine v_iload dX10_laysMinutes_53 rfl ?_
      replace h := p_bind_elim h
      obtain ⟨j_28, q_29, h⟩ := h
      refine v_ialdP dX10_laysMinutes_55 q_29 ?_
      refine v_iload dX10_laysMinutes_56 rfl ?_
      refine v_iand dX10_laysMinutes_58 ?_
      refine v_iload dX10_laysMinutes_59 rfl ?_
      refine v_icmp_eq 98 dX10_laysMinutes_61 (by decide) (fun c_30 => ?_) (fun c_30 => ?_)
      · rw [if_pos c_30] at h
        cases h
        refine v_sub [(0, .ref (B + w0)), (5, .int s42.1)] ⟨rfl, rfl, trivial⟩ ?_
        exact hk
      · rw [if_neg c_30] at h
        refine v_aload_n dX10_laysMinutes_64 rfl ?_
        refine v_iload dX10_laysMinutes_65 rfl ?_
        replace h := p_bind_elim h
        obtain ⟨r_31, q_32, h⟩ := h
        refine v_cVr (t_X10_isSettled q_32) cal_X10_isSettled ml_X10_375 sel_X10_isSettled q_25 kk_10 dX10_laysMinutes_67 (by omega) (by decide) (by decide) (Nat.le_of_ble_eq_true rfl) rfl ?_
        refine v_if_ne 98 dX10_laysMinutes_70 (by decide) (fun c_33 => ?_) (fun c_33 => ?_)
        · rw [if_neg c_33] at h
          cases h
          refine v_sub [(0, .ref (B + w0)), (5, .int s42.1)] ⟨rfl, rfl, trivial⟩ ?_
          exact hk
        · rw [if_pos c_33] at h
          refine v_aload_n dX10_laysMinutes_73 rfl ?_
          refine v_iload_n dX10_laysMinutes_74 rfl ?_
          replace h := p_bind_elim h
          obtain ⟨r_34, q_35, h⟩ := h
          refine v_cVr (t_X10_minutePasses q_35) cal_X10_minutePasses ml_X10_354 sel_X10_minutePasses q_25 kk_10 dX10_laysMinutes_75 (by omega) (by decide) (by decide) (Nat.le_of_ble_eq_true rfl) rfl ?_
          refine v_pop dX10_laysMinutes_78 rfl ?_
          replace h := p_let_elim h
          obtain ⟨x_36, h_37, h⟩ := h
          refine v_iincE (1 : Int32) dX10_laysMinutes_79 (by decide) rfl (by decide) ?_
          rw [← h_37]
          refine v_sub [(0, .ref (B + w0)), (3, .int w3), (4, .int w4), (5, .int x_36)] ⟨rfl, rfl, rfl, rfl, trivial⟩ ?_
          refine v_aload_n dX10_laysMinutes_82 rfl ?_
          replace h := p_bind_elim h
          obtain ⟨a_38, q_39, h⟩ := h
          refine v_getR q_39 rfl fl_X10_75 dX10_laysMinutes_83 q_25 ?_
          refine v_iload dX10_laysMinutes_86 rfl ?_
          refine v_aload_n dX10_laysMinutes_88 rfl ?_
          replace h := p_bind_elim h
          obtain ⟨a_40, q_41, h⟩ := h
          refine v_getR q_41 rfl fl_X10_28 dX10_laysMinutes_89 q_25 ?_
          refine v_iconstE (0 : Int32) dX10_laysMinutes_92 (by decide) ?_
          replace h := p_bind_elim h
          obtain ⟨j_42, q_43, h⟩ := h
          refine v_ialdP dX10_laysMinutes_93 q_43 ?_
          replace h := p_bind_elim h
          obtain ⟨j_44, q_45, h⟩ := h
          refine v_iastP dX10_laysMinutes_94 q_45 ?_
          replace h := p_let_elim h
          obtain ⟨I_46, h_47, h⟩ := h
          rw [← h_47]
          refine v_goto 42 dX10_laysMinutes_95 (by decide) ?_
          cases h
          refine v_sub [(0, .ref (B + w0)), (3, .int w3), (4, .int w4), (5, .int x_36)] ⟨rfl, rfl, rfl, rfl, trivial⟩ ?_
          exact hk
  have b118 : ∀ (w0 : Nat) (w5 : Int32) (s118 : Int32 × v_I) (rx118 : (Int32 × v_I) ⊕ (Int32 × v_I)), f_X10_laysMinutes_B118 S F w0 w5 s118 = some rx118 → v_K (fun (sP : Int32 × v_I) => V l B D ac (v_EE B wa wb wt sb sL sx) yX10_laysMinutes cX10_laysMinutes 7 (some .int) d 0 0 0 0 S sP.2 J F 118 [(0, .ref (B + w0)), (5, .int w5), (6, .int sP.1)] [] Q) (fun (rE : Int32 × v_I) => V l B D ac (v_EE B wa wb wt sb sL sx) yX10_laysMinutes cX10_laysMinutes 7 (some .int) d 0 0 0 0 S rE.2 J F 145 [(5, .int w5)] [] Q) rx118 → V l B D ac (v_EE B wa wb wt sb sL sx) yX10_laysMinutes cX10_laysMinutes 7 (some .int) d 0 0 0 0 S s118.2 J F 118 [(0, .ref (B + w0)), (5, .int w5), (6, .int s118.1)] [] Q := by
    intro w0 w5 s118 rx118 h hk
    unfold f_X10_laysMinutes_B118 at h
    refine v_iload dX10_laysMinutes_118 rfl ?_
    refine v_bipush (60 : Int32) dX10_laysMinutes_120 (by decide) ?_
    refine v_icmp_gt 145 dX10_laysMinutes_122 (by decide) (fun c_58 => ?_) (fun c_58 => ?_)
    · rw [if_pos c_58] at h
      cases h
      refine v_sub [(5, .int w5)] ⟨rfl, trivial⟩ ?_
      exact hk
    · rw [if_neg c_58] at h
      refine v_aload_n dX10_laysMinutes_125 rfl ?_
      replace h := p_bind_elim h
      obtain ⟨_, q_59, h⟩ := h
      have q_59 := p_ob_spec q_59
      replace h := p_bind_elim h
      obtain ⟨a_60, q_61, h⟩ := h
      refine v_getR q_61 rfl fl_X10_75 dX10_laysMinutes_126 q_59 ?_
      refine v_iload dX10_laysMinutes_129 rfl ?_
      refine v_aload_n dX10_laysMinutes_131 rfl ?_
      replace h := p_bind_elim h
      obtain ⟨a_62, q_63, h⟩ := h
      refine v_getR q_63 rfl fl_X10_75 dX10_laysMinutes_132 q_59 ?_
      refine v_iload dX10_laysMinutes_135 rfl ?_
      replace h := p_bind_elim h
      obtain ⟨j_64, q_65, h⟩ := h
      refine v_ialdP dX10_laysMinutes_137 q_65 ?_
      replace h := p_bind_elim h
      obtain ⟨j_66, q_67, h⟩ := h
      refine v_iastP dX10_laysMinutes_138 q_67 ?_
      replace h := p_let_elim h
      obtain ⟨I_68, h_69, h⟩ := h
      rw [← h_69]
      replace h := p_let_elim h
      obtain ⟨x_70, h_71, h⟩ := h
      refine v_iincE (1 : Int32) dX10_laysMinutes_139 (by decide) rfl (by decide) ?_
      rw [← h_71]
      refine v_sub [(0, .ref (B + w0)), (5, .int w5), (6, .int x_70)] ⟨rfl, rfl, rfl, trivial⟩ ?_
      refine v_goto 118 dX10_laysMinutes_142 (by decide) ?_
      cases h
      refine v_sub [(0, .ref (B + w0)), (5, .int w5), (6, .int x_70)] ⟨rfl, rfl, rfl, trivial⟩ ?_
      exact hk
  have j98 : ∀ (I : v_I) (y0 : Nat) (y5 : Int32), f_X10_laysMinutes_J98 S F I y0 y5 = some r → V l B D ac (v_EE B wa wb wt sb sL sx) yX10_laysMinutes cX10_laysMinutes 7 (some .int) d 0 0 0 0 S I J F 98 [(0, .ref (B + y0)), (5, .int y5)] [] Q := by
    intro I y0 y5 h
    unfold f_X10_laysMinutes_J98 at h
    refine v_aload_n dX10_laysMinutes_98 rfl ?_
    refine v_iconstE (0 : Int32) dX10_laysMinutes_99 (by decide) ?_
    replace h := p_bind_elim h
    obtain ⟨_, q_52, h⟩ := h
    have q_52 := p_ob_spec q_52
    replace h := p_bind_elim h
    obtain ⟨r_50, q_51, h⟩ := h
    refine v_cVn (t_X10_takesBack q_51) cal_X10_takesBack ml_X10_378 sel_X10_takesBack q_52 kk_10 dX10_laysMinutes_100 (by omega) (by decide) (by decide) (Nat.le_of_ble_eq_true rfl) rfl ?_
    refine v_aload_n dX10_laysMinutes_103 rfl ?_
    refine v_iload dX10_laysMinutes_104 rfl ?_
    replace h := p_bind_elim h
    obtain ⟨r_53, q_54, h⟩ := h
    refine v_cVr (t_X10_isSettled q_54) cal_X10_isSettled ml_X10_375 sel_X10_isSettled q_52 kk_10 dX10_laysMinutes_106 (by omega) (by decide) (by decide) (Nat.le_of_ble_eq_true rfl) rfl ?_
    refine v_if_eq 145 dX10_laysMinutes_109 (by decide) (fun c_55 => ?_) (fun c_55 => ?_)
    · rw [if_pos c_55] at h
      refine v_iload dX10_laysMinutes_145 rfl ?_
      cases h
      exact v_iret dX10_laysMinutes_147 rfl (by decide) (by decide) (by rw [← hQ]; exact ⟨rfl, rfl, rfl, rfl, rfl⟩)
    · rw [if_neg c_55] at h
      refine v_iload dX10_laysMinutes_112 rfl ?_
      refine v_iconstE (1 : Int32) dX10_laysMinutes_114 (by decide) ?_
      refine v_iadd dX10_laysMinutes_115 ?_
      replace h := p_let_elim h
      obtain ⟨x_56, h_57, h⟩ := h
      rw [← h_57]
      refine v_istore dX10_laysMinutes_116 (by decide) ?_
      refine v_sub [(0, .ref (B + y0)), (5, .int y5), (6, .int x_56)] ⟨rfl, rfl, rfl, trivial⟩ ?_
      replace h := p_bind_elim h
      obtain ⟨q_72, h_73, h⟩ := h
      refine v_sub [(0, .ref (B + y0)), (5, .int y5), (6, .int x_56)] ⟨rfl, rfl, rfl, trivial⟩ ?_
      refine v_loopV (fun (sP : Int32 × v_I) => V l B D ac (v_EE B wa wb wt sb sL sx) yX10_laysMinutes cX10_laysMinutes 7 (some .int) d 0 0 0 0 S sP.2 J F 118 [(0, .ref (B + y0)), (5, .int y5), (6, .int sP.1)] [] Q) (fun (rE : Int32 × v_I) => V l B D ac (v_EE B wa wb wt sb sL sx) yX10_laysMinutes cX10_laysMinutes 7 (some .int) d 0 0 0 0 S rE.2 J F 145 [(5, .int y5)] [] Q) (fun s_ x_ hb hk => b118 _ _ s_ x_ hb hk) (r := q_72) ?_ h_73
      try dsimp only
      refine v_iload dX10_laysMinutes_145 rfl ?_
      cases h
      exact v_iret dX10_laysMinutes_147 rfl (by decide) (by decide) (by rw [← hQ]; exact ⟨rfl, rfl, rfl, rfl, rfl⟩)
  unfold f_X10_laysMinutes at h
  refine v_sub [(0, .ref (B + p0)), (1, .int p1), (2, .int p2), (3, .int p3), (4, .int p4)] ⟨rfl, rfl, rfl, rfl, rfl, trivial⟩ ?_
  refine v_aload_n dX10_laysMinutes_0 rfl ?_
  refine v_iconstE (0 : Int32) dX10_laysMinutes_1 (by decide) ?_
  replace h := p_bind_elim h
  obtain ⟨_, q_3, h⟩ := h
  have q_3 := p_ob_spec q_3
  replace h := p_bind_elim h
  obtain ⟨r_1, q_2, h⟩ := h
  refine v_cVn (t_X10_laysAside q_2) cal_X10_laysAside ml_X10_372 sel_X10_laysAside q_3 kk_10 dX10_laysMinutes_2 (by omega) (by decide) (by decide) (Nat.le_of_ble_eq_true rfl) rfl ?_
  refine v_aload_n dX10_laysMinutes_5 rfl ?_
  replace h := p_bind_elim h
  obtain ⟨a_4, q_5, h⟩ := h
  refine v_getR q_5 rfl fl_X10_28 dX10_laysMinutes_6 q_3 ?_
  refine v_iconstE (0 : Int32) dX10_laysMinutes_9 (by decide) ?_
  refine v_aload_n dX10_laysMinutes_10 rfl ?_
  replace h := p_bind_elim h
  obtain ⟨a_6, q_7, h⟩ := h
  refine v_getR q_7 rfl fl_X10_28 dX10_laysMinutes_11 q_3 ?_
  refine v_iconstE (0 : Int32) dX10_laysMinutes_14 (by decide) ?_
  replace h := p_bind_elim h
  obtain ⟨j_8, q_9, h⟩ := h
  refine v_ialdP dX10_laysMinutes_15 q_9 ?_
  refine v_iload_n dX10_laysMinutes_16 rfl ?_
  refine v_ior dX10_laysMinutes_17 ?_
  refine v_iload_n dX10_laysMinutes_18 rfl ?_
  refine v_iconstE (-1 : Int32) dX10_laysMinutes_19 (by decide) ?_
  refine v_ixor dX10_laysMinutes_20 ?_
  refine v_iand dX10_laysMinutes_21 ?_
  refine v_iload_n dX10_laysMinutes_22 rfl ?_
  refine v_iconstE (-1 : Int32) dX10_laysMinutes_23 (by decide) ?_
  refine v_ixor dX10_laysMinutes_24 ?_
  refine v_iand dX10_laysMinutes_25 ?_
  replace h := p_bind_elim h
  obtain ⟨j_10, q_11, h⟩ := h
  refine v_iastP dX10_laysMinutes_26 q_11 ?_
  replace h := p_let_elim h
  obtain ⟨I_12, h_13, h⟩ := h
  rw [← h_13]
  refine v_iconstE (0 : Int32) dX10_laysMinutes_27 (by decide) ?_
  refine v_istore dX10_laysMinutes_28 (by decide) ?_
  refine v_sub [(0, .ref (B + p0)), (3, .int p3), (4, .int p4), (5, .int (0 : Int32))] ⟨rfl, rfl, rfl, rfl, trivial⟩ ?_
  refine v_aload_n dX10_laysMinutes_30 rfl ?_
  replace h := p_bind_elim h
  obtain ⟨a_14, q_15, h⟩ := h
  refine v_getR q_15 rfl fl_X10_75 dX10_laysMinutes_31 q_3 ?_
  refine v_iconstE (0 : Int32) dX10_laysMinutes_34 (by decide) ?_
  refine v_aload_n dX10_laysMinutes_35 rfl ?_
  replace h := p_bind_elim h
  obtain ⟨a_16, q_17, h⟩ := h
  refine v_getR q_17 rfl fl_X10_28 dX10_laysMinutes_36 q_3 ?_
  refine v_iconstE (0 : Int32) dX10_laysMinutes_39 (by decide) ?_
  replace h := p_bind_elim h
  obtain ⟨j_18, q_19, h⟩ := h
  refine v_ialdP dX10_laysMinutes_40 q_19 ?_
  replace h := p_bind_elim h
  obtain ⟨j_20, q_21, h⟩ := h
  refine v_iastP dX10_laysMinutes_41 q_21 ?_
  replace h := p_let_elim h
  obtain ⟨I_22, h_23, h⟩ := h
  rw [← h_23]
  replace h := p_bind_elim h
  obtain ⟨q_48, h_49, h⟩ := h
  refine v_sub [(0, .ref (B + p0)), (3, .int p3), (4, .int p4), (5, .int (0 : Int32))] ⟨rfl, rfl, rfl, rfl, trivial⟩ ?_
  refine v_loopV (fun (sP : Int32 × v_I) => V l B D ac (v_EE B wa wb wt sb sL sx) yX10_laysMinutes cX10_laysMinutes 7 (some .int) d 0 0 0 0 S sP.2 J F 42 [(0, .ref (B + p0)), (3, .int p3), (4, .int p4), (5, .int sP.1)] [] Q) (fun (rE : Int32 × v_I) => V l B D ac (v_EE B wa wb wt sb sL sx) yX10_laysMinutes cX10_laysMinutes 7 (some .int) d 0 0 0 0 S rE.2 J F 98 [(0, .ref (B + p0)), (5, .int rE.1)] [] Q) (fun s_ x_ hb hk => b42 _ _ _ s_ x_ hb hk) (r := q_48) ?_ h_49
  try dsimp only
  refine v_sub [(0, .ref (B + p0)), (5, .int q_48.1)] ⟨rfl, rfl, trivial⟩ ?_
  exact j98 _ _ _ h

def f_X10_laysAllMinutes (S : v_S) (I : v_I) (F : v_F) (p0 : Nat) (p1 : Int32) (p2 : Int32) (p3 : Int32) : Option (v_I) :=
(p_ob S 10 p0).bind fun _ =>
(f_X10_laysMinutes S I F p0 p1 p2 p3 (256 : Int32)).bind fun r_1 =>
some (r_1.2)
set_option maxHeartbeats 4000000 in
set_option maxRecDepth 100000 in
theorem t_X10_laysAllMinutes {p0 : Nat} {p1 : Int32} {p2 : Int32} {p3 : Int32} {r : v_I} (h : f_X10_laysAllMinutes S I F p0 p1 p2 p3 = some r) : v_R l B D ac (v_EE B wa wb wt sb sL sx) yX10_laysAllMinutes cX10_laysAllMinutes 4 none 211 0 0 [.ref (B + p0), .int p1, .int p2, .int p3] S I J F (v_D none S r J F) := by
  refine v_R.of (by decide) (Nat.le_of_ble_eq_true rfl) fun d hd => ?_
  generalize hQ : v_D none S r J F = Q
  unfold f_X10_laysAllMinutes at h
  refine v_sub [(0, .ref (B + p0)), (1, .int p1), (2, .int p2), (3, .int p3)] ⟨rfl, rfl, rfl, rfl, trivial⟩ ?_
  refine v_aload_n dX10_laysAllMinutes_0 rfl ?_
  refine v_iload_n dX10_laysAllMinutes_1 rfl ?_
  refine v_iload_n dX10_laysAllMinutes_2 rfl ?_
  refine v_iload_n dX10_laysAllMinutes_3 rfl ?_
  refine v_sipush (256 : Int32) dX10_laysAllMinutes_4 (by decide) ?_
  replace h := p_bind_elim h
  obtain ⟨_, q_3, h⟩ := h
  have q_3 := p_ob_spec q_3
  replace h := p_bind_elim h
  obtain ⟨r_1, q_2, h⟩ := h
  refine v_cVr (t_X10_laysMinutes q_2) cal_X10_laysMinutes ml_X10_381 sel_X10_laysMinutes q_3 kk_10 dX10_laysAllMinutes_7 (by omega) (by decide) (by decide) (Nat.le_of_ble_eq_true rfl) rfl ?_
  refine v_pop dX10_laysAllMinutes_10 rfl ?_
  cases h
  exact v_vret dX10_laysAllMinutes_11 rfl (by decide) (by decide) (by rw [← hQ]; exact ⟨rfl, rfl, rfl, rfl, rfl⟩)

def f_X10_later (S : v_S) (I : v_I) (F : v_F) (p0 : Nat) (p1 : Int32) : Option (Int32 × v_I) :=
(f_X10_lies p1 (0 : Int32) (60 : Int32)).bind fun r_1 =>
if r_1 = (0 : Int32) then (
some ((-1 : Int32), I))
else (
(p_ob S 10 p0).bind fun _ =>
(f_X10_laysAllMinutes S I F p0 (0 : Int32) (0 : Int32) (0 : Int32)).bind fun r_4 =>
(F p0 33).bind fun a_7 =>
(p_ix S 20 a_7 p1).bind fun j_9 =>
some (r_4 a_7 j_9, r_4))
set_option maxHeartbeats 4000000 in
set_option maxRecDepth 100000 in
theorem t_X10_later {p0 : Nat} {p1 : Int32} {r : Int32 × v_I} (h : f_X10_later S I F p0 p1 = some r) : v_R l B D ac (v_EE B wa wb wt sb sL sx) yX10_later cX10_later 2 (some .int) 212 0 0 [.ref (B + p0), .int p1] S I J F (v_D (some (.int r.1)) S r.2 J F) := by
  refine v_R.of (by decide) (Nat.le_of_ble_eq_true rfl) fun d hd => ?_
  generalize hQ : v_D (some (.int r.1)) S r.2 J F = Q
  unfold f_X10_later at h
  refine v_sub [(0, .ref (B + p0)), (1, .int p1)] ⟨rfl, rfl, trivial⟩ ?_
  refine v_iload_n dX10_later_0 rfl ?_
  refine v_iconstE (0 : Int32) dX10_later_1 (by decide) ?_
  refine v_bipush (60 : Int32) dX10_later_2 (by decide) ?_
  replace h := p_bind_elim h
  obtain ⟨r_1, q_2, h⟩ := h
  refine v_cSr (t_X10_lies q_2) cal_X10_lies ml_X10_18 sta_X10_lies dX10_later_4 (by omega) (by decide) (by decide) (Nat.le_of_ble_eq_true rfl) rfl ?_
  refine v_if_ne 12 dX10_later_7 (by decide) (fun c_3 => ?_) (fun c_3 => ?_)
  · rw [if_neg c_3] at h
    refine v_aload_n dX10_later_12 rfl ?_
    refine v_iconstE (0 : Int32) dX10_later_13 (by decide) ?_
    refine v_iconstE (0 : Int32) dX10_later_14 (by decide) ?_
    refine v_iconstE (0 : Int32) dX10_later_15 (by decide) ?_
    replace h := p_bind_elim h
    obtain ⟨_, q_6, h⟩ := h
    have q_6 := p_ob_spec q_6
    replace h := p_bind_elim h
    obtain ⟨r_4, q_5, h⟩ := h
    refine v_cVn (t_X10_laysAllMinutes q_5) cal_X10_laysAllMinutes ml_X10_385 sel_X10_laysAllMinutes q_6 kk_10 dX10_later_16 (by omega) (by decide) (by decide) (Nat.le_of_ble_eq_true rfl) rfl ?_
    refine v_aload_n dX10_later_19 rfl ?_
    replace h := p_bind_elim h
    obtain ⟨a_7, q_8, h⟩ := h
    refine v_getR q_8 rfl fl_X10_75 dX10_later_20 q_6 ?_
    refine v_iload_n dX10_later_23 rfl ?_
    replace h := p_bind_elim h
    obtain ⟨j_9, q_10, h⟩ := h
    refine v_ialdP dX10_later_24 q_10 ?_
    cases h
    exact v_iret dX10_later_25 rfl (by decide) (by decide) (by rw [← hQ]; exact ⟨rfl, rfl, rfl, rfl, rfl⟩)
  · rw [if_pos c_3] at h
    refine v_iconstE (-1 : Int32) dX10_later_10 (by decide) ?_
    cases h
    exact v_iret dX10_later_11 rfl (by decide) (by decide) (by rw [← hQ]; exact ⟨rfl, rfl, rfl, rfl, rfl⟩)

def f_X10_opensBy (S : v_S) (I : v_I) (F : v_F) (p0 : Nat) (p1 : Int32) (p2 : Int32) : Option (Int32 × v_I) :=
(p_ob S 10 p0).bind fun _ =>
(f_X10_laysMinutes S I F p0 p1 (0 : Int32) (0 : Int32) p2).bind fun r_1 =>
(F p0 33).bind fun a_4 =>
(p_ix S 20 a_4 r_1.1).bind fun j_6 =>
if ((r_1.2 a_4 j_6) &&& p2) = p2 then (
some (r_1.1, r_1.2))
else (
some ((-1 : Int32), r_1.2))
set_option maxHeartbeats 4000000 in
set_option maxRecDepth 100000 in
theorem t_X10_opensBy {p0 : Nat} {p1 : Int32} {p2 : Int32} {r : Int32 × v_I} (h : f_X10_opensBy S I F p0 p1 p2 = some r) : v_R l B D ac (v_EE B wa wb wt sb sL sx) yX10_opensBy cX10_opensBy 4 (some .int) 211 0 0 [.ref (B + p0), .int p1, .int p2] S I J F (v_D (some (.int r.1)) S r.2 J F) := by
  refine v_R.of (by decide) (Nat.le_of_ble_eq_true rfl) fun d hd => ?_
  generalize hQ : v_D (some (.int r.1)) S r.2 J F = Q
  unfold f_X10_opensBy at h
  refine v_sub [(0, .ref (B + p0)), (1, .int p1), (2, .int p2)] ⟨rfl, rfl, rfl, trivial⟩ ?_
  refine v_aload_n dX10_opensBy_0 rfl ?_
  refine v_iload_n dX10_opensBy_1 rfl ?_
  refine v_iconstE (0 : Int32) dX10_opensBy_2 (by decide) ?_
  refine v_iconstE (0 : Int32) dX10_opensBy_3 (by decide) ?_
  refine v_iload_n dX10_opensBy_4 rfl ?_
  replace h := p_bind_elim h
  obtain ⟨_, q_3, h⟩ := h
  have q_3 := p_ob_spec q_3
  replace h := p_bind_elim h
  obtain ⟨r_1, q_2, h⟩ := h
  refine v_cVr (t_X10_laysMinutes q_2) cal_X10_laysMinutes ml_X10_381 sel_X10_laysMinutes q_3 kk_10 dX10_opensBy_5 (by omega) (by decide) (by decide) (Nat.le_of_ble_eq_true rfl) rfl ?_
  refine v_istore_n dX10_opensBy_8 (by decide) ?_
  refine v_sub [(0, .ref (B + p0)), (2, .int p2), (3, .int r_1.1)] ⟨rfl, rfl, rfl, trivial⟩ ?_
  refine v_aload_n dX10_opensBy_9 rfl ?_
  replace h := p_bind_elim h
  obtain ⟨a_4, q_5, h⟩ := h
  refine v_getR q_5 rfl fl_X10_75 dX10_opensBy_10 q_3 ?_
  refine v_iload_n dX10_opensBy_13 rfl ?_
  replace h := p_bind_elim h
  obtain ⟨j_6, q_7, h⟩ := h
  refine v_ialdP dX10_opensBy_14 q_7 ?_
  refine v_iload_n dX10_opensBy_15 rfl ?_
  refine v_iand dX10_opensBy_16 ?_
  refine v_iload_n dX10_opensBy_17 rfl ?_
  refine v_icmp_ne 25 dX10_opensBy_18 (by decide) (fun c_8 => ?_) (fun c_8 => ?_)
  · rw [if_neg c_8] at h
    refine v_iconstE (-1 : Int32) dX10_opensBy_25 (by decide) ?_
    cases h
    exact v_iret dX10_opensBy_26 rfl (by decide) (by decide) (by rw [← hQ]; exact ⟨rfl, rfl, rfl, rfl, rfl⟩)
  · rw [if_pos c_8] at h
    refine v_iload_n dX10_opensBy_21 rfl ?_
    refine v_goto 26 dX10_opensBy_22 (by decide) ?_
    cases h
    exact v_iret dX10_opensBy_26 rfl (by decide) (by decide) (by rw [← hQ]; exact ⟨rfl, rfl, rfl, rfl, rfl⟩)

def f_X10_opens (S : v_S) (I : v_I) (F : v_F) (p0 : Nat) (p1 : Int32) : Option (Int32 × v_I) :=
(p_ob S 10 p0).bind fun _ =>
(f_X10_isOne S I F p0 p1).bind fun r_1 =>
if r_1 = (0 : Int32) then (
some ((-1 : Int32), I))
else (
(f_X10_opensBy S I F p0 (0 : Int32) ((1 : Int32) <<< (p1 &&& 31))).bind fun r_5 =>
some (r_5.1, r_5.2))
set_option maxHeartbeats 4000000 in
set_option maxRecDepth 100000 in
theorem t_X10_opens {p0 : Nat} {p1 : Int32} {r : Int32 × v_I} (h : f_X10_opens S I F p0 p1 = some r) : v_R l B D ac (v_EE B wa wb wt sb sL sx) yX10_opens cX10_opens 2 (some .int) 212 0 0 [.ref (B + p0), .int p1] S I J F (v_D (some (.int r.1)) S r.2 J F) := by
  refine v_R.of (by decide) (Nat.le_of_ble_eq_true rfl) fun d hd => ?_
  generalize hQ : v_D (some (.int r.1)) S r.2 J F = Q
  unfold f_X10_opens at h
  refine v_sub [(0, .ref (B + p0)), (1, .int p1)] ⟨rfl, rfl, trivial⟩ ?_
  refine v_aload_n dX10_opens_0 rfl ?_
  refine v_iload_n dX10_opens_1 rfl ?_
  replace h := p_bind_elim h
  obtain ⟨_, q_3, h⟩ := h
  have q_3 := p_ob_spec q_3
  replace h := p_bind_elim h
  obtain ⟨r_1, q_2, h⟩ := h
  refine v_cVr (t_X10_isOne q_2) cal_X10_isOne ml_X10_128 sel_X10_isOne q_3 kk_10 dX10_opens_2 (by omega) (by decide) (by decide) (Nat.le_of_ble_eq_true rfl) rfl ?_
  refine v_if_eq 19 dX10_opens_5 (by decide) (fun c_4 => ?_) (fun c_4 => ?_)
  · rw [if_pos c_4] at h
    refine v_iconstE (-1 : Int32) dX10_opens_19 (by decide) ?_
    cases h
    exact v_iret dX10_opens_20 rfl (by decide) (by decide) (by rw [← hQ]; exact ⟨rfl, rfl, rfl, rfl, rfl⟩)
  · rw [if_neg c_4] at h
    refine v_aload_n dX10_opens_8 rfl ?_
    refine v_iconstE (0 : Int32) dX10_opens_9 (by decide) ?_
    refine v_iconstE (1 : Int32) dX10_opens_10 (by decide) ?_
    refine v_iload_n dX10_opens_11 rfl ?_
    refine v_ishl dX10_opens_12 ?_
    replace h := p_bind_elim h
    obtain ⟨r_5, q_6, h⟩ := h
    refine v_cVr (t_X10_opensBy q_6) cal_X10_opensBy ml_X10_389 sel_X10_opensBy q_3 kk_10 dX10_opens_13 (by omega) (by decide) (by decide) (Nat.le_of_ble_eq_true rfl) rfl ?_
    refine v_goto 20 dX10_opens_16 (by decide) ?_
    cases h
    exact v_iret dX10_opens_20 rfl (by decide) (by decide) (by rw [← hQ]; exact ⟨rfl, rfl, rfl, rfl, rfl⟩)

def f_X10_together (S : v_S) (I : v_I) (F : v_F) (p0 : Nat) : Option (Int32 × v_I) :=
(p_ob S 10 p0).bind fun _ =>
(f_X10_everybody S I F p0).bind fun r_1 =>
(f_X10_opensBy S I F p0 (0 : Int32) r_1).bind fun r_4 =>
some (r_4.1, r_4.2)
set_option maxHeartbeats 4000000 in
set_option maxRecDepth 100000 in
theorem t_X10_together {p0 : Nat} {r : Int32 × v_I} (h : f_X10_together S I F p0 = some r) : v_R l B D ac (v_EE B wa wb wt sb sL sx) yX10_together cX10_together 1 (some .int) 212 0 0 [.ref (B + p0)] S I J F (v_D (some (.int r.1)) S r.2 J F) := by
  refine v_R.of (by decide) (Nat.le_of_ble_eq_true rfl) fun d hd => ?_
  generalize hQ : v_D (some (.int r.1)) S r.2 J F = Q
  unfold f_X10_together at h
  refine v_sub [(0, .ref (B + p0))] ⟨rfl, trivial⟩ ?_
  refine v_aload_n dX10_together_0 rfl ?_
  refine v_iconstE (0 : Int32) dX10_together_1 (by decide) ?_
  refine v_aload_n dX10_together_2 rfl ?_
  replace h := p_bind_elim h
  obtain ⟨_, q_3, h⟩ := h
  have q_3 := p_ob_spec q_3
  replace h := p_bind_elim h
  obtain ⟨r_1, q_2, h⟩ := h
  refine v_cVr (t_X10_everybody q_2) cal_X10_everybody ml_X10_162 sel_X10_everybody q_3 kk_10 dX10_together_3 (by omega) (by decide) (by decide) (Nat.le_of_ble_eq_true rfl) rfl ?_
  replace h := p_bind_elim h
  obtain ⟨r_4, q_5, h⟩ := h
  refine v_cVr (t_X10_opensBy q_5) cal_X10_opensBy ml_X10_389 sel_X10_opensBy q_3 kk_10 dX10_together_6 (by omega) (by decide) (by decide) (Nat.le_of_ble_eq_true rfl) rfl ?_
  cases h
  exact v_iret dX10_together_9 rfl (by decide) (by decide) (by rw [← hQ]; exact ⟨rfl, rfl, rfl, rfl, rfl⟩)

def f_X10_again_B9 (S : v_S) (F : v_F) (I : v_I) (w0 : Nat) (s9 : Int32) : Option ((Int32) ⊕ (Nat × (Int32))) :=
if (60 : Int32) < s9 then (
some (.inr (1, s9)))
else (
(p_ob S 10 w0).bind fun _ =>
(F w0 33).bind fun a_6 =>
(p_ix S 20 a_6 s9).bind fun j_8 =>
(F w0 33).bind fun a_10 =>
(p_ix S 20 a_10 (0 : Int32)).bind fun j_12 =>
if (I a_6 j_8) = (I a_10 j_12) then (
some (.inr (0, s9)))
else (
p_let (s9 + (1 : Int32)) fun x_15 =>
some (.inl x_15)))
def f_X10_again (S : v_S) (I : v_I) (F : v_F) (p0 : Nat) : Option (Int32 × v_I) :=
(p_ob S 10 p0).bind fun _ =>
(f_X10_laysAllMinutes S I F p0 (0 : Int32) (0 : Int32) (0 : Int32)).bind fun r_1 =>
(v_loop (f_X10_again_B9 S F r_1 p0) FU (1 : Int32)).bind fun q_17 =>
if q_17.1 = 0 then (
some (q_17.2, r_1))
else (
some ((-1 : Int32), r_1))
set_option maxHeartbeats 4000000 in
set_option maxRecDepth 100000 in
theorem t_X10_again {p0 : Nat} {r : Int32 × v_I} (h : f_X10_again S I F p0 = some r) : v_R l B D ac (v_EE B wa wb wt sb sL sx) yX10_again cX10_again 2 (some .int) 212 0 0 [.ref (B + p0)] S I J F (v_D (some (.int r.1)) S r.2 J F) := by
  refine v_R.of (by decide) (Nat.le_of_ble_eq_true rfl) fun d hd => ?_
  generalize hQ : v_D (some (.int r.1)) S r.2 J F = Q
  have b9 : ∀ (I : v_I) (w0 : Nat) (s9 : Int32) (rx9 : (Int32) ⊕ (Nat × (Int32))), f_X10_again_B9 S F I w0 s9 = some rx9 → v_K (fun (sP : Int32) => V l B D ac (v_EE B wa wb wt sb sL sx) yX10_again cX10_again 2 (some .int) d 0 0 0 0 S I J F 9 [(0, .ref (B + w0)), (1, .int sP)] [] Q) (fun (rE : Nat × (Int32)) => (rE.1 = 0 → V l B D ac (v_EE B wa wb wt sb sL sx) yX10_again cX10_again 2 (some .int) d 0 0 0 0 S I J F 30 [(1, .int rE.2)] [] Q) ∧ (¬ rE.1 = 0 → V l B D ac (v_EE B wa wb wt sb sL sx) yX10_again cX10_again 2 (some .int) d 0 0 0 0 S I J F 38 [] [] Q)) rx9 → V l B D ac (v_EE B wa wb wt sb sL sx) yX10_again cX10_again 2 (some .int) d 0 0 0 0 S I J F 9 [(0, .ref (B + w0)), (1, .int s9)] [] Q := by
    intro I w0 s9 rx9 h hk
    unfold f_X10_again_B9 at h
    refine v_iload_n dX10_again_9 rfl ?_
    refine v_bipush (60 : Int32) dX10_again_10 (by decide) ?_
    refine v_icmp_gt 38 dX10_again_12 (by decide) (fun c_4 => ?_) (fun c_4 => ?_)
    · rw [if_pos c_4] at h
      cases h
      refine v_sub [] trivial ?_
      exact (hk.2 (Nat.succ_ne_zero _))
    · rw [if_neg c_4] at h
      refine v_aload_n dX10_again_15 rfl ?_
      replace h := p_bind_elim h
      obtain ⟨_, q_5, h⟩ := h
      have q_5 := p_ob_spec q_5
      replace h := p_bind_elim h
      obtain ⟨a_6, q_7, h⟩ := h
      refine v_getR q_7 rfl fl_X10_75 dX10_again_16 q_5 ?_
      refine v_iload_n dX10_again_19 rfl ?_
      replace h := p_bind_elim h
      obtain ⟨j_8, q_9, h⟩ := h
      refine v_ialdP dX10_again_20 q_9 ?_
      refine v_aload_n dX10_again_21 rfl ?_
      replace h := p_bind_elim h
      obtain ⟨a_10, q_11, h⟩ := h
      refine v_getR q_11 rfl fl_X10_75 dX10_again_22 q_5 ?_
      refine v_iconstE (0 : Int32) dX10_again_25 (by decide) ?_
      replace h := p_bind_elim h
      obtain ⟨j_12, q_13, h⟩ := h
      refine v_ialdP dX10_again_26 q_13 ?_
      refine v_icmp_ne 32 dX10_again_27 (by decide) (fun c_14 => ?_) (fun c_14 => ?_)
      · rw [if_neg c_14] at h
        replace h := p_let_elim h
        obtain ⟨x_15, h_16, h⟩ := h
        refine v_iincE (1 : Int32) dX10_again_32 (by decide) rfl (by decide) ?_
        rw [← h_16]
        refine v_sub [(0, .ref (B + w0)), (1, .int x_15)] ⟨rfl, rfl, trivial⟩ ?_
        refine v_goto 9 dX10_again_35 (by decide) ?_
        cases h
        refine v_sub [(0, .ref (B + w0)), (1, .int x_15)] ⟨rfl, rfl, trivial⟩ ?_
        exact hk
      · rw [if_pos c_14] at h
        cases h
        refine v_sub [(1, .int s9)] ⟨rfl, trivial⟩ ?_
        exact hk.1 rfl
  unfold f_X10_again at h
  refine v_sub [(0, .ref (B + p0))] ⟨rfl, trivial⟩ ?_
  refine v_aload_n dX10_again_0 rfl ?_
  refine v_iconstE (0 : Int32) dX10_again_1 (by decide) ?_
  refine v_iconstE (0 : Int32) dX10_again_2 (by decide) ?_
  refine v_iconstE (0 : Int32) dX10_again_3 (by decide) ?_
  replace h := p_bind_elim h
  obtain ⟨_, q_3, h⟩ := h
  have q_3 := p_ob_spec q_3
  replace h := p_bind_elim h
  obtain ⟨r_1, q_2, h⟩ := h
  refine v_cVn (t_X10_laysAllMinutes q_2) cal_X10_laysAllMinutes ml_X10_385 sel_X10_laysAllMinutes q_3 kk_10 dX10_again_4 (by omega) (by decide) (by decide) (Nat.le_of_ble_eq_true rfl) rfl ?_
  refine v_iconstE (1 : Int32) dX10_again_7 (by decide) ?_
  refine v_istore_n dX10_again_8 (by decide) ?_
  refine v_sub [(0, .ref (B + p0)), (1, .int (1 : Int32))] ⟨rfl, rfl, trivial⟩ ?_
  replace h := p_bind_elim h
  obtain ⟨q_17, h_18, h⟩ := h
  refine v_sub [(0, .ref (B + p0)), (1, .int (1 : Int32))] ⟨rfl, rfl, trivial⟩ ?_
  refine v_loopV (fun (sP : Int32) => V l B D ac (v_EE B wa wb wt sb sL sx) yX10_again cX10_again 2 (some .int) d 0 0 0 0 S r_1 J F 9 [(0, .ref (B + p0)), (1, .int sP)] [] Q) (fun (rE : Nat × (Int32)) => (rE.1 = 0 → V l B D ac (v_EE B wa wb wt sb sL sx) yX10_again cX10_again 2 (some .int) d 0 0 0 0 S r_1 J F 30 [(1, .int rE.2)] [] Q) ∧ (¬ rE.1 = 0 → V l B D ac (v_EE B wa wb wt sb sL sx) yX10_again cX10_again 2 (some .int) d 0 0 0 0 S r_1 J F 38 [] [] Q)) (fun s_ x_ hb hk => b9 _ _ s_ x_ hb hk) (r := q_17) ?_ h_18
  try dsimp only
  refine ⟨fun c_19 => ?_, fun c_19 => ?_⟩
  · rw [if_pos c_19] at h
    refine v_iload_n dX10_again_30 rfl ?_
    cases h
    exact v_iret dX10_again_31 rfl (by decide) (by decide) (by rw [← hQ]; exact ⟨rfl, rfl, rfl, rfl, rfl⟩)
  · rw [if_neg c_19] at h
    refine v_iconstE (-1 : Int32) dX10_again_38 (by decide) ?_
    cases h
    exact v_iret dX10_again_39 rfl (by decide) (by decide) (by rw [← hQ]; exact ⟨rfl, rfl, rfl, rfl, rfl⟩)

def f_X10_fewestFor_J13_54 (S : v_S) (F : v_F) (w0 : Nat) (w1 : Int32) (w2 : Int32) (w3 : Int32) (I : v_I) (y4 : Int32) : Option ((Int32 × v_I) ⊕ (Nat × (Int32 × v_I))) :=
p_let (y4 + (1 : Int32)) fun x_6 =>
some (.inl (x_6, I))
def f_X10_fewestFor_B13 (S : v_S) (F : v_F) (w0 : Nat) (w1 : Int32) (w2 : Int32) (w3 : Int32) (s13 : Int32 × v_I) : Option ((Int32 × v_I) ⊕ (Nat × (Int32 × v_I))) :=
if w1 < s13.1 then (
some (.inr (1, (s13.1, s13.2))))
else (
if (s13.1 &&& (w1 ^^^ (-1 : Int32))) = (0 : Int32) then (
(f_X10_ones s13.1).bind fun r_8 =>
if r_8 = w3 then (
(p_ob S 10 w0).bind fun _ =>
(f_X10_opensBy S s13.2 F w0 s13.1 w2).bind fun r_11 =>
if r_11.1 = (-1 : Int32) then (
f_X10_fewestFor_J13_54 S F w0 w1 w2 w3 r_11.2 s13.1)
else (
some (.inr (0, (s13.1, r_11.2)))))
else (
f_X10_fewestFor_J13_54 S F w0 w1 w2 w3 s13.2 s13.1))
else (
f_X10_fewestFor_J13_54 S F w0 w1 w2 w3 s13.2 s13.1))
def f_X10_fewestFor_B2 (S : v_S) (F : v_F) (w0 : Nat) (w1 : Int32) (w2 : Int32) (s2 : Int32 × v_I) : Option ((Int32 × v_I) ⊕ (Nat × (Int32 × v_I × Int32))) :=
(f_X10_ones w1).bind fun r_1 =>
if r_1 < s2.1 then (
some (.inr (1, (s2.1, s2.2, (0 : Int32)))))
else (
(v_loop (f_X10_fewestFor_B13 S F w0 w1 w2 s2.1) FU ((0 : Int32), s2.2)).bind fun q_15 =>
if q_15.1 = 0 then (
some (.inr (0, ((0 : Int32), q_15.2.2, q_15.2.1))))
else (
p_let (s2.1 + (1 : Int32)) fun x_17 =>
some (.inl (x_17, q_15.2.2))))
def f_X10_fewestFor (S : v_S) (I : v_I) (F : v_F) (p0 : Nat) (p1 : Int32) (p2 : Int32) : Option (Int32 × v_I) :=
(v_loop (f_X10_fewestFor_B2 S F p0 p1 p2) FU ((0 : Int32), I)).bind fun q_20 =>
if q_20.1 = 0 then (
some (q_20.2.2.2, q_20.2.2.1))
else (
some ((-1 : Int32), q_20.2.2.1))
set_option maxHeartbeats 4000000 in
set_option maxRecDepth 100000 in
theorem t_X10_fewestFor {p0 : Nat} {p1 : Int32} {p2 : Int32} {r : Int32 × v_I} (h : f_X10_fewestFor S I F p0 p1 p2 = some r) : v_R l B D ac (v_EE B wa wb wt sb sL sx) yX10_fewestFor cX10_fewestFor 5 (some .int) 212 0 0 [.ref (B + p0), .int p1, .int p2] S I J F (v_D (some (.int r.1)) S r.2 J F) := by
  refine v_R.of (by decide) (Nat.le_of_ble_eq_true rfl) fun d hd => ?_
  generalize hQ : v_D (some (.int r.1)) S r.2 J F = Q
  have b2 : ∀ (w0 : Nat) (w1 : Int32) (w2 : Int32) (s2 : Int32 × v_I) (rx2 : (Int32 × v_I) ⊕ (Nat × (Int32 × v_I × Int32))), f_X10_fewestFor_B2 S F w0 w1 w2 s2 = some rx2 → v_K (fun (sP : Int32 × v_I) => V l B D ac (v_EE B wa wb wt sb sL sx) yX10_fewestFor cX10_fewestFor 5 (some .int) d 0 0 0 0 S sP.2 J F 2 [(0, .ref (B + w0)), (1, .int w1), (2, .int w2), (3, .int sP.1)] [] Q) (fun (rE : Nat × (Int32 × v_I × Int32)) => (rE.1 = 0 → V l B D ac (v_EE B wa wb wt sb sL sx) yX10_fewestFor cX10_fewestFor 5 (some .int) d 0 0 0 0 S rE.2.2.1 J F 51 [(4, .int rE.2.2.2)] [] Q) ∧ (¬ rE.1 = 0 → V l B D ac (v_EE B wa wb wt sb sL sx) yX10_fewestFor cX10_fewestFor 5 (some .int) d 0 0 0 0 S rE.2.2.1 J F 66 [] [] Q)) rx2 → V l B D ac (v_EE B wa wb wt sb sL sx) yX10_fewestFor cX10_fewestFor 5 (some .int) d 0 0 0 0 S s2.2 J F 2 [(0, .ref (B + w0)), (1, .int w1), (2, .int w2), (3, .int s2.1)] [] Q := by
    intro w0 w1 w2 s2 rx2 h hk
    have b13 : ∀ (w0 : Nat) (w1 : Int32) (w2 : Int32) (w3 : Int32) (s13 : Int32 × v_I) (rx13 : (Int32 × v_I) ⊕ (Nat × (Int32 × v_I))), f_X10_fewestFor_B13 S F w0 w1 w2 w3 s13 = some rx13 → v_K (fun (sP : Int32 × v_I) => V l B D ac (v_EE B wa wb wt sb sL sx) yX10_fewestFor cX10_fewestFor 5 (some .int) d 0 0 0 0 S sP.2 J F 13 [(0, .ref (B + w0)), (1, .int w1), (2, .int w2), (3, .int w3), (4, .int sP.1)] [] Q) (fun (rE : Nat × (Int32 × v_I)) => (rE.1 = 0 → V l B D ac (v_EE B wa wb wt sb sL sx) yX10_fewestFor cX10_fewestFor 5 (some .int) d 0 0 0 0 S rE.2.2 J F 51 [(4, .int rE.2.1)] [] Q) ∧ (¬ rE.1 = 0 → V l B D ac (v_EE B wa wb wt sb sL sx) yX10_fewestFor cX10_fewestFor 5 (some .int) d 0 0 0 0 S rE.2.2 J F 60 [(0, .ref (B + w0)), (1, .int w1), (2, .int w2), (3, .int w3)] [] Q)) rx13 → V l B D ac (v_EE B wa wb wt sb sL sx) yX10_fewestFor cX10_fewestFor 5 (some .int) d 0 0 0 0 S s13.2 J F 13 [(0, .ref (B + w0)), (1, .int w1), (2, .int w2), (3, .int w3), (4, .int s13.1)] [] Q := by
      intro w0 w1 w2 w3 s13 rx13 h hk
      have j54 : ∀ (I : v_I) (y4 : Int32), f_X10_fewestFor_J13_54 S F w0 w1 w2 w3 I y4 = some rx13 → V l B D ac (v_EE B wa wb wt sb sL sx) yX10_fewestFor cX10_fewestFor 5 (some .int) d 0 0 0 0 S I J F 54 [(0, .ref (B + w0)), (1, .int w1), (2, .int w2), (3, .int w3), (4, .int y4)] [] Q := by
        intro I y4 h
        unfold f_X10_fewestFor_J13_54 at h
        replace h := p_let_elim h
        obtain ⟨x_6, h_7, h⟩ := h
        refine v_iincE (1 : Int32) dX10_fewestFor_54 (by decide) rfl (by decide) ?_
        rw [← h_7]
        refine v_sub [(0, .ref (B + w0)), (1, .int w1), (2, .int w2), (3, .int w3), (4, .int x_6)] ⟨rfl, rfl, rfl, rfl, rfl, trivial⟩ ?_
        refine v_goto 13 dX10_fewestFor_57 (by decide) ?_
        cases h
        refine v_sub [(0, .ref (B + w0)), (1, .int w1), (2, .int w2), (3, .int w3), (4, .int x_6)] ⟨rfl, rfl, rfl, rfl, rfl, trivial⟩ ?_
        exact hk
      unfold f_X10_fewestFor_B13 at h
      refine v_iload dX10_fewestFor_13 rfl ?_
      refine v_iload_n dX10_fewestFor_15 rfl ?_
      refine v_icmp_gt 60 dX10_fewestFor_16 (by decide) (fun c_4 => ?_) (fun c_4 => ?_)
      · rw [if_pos c_4] at h
        cases h
        refine v_sub [(0, .ref (B + w0)), (1, .int w1), (2, .int w2), (3, .int w3)] ⟨rfl, rfl, rfl, rfl, trivial⟩ ?_
        exact (hk.2 (Nat.succ_ne_zero _))
      · rw [if_neg c_4] at h
        refine v_iload dX10_fewestFor_19 rfl ?_
        refine v_iload_n dX10_fewestFor_21 rfl ?_
        refine v_iconstE (-1 : Int32) dX10_fewestFor_22 (by decide) ?_
        refine v_ixor dX10_fewestFor_23 ?_
        refine v_iand dX10_fewestFor_24 ?_
        refine v_if_ne 54 dX10_fewestFor_25 (by decide) (fun c_5 => ?_) (fun c_5 => ?_)
        · rw [if_neg c_5] at h
          refine v_sub [(0, .ref (B + w0)), (1, .int w1), (2, .int w2), (3, .int w3), (4, .int s13.1)] ⟨rfl, rfl, rfl, rfl, rfl, trivial⟩ ?_
          exact j54 _ _ h
        · rw [if_pos c_5] at h
          refine v_iload dX10_fewestFor_28 rfl ?_
          replace h := p_bind_elim h
          obtain ⟨r_8, q_9, h⟩ := h
          refine v_cSr (t_X10_ones q_9) cal_X10_ones ml_X10_313 sta_X10_ones dX10_fewestFor_30 (by omega) (by decide) (by decide) (Nat.le_of_ble_eq_true rfl) rfl ?_
          refine v_iload_n dX10_fewestFor_33 rfl ?_
          refine v_icmp_eq 40 dX10_fewestFor_34 (by decide) (fun c_10 => ?_) (fun c_10 => ?_)
          · rw [if_pos c_10] at h
            refine v_aload_n dX10_fewestFor_40 rfl ?_
            refine v_iload dX10_fewestFor_41 rfl ?_
            refine v_iload_n dX10_fewestFor_43 rfl ?_
            replace h := p_bind_elim h
            obtain ⟨_, q_13, h⟩ := h
            have q_13 := p_ob_spec q_13
            replace h := p_bind_elim h
            obtain ⟨r_11, q_12, h⟩ := h
            refine v_cVr (t_X10_opensBy q_12) cal_X10_opensBy ml_X10_389 sel_X10_opensBy q_13 kk_10 dX10_fewestFor_44 (by omega) (by decide) (by decide) (Nat.le_of_ble_eq_true rfl) rfl ?_
            refine v_iconstE (-1 : Int32) dX10_fewestFor_47 (by decide) ?_
            refine v_icmp_eq 54 dX10_fewestFor_48 (by decide) (fun c_14 => ?_) (fun c_14 => ?_)
            · rw [if_pos c_14] at h
              refine v_sub [(0, .ref (B + w0)), (1, .int w1), (2, .int w2), (3, .int w3), (4, .int s13.1)] ⟨rfl, rfl, rfl, rfl, rfl, trivial⟩ ?_
              exact j54 _ _ h
            · rw [if_neg c_14] at h
              cases h
              refine v_sub [(4, .int s13.1)] ⟨rfl, trivial⟩ ?_
              exact hk.1 rfl
          · rw [if_neg c_10] at h
            refine v_goto 54 dX10_fewestFor_37 (by decide) ?_
            refine v_sub [(0, .ref (B + w0)), (1, .int w1), (2, .int w2), (3, .int w3), (4, .int s13.1)] ⟨rfl, rfl, rfl, rfl, rfl, trivial⟩ ?_
            exact j54 _ _ h
    unfold f_X10_fewestFor_B2 at h
    refine v_iload_n dX10_fewestFor_2 rfl ?_
    refine v_iload_n dX10_fewestFor_3 rfl ?_
    replace h := p_bind_elim h
    obtain ⟨r_1, q_2, h⟩ := h
    refine v_cSr (t_X10_ones q_2) cal_X10_ones ml_X10_313 sta_X10_ones dX10_fewestFor_4 (by omega) (by decide) (by decide) (Nat.le_of_ble_eq_true rfl) rfl ?_
    refine v_icmp_gt 66 dX10_fewestFor_7 (by decide) (fun c_3 => ?_) (fun c_3 => ?_)
    · rw [if_pos c_3] at h
      cases h
      refine v_sub [] trivial ?_
      exact (hk.2 (Nat.succ_ne_zero _))
    · rw [if_neg c_3] at h
      refine v_iconstE (0 : Int32) dX10_fewestFor_10 (by decide) ?_
      refine v_istore dX10_fewestFor_11 (by decide) ?_
      refine v_sub [(0, .ref (B + w0)), (1, .int w1), (2, .int w2), (3, .int s2.1), (4, .int (0 : Int32))] ⟨rfl, rfl, rfl, rfl, rfl, trivial⟩ ?_
      replace h := p_bind_elim h
      obtain ⟨q_15, h_16, h⟩ := h
      refine v_sub [(0, .ref (B + w0)), (1, .int w1), (2, .int w2), (3, .int s2.1), (4, .int (0 : Int32))] ⟨rfl, rfl, rfl, rfl, rfl, trivial⟩ ?_
      refine v_loopV (fun (sP : Int32 × v_I) => V l B D ac (v_EE B wa wb wt sb sL sx) yX10_fewestFor cX10_fewestFor 5 (some .int) d 0 0 0 0 S sP.2 J F 13 [(0, .ref (B + w0)), (1, .int w1), (2, .int w2), (3, .int s2.1), (4, .int sP.1)] [] Q) (fun (rE : Nat × (Int32 × v_I)) => (rE.1 = 0 → V l B D ac (v_EE B wa wb wt sb sL sx) yX10_fewestFor cX10_fewestFor 5 (some .int) d 0 0 0 0 S rE.2.2 J F 51 [(4, .int rE.2.1)] [] Q) ∧ (¬ rE.1 = 0 → V l B D ac (v_EE B wa wb wt sb sL sx) yX10_fewestFor cX10_fewestFor 5 (some .int) d 0 0 0 0 S rE.2.2 J F 60 [(0, .ref (B + w0)), (1, .int w1), (2, .int w2), (3, .int s2.1)] [] Q)) (fun s_ x_ hb hk => b13 _ _ _ _ s_ x_ hb hk) (r := q_15) ?_ h_16
      try dsimp only
      refine ⟨fun c_19 => ?_, fun c_19 => ?_⟩
      · rw [if_pos c_19] at h
        cases h
        refine v_sub [(4, .int q_15.2.1)] ⟨rfl, trivial⟩ ?_
        exact hk.1 rfl
      · rw [if_neg c_19] at h
        replace h := p_let_elim h
        obtain ⟨x_17, h_18, h⟩ := h
        refine v_iincE (1 : Int32) dX10_fewestFor_60 (by decide) rfl (by decide) ?_
        rw [← h_18]
        refine v_sub [(0, .ref (B + w0)), (1, .int w1), (2, .int w2), (3, .int x_17)] ⟨rfl, rfl, rfl, rfl, trivial⟩ ?_
        refine v_goto 2 dX10_fewestFor_63 (by decide) ?_
        cases h
        refine v_sub [(0, .ref (B + w0)), (1, .int w1), (2, .int w2), (3, .int x_17)] ⟨rfl, rfl, rfl, rfl, trivial⟩ ?_
        exact hk
  unfold f_X10_fewestFor at h
  refine v_sub [(0, .ref (B + p0)), (1, .int p1), (2, .int p2)] ⟨rfl, rfl, rfl, trivial⟩ ?_
  refine v_iconstE (0 : Int32) dX10_fewestFor_0 (by decide) ?_
  refine v_istore_n dX10_fewestFor_1 (by decide) ?_
  refine v_sub [(0, .ref (B + p0)), (1, .int p1), (2, .int p2), (3, .int (0 : Int32))] ⟨rfl, rfl, rfl, rfl, trivial⟩ ?_
  replace h := p_bind_elim h
  obtain ⟨q_20, h_21, h⟩ := h
  refine v_sub [(0, .ref (B + p0)), (1, .int p1), (2, .int p2), (3, .int (0 : Int32))] ⟨rfl, rfl, rfl, rfl, trivial⟩ ?_
  refine v_loopV (fun (sP : Int32 × v_I) => V l B D ac (v_EE B wa wb wt sb sL sx) yX10_fewestFor cX10_fewestFor 5 (some .int) d 0 0 0 0 S sP.2 J F 2 [(0, .ref (B + p0)), (1, .int p1), (2, .int p2), (3, .int sP.1)] [] Q) (fun (rE : Nat × (Int32 × v_I × Int32)) => (rE.1 = 0 → V l B D ac (v_EE B wa wb wt sb sL sx) yX10_fewestFor cX10_fewestFor 5 (some .int) d 0 0 0 0 S rE.2.2.1 J F 51 [(4, .int rE.2.2.2)] [] Q) ∧ (¬ rE.1 = 0 → V l B D ac (v_EE B wa wb wt sb sL sx) yX10_fewestFor cX10_fewestFor 5 (some .int) d 0 0 0 0 S rE.2.2.1 J F 66 [] [] Q)) (fun s_ x_ hb hk => b2 _ _ _ s_ x_ hb hk) (r := q_20) ?_ h_21
  try dsimp only
  refine ⟨fun c_22 => ?_, fun c_22 => ?_⟩
  · rw [if_pos c_22] at h
    refine v_iload dX10_fewestFor_51 rfl ?_
    cases h
    exact v_iret dX10_fewestFor_53 rfl (by decide) (by decide) (by rw [← hQ]; exact ⟨rfl, rfl, rfl, rfl, rfl⟩)
  · rw [if_neg c_22] at h
    refine v_iconstE (-1 : Int32) dX10_fewestFor_66 (by decide) ?_
    cases h
    exact v_iret dX10_fewestFor_67 rfl (by decide) (by decide) (by rw [← hQ]; exact ⟨rfl, rfl, rfl, rfl, rfl⟩)

def f_X10_seeds (S : v_S) (I : v_I) (F : v_F) (p0 : Nat) (p1 : Int32) : Option (Int32 × v_I) :=
(f_X10_isBit p1).bind fun r_1 =>
if r_1 = (0 : Int32) then (
some ((-1 : Int32), I))
else (
(p_ob S 10 p0).bind fun _ =>
(f_X10_shutNow S I F p0).bind fun r_4 =>
(f_X10_everybody S I F p0).bind fun r_7 =>
(f_X10_fewestFor S I F p0 r_4 r_7).bind fun r_9 =>
(f_X10_toldOf r_9.1 p1).bind fun r_11 =>
some (r_11, r_9.2))
set_option maxHeartbeats 4000000 in
set_option maxRecDepth 100000 in
theorem t_X10_seeds {p0 : Nat} {p1 : Int32} {r : Int32 × v_I} (h : f_X10_seeds S I F p0 p1 = some r) : v_R l B D ac (v_EE B wa wb wt sb sL sx) yX10_seeds cX10_seeds 2 (some .int) 213 0 0 [.ref (B + p0), .int p1] S I J F (v_D (some (.int r.1)) S r.2 J F) := by
  refine v_R.of (by decide) (Nat.le_of_ble_eq_true rfl) fun d hd => ?_
  generalize hQ : v_D (some (.int r.1)) S r.2 J F = Q
  unfold f_X10_seeds at h
  refine v_sub [(0, .ref (B + p0)), (1, .int p1)] ⟨rfl, rfl, trivial⟩ ?_
  refine v_iload_n dX10_seeds_0 rfl ?_
  replace h := p_bind_elim h
  obtain ⟨r_1, q_2, h⟩ := h
  refine v_cSr (t_X10_isBit q_2) cal_X10_isBit ml_X10_125 sta_X10_isBit dX10_seeds_1 (by omega) (by decide) (by decide) (Nat.le_of_ble_eq_true rfl) rfl ?_
  refine v_if_ne 9 dX10_seeds_4 (by decide) (fun c_3 => ?_) (fun c_3 => ?_)
  · rw [if_neg c_3] at h
    refine v_aload_n dX10_seeds_9 rfl ?_
    refine v_aload_n dX10_seeds_10 rfl ?_
    replace h := p_bind_elim h
    obtain ⟨_, q_6, h⟩ := h
    have q_6 := p_ob_spec q_6
    replace h := p_bind_elim h
    obtain ⟨r_4, q_5, h⟩ := h
    refine v_cVr (t_X10_shutNow q_5) cal_X10_shutNow ml_X10_392 sel_X10_shutNow q_6 kk_10 dX10_seeds_11 (by omega) (by decide) (by decide) (Nat.le_of_ble_eq_true rfl) rfl ?_
    refine v_aload_n dX10_seeds_14 rfl ?_
    replace h := p_bind_elim h
    obtain ⟨r_7, q_8, h⟩ := h
    refine v_cVr (t_X10_everybody q_8) cal_X10_everybody ml_X10_162 sel_X10_everybody q_6 kk_10 dX10_seeds_15 (by omega) (by decide) (by decide) (Nat.le_of_ble_eq_true rfl) rfl ?_
    replace h := p_bind_elim h
    obtain ⟨r_9, q_10, h⟩ := h
    refine v_cVr (t_X10_fewestFor q_10) cal_X10_fewestFor ml_X10_395 sel_X10_fewestFor q_6 kk_10 dX10_seeds_18 (by omega) (by decide) (by decide) (Nat.le_of_ble_eq_true rfl) rfl ?_
    refine v_iload_n dX10_seeds_21 rfl ?_
    replace h := p_bind_elim h
    obtain ⟨r_11, q_12, h⟩ := h
    refine v_cSr (t_X10_toldOf q_12) cal_X10_toldOf ml_X10_398 sta_X10_toldOf dX10_seeds_22 (by omega) (by decide) (by decide) (Nat.le_of_ble_eq_true rfl) rfl ?_
    cases h
    exact v_iret dX10_seeds_25 rfl (by decide) (by decide) (by rw [← hQ]; exact ⟨rfl, rfl, rfl, rfl, rfl⟩)
  · rw [if_pos c_3] at h
    refine v_iconstE (-1 : Int32) dX10_seeds_7 (by decide) ?_
    cases h
    exact v_iret dX10_seeds_8 rfl (by decide) (by decide) (by rw [← hQ]; exact ⟨rfl, rfl, rfl, rfl, rfl⟩)

end g01
