noncomputable section p03
variable {l : Launch} {B : Nat} {D : va_G} {ac : Nat → ClassId} {wa wb wt sb sL : Nat} {sx : Nat → Int32} {S : v_S} {I : v_I} {J : v_J} {F : v_F}
def f_J7_fill_d0a16_B6 (S : v_S) (w0 : Nat) (w1 : Int64) (w4 : Int32) (s6 : Int32 × v_J) : Option ((Int32 × v_J) ⊕ (Int32 × v_J)) :=
if w4 ≤ s6.1 then (
some (.inr (s6.1, s6.2)))
else (
(p_ix S 23 w0 s6.1).bind fun j_4 =>
p_let (v_up s6.2 w0 j_4 w1) fun J_6 =>
p_let (s6.1 + (1 : Int32)) fun x_8 =>
some (.inl (x_8, J_6)))
def f_J7_fill_d0a16 (S : v_S) (J : v_J) (p0 : Nat) (p1 : Int64) : Option (v_J) :=
(p_len S 23 p0).bind fun x_1 =>
(v_loop (f_J7_fill_d0a16_B6 S p0 p1 x_1) FU ((0 : Int32), J)).bind fun q_10 =>
some (q_10.2)
set_option maxHeartbeats 4000000 in
set_option maxRecDepth 100000 in
theorem t_J7_fill_d0a16 {p0 : Nat} {p1 : Int64} {r : v_J} (h : f_J7_fill_d0a16 S J p0 p1 = some r) : v_R l B D ac (v_EE B wa wb wt sb sL sx) yJ7_fill_d0a16 cJ7_fill_d0a16 5 none 1 0 0 [.ref (B + p0), .long p1] S I J F (v_D none S I r F) := by
  refine v_R.of (by decide) (Nat.le_of_ble_eq_true rfl) fun d hd => ?_
  generalize hQ : v_D none S I r F = Q
  have b6 : ∀ (w0 : Nat) (w1 : Int64) (w4 : Int32) (s6 : Int32 × v_J) (rx6 : (Int32 × v_J) ⊕ (Int32 × v_J)), f_J7_fill_d0a16_B6 S w0 w1 w4 s6 = some rx6 → v_K (fun (sP : Int32 × v_J) => V l B D ac (v_EE B wa wb wt sb sL sx) yJ7_fill_d0a16 cJ7_fill_d0a16 5 none d 0 0 0 0 S I sP.2 F 6 [(0, .ref (B + w0)), (1, .long w1), (3, .int sP.1), (4, .int w4)] [] Q) (fun (rE : Int32 × v_J) => V l B D ac (v_EE B wa wb wt sb sL sx) yJ7_fill_d0a16 cJ7_fill_d0a16 5 none d 0 0 0 0 S I rE.2 F 22 [] [] Q) rx6 → V l B D ac (v_EE B wa wb wt sb sL sx) yJ7_fill_d0a16 cJ7_fill_d0a16 5 none d 0 0 0 0 S I s6.2 F 6 [(0, .ref (B + w0)), (1, .long w1), (3, .int s6.1), (4, .int w4)] [] Q := by
    intro w0 w1 w4 s6 rx6 h hk
    unfold f_J7_fill_d0a16_B6 at h
    refine v_iload_n dJ7_fill_d0a16_6 rfl ?_
    refine v_iload dJ7_fill_d0a16_7 rfl ?_
    refine v_icmp_ge 22 dJ7_fill_d0a16_9 (by decide) (fun c_3 => ?_) (fun c_3 => ?_)
    · rw [if_pos c_3] at h
      cases h
      refine v_sub [] trivial ?_
      exact hk
    · rw [if_neg c_3] at h
      refine v_aload_n dJ7_fill_d0a16_12 rfl ?_
      refine v_iload_n dJ7_fill_d0a16_13 rfl ?_
      refine v_lload_n dJ7_fill_d0a16_14 rfl ?_
      replace h := p_bind_elim h
      obtain ⟨j_4, q_5, h⟩ := h
      refine v_lastP dJ7_fill_d0a16_15 q_5 ?_
      replace h := p_let_elim h
      obtain ⟨J_6, h_7, h⟩ := h
      rw [← h_7]
      replace h := p_let_elim h
      obtain ⟨x_8, h_9, h⟩ := h
      refine v_iincE (1 : Int32) dJ7_fill_d0a16_16 (by decide) rfl (by decide) ?_
      rw [← h_9]
      refine v_sub [(0, .ref (B + w0)), (1, .long w1), (3, .int x_8), (4, .int w4)] ⟨rfl, rfl, rfl, rfl, trivial⟩ ?_
      refine v_goto 6 dJ7_fill_d0a16_19 (by decide) ?_
      cases h
      refine v_sub [(0, .ref (B + w0)), (1, .long w1), (3, .int x_8), (4, .int w4)] ⟨rfl, rfl, rfl, rfl, trivial⟩ ?_
      exact hk
  unfold f_J7_fill_d0a16 at h
  refine v_sub [(0, .ref (B + p0)), (1, .long p1)] ⟨rfl, rfl, trivial⟩ ?_
  refine v_iconstE (0 : Int32) dJ7_fill_d0a16_0 (by decide) ?_
  refine v_istore_n dJ7_fill_d0a16_1 (by decide) ?_
  refine v_sub [(0, .ref (B + p0)), (1, .long p1), (3, .int (0 : Int32))] ⟨rfl, rfl, rfl, trivial⟩ ?_
  refine v_aload_n dJ7_fill_d0a16_2 rfl ?_
  replace h := p_bind_elim h
  obtain ⟨x_1, q_2, h⟩ := h
  refine v_alenPJ dJ7_fill_d0a16_3 q_2 ?_
  refine v_istore dJ7_fill_d0a16_4 (by decide) ?_
  refine v_sub [(0, .ref (B + p0)), (1, .long p1), (3, .int (0 : Int32)), (4, .int x_1)] ⟨rfl, rfl, rfl, rfl, trivial⟩ ?_
  replace h := p_bind_elim h
  obtain ⟨q_10, h_11, h⟩ := h
  refine v_sub [(0, .ref (B + p0)), (1, .long p1), (3, .int (0 : Int32)), (4, .int x_1)] ⟨rfl, rfl, rfl, rfl, trivial⟩ ?_
  refine v_loopV (fun (sP : Int32 × v_J) => V l B D ac (v_EE B wa wb wt sb sL sx) yJ7_fill_d0a16 cJ7_fill_d0a16 5 none d 0 0 0 0 S I sP.2 F 6 [(0, .ref (B + p0)), (1, .long p1), (3, .int sP.1), (4, .int x_1)] [] Q) (fun (rE : Int32 × v_J) => V l B D ac (v_EE B wa wb wt sb sL sx) yJ7_fill_d0a16 cJ7_fill_d0a16 5 none d 0 0 0 0 S I rE.2 F 22 [] [] Q) (fun s_ x_ hb hk => b6 _ _ _ s_ x_ hb hk) (r := q_10) ?_ h_11
  try dsimp only
  cases h
  exact v_vret dJ7_fill_d0a16_22 rfl (by decide) (by decide) (by rw [← hQ]; exact ⟨rfl, rfl, rfl, rfl, rfl⟩)

def f_X9_few_J64_94 (S : v_S) (I : v_I) (F : v_F) (w0 : Nat) (w1 : Int32) (w2 : Int32) (w3 : Int32) (w4 : Int32) (J : v_J) (y5 : Int32) (z0 : Int64) : Option ((Int32 × v_J) ⊕ (Int32 × v_J)) :=
(p_ob S 9 w0).bind fun _ =>
(F w0 12).bind fun a_28 =>
(F w0 12).bind fun a_30 =>
(p_ix S 23 a_30 y5).bind fun j_32 =>
(p_ix S 23 a_28 y5).bind fun j_34 =>
p_let (v_up J a_28 j_34 ((((J a_30 j_32) * (((10 : Int32) - w3).toInt64)) / (10 : Int64)) + z0)) fun J_36 =>
p_let (y5 + (-1 : Int32)) fun x_38 =>
some (.inl (x_38, J_36))
def f_X9_few_B64 (S : v_S) (I : v_I) (F : v_F) (w0 : Nat) (w1 : Int32) (w2 : Int32) (w3 : Int32) (w4 : Int32) (s64 : Int32 × v_J) : Option ((Int32 × v_J) ⊕ (Int32 × v_J)) :=
if s64.1 < (0 : Int32) then (
some (.inr (s64.1, s64.2)))
else (
if s64.1 ≤ (0 : Int32) then (
f_X9_few_J64_94 S I F w0 w1 w2 w3 w4 s64.2 s64.1 (0 : Int64))
else (
(p_ob S 9 w0).bind fun _ =>
(F w0 12).bind fun a_41 =>
(p_ix S 23 a_41 (s64.1 - (1 : Int32))).bind fun j_43 =>
f_X9_few_J64_94 S I F w0 w1 w2 w3 w4 s64.2 s64.1 (((s64.2 a_41 j_43) * w3.toInt64) / (10 : Int64))))
def f_X9_few_B53 (S : v_S) (I : v_I) (F : v_F) (w0 : Nat) (w1 : Int32) (w2 : Int32) (w3 : Int32) (s53 : Int32 × v_J) : Option ((Int32 × v_J) ⊕ (Int32 × v_J)) :=
if w2 ≤ s53.1 then (
some (.inr (s53.1, s53.2)))
else (
p_let (w1 - (1 : Int32)) fun x_23 =>
(v_loop (f_X9_few_B64 S I F w0 w1 w2 w3 s53.1) FU (x_23, s53.2)).bind fun q_45 =>
p_let (s53.1 + (1 : Int32)) fun x_47 =>
some (.inl (x_47, q_45.2)))
def f_X9_few_B141 (S : v_S) (I : v_I) (F : v_F) (J : v_J) (w0 : Nat) (w1 : Int32) (s141 : Int64 × Int32) : Option ((Int64 × Int32) ⊕ (Int64 × Int32)) :=
if w1 ≤ s141.2 then (
some (.inr (s141.1, s141.2)))
else (
(p_ob S 9 w0).bind fun _ =>
(F w0 12).bind fun a_53 =>
(p_ix S 23 a_53 s141.2).bind fun j_55 =>
p_let (s141.1 + (J a_53 j_55)) fun x_57 =>
p_let (s141.2 + (1 : Int32)) fun x_59 =>
some (.inl (x_57, x_59)))
def f_X9_few (S : v_S) (I : v_I) (J : v_J) (F : v_F) (p0 : Nat) (p1 : Int32) (p2 : Int32) : Option (Int64 × v_J) :=
if p1 < (1 : Int32) then (
some ((-1 : Int64), J))
else (
if (20 : Int32) < p1 then (
some ((-1 : Int64), J))
else (
(f_X9_isUpTo p2.toInt64 (99 : Int32)).bind fun r_3 =>
if r_3 = (0 : Int32) then (
some ((-1 : Int64), J))
else (
(p_ob S 9 p0).bind fun _ =>
(F p0 12).bind fun a_7 =>
(f_J7_fill_d0a16 S J a_7 (0 : Int64)).bind fun r_9 =>
(F p0 12).bind fun a_11 =>
(p_ix S 23 a_11 (0 : Int32)).bind fun j_13 =>
p_let (v_up r_9 a_11 j_13 (1000000000000 : Int64)) fun J_15 =>
(F p0 0).bind fun a_17 =>
(p_ob S 0 a_17).bind fun _ =>
p_let (I a_17 4) fun x_20 =>
(v_loop (f_X9_few_B53 S I F p0 p1 p2 x_20) FU ((0 : Int32), J_15)).bind fun q_49 =>
(v_loop (f_X9_few_B141 S I F q_49.2 p0 p1) FU ((0 : Int64), (0 : Int32))).bind fun q_61 =>
some (q_61.1, q_49.2))))
set_option maxHeartbeats 4000000 in
set_option maxRecDepth 100000 in
theorem t_X9_few {p0 : Nat} {p1 : Int32} {p2 : Int32} {r : Int64 × v_J} (h : f_X9_few S I J F p0 p1 p2 = some r) : v_R l B D ac (v_EE B wa wb wt sb sL sx) yX9_few cX9_few 8 (some .long) 2 0 0 [.ref (B + p0), .int p1, .int p2] S I J F (v_D (some (.long r.1)) S I r.2 F) := by
  refine v_R.of (by decide) (Nat.le_of_ble_eq_true rfl) fun d hd => ?_
  generalize hQ : v_D (some (.long r.1)) S I r.2 F = Q
  have b53 : ∀ (w0 : Nat) (w1 : Int32) (w2 : Int32) (w3 : Int32) (s53 : Int32 × v_J) (rx53 : (Int32 × v_J) ⊕ (Int32 × v_J)), f_X9_few_B53 S I F w0 w1 w2 w3 s53 = some rx53 → v_K (fun (sP : Int32 × v_J) => V l B D ac (v_EE B wa wb wt sb sL sx) yX9_few cX9_few 8 (some .long) d 0 0 0 0 S I sP.2 F 53 [(0, .ref (B + w0)), (1, .int w1), (2, .int w2), (3, .int w3), (4, .int sP.1)] [] Q) (fun (rE : Int32 × v_J) => V l B D ac (v_EE B wa wb wt sb sL sx) yX9_few cX9_few 8 (some .long) d 0 0 0 0 S I rE.2 F 135 [(0, .ref (B + w0)), (1, .int w1)] [] Q) rx53 → V l B D ac (v_EE B wa wb wt sb sL sx) yX9_few cX9_few 8 (some .long) d 0 0 0 0 S I s53.2 F 53 [(0, .ref (B + w0)), (1, .int w1), (2, .int w2), (3, .int w3), (4, .int s53.1)] [] Q := by
    intro w0 w1 w2 w3 s53 rx53 h hk
    have b64 : ∀ (w0 : Nat) (w1 : Int32) (w2 : Int32) (w3 : Int32) (w4 : Int32) (s64 : Int32 × v_J) (rx64 : (Int32 × v_J) ⊕ (Int32 × v_J)), f_X9_few_B64 S I F w0 w1 w2 w3 w4 s64 = some rx64 → v_K (fun (sP : Int32 × v_J) => V l B D ac (v_EE B wa wb wt sb sL sx) yX9_few cX9_few 8 (some .long) d 0 0 0 0 S I sP.2 F 64 [(0, .ref (B + w0)), (1, .int w1), (2, .int w2), (3, .int w3), (4, .int w4), (5, .int sP.1)] [] Q) (fun (rE : Int32 × v_J) => V l B D ac (v_EE B wa wb wt sb sL sx) yX9_few cX9_few 8 (some .long) d 0 0 0 0 S I rE.2 F 129 [(0, .ref (B + w0)), (1, .int w1), (2, .int w2), (3, .int w3), (4, .int w4)] [] Q) rx64 → V l B D ac (v_EE B wa wb wt sb sL sx) yX9_few cX9_few 8 (some .long) d 0 0 0 0 S I s64.2 F 64 [(0, .ref (B + w0)), (1, .int w1), (2, .int w2), (3, .int w3), (4, .int w4), (5, .int s64.1)] [] Q := by
      intro w0 w1 w2 w3 w4 s64 rx64 h hk
      have j94 : ∀ (J : v_J) (y5 : Int32) (z0 : Int64), f_X9_few_J64_94 S I F w0 w1 w2 w3 w4 J y5 z0 = some rx64 → V l B D ac (v_EE B wa wb wt sb sL sx) yX9_few cX9_few 8 (some .long) d 0 0 0 0 S I J F 94 [(0, .ref (B + w0)), (1, .int w1), (2, .int w2), (3, .int w3), (4, .int w4), (5, .int y5)] [.long z0] Q := by
        intro J y5 z0 h
        unfold f_X9_few_J64_94 at h
        refine v_lstore dX9_few_94 (by decide) ?_
        refine v_sub [(0, .ref (B + w0)), (1, .int w1), (2, .int w2), (3, .int w3), (4, .int w4), (5, .int y5), (6, .long z0)] ⟨rfl, rfl, rfl, rfl, rfl, rfl, rfl, trivial⟩ ?_
        refine v_aload_n dX9_few_96 rfl ?_
        replace h := p_bind_elim h
        obtain ⟨_, q_27, h⟩ := h
        have q_27 := p_ob_spec q_27
        replace h := p_bind_elim h
        obtain ⟨a_28, q_29, h⟩ := h
        refine v_getR q_29 rfl fl_X9_76 dX9_few_97 q_27 ?_
        refine v_iload dX9_few_100 rfl ?_
        refine v_aload_n dX9_few_102 rfl ?_
        replace h := p_bind_elim h
        obtain ⟨a_30, q_31, h⟩ := h
        refine v_getR q_31 rfl fl_X9_76 dX9_few_103 q_27 ?_
        refine v_iload dX9_few_106 rfl ?_
        replace h := p_bind_elim h
        obtain ⟨j_32, q_33, h⟩ := h
        refine v_laldP dX9_few_108 q_33 ?_
        refine v_bipush (10 : Int32) dX9_few_109 (by decide) ?_
        refine v_iload_n dX9_few_111 rfl ?_
        refine v_isub dX9_few_112 ?_
        refine v_i2l dX9_few_113 ?_
        refine v_lmul dX9_few_114 ?_
        refine v_ldc2 (10 : Int64) dX9_few_115 kn_X9_287 ?_
        refine v_ldiv dX9_few_118 (by decide) ?_
        refine v_lload dX9_few_119 rfl ?_
        refine v_ladd dX9_few_121 ?_
        replace h := p_bind_elim h
        obtain ⟨j_34, q_35, h⟩ := h
        refine v_lastP dX9_few_122 q_35 ?_
        replace h := p_let_elim h
        obtain ⟨J_36, h_37, h⟩ := h
        rw [← h_37]
        replace h := p_let_elim h
        obtain ⟨x_38, h_39, h⟩ := h
        refine v_iincE (-1 : Int32) dX9_few_123 (by decide) rfl (by decide) ?_
        rw [← h_39]
        refine v_sub [(0, .ref (B + w0)), (1, .int w1), (2, .int w2), (3, .int w3), (4, .int w4), (5, .int x_38)] ⟨rfl, rfl, rfl, rfl, rfl, rfl, trivial⟩ ?_
        refine v_goto 64 dX9_few_126 (by decide) ?_
        cases h
        refine v_sub [(0, .ref (B + w0)), (1, .int w1), (2, .int w2), (3, .int w3), (4, .int w4), (5, .int x_38)] ⟨rfl, rfl, rfl, rfl, rfl, rfl, trivial⟩ ?_
        exact hk
      unfold f_X9_few_B64 at h
      refine v_iload dX9_few_64 rfl ?_
      refine v_if_lt 129 dX9_few_66 (by decide) (fun c_25 => ?_) (fun c_25 => ?_)
      · rw [if_pos c_25] at h
        cases h
        refine v_sub [(0, .ref (B + w0)), (1, .int w1), (2, .int w2), (3, .int w3), (4, .int w4)] ⟨rfl, rfl, rfl, rfl, rfl, trivial⟩ ?_
        exact hk
      · rw [if_neg c_25] at h
        refine v_iload dX9_few_69 rfl ?_
        refine v_if_le 93 dX9_few_71 (by decide) (fun c_26 => ?_) (fun c_26 => ?_)
        · rw [if_pos c_26] at h
          refine v_lconst (0 : Int64) dX9_few_93 (by decide) ?_
          refine v_sub [(0, .ref (B + w0)), (1, .int w1), (2, .int w2), (3, .int w3), (4, .int w4), (5, .int s64.1)] ⟨rfl, rfl, rfl, rfl, rfl, rfl, trivial⟩ ?_
          exact j94 _ _ _ h
        · rw [if_neg c_26] at h
          refine v_aload_n dX9_few_74 rfl ?_
          replace h := p_bind_elim h
          obtain ⟨_, q_40, h⟩ := h
          have q_40 := p_ob_spec q_40
          replace h := p_bind_elim h
          obtain ⟨a_41, q_42, h⟩ := h
          refine v_getR q_42 rfl fl_X9_76 dX9_few_75 q_40 ?_
          refine v_iload dX9_few_78 rfl ?_
          refine v_iconstE (1 : Int32) dX9_few_80 (by decide) ?_
          refine v_isub dX9_few_81 ?_
          replace h := p_bind_elim h
          obtain ⟨j_43, q_44, h⟩ := h
          refine v_laldP dX9_few_82 q_44 ?_
          refine v_iload_n dX9_few_83 rfl ?_
          refine v_i2l dX9_few_84 ?_
          refine v_lmul dX9_few_85 ?_
          refine v_ldc2 (10 : Int64) dX9_few_86 kn_X9_287 ?_
          refine v_ldiv dX9_few_89 (by decide) ?_
          refine v_goto 94 dX9_few_90 (by decide) ?_
          refine v_sub [(0, .ref (B + w0)), (1, .int w1), (2, .int w2), (3, .int w3), (4, .int w4), (5, .int s64.1)] ⟨rfl, rfl, rfl, rfl, rfl, rfl, trivial⟩ ?_
          exact j94 _ _ _ h
    unfold f_X9_few_B53 at h
    refine v_iload dX9_few_53 rfl ?_
    refine v_iload_n dX9_few_55 rfl ?_
    refine v_icmp_ge 135 dX9_few_56 (by decide) (fun c_22 => ?_) (fun c_22 => ?_)
    · rw [if_pos c_22] at h
      cases h
      refine v_sub [(0, .ref (B + w0)), (1, .int w1)] ⟨rfl, rfl, trivial⟩ ?_
      exact hk
    · rw [if_neg c_22] at h
      refine v_iload_n dX9_few_59 rfl ?_
      refine v_iconstE (1 : Int32) dX9_few_60 (by decide) ?_
      refine v_isub dX9_few_61 ?_
      replace h := p_let_elim h
      obtain ⟨x_23, h_24, h⟩ := h
      rw [← h_24]
      refine v_istore dX9_few_62 (by decide) ?_
      refine v_sub [(0, .ref (B + w0)), (1, .int w1), (2, .int w2), (3, .int w3), (4, .int s53.1), (5, .int x_23)] ⟨rfl, rfl, rfl, rfl, rfl, rfl, trivial⟩ ?_
      replace h := p_bind_elim h
      obtain ⟨q_45, h_46, h⟩ := h
      refine v_sub [(0, .ref (B + w0)), (1, .int w1), (2, .int w2), (3, .int w3), (4, .int s53.1), (5, .int x_23)] ⟨rfl, rfl, rfl, rfl, rfl, rfl, trivial⟩ ?_
      refine v_loopV (fun (sP : Int32 × v_J) => V l B D ac (v_EE B wa wb wt sb sL sx) yX9_few cX9_few 8 (some .long) d 0 0 0 0 S I sP.2 F 64 [(0, .ref (B + w0)), (1, .int w1), (2, .int w2), (3, .int w3), (4, .int s53.1), (5, .int sP.1)] [] Q) (fun (rE : Int32 × v_J) => V l B D ac (v_EE B wa wb wt sb sL sx) yX9_few cX9_few 8 (some .long) d 0 0 0 0 S I rE.2 F 129 [(0, .ref (B + w0)), (1, .int w1), (2, .int w2), (3, .int w3), (4, .int s53.1)] [] Q) (fun s_ x_ hb hk => b64 _ _ _ _ _ s_ x_ hb hk) (r := q_45) ?_ h_46
      try dsimp only
      replace h := p_let_elim h
      obtain ⟨x_47, h_48, h⟩ := h
      refine v_iincE (1 : Int32) dX9_few_129 (by decide) rfl (by decide) ?_
      rw [← h_48]
      refine v_sub [(0, .ref (B + w0)), (1, .int w1), (2, .int w2), (3, .int w3), (4, .int x_47)] ⟨rfl, rfl, rfl, rfl, rfl, trivial⟩ ?_
      refine v_goto 53 dX9_few_132 (by decide) ?_
      cases h
      refine v_sub [(0, .ref (B + w0)), (1, .int w1), (2, .int w2), (3, .int w3), (4, .int x_47)] ⟨rfl, rfl, rfl, rfl, rfl, trivial⟩ ?_
      exact hk
  have b141 : ∀ (J : v_J) (w0 : Nat) (w1 : Int32) (s141 : Int64 × Int32) (rx141 : (Int64 × Int32) ⊕ (Int64 × Int32)), f_X9_few_B141 S I F J w0 w1 s141 = some rx141 → v_K (fun (sP : Int64 × Int32) => V l B D ac (v_EE B wa wb wt sb sL sx) yX9_few cX9_few 8 (some .long) d 0 0 0 0 S I J F 141 [(0, .ref (B + w0)), (1, .int w1), (4, .long sP.1), (6, .int sP.2)] [] Q) (fun (rE : Int64 × Int32) => V l B D ac (v_EE B wa wb wt sb sL sx) yX9_few cX9_few 8 (some .long) d 0 0 0 0 S I J F 165 [(4, .long rE.1)] [] Q) rx141 → V l B D ac (v_EE B wa wb wt sb sL sx) yX9_few cX9_few 8 (some .long) d 0 0 0 0 S I J F 141 [(0, .ref (B + w0)), (1, .int w1), (4, .long s141.1), (6, .int s141.2)] [] Q := by
    intro J w0 w1 s141 rx141 h hk
    unfold f_X9_few_B141 at h
    refine v_iload dX9_few_141 rfl ?_
    refine v_iload_n dX9_few_143 rfl ?_
    refine v_icmp_ge 165 dX9_few_144 (by decide) (fun c_51 => ?_) (fun c_51 => ?_)
    · rw [if_pos c_51] at h
      cases h
      refine v_sub [(4, .long s141.1)] ⟨rfl, trivial⟩ ?_
      exact hk
    · rw [if_neg c_51] at h
      refine v_lload dX9_few_147 rfl ?_
      refine v_aload_n dX9_few_149 rfl ?_
      replace h := p_bind_elim h
      obtain ⟨_, q_52, h⟩ := h
      have q_52 := p_ob_spec q_52
      replace h := p_bind_elim h
      obtain ⟨a_53, q_54, h⟩ := h
      refine v_getR q_54 rfl fl_X9_76 dX9_few_150 q_52 ?_
      refine v_iload dX9_few_153 rfl ?_
      replace h := p_bind_elim h
      obtain ⟨j_55, q_56, h⟩ := h
      refine v_laldP dX9_few_155 q_56 ?_
      refine v_ladd dX9_few_156 ?_
      replace h := p_let_elim h
      obtain ⟨x_57, h_58, h⟩ := h
      rw [← h_58]
      refine v_lstore dX9_few_157 (by decide) ?_
      refine v_sub [(0, .ref (B + w0)), (1, .int w1), (4, .long x_57), (6, .int s141.2)] ⟨rfl, rfl, rfl, rfl, trivial⟩ ?_
      replace h := p_let_elim h
      obtain ⟨x_59, h_60, h⟩ := h
      refine v_iincE (1 : Int32) dX9_few_159 (by decide) rfl (by decide) ?_
      rw [← h_60]
      refine v_sub [(0, .ref (B + w0)), (1, .int w1), (4, .long x_57), (6, .int x_59)] ⟨rfl, rfl, rfl, rfl, trivial⟩ ?_
      refine v_goto 141 dX9_few_162 (by decide) ?_
      cases h
      refine v_sub [(0, .ref (B + w0)), (1, .int w1), (4, .long x_57), (6, .int x_59)] ⟨rfl, rfl, rfl, rfl, trivial⟩ ?_
      exact hk
  unfold f_X9_few at h
  refine v_sub [(0, .ref (B + p0)), (1, .int p1), (2, .int p2)] ⟨rfl, rfl, rfl, trivial⟩ ?_
  refine v_iload_n dX9_few_0 rfl ?_
  refine v_iconstE (1 : Int32) dX9_few_1 (by decide) ?_
  refine v_icmp_lt 21 dX9_few_2 (by decide) (fun c_1 => ?_) (fun c_1 => ?_)
  · rw [if_pos c_1] at h
    refine v_ldc2 (-1 : Int64) dX9_few_21 kn_X9_274 ?_
    cases h
    exact v_lret dX9_few_24 rfl (by decide) (by decide) (by rw [← hQ]; exact ⟨rfl, rfl, rfl, rfl, rfl⟩)
  · rw [if_neg c_1] at h
    refine v_iload_n dX9_few_5 rfl ?_
    refine v_bipush (20 : Int32) dX9_few_6 (by decide) ?_
    refine v_icmp_gt 21 dX9_few_8 (by decide) (fun c_2 => ?_) (fun c_2 => ?_)
    · rw [if_pos c_2] at h
      refine v_ldc2 (-1 : Int64) dX9_few_21 kn_X9_274 ?_
      cases h
      exact v_lret dX9_few_24 rfl (by decide) (by decide) (by rw [← hQ]; exact ⟨rfl, rfl, rfl, rfl, rfl⟩)
    · rw [if_neg c_2] at h
      refine v_iload_n dX9_few_11 rfl ?_
      refine v_i2l dX9_few_12 ?_
      refine v_bipush (99 : Int32) dX9_few_13 (by decide) ?_
      replace h := p_bind_elim h
      obtain ⟨r_3, q_4, h⟩ := h
      refine v_cSr (t_X9_isUpTo q_4) cal_X9_isUpTo ml_X9_95 sta_X9_isUpTo dX9_few_15 (by omega) (by decide) (by decide) (Nat.le_of_ble_eq_true rfl) rfl ?_
      refine v_if_ne 25 dX9_few_18 (by decide) (fun c_5 => ?_) (fun c_5 => ?_)
      · rw [if_neg c_5] at h
        refine v_aload_n dX9_few_25 rfl ?_
        replace h := p_bind_elim h
        obtain ⟨_, q_6, h⟩ := h
        have q_6 := p_ob_spec q_6
        replace h := p_bind_elim h
        obtain ⟨a_7, q_8, h⟩ := h
        refine v_getR q_8 rfl fl_X9_76 dX9_few_26 q_6 ?_
        refine v_lconst (0 : Int64) dX9_few_29 (by decide) ?_
        replace h := p_bind_elim h
        obtain ⟨r_9, q_10, h⟩ := h
        refine v_cSn (t_J7_fill_d0a16 q_10) cal_J7_fill_d0a16 ml_X9_276 sta_J7_fill_d0a16 dX9_few_30 (by omega) (by decide) (by decide) (Nat.le_of_ble_eq_true rfl) rfl ?_
        refine v_aload_n dX9_few_33 rfl ?_
        replace h := p_bind_elim h
        obtain ⟨a_11, q_12, h⟩ := h
        refine v_getR q_12 rfl fl_X9_76 dX9_few_34 q_6 ?_
        refine v_iconstE (0 : Int32) dX9_few_37 (by decide) ?_
        refine v_ldc2 (1000000000000 : Int64) dX9_few_38 kn_X9_282 ?_
        replace h := p_bind_elim h
        obtain ⟨j_13, q_14, h⟩ := h
        refine v_lastP dX9_few_41 q_14 ?_
        replace h := p_let_elim h
        obtain ⟨J_15, h_16, h⟩ := h
        rw [← h_16]
        refine v_aload_n dX9_few_42 rfl ?_
        replace h := p_bind_elim h
        obtain ⟨a_17, q_18, h⟩ := h
        refine v_getR q_18 rfl fl_X9_12 dX9_few_43 q_6 ?_
        replace h := p_bind_elim h
        obtain ⟨_, q_19, h⟩ := h
        have q_19 := p_ob_spec q_19
        refine v_getI rfl fl_X9_284 dX9_few_46 q_19 ?_
        replace h := p_let_elim h
        obtain ⟨x_20, h_21, h⟩ := h
        rw [← h_21]
        refine v_istore_n dX9_few_49 (by decide) ?_
        refine v_sub [(0, .ref (B + p0)), (1, .int p1), (2, .int p2), (3, .int x_20)] ⟨rfl, rfl, rfl, rfl, trivial⟩ ?_
        refine v_iconstE (0 : Int32) dX9_few_50 (by decide) ?_
        refine v_istore dX9_few_51 (by decide) ?_
        refine v_sub [(0, .ref (B + p0)), (1, .int p1), (2, .int p2), (3, .int x_20), (4, .int (0 : Int32))] ⟨rfl, rfl, rfl, rfl, rfl, trivial⟩ ?_
        replace h := p_bind_elim h
        obtain ⟨q_49, h_50, h⟩ := h
        refine v_sub [(0, .ref (B + p0)), (1, .int p1), (2, .int p2), (3, .int x_20), (4, .int (0 : Int32))] ⟨rfl, rfl, rfl, rfl, rfl, trivial⟩ ?_
        refine v_loopV (fun (sP : Int32 × v_J) => V l B D ac (v_EE B wa wb wt sb sL sx) yX9_few cX9_few 8 (some .long) d 0 0 0 0 S I sP.2 F 53 [(0, .ref (B + p0)), (1, .int p1), (2, .int p2), (3, .int x_20), (4, .int sP.1)] [] Q) (fun (rE : Int32 × v_J) => V l B D ac (v_EE B wa wb wt sb sL sx) yX9_few cX9_few 8 (some .long) d 0 0 0 0 S I rE.2 F 135 [(0, .ref (B + p0)), (1, .int p1)] [] Q) (fun s_ x_ hb hk => b53 _ _ _ _ s_ x_ hb hk) (r := q_49) ?_ h_50
        try dsimp only
        refine v_lconst (0 : Int64) dX9_few_135 (by decide) ?_
        refine v_lstore dX9_few_136 (by decide) ?_
        refine v_sub [(0, .ref (B + p0)), (1, .int p1), (4, .long (0 : Int64))] ⟨rfl, rfl, rfl, trivial⟩ ?_
        refine v_iconstE (0 : Int32) dX9_few_138 (by decide) ?_
        refine v_istore dX9_few_139 (by decide) ?_
        refine v_sub [(0, .ref (B + p0)), (1, .int p1), (4, .long (0 : Int64)), (6, .int (0 : Int32))] ⟨rfl, rfl, rfl, rfl, trivial⟩ ?_
        replace h := p_bind_elim h
        obtain ⟨q_61, h_62, h⟩ := h
        refine v_sub [(0, .ref (B + p0)), (1, .int p1), (4, .long (0 : Int64)), (6, .int (0 : Int32))] ⟨rfl, rfl, rfl, rfl, trivial⟩ ?_
        refine v_loopV (fun (sP : Int64 × Int32) => V l B D ac (v_EE B wa wb wt sb sL sx) yX9_few cX9_few 8 (some .long) d 0 0 0 0 S I q_49.2 F 141 [(0, .ref (B + p0)), (1, .int p1), (4, .long sP.1), (6, .int sP.2)] [] Q) (fun (rE : Int64 × Int32) => V l B D ac (v_EE B wa wb wt sb sL sx) yX9_few cX9_few 8 (some .long) d 0 0 0 0 S I q_49.2 F 165 [(4, .long rE.1)] [] Q) (fun s_ x_ hb hk => b141 _ _ _ s_ x_ hb hk) (r := q_61) ?_ h_62
        try dsimp only
        refine v_lload dX9_few_165 rfl ?_
        cases h
        exact v_lret dX9_few_167 rfl (by decide) (by decide) (by rw [← hQ]; exact ⟨rfl, rfl, rfl, rfl, rfl⟩)
      · rw [if_pos c_5] at h
        refine v_ldc2 (-1 : Int64) dX9_few_21 kn_X9_274 ?_
        cases h
        exact v_lret dX9_few_24 rfl (by decide) (by decide) (by rw [← hQ]; exact ⟨rfl, rfl, rfl, rfl, rfl⟩)

def f_X1_openByLaw (S : v_S) (I : v_I) (J : v_J) (F : v_F) (p0 : Nat) (p1 : Nat) (p2 : Option Nat) : Option (Int32 × v_I × v_J) :=
(p_ob S 0 p1).bind fun _ =>
(F p1 1).bind fun a_2 =>
(p_ob S 3 a_2).bind fun _ =>
(p_ob S 1 p0).bind fun _ =>
(f_X1_begin S I F p0 p1 (I a_2 0)).bind fun r_5 =>
(F p0 1).bind fun a_8 =>
(f_X1_passMinute S r_5 J F p0 p1 a_8 p2 (0 : Int32)).bind fun r_10 =>
(F p0 1).bind fun a_12 =>
(p_ob S 3 a_12).bind fun _ =>
(f_X3_openMany S r_10.2.1 a_12).bind fun r_14 =>
some (r_14, r_10.2.1, r_10.2.2)
set_option maxHeartbeats 4000000 in
set_option maxRecDepth 100000 in
theorem t_X1_openByLaw {p0 : Nat} {p1 : Nat} {p2 : Option Nat} {r : Int32 × v_I × v_J} (h : f_X1_openByLaw S I J F p0 p1 p2 = some r) : v_R l B D ac (v_EE B wa wb wt sb sL sx) yX1_openByLaw cX1_openByLaw 3 (some .int) 5 0 0 [.ref (B + p0), .ref (B + p1), v_rf B p2] S I J F (v_D (some (.int r.1)) S r.2.1 r.2.2 F) := by
  refine v_R.of (by decide) (by rcases p2 with _ | _ <;> exact Nat.le_of_ble_eq_true rfl) fun d hd => ?_
  generalize hQ : v_D (some (.int r.1)) S r.2.1 r.2.2 F = Q
  unfold f_X1_openByLaw at h
  refine v_sub [(0, .ref (B + p0)), (1, .ref (B + p1)), (2, v_rf B p2)] (by rcases p2 with _ | _ <;> exact ⟨rfl, rfl, rfl, trivial⟩) ?_
  refine v_aload_n dX1_openByLaw_0 rfl ?_
  refine v_aload_n dX1_openByLaw_1 rfl ?_
  refine v_aload_n dX1_openByLaw_2 rfl ?_
  replace h := p_bind_elim h
  obtain ⟨_, q_1, h⟩ := h
  have q_1 := p_ob_spec q_1
  replace h := p_bind_elim h
  obtain ⟨a_2, q_3, h⟩ := h
  refine v_getR q_3 rfl fl_X1_42 dX1_openByLaw_3 q_1 ?_
  replace h := p_bind_elim h
  obtain ⟨_, q_4, h⟩ := h
  have q_4 := p_ob_spec q_4
  refine v_getI rfl fl_X1_56 dX1_openByLaw_6 q_4 ?_
  replace h := p_bind_elim h
  obtain ⟨_, q_7, h⟩ := h
  have q_7 := p_ob_spec q_7
  replace h := p_bind_elim h
  obtain ⟨r_5, q_6, h⟩ := h
  refine v_cVn (t_X1_begin q_6) cal_X1_begin ml_X1_158 sel_X1_begin q_7 kk_1 dX1_openByLaw_9 (by omega) (by decide) (by decide) (Nat.le_of_ble_eq_true rfl) rfl ?_
  refine v_aload_n dX1_openByLaw_12 rfl ?_
  refine v_aload_n dX1_openByLaw_13 rfl ?_
  refine v_aload_n dX1_openByLaw_14 rfl ?_
  replace h := p_bind_elim h
  obtain ⟨a_8, q_9, h⟩ := h
  refine v_getR q_9 rfl fl_X1_21 dX1_openByLaw_15 q_7 ?_
  refine v_aload_nQ dX1_openByLaw_18 rfl ?_
  refine v_iconstE (0 : Int32) dX1_openByLaw_19 (by decide) ?_
  replace h := p_bind_elim h
  obtain ⟨r_10, q_11, h⟩ := h
  refine v_cVr (t_X1_passMinute q_11) cal_X1_passMinute ml_X1_80 sel_X1_passMinute q_7 kk_1 dX1_openByLaw_20 (by omega) (by decide) (by decide) (Nat.le_of_ble_eq_true rfl) rfl ?_
  refine v_pop dX1_openByLaw_23 rfl ?_
  refine v_aload_n dX1_openByLaw_24 rfl ?_
  replace h := p_bind_elim h
  obtain ⟨a_12, q_13, h⟩ := h
  refine v_getR q_13 rfl fl_X1_21 dX1_openByLaw_25 q_7 ?_
  replace h := p_bind_elim h
  obtain ⟨_, q_16, h⟩ := h
  have q_16 := p_ob_spec q_16
  replace h := p_bind_elim h
  obtain ⟨r_14, q_15, h⟩ := h
  refine v_cVr (t_X3_openMany q_15) cal_X3_openMany ml_X1_72 sel_X3_openMany q_16 kk_3 dX1_openByLaw_28 (by omega) (by decide) (by decide) (Nat.le_of_ble_eq_true rfl) rfl ?_
  cases h
  exact v_iret dX1_openByLaw_31 rfl (by decide) (by decide) (by rw [← hQ]; exact ⟨rfl, rfl, rfl, rfl, rfl⟩)

def f_X9_compare_J20 (S : v_S) (F : v_F) (I : v_I) (J : v_J) (y0 : Nat) (y2 : Option Nat) : Option (Int32 × v_I × v_J) :=
(p_ob S 9 y0).bind fun _ =>
(F y0 3).bind fun a_9 =>
(F y0 0).bind fun a_11 =>
(p_ob S 1 a_9).bind fun _ =>
(f_X1_openByLaw S I J F a_9 a_11 y2).bind fun r_13 =>
some (r_13.1, r_13.2.1, r_13.2.2)
def f_X9_compare (S : v_S) (I : v_I) (J : v_J) (F : v_F) (p0 : Nat) (p1 : Int32) : Option (Int32 × v_I × v_J) :=
(p_ob S 9 p0).bind fun _ =>
(F p0 0).bind fun a_2 =>
(p_ob S 0 a_2).bind fun _ =>
(f_X0_lawAt S I F a_2 p1).bind fun r_4 =>
if p1 = (-1 : Int32) then (
f_X9_compare_J20 S F I J p0 r_4)
else (
p_nul r_4 (
some ((-1 : Int32), I, J)) (fun a_16 =>
f_X9_compare_J20 S F I J p0 (some a_16)))
set_option maxHeartbeats 4000000 in
set_option maxRecDepth 100000 in
theorem t_X9_compare {p0 : Nat} {p1 : Int32} {r : Int32 × v_I × v_J} (h : f_X9_compare S I J F p0 p1 = some r) : v_R l B D ac (v_EE B wa wb wt sb sL sx) yX9_compare cX9_compare 3 (some .int) 6 0 0 [.ref (B + p0), .int p1] S I J F (v_D (some (.int r.1)) S r.2.1 r.2.2 F) := by
  refine v_R.of (by decide) (Nat.le_of_ble_eq_true rfl) fun d hd => ?_
  generalize hQ : v_D (some (.int r.1)) S r.2.1 r.2.2 F = Q
  have j20 : ∀ (I : v_I) (J : v_J) (y0 : Nat) (y2 : Option Nat), f_X9_compare_J20 S F I J y0 y2 = some r → V l B D ac (v_EE B wa wb wt sb sL sx) yX9_compare cX9_compare 3 (some .int) d 0 0 0 0 S I J F 20 [(0, .ref (B + y0)), (2, v_rf B y2)] [] Q := by
    intro I J y0 y2 h
    unfold f_X9_compare_J20 at h
    refine v_aload_n dX9_compare_20 rfl ?_
    replace h := p_bind_elim h
    obtain ⟨_, q_8, h⟩ := h
    have q_8 := p_ob_spec q_8
    replace h := p_bind_elim h
    obtain ⟨a_9, q_10, h⟩ := h
    refine v_getR q_10 rfl fl_X9_30 dX9_compare_21 q_8 ?_
    refine v_aload_n dX9_compare_24 rfl ?_
    replace h := p_bind_elim h
    obtain ⟨a_11, q_12, h⟩ := h
    refine v_getR q_12 rfl fl_X9_12 dX9_compare_25 q_8 ?_
    refine v_aload_nQ dX9_compare_28 rfl ?_
    replace h := p_bind_elim h
    obtain ⟨_, q_15, h⟩ := h
    have q_15 := p_ob_spec q_15
    replace h := p_bind_elim h
    obtain ⟨r_13, q_14, h⟩ := h
    refine v_cVr (t_X1_openByLaw q_14) cal_X1_openByLaw ml_X9_289 sel_X1_openByLaw q_15 kk_1 dX9_compare_29 (by omega) (by decide) (by decide) (Nat.le_of_ble_eq_true rfl) rfl ?_
    cases h
    exact v_iret dX9_compare_32 rfl (by decide) (by decide) (by rw [← hQ]; exact ⟨rfl, rfl, rfl, rfl, rfl⟩)
  unfold f_X9_compare at h
  refine v_sub [(0, .ref (B + p0)), (1, .int p1)] ⟨rfl, rfl, trivial⟩ ?_
  refine v_aload_n dX9_compare_0 rfl ?_
  replace h := p_bind_elim h
  obtain ⟨_, q_1, h⟩ := h
  have q_1 := p_ob_spec q_1
  replace h := p_bind_elim h
  obtain ⟨a_2, q_3, h⟩ := h
  refine v_getR q_3 rfl fl_X9_12 dX9_compare_1 q_1 ?_
  refine v_iload_n dX9_compare_4 rfl ?_
  replace h := p_bind_elim h
  obtain ⟨_, q_6, h⟩ := h
  have q_6 := p_ob_spec q_6
  replace h := p_bind_elim h
  obtain ⟨r_4, q_5, h⟩ := h
  refine v_cVr (t_X0_lawAt q_5) cal_X0_lawAt ml_X9_195 sel_X0_lawAt q_6 kk_0 dX9_compare_5 (by omega) (by decide) (by decide) (Nat.le_of_ble_eq_true rfl) rfl ?_
  refine v_astore_nQ dX9_compare_8 (by decide) ?_
  refine v_sub [(0, .ref (B + p0)), (1, .int p1), (2, v_rf B r_4)] (by rcases r_4 with _ | _ <;> exact ⟨rfl, rfl, rfl, trivial⟩) ?_
  refine v_iload_n dX9_compare_9 rfl ?_
  refine v_iconstE (-1 : Int32) dX9_compare_10 (by decide) ?_
  refine v_icmp_eq 20 dX9_compare_11 (by decide) (fun c_7 => ?_) (fun c_7 => ?_)
  · rw [if_pos c_7] at h
    refine v_sub [(0, .ref (B + p0)), (2, v_rf B r_4)] (by rcases r_4 with _ | _ <;> exact ⟨rfl, rfl, trivial⟩) ?_
    exact j20 _ _ _ _ h
  · rw [if_neg c_7] at h
    refine v_aload_nQ dX9_compare_14 rfl ?_
    replace h := p_nul_elim h
    rcases h with ⟨q_17, h⟩ | ⟨a_16, q_17, h⟩
    · subst q_17
      refine v_ifnonnullN dX9_compare_15 ?_
      refine v_iconstE (-1 : Int32) dX9_compare_18 (by decide) ?_
      cases h
      exact v_iret dX9_compare_19 rfl (by decide) (by decide) (by rw [← hQ]; exact ⟨rfl, rfl, rfl, rfl, rfl⟩)
    · subst q_17
      refine v_ifnonnull 20 dX9_compare_15 (by decide) ?_
      refine v_sub [(0, .ref (B + p0)), (2, .ref (B + a_16))] ⟨rfl, rfl, trivial⟩ ?_
      exact j20 _ _ _ _ h

def f_X1_nextDraw (p0 : Int32) : Option (Int32) :=
some ((((p0.toInt64 * (1103 : Int64)) + (12345 : Int64)) - ((p0.toInt64 * (1103 : Int64)) + (12345 : Int64)) / (1000003 : Int64) * (1000003 : Int64)).toInt32)
set_option maxHeartbeats 4000000 in
set_option maxRecDepth 100000 in
theorem t_X1_nextDraw {p0 : Int32} {r : Int32} (h : f_X1_nextDraw p0 = some r) : v_R l B D ac (v_EE B wa wb wt sb sL sx) yX1_nextDraw cX1_nextDraw 1 (some .int) 1 0 0 [.int p0] S I J F (v_D (some (.int r)) S I J F) := by
  refine v_R.of (by decide) (Nat.le_of_ble_eq_true rfl) fun d hd => ?_
  generalize hQ : v_D (some (.int r)) S I J F = Q
  unfold f_X1_nextDraw at h
  refine v_sub [(0, .int p0)] ⟨rfl, trivial⟩ ?_
  refine v_iload_n dX1_nextDraw_0 rfl ?_
  refine v_i2l dX1_nextDraw_1 ?_
  refine v_ldc2 (1103 : Int64) dX1_nextDraw_2 kn_X1_190 ?_
  refine v_lmul dX1_nextDraw_5 ?_
  refine v_ldc2 (12345 : Int64) dX1_nextDraw_6 kn_X1_192 ?_
  refine v_ladd dX1_nextDraw_9 ?_
  refine v_ldc2 (1000003 : Int64) dX1_nextDraw_10 kn_X1_194 ?_
  refine v_lrem dX1_nextDraw_13 (by decide) ?_
  refine v_l2i dX1_nextDraw_14 ?_
  cases h
  exact v_iret dX1_nextDraw_15 rfl (by decide) (by decide) (by rw [← hQ]; exact ⟨rfl, rfl, rfl, rfl, rfl⟩)

def f_X1_holdCouncils_J21_135 (S : v_S) (F : v_F) (w0 : Nat) (w1 : Nat) (w2 : Nat) (w4 : Int32) (w5 : Option Nat) (I : v_I) (J : v_J) (y6 : Int32) (y7 : Int32) : Option ((Int32 × Int32 × v_I × v_J) ⊕ (Int32 × Int32 × v_I × v_J)) :=
(p_ob S 1 w0).bind fun _ =>
(f_X1_passMinute S I J F w0 w1 w2 w5 (0 : Int32)).bind fun r_22 =>
p_let (y7 + (1 : Int32)) fun x_25 =>
some (.inl (y6, x_25, r_22.2.1, r_22.2.2))
def f_X1_holdCouncils_B21 (S : v_S) (F : v_F) (w0 : Nat) (w1 : Nat) (w2 : Nat) (w4 : Int32) (w5 : Option Nat) (s21 : Int32 × Int32 × v_I × v_J) : Option ((Int32 × Int32 × v_I × v_J) ⊕ (Int32 × Int32 × v_I × v_J)) :=
if w4 ≤ s21.2.1 then (
some (.inr (s21.1, s21.2.1, s21.2.2.1, s21.2.2.2)))
else (
(p_ob S 3 w2).bind fun _ =>
if (999 : Int32) ≤ (s21.2.2.1 w2 1) then (
some (.inr (s21.1, s21.2.1, s21.2.2.1, s21.2.2.2)))
else (
(f_X1_nextDraw s21.1).bind fun r_8 =>
(p_ob S 0 w1).bind fun _ =>
(p_nz32 (s21.2.2.1 w1 0)).bind fun _ =>
p_let (r_8 - r_8 / (s21.2.2.1 w1 0) * (s21.2.2.1 w1 0)) fun x_12 =>
(f_X1_nextDraw r_8).bind fun r_14 =>
p_let (r_14 - r_14 / (10 : Int32) * (10 : Int32)) fun x_16 =>
(f_X1_nextDraw r_14).bind fun r_18 =>
if (r_18 - r_18 / (4 : Int32) * (4 : Int32)) = (0 : Int32) then (
(f_X3_shutOne S s21.2.2.1 F w2 x_12).bind fun r_20 =>
f_X1_holdCouncils_J21_135 S F w0 w1 w2 w4 w5 r_20.2 s21.2.2.2 r_18 s21.2.1)
else if (r_18 - r_18 / (4 : Int32) * (4 : Int32)) = (1 : Int32) then (
(f_X3_openOne S s21.2.2.1 w2 x_12).bind fun r_27 =>
f_X1_holdCouncils_J21_135 S F w0 w1 w2 w4 w5 r_27 s21.2.2.2 r_18 s21.2.1)
else if (r_18 - r_18 / (4 : Int32) * (4 : Int32)) = (2 : Int32) then (
(f_X3_changeWant S s21.2.2.1 F w2 x_12 x_16).bind fun r_29 =>
f_X1_holdCouncils_J21_135 S F w0 w1 w2 w4 w5 r_29.2 s21.2.2.2 r_18 s21.2.1)
else (
f_X1_holdCouncils_J21_135 S F w0 w1 w2 w4 w5 s21.2.2.1 s21.2.2.2 r_18 s21.2.1)))
def f_X1_holdCouncils (S : v_S) (I : v_I) (J : v_J) (F : v_F) (p0 : Nat) (p1 : Nat) (p2 : Nat) (p3 : Int32) (p4 : Int32) : Option (v_I × v_J) :=
(p_ob S 0 p1).bind fun _ =>
if (1 : Int32) ≤ (I p1 0) then (
(f_X0_lawInForce S I F p1).bind fun r_3 =>
(v_loop (f_X1_holdCouncils_B21 S F p0 p1 p2 p4 r_3) FU (p3, (0 : Int32), I, J)).bind fun q_34 =>
some (q_34.2.2.1, q_34.2.2.2))
else (
some (I, J))
set_option maxHeartbeats 4000000 in
set_option maxRecDepth 100000 in
theorem t_X1_holdCouncils {p0 : Nat} {p1 : Nat} {p2 : Nat} {p3 : Int32} {p4 : Int32} {r : v_I × v_J} (h : f_X1_holdCouncils S I J F p0 p1 p2 p3 p4 = some r) : v_R l B D ac (v_EE B wa wb wt sb sL sx) yX1_holdCouncils cX1_holdCouncils 10 none 5 0 0 [.ref (B + p0), .ref (B + p1), .ref (B + p2), .int p3, .int p4] S I J F (v_D none S r.1 r.2 F) := by
  refine v_R.of (by decide) (Nat.le_of_ble_eq_true rfl) fun d hd => ?_
  generalize hQ : v_D none S r.1 r.2 F = Q
  have b21 : ∀ (w0 : Nat) (w1 : Nat) (w2 : Nat) (w4 : Int32) (w5 : Option Nat) (s21 : Int32 × Int32 × v_I × v_J) (rx21 : (Int32 × Int32 × v_I × v_J) ⊕ (Int32 × Int32 × v_I × v_J)), f_X1_holdCouncils_B21 S F w0 w1 w2 w4 w5 s21 = some rx21 → v_K (fun (sP : Int32 × Int32 × v_I × v_J) => V l B D ac (v_EE B wa wb wt sb sL sx) yX1_holdCouncils cX1_holdCouncils 10 none d 0 0 0 0 S sP.2.2.1 sP.2.2.2 F 21 [(0, .ref (B + w0)), (1, .ref (B + w1)), (2, .ref (B + w2)), (4, .int w4), (5, v_rf B w5), (6, .int sP.1), (7, .int sP.2.1)] [] Q) (fun (rE : Int32 × Int32 × v_I × v_J) => V l B D ac (v_EE B wa wb wt sb sL sx) yX1_holdCouncils cX1_holdCouncils 10 none d 0 0 0 0 S rE.2.2.1 rE.2.2.2 F 151 [] [] Q) rx21 → V l B D ac (v_EE B wa wb wt sb sL sx) yX1_holdCouncils cX1_holdCouncils 10 none d 0 0 0 0 S s21.2.2.1 s21.2.2.2 F 21 [(0, .ref (B + w0)), (1, .ref (B + w1)), (2, .ref (B + w2)), (4, .int w4), (5, v_rf B w5), (6, .int s21.1), (7, .int s21.2.1)] [] Q := by
    intro w0 w1 w2 w4 w5 s21 rx21 h hk
    have j135 : ∀ (I : v_I) (J : v_J) (y6 : Int32) (y7 : Int32), f_X1_holdCouncils_J21_135 S F w0 w1 w2 w4 w5 I J y6 y7 = some rx21 → V l B D ac (v_EE B wa wb wt sb sL sx) yX1_holdCouncils cX1_holdCouncils 10 none d 0 0 0 0 S I J F 135 [(0, .ref (B + w0)), (1, .ref (B + w1)), (2, .ref (B + w2)), (4, .int w4), (5, v_rf B w5), (6, .int y6), (7, .int y7)] [] Q := by
      intro I J y6 y7 h
      unfold f_X1_holdCouncils_J21_135 at h
      refine v_aload_n dX1_holdCouncils_135 rfl ?_
      refine v_aload_n dX1_holdCouncils_136 rfl ?_
      refine v_aload_n dX1_holdCouncils_137 rfl ?_
      refine v_aloadQ dX1_holdCouncils_138 rfl ?_
      refine v_iconstE (0 : Int32) dX1_holdCouncils_140 (by decide) ?_
      replace h := p_bind_elim h
      obtain ⟨_, q_24, h⟩ := h
      have q_24 := p_ob_spec q_24
      replace h := p_bind_elim h
      obtain ⟨r_22, q_23, h⟩ := h
      refine v_cVr (t_X1_passMinute q_23) cal_X1_passMinute ml_X1_80 sel_X1_passMinute q_24 kk_1 dX1_holdCouncils_141 (by omega) (by decide) (by decide) (Nat.le_of_ble_eq_true rfl) rfl ?_
      refine v_pop dX1_holdCouncils_144 rfl ?_
      replace h := p_let_elim h
      obtain ⟨x_25, h_26, h⟩ := h
      refine v_iincE (1 : Int32) dX1_holdCouncils_145 (by decide) rfl (by decide) ?_
      rw [← h_26]
      refine v_sub [(0, .ref (B + w0)), (1, .ref (B + w1)), (2, .ref (B + w2)), (4, .int w4), (5, v_rf B w5), (6, .int y6), (7, .int x_25)] (by rcases w5 with _ | _ <;> exact ⟨rfl, rfl, rfl, rfl, rfl, rfl, rfl, trivial⟩) ?_
      refine v_goto 21 dX1_holdCouncils_148 (by decide) ?_
      cases h
      refine v_sub [(0, .ref (B + w0)), (1, .ref (B + w1)), (2, .ref (B + w2)), (4, .int w4), (5, v_rf B w5), (6, .int y6), (7, .int x_25)] (by rcases w5 with _ | _ <;> exact ⟨rfl, rfl, rfl, rfl, rfl, rfl, rfl, trivial⟩) ?_
      exact hk
    unfold f_X1_holdCouncils_B21 at h
    refine v_iload dX1_holdCouncils_21 rfl ?_
    refine v_iload dX1_holdCouncils_23 rfl ?_
    refine v_icmp_ge 151 dX1_holdCouncils_25 (by decide) (fun c_5 => ?_) (fun c_5 => ?_)
    · rw [if_pos c_5] at h
      cases h
      refine v_sub [] (by rcases w5 with _ | _ <;> exact trivial) ?_
      exact hk
    · rw [if_neg c_5] at h
      refine v_aload_n dX1_holdCouncils_28 rfl ?_
      replace h := p_bind_elim h
      obtain ⟨_, q_6, h⟩ := h
      have q_6 := p_ob_spec q_6
      refine v_getI rfl fl_X1_108 dX1_holdCouncils_29 q_6 ?_
      refine v_sipush (999 : Int32) dX1_holdCouncils_32 (by decide) ?_
      refine v_icmp_ge 151 dX1_holdCouncils_35 (by decide) (fun c_7 => ?_) (fun c_7 => ?_)
      · rw [if_pos c_7] at h
        cases h
        refine v_sub [] (by rcases w5 with _ | _ <;> exact trivial) ?_
        exact hk
      · rw [if_neg c_7] at h
        refine v_iload dX1_holdCouncils_38 rfl ?_
        replace h := p_bind_elim h
        obtain ⟨r_8, q_9, h⟩ := h
        refine v_cSr (t_X1_nextDraw q_9) cal_X1_nextDraw ml_X1_187 sta_X1_nextDraw dX1_holdCouncils_40 (by omega) (by decide) (by decide) (Nat.le_of_ble_eq_true rfl) rfl ?_
        refine v_istore dX1_holdCouncils_43 (by decide) ?_
        refine v_sub [(0, .ref (B + w0)), (1, .ref (B + w1)), (2, .ref (B + w2)), (4, .int w4), (5, v_rf B w5), (6, .int r_8), (7, .int s21.2.1)] (by rcases w5 with _ | _ <;> exact ⟨rfl, rfl, rfl, rfl, rfl, rfl, rfl, trivial⟩) ?_
        refine v_iload dX1_holdCouncils_45 rfl ?_
        refine v_aload_n dX1_holdCouncils_47 rfl ?_
        replace h := p_bind_elim h
        obtain ⟨_, q_10, h⟩ := h
        have q_10 := p_ob_spec q_10
        refine v_getI rfl fl_X1_90 dX1_holdCouncils_48 q_10 ?_
        replace h := p_bind_elim h
        obtain ⟨_, q_11, h⟩ := h
        refine v_irem dX1_holdCouncils_51 (p_nz32_spec q_11) ?_
        replace h := p_let_elim h
        obtain ⟨x_12, h_13, h⟩ := h
        rw [← h_13]
        refine v_istore dX1_holdCouncils_52 (by decide) ?_
        refine v_sub [(0, .ref (B + w0)), (1, .ref (B + w1)), (2, .ref (B + w2)), (4, .int w4), (5, v_rf B w5), (6, .int r_8), (7, .int s21.2.1), (8, .int x_12)] (by rcases w5 with _ | _ <;> exact ⟨rfl, rfl, rfl, rfl, rfl, rfl, rfl, rfl, trivial⟩) ?_
        refine v_iload dX1_holdCouncils_54 rfl ?_
        replace h := p_bind_elim h
        obtain ⟨r_14, q_15, h⟩ := h
        refine v_cSr (t_X1_nextDraw q_15) cal_X1_nextDraw ml_X1_187 sta_X1_nextDraw dX1_holdCouncils_56 (by omega) (by decide) (by decide) (Nat.le_of_ble_eq_true rfl) rfl ?_
        refine v_istore dX1_holdCouncils_59 (by decide) ?_
        refine v_sub [(0, .ref (B + w0)), (1, .ref (B + w1)), (2, .ref (B + w2)), (4, .int w4), (5, v_rf B w5), (6, .int r_14), (7, .int s21.2.1), (8, .int x_12)] (by rcases w5 with _ | _ <;> exact ⟨rfl, rfl, rfl, rfl, rfl, rfl, rfl, rfl, trivial⟩) ?_
        refine v_iload dX1_holdCouncils_61 rfl ?_
        refine v_bipush (10 : Int32) dX1_holdCouncils_63 (by decide) ?_
        refine v_irem dX1_holdCouncils_65 (by decide) ?_
        replace h := p_let_elim h
        obtain ⟨x_16, h_17, h⟩ := h
        rw [← h_17]
        refine v_istore dX1_holdCouncils_66 (by decide) ?_
        refine v_sub [(0, .ref (B + w0)), (1, .ref (B + w1)), (2, .ref (B + w2)), (4, .int w4), (5, v_rf B w5), (6, .int r_14), (7, .int s21.2.1), (8, .int x_12), (9, .int x_16)] (by rcases w5 with _ | _ <;> exact ⟨rfl, rfl, rfl, rfl, rfl, rfl, rfl, rfl, rfl, trivial⟩) ?_
        refine v_iload dX1_holdCouncils_68 rfl ?_
        replace h := p_bind_elim h
        obtain ⟨r_18, q_19, h⟩ := h
        refine v_cSr (t_X1_nextDraw q_19) cal_X1_nextDraw ml_X1_187 sta_X1_nextDraw dX1_holdCouncils_70 (by omega) (by decide) (by decide) (Nat.le_of_ble_eq_true rfl) rfl ?_
        refine v_istore dX1_holdCouncils_73 (by decide) ?_
        refine v_sub [(0, .ref (B + w0)), (1, .ref (B + w1)), (2, .ref (B + w2)), (4, .int w4), (5, v_rf B w5), (6, .int r_18), (7, .int s21.2.1), (8, .int x_12), (9, .int x_16)] (by rcases w5 with _ | _ <;> exact ⟨rfl, rfl, rfl, rfl, rfl, rfl, rfl, rfl, rfl, trivial⟩) ?_
        refine v_iload dX1_holdCouncils_75 rfl ?_
        refine v_iconstE (4 : Int32) dX1_holdCouncils_77 (by decide) ?_
        refine v_irem dX1_holdCouncils_78 (by decide) ?_
        by_cases c_31 : (r_18 - r_18 / (4 : Int32) * (4 : Int32)) = (0 : Int32)
        · rw [if_pos c_31] at h
          refine v_swIn 104 (0 : Int32) c_31 dX1_holdCouncils_79 (by decide) (by decide) rfl (by decide) ?_
          refine v_aload_n dX1_holdCouncils_104 rfl ?_
          refine v_iload dX1_holdCouncils_105 rfl ?_
          replace h := p_bind_elim h
          obtain ⟨r_20, q_21, h⟩ := h
          refine v_cVr (t_X3_shutOne q_21) cal_X3_shutOne ml_X1_64 sel_X3_shutOne q_6 kk_3 dX1_holdCouncils_107 (by omega) (by decide) (by decide) (Nat.le_of_ble_eq_true rfl) rfl ?_
          refine v_pop dX1_holdCouncils_110 rfl ?_
          refine v_goto 135 dX1_holdCouncils_111 (by decide) ?_
          refine v_sub [(0, .ref (B + w0)), (1, .ref (B + w1)), (2, .ref (B + w2)), (4, .int w4), (5, v_rf B w5), (6, .int r_18), (7, .int s21.2.1)] (by rcases w5 with _ | _ <;> exact ⟨rfl, rfl, rfl, rfl, rfl, rfl, rfl, trivial⟩) ?_
          exact j135 _ _ _ _ h
        · rw [if_neg c_31] at h
          by_cases c_32 : (r_18 - r_18 / (4 : Int32) * (4 : Int32)) = (1 : Int32)
          · rw [if_pos c_32] at h
            refine v_swIn 114 (1 : Int32) c_32 dX1_holdCouncils_79 (by decide) (by decide) rfl (by decide) ?_
            refine v_aload_n dX1_holdCouncils_114 rfl ?_
            refine v_iload dX1_holdCouncils_115 rfl ?_
            replace h := p_bind_elim h
            obtain ⟨r_27, q_28, h⟩ := h
            refine v_cVn (t_X3_openOne q_28) cal_X3_openOne ml_X1_68 sel_X3_openOne q_6 kk_3 dX1_holdCouncils_117 (by omega) (by decide) (by decide) (Nat.le_of_ble_eq_true rfl) rfl ?_
            refine v_goto 135 dX1_holdCouncils_120 (by decide) ?_
            refine v_sub [(0, .ref (B + w0)), (1, .ref (B + w1)), (2, .ref (B + w2)), (4, .int w4), (5, v_rf B w5), (6, .int r_18), (7, .int s21.2.1)] (by rcases w5 with _ | _ <;> exact ⟨rfl, rfl, rfl, rfl, rfl, rfl, rfl, trivial⟩) ?_
            exact j135 _ _ _ _ h
          · rw [if_neg c_32] at h
            by_cases c_33 : (r_18 - r_18 / (4 : Int32) * (4 : Int32)) = (2 : Int32)
            · rw [if_pos c_33] at h
              refine v_swIn 123 (2 : Int32) c_33 dX1_holdCouncils_79 (by decide) (by decide) rfl (by decide) ?_
              refine v_aload_n dX1_holdCouncils_123 rfl ?_
              refine v_iload dX1_holdCouncils_124 rfl ?_
              refine v_iload dX1_holdCouncils_126 rfl ?_
              replace h := p_bind_elim h
              obtain ⟨r_29, q_30, h⟩ := h
              refine v_cVr (t_X3_changeWant q_30) cal_X3_changeWant ml_X1_76 sel_X3_changeWant q_6 kk_3 dX1_holdCouncils_128 (by omega) (by decide) (by decide) (Nat.le_of_ble_eq_true rfl) rfl ?_
              refine v_pop dX1_holdCouncils_131 rfl ?_
              refine v_goto 135 dX1_holdCouncils_132 (by decide) ?_
              refine v_sub [(0, .ref (B + w0)), (1, .ref (B + w1)), (2, .ref (B + w2)), (4, .int w4), (5, v_rf B w5), (6, .int r_18), (7, .int s21.2.1)] (by rcases w5 with _ | _ <;> exact ⟨rfl, rfl, rfl, rfl, rfl, rfl, rfl, trivial⟩) ?_
              exact j135 _ _ _ _ h
            · rw [if_neg c_33] at h
              refine v_tableOut 135 dX1_holdCouncils_79 (p_sw_out (fun k h1 h2 => by have h3 : k = 0 ∨ k = 1 ∨ k = 2 := (by omega); rcases h3 with rfl | rfl | rfl <;> first | exact c_31 | exact c_32 | exact c_33)) (by decide) ?_
              refine v_sub [(0, .ref (B + w0)), (1, .ref (B + w1)), (2, .ref (B + w2)), (4, .int w4), (5, v_rf B w5), (6, .int r_18), (7, .int s21.2.1)] (by rcases w5 with _ | _ <;> exact ⟨rfl, rfl, rfl, rfl, rfl, rfl, rfl, trivial⟩) ?_
              exact j135 _ _ _ _ h
  unfold f_X1_holdCouncils at h
  refine v_sub [(0, .ref (B + p0)), (1, .ref (B + p1)), (2, .ref (B + p2)), (3, .int p3), (4, .int p4)] ⟨rfl, rfl, rfl, rfl, rfl, trivial⟩ ?_
  refine v_aload_n dX1_holdCouncils_0 rfl ?_
  replace h := p_bind_elim h
  obtain ⟨_, q_1, h⟩ := h
  have q_1 := p_ob_spec q_1
  refine v_getI rfl fl_X1_90 dX1_holdCouncils_1 q_1 ?_
  refine v_iconstE (1 : Int32) dX1_holdCouncils_4 (by decide) ?_
  refine v_icmp_ge 9 dX1_holdCouncils_5 (by decide) (fun c_2 => ?_) (fun c_2 => ?_)
  · rw [if_pos c_2] at h
    refine v_aload_n dX1_holdCouncils_9 rfl ?_
    replace h := p_bind_elim h
    obtain ⟨r_3, q_4, h⟩ := h
    refine v_cVr (t_X0_lawInForce q_4) cal_X0_lawInForce ml_X1_38 sel_X0_lawInForce q_1 kk_0 dX1_holdCouncils_10 (by omega) (by decide) (by decide) (Nat.le_of_ble_eq_true rfl) rfl ?_
    refine v_astoreQ dX1_holdCouncils_13 (by decide) ?_
    refine v_sub [(0, .ref (B + p0)), (1, .ref (B + p1)), (2, .ref (B + p2)), (3, .int p3), (4, .int p4), (5, v_rf B r_3)] (by rcases r_3 with _ | _ <;> exact ⟨rfl, rfl, rfl, rfl, rfl, rfl, trivial⟩) ?_
    refine v_iload_n dX1_holdCouncils_15 rfl ?_
    refine v_istore dX1_holdCouncils_16 (by decide) ?_
    refine v_sub [(0, .ref (B + p0)), (1, .ref (B + p1)), (2, .ref (B + p2)), (4, .int p4), (5, v_rf B r_3), (6, .int p3)] (by rcases r_3 with _ | _ <;> exact ⟨rfl, rfl, rfl, rfl, rfl, rfl, trivial⟩) ?_
    refine v_iconstE (0 : Int32) dX1_holdCouncils_18 (by decide) ?_
    refine v_istore dX1_holdCouncils_19 (by decide) ?_
    refine v_sub [(0, .ref (B + p0)), (1, .ref (B + p1)), (2, .ref (B + p2)), (4, .int p4), (5, v_rf B r_3), (6, .int p3), (7, .int (0 : Int32))] (by rcases r_3 with _ | _ <;> exact ⟨rfl, rfl, rfl, rfl, rfl, rfl, rfl, trivial⟩) ?_
    replace h := p_bind_elim h
    obtain ⟨q_34, h_35, h⟩ := h
    refine v_sub [(0, .ref (B + p0)), (1, .ref (B + p1)), (2, .ref (B + p2)), (4, .int p4), (5, v_rf B r_3), (6, .int p3), (7, .int (0 : Int32))] (by rcases r_3 with _ | _ <;> exact ⟨rfl, rfl, rfl, rfl, rfl, rfl, rfl, trivial⟩) ?_
    refine v_loopV (fun (sP : Int32 × Int32 × v_I × v_J) => V l B D ac (v_EE B wa wb wt sb sL sx) yX1_holdCouncils cX1_holdCouncils 10 none d 0 0 0 0 S sP.2.2.1 sP.2.2.2 F 21 [(0, .ref (B + p0)), (1, .ref (B + p1)), (2, .ref (B + p2)), (4, .int p4), (5, v_rf B r_3), (6, .int sP.1), (7, .int sP.2.1)] [] Q) (fun (rE : Int32 × Int32 × v_I × v_J) => V l B D ac (v_EE B wa wb wt sb sL sx) yX1_holdCouncils cX1_holdCouncils 10 none d 0 0 0 0 S rE.2.2.1 rE.2.2.2 F 151 [] [] Q) (fun s_ x_ hb hk => b21 _ _ _ _ _ s_ x_ hb hk) (r := q_34) ?_ h_35
    try dsimp only
    cases h
    exact v_vret dX1_holdCouncils_151 rfl (by decide) (by decide) (by rw [← hQ]; exact ⟨rfl, rfl, rfl, rfl, rfl⟩)
  · rw [if_neg c_2] at h
    cases h
    exact v_vret dX1_holdCouncils_8 rfl (by decide) (by decide) (by rw [← hQ]; exact ⟨rfl, rfl, rfl, rfl, rfl⟩)

def f_X9_councils_J22 (S : v_S) (F : v_F) (I : v_I) (J : v_J) (y0 : Nat) : Option (Int32 × v_I × v_J) :=
(p_ob S 9 y0).bind fun _ =>
(f_X9_refuse S I F y0 (-1 : Int32)).bind fun r_4 =>
some (r_4.1, r_4.2, J)
def f_X9_councils (S : v_S) (I : v_I) (J : v_J) (F : v_F) (p0 : Nat) (p1 : Int32) (p2 : Int32) : Option (Int32 × v_I × v_J) :=
(f_X9_isUpTo p1.toInt64 (1000000 : Int32)).bind fun r_1 =>
if r_1 = (0 : Int32) then (
f_X9_councils_J22 S F I J p0)
else (
if p2 < (1 : Int32) then (
f_X9_councils_J22 S F I J p0)
else (
if p2 ≤ (60 : Int32) then (
(p_ob S 9 p0).bind fun _ =>
(F p0 0).bind fun a_10 =>
(p_ob S 0 a_10).bind fun _ =>
if (I a_10 0) = (0 : Int32) then (
(f_X9_refuse S I F p0 (-3 : Int32)).bind fun r_43 =>
some (r_43.1, r_43.2, J))
else (
(F p0 5).bind fun a_14 =>
(F p0 0).bind fun a_16 =>
(p_ob S 0 a_16).bind fun _ =>
(F a_16 1).bind fun a_19 =>
(p_ob S 3 a_14).bind fun _ =>
(f_X3_copyFrom S I F a_14 a_19).bind fun r_21 =>
(F p0 0).bind fun a_24 =>
(p_ob S 0 a_24).bind fun _ =>
p_let (v_up r_21 p0 6 (r_21 a_24 0)) fun I_27 =>
(F p0 3).bind fun a_29 =>
(F p0 0).bind fun a_31 =>
(F p0 5).bind fun a_33 =>
(p_ob S 1 a_29).bind fun _ =>
(f_X1_holdCouncils S I_27 J F a_29 a_31 a_33 p1 p2).bind fun r_35 =>
(F p0 5).bind fun a_38 =>
(p_ob S 3 a_38).bind fun _ =>
(f_X9_accept S r_35.1 p0 (r_35.1 a_38 0)).bind fun r_41 =>
some (r_41.1, r_41.2, r_35.2)))
else (
f_X9_councils_J22 S F I J p0)))
set_option maxHeartbeats 4000000 in
set_option maxRecDepth 100000 in
theorem t_X9_councils {p0 : Nat} {p1 : Int32} {p2 : Int32} {r : Int32 × v_I × v_J} (h : f_X9_councils S I J F p0 p1 p2 = some r) : v_R l B D ac (v_EE B wa wb wt sb sL sx) yX9_councils cX9_councils 3 (some .int) 6 0 0 [.ref (B + p0), .int p1, .int p2] S I J F (v_D (some (.int r.1)) S r.2.1 r.2.2 F) := by
  refine v_R.of (by decide) (Nat.le_of_ble_eq_true rfl) fun d hd => ?_
  generalize hQ : v_D (some (.int r.1)) S r.2.1 r.2.2 F = Q
  have j22 : ∀ (I : v_I) (J : v_J) (y0 : Nat), f_X9_councils_J22 S F I J y0 = some r → V l B D ac (v_EE B wa wb wt sb sL sx) yX9_councils cX9_councils 3 (some .int) d 0 0 0 0 S I J F 22 [(0, .ref (B + y0))] [] Q := by
    intro I J y0 h
    unfold f_X9_councils_J22 at h
    refine v_aload_n dX9_councils_22 rfl ?_
    refine v_iconstE (-1 : Int32) dX9_councils_23 (by decide) ?_
    replace h := p_bind_elim h
    obtain ⟨_, q_6, h⟩ := h
    have q_6 := p_ob_spec q_6
    replace h := p_bind_elim h
    obtain ⟨r_4, q_5, h⟩ := h
    refine v_cVr (t_X9_refuse q_5) cal_X9_refuse ml_X9_99 sel_X9_refuse q_6 kk_9 dX9_councils_24 (by omega) (by decide) (by decide) (Nat.le_of_ble_eq_true rfl) rfl ?_
    cases h
    exact v_iret dX9_councils_27 rfl (by decide) (by decide) (by rw [← hQ]; exact ⟨rfl, rfl, rfl, rfl, rfl⟩)
  unfold f_X9_councils at h
  refine v_sub [(0, .ref (B + p0)), (1, .int p1), (2, .int p2)] ⟨rfl, rfl, rfl, trivial⟩ ?_
  refine v_iload_n dX9_councils_0 rfl ?_
  refine v_i2l dX9_councils_1 ?_
  refine v_ldcw (1000000 : Int32) dX9_councils_2 kn_X9_293 ?_
  replace h := p_bind_elim h
  obtain ⟨r_1, q_2, h⟩ := h
  refine v_cSr (t_X9_isUpTo q_2) cal_X9_isUpTo ml_X9_95 sta_X9_isUpTo dX9_councils_5 (by omega) (by decide) (by decide) (Nat.le_of_ble_eq_true rfl) rfl ?_
  refine v_if_eq 22 dX9_councils_8 (by decide) (fun c_3 => ?_) (fun c_3 => ?_)
  · rw [if_pos c_3] at h
    refine v_sub [(0, .ref (B + p0))] ⟨rfl, trivial⟩ ?_
    exact j22 _ _ _ h
  · rw [if_neg c_3] at h
    refine v_iload_n dX9_councils_11 rfl ?_
    refine v_iconstE (1 : Int32) dX9_councils_12 (by decide) ?_
    refine v_icmp_lt 22 dX9_councils_13 (by decide) (fun c_7 => ?_) (fun c_7 => ?_)
    · rw [if_pos c_7] at h
      refine v_sub [(0, .ref (B + p0))] ⟨rfl, trivial⟩ ?_
      exact j22 _ _ _ h
    · rw [if_neg c_7] at h
      refine v_iload_n dX9_councils_16 rfl ?_
      refine v_bipush (60 : Int32) dX9_councils_17 (by decide) ?_
      refine v_icmp_le 28 dX9_councils_19 (by decide) (fun c_8 => ?_) (fun c_8 => ?_)
      · rw [if_pos c_8] at h
        refine v_aload_n dX9_councils_28 rfl ?_
        replace h := p_bind_elim h
        obtain ⟨_, q_9, h⟩ := h
        have q_9 := p_ob_spec q_9
        replace h := p_bind_elim h
        obtain ⟨a_10, q_11, h⟩ := h
        refine v_getR q_11 rfl fl_X9_12 dX9_councils_29 q_9 ?_
        replace h := p_bind_elim h
        obtain ⟨_, q_12, h⟩ := h
        have q_12 := p_ob_spec q_12
        refine v_getI rfl fl_X9_103 dX9_councils_32 q_12 ?_
        refine v_if_ne 45 dX9_councils_35 (by decide) (fun c_13 => ?_) (fun c_13 => ?_)
        · rw [if_neg c_13] at h
          refine v_aload_n dX9_councils_45 rfl ?_
          replace h := p_bind_elim h
          obtain ⟨a_14, q_15, h⟩ := h
          refine v_getR q_15 rfl fl_X9_44 dX9_councils_46 q_9 ?_
          refine v_aload_n dX9_councils_49 rfl ?_
          replace h := p_bind_elim h
          obtain ⟨a_16, q_17, h⟩ := h
          refine v_getR q_17 rfl fl_X9_12 dX9_councils_50 q_9 ?_
          replace h := p_bind_elim h
          obtain ⟨_, q_18, h⟩ := h
          have q_18 := p_ob_spec q_18
          replace h := p_bind_elim h
          obtain ⟨a_19, q_20, h⟩ := h
          refine v_getR q_20 rfl fl_X9_123 dX9_councils_53 q_18 ?_
          replace h := p_bind_elim h
          obtain ⟨_, q_23, h⟩ := h
          have q_23 := p_ob_spec q_23
          replace h := p_bind_elim h
          obtain ⟨r_21, q_22, h⟩ := h
          refine v_cVn (t_X3_copyFrom q_22) cal_X3_copyFrom ml_X9_184 sel_X3_copyFrom q_23 kk_3 dX9_councils_56 (by omega) (by decide) (by decide) (Nat.le_of_ble_eq_true rfl) rfl ?_
          refine v_aload_n dX9_councils_59 rfl ?_
          refine v_aload_n dX9_councils_60 rfl ?_
          replace h := p_bind_elim h
          obtain ⟨a_24, q_25, h⟩ := h
          refine v_getR q_25 rfl fl_X9_12 dX9_councils_61 q_9 ?_
          replace h := p_bind_elim h
          obtain ⟨_, q_26, h⟩ := h
          have q_26 := p_ob_spec q_26
          refine v_getI rfl fl_X9_103 dX9_councils_64 q_26 ?_
          refine v_putI rfl fl_X9_48 dX9_councils_67 q_9 rfl rfl ?_
          replace h := p_let_elim h
          obtain ⟨I_27, h_28, h⟩ := h
          rw [← h_28]
          refine v_aload_n dX9_councils_70 rfl ?_
          replace h := p_bind_elim h
          obtain ⟨a_29, q_30, h⟩ := h
          refine v_getR q_30 rfl fl_X9_30 dX9_councils_71 q_9 ?_
          refine v_aload_n dX9_councils_74 rfl ?_
          replace h := p_bind_elim h
          obtain ⟨a_31, q_32, h⟩ := h
          refine v_getR q_32 rfl fl_X9_12 dX9_councils_75 q_9 ?_
          refine v_aload_n dX9_councils_78 rfl ?_
          replace h := p_bind_elim h
          obtain ⟨a_33, q_34, h⟩ := h
          refine v_getR q_34 rfl fl_X9_44 dX9_councils_79 q_9 ?_
          refine v_iload_n dX9_councils_82 rfl ?_
          refine v_iload_n dX9_councils_83 rfl ?_
          replace h := p_bind_elim h
          obtain ⟨_, q_37, h⟩ := h
          have q_37 := p_ob_spec q_37
          replace h := p_bind_elim h
          obtain ⟨r_35, q_36, h⟩ := h
          refine v_cVn (t_X1_holdCouncils q_36) cal_X1_holdCouncils ml_X9_294 sel_X1_holdCouncils q_37 kk_1 dX9_councils_84 (by omega) (by decide) (by decide) (Nat.le_of_ble_eq_true rfl) rfl ?_
          refine v_aload_n dX9_councils_87 rfl ?_
          refine v_aload_n dX9_councils_88 rfl ?_
          replace h := p_bind_elim h
          obtain ⟨a_38, q_39, h⟩ := h
          refine v_getR q_39 rfl fl_X9_44 dX9_councils_89 q_9 ?_
          replace h := p_bind_elim h
          obtain ⟨_, q_40, h⟩ := h
          have q_40 := p_ob_spec q_40
          refine v_getI rfl fl_X9_209 dX9_councils_92 q_40 ?_
          replace h := p_bind_elim h
          obtain ⟨r_41, q_42, h⟩ := h
          refine v_cVr (t_X9_accept q_42) cal_X9_accept ml_X9_113 sel_X9_accept q_9 kk_9 dX9_councils_95 (by omega) (by decide) (by decide) (Nat.le_of_ble_eq_true rfl) rfl ?_
          cases h
          exact v_iret dX9_councils_98 rfl (by decide) (by decide) (by rw [← hQ]; exact ⟨rfl, rfl, rfl, rfl, rfl⟩)
        · rw [if_pos c_13] at h
          refine v_aload_n dX9_councils_38 rfl ?_
          refine v_bipush (-3 : Int32) dX9_councils_39 (by decide) ?_
          replace h := p_bind_elim h
          obtain ⟨r_43, q_44, h⟩ := h
          refine v_cVr (t_X9_refuse q_44) cal_X9_refuse ml_X9_99 sel_X9_refuse q_9 kk_9 dX9_councils_41 (by omega) (by decide) (by decide) (Nat.le_of_ble_eq_true rfl) rfl ?_
          cases h
          exact v_iret dX9_councils_44 rfl (by decide) (by decide) (by rw [← hQ]; exact ⟨rfl, rfl, rfl, rfl, rfl⟩)
      · rw [if_neg c_8] at h
        refine v_sub [(0, .ref (B + p0))] ⟨rfl, trivial⟩ ?_
        exact j22 _ _ _ h

def f_X9_drawn (S : v_S) (I : v_I) (F : v_F) (p0 : Nat) (p1 : Int32) (p2 : Int32) : Option (Int32) :=
if p1 < (0 : Int32) then (
some ((-1 : Int32)))
else (
(p_ob S 9 p0).bind fun _ =>
if p1 < (I p0 6) then (
if p2 = (0 : Int32) then (
(F p0 5).bind fun a_4 =>
(p_ob S 3 a_4).bind fun _ =>
(F a_4 2).bind fun a_7 =>
(p_ix S 20 a_7 p1).bind fun j_9 =>
some (I a_7 j_9))
else if p2 = (1 : Int32) then (
(F p0 5).bind fun a_11 =>
(p_ob S 3 a_11).bind fun _ =>
(f_X3_isOpen S I a_11 p1).bind fun r_13 =>
if r_13 = (0 : Int32) then (
some ((0 : Int32)))
else (
some ((1 : Int32))))
else if p2 = (2 : Int32) then (
(F p0 5).bind fun a_17 =>
(p_ob S 3 a_17).bind fun _ =>
(F a_17 3).bind fun a_20 =>
(p_ix S 20 a_20 p1).bind fun j_22 =>
some (I a_20 j_22))
else (
some ((-1 : Int32))))
else (
some ((-1 : Int32))))
set_option maxHeartbeats 4000000 in
set_option maxRecDepth 100000 in
theorem t_X9_drawn {p0 : Nat} {p1 : Int32} {p2 : Int32} {r : Int32} (h : f_X9_drawn S I F p0 p1 p2 = some r) : v_R l B D ac (v_EE B wa wb wt sb sL sx) yX9_drawn cX9_drawn 3 (some .int) 2 0 0 [.ref (B + p0), .int p1, .int p2] S I J F (v_D (some (.int r)) S I J F) := by
  refine v_R.of (by decide) (Nat.le_of_ble_eq_true rfl) fun d hd => ?_
  generalize hQ : v_D (some (.int r)) S I J F = Q
  unfold f_X9_drawn at h
  refine v_sub [(0, .ref (B + p0)), (1, .int p1), (2, .int p2)] ⟨rfl, rfl, rfl, trivial⟩ ?_
  refine v_iload_n dX9_drawn_0 rfl ?_
  refine v_if_lt 12 dX9_drawn_1 (by decide) (fun c_1 => ?_) (fun c_1 => ?_)
  · rw [if_pos c_1] at h
    refine v_iconstE (-1 : Int32) dX9_drawn_12 (by decide) ?_
    cases h
    exact v_iret dX9_drawn_13 rfl (by decide) (by decide) (by rw [← hQ]; exact ⟨rfl, rfl, rfl, rfl, rfl⟩)
  · rw [if_neg c_1] at h
    refine v_iload_n dX9_drawn_4 rfl ?_
    refine v_aload_n dX9_drawn_5 rfl ?_
    replace h := p_bind_elim h
    obtain ⟨_, q_2, h⟩ := h
    have q_2 := p_ob_spec q_2
    refine v_getI rfl fl_X9_48 dX9_drawn_6 q_2 ?_
    refine v_icmp_lt 14 dX9_drawn_9 (by decide) (fun c_3 => ?_) (fun c_3 => ?_)
    · rw [if_pos c_3] at h
      refine v_iload_n dX9_drawn_14 rfl ?_
      by_cases c_24 : p2 = (0 : Int32)
      · rw [if_pos c_24] at h
        refine v_swIn 40 (0 : Int32) c_24 dX9_drawn_15 (by decide) (by decide) rfl (by decide) ?_
        refine v_aload_n dX9_drawn_40 rfl ?_
        replace h := p_bind_elim h
        obtain ⟨a_4, q_5, h⟩ := h
        refine v_getR q_5 rfl fl_X9_44 dX9_drawn_41 q_2 ?_
        replace h := p_bind_elim h
        obtain ⟨_, q_6, h⟩ := h
        have q_6 := p_ob_spec q_6
        replace h := p_bind_elim h
        obtain ⟨a_7, q_8, h⟩ := h
        refine v_getR q_8 rfl fl_X9_126 dX9_drawn_44 q_6 ?_
        refine v_iload_n dX9_drawn_47 rfl ?_
        replace h := p_bind_elim h
        obtain ⟨j_9, q_10, h⟩ := h
        refine v_ialdP dX9_drawn_48 q_10 ?_
        cases h
        exact v_iret dX9_drawn_49 rfl (by decide) (by decide) (by rw [← hQ]; exact ⟨rfl, rfl, rfl, rfl, rfl⟩)
      · rw [if_neg c_24] at h
        by_cases c_25 : p2 = (1 : Int32)
        · rw [if_pos c_25] at h
          refine v_swIn 50 (1 : Int32) c_25 dX9_drawn_15 (by decide) (by decide) rfl (by decide) ?_
          refine v_aload_n dX9_drawn_50 rfl ?_
          replace h := p_bind_elim h
          obtain ⟨a_11, q_12, h⟩ := h
          refine v_getR q_12 rfl fl_X9_44 dX9_drawn_51 q_2 ?_
          refine v_iload_n dX9_drawn_54 rfl ?_
          replace h := p_bind_elim h
          obtain ⟨_, q_15, h⟩ := h
          have q_15 := p_ob_spec q_15
          replace h := p_bind_elim h
          obtain ⟨r_13, q_14, h⟩ := h
          refine v_cVr (t_X3_isOpen q_14) cal_X3_isOpen ml_X9_135 sel_X3_isOpen q_15 kk_3 dX9_drawn_55 (by omega) (by decide) (by decide) (Nat.le_of_ble_eq_true rfl) rfl ?_
          refine v_if_eq 65 dX9_drawn_58 (by decide) (fun c_16 => ?_) (fun c_16 => ?_)
          · rw [if_pos c_16] at h
            refine v_iconstE (0 : Int32) dX9_drawn_65 (by decide) ?_
            cases h
            exact v_iret dX9_drawn_66 rfl (by decide) (by decide) (by rw [← hQ]; exact ⟨rfl, rfl, rfl, rfl, rfl⟩)
          · rw [if_neg c_16] at h
            refine v_iconstE (1 : Int32) dX9_drawn_61 (by decide) ?_
            refine v_goto 66 dX9_drawn_62 (by decide) ?_
            cases h
            exact v_iret dX9_drawn_66 rfl (by decide) (by decide) (by rw [← hQ]; exact ⟨rfl, rfl, rfl, rfl, rfl⟩)
        · rw [if_neg c_25] at h
          by_cases c_26 : p2 = (2 : Int32)
          · rw [if_pos c_26] at h
            refine v_swIn 67 (2 : Int32) c_26 dX9_drawn_15 (by decide) (by decide) rfl (by decide) ?_
            refine v_aload_n dX9_drawn_67 rfl ?_
            replace h := p_bind_elim h
            obtain ⟨a_17, q_18, h⟩ := h
            refine v_getR q_18 rfl fl_X9_44 dX9_drawn_68 q_2 ?_
            replace h := p_bind_elim h
            obtain ⟨_, q_19, h⟩ := h
            have q_19 := p_ob_spec q_19
            replace h := p_bind_elim h
            obtain ⟨a_20, q_21, h⟩ := h
            refine v_getR q_21 rfl fl_X9_139 dX9_drawn_71 q_19 ?_
            refine v_iload_n dX9_drawn_74 rfl ?_
            replace h := p_bind_elim h
            obtain ⟨j_22, q_23, h⟩ := h
            refine v_ialdP dX9_drawn_75 q_23 ?_
            cases h
            exact v_iret dX9_drawn_76 rfl (by decide) (by decide) (by rw [← hQ]; exact ⟨rfl, rfl, rfl, rfl, rfl⟩)
          · rw [if_neg c_26] at h
            refine v_tableOut 77 dX9_drawn_15 (p_sw_out (fun k h1 h2 => by have h3 : k = 0 ∨ k = 1 ∨ k = 2 := (by omega); rcases h3 with rfl | rfl | rfl <;> first | exact c_24 | exact c_25 | exact c_26)) (by decide) ?_
            refine v_iconstE (-1 : Int32) dX9_drawn_77 (by decide) ?_
            cases h
            exact v_iret dX9_drawn_78 rfl (by decide) (by decide) (by rw [← hQ]; exact ⟨rfl, rfl, rfl, rfl, rfl⟩)
    · rw [if_neg c_3] at h
      refine v_iconstE (-1 : Int32) dX9_drawn_12 (by decide) ?_
      cases h
      exact v_iret dX9_drawn_13 rfl (by decide) (by decide) (by rw [← hQ]; exact ⟨rfl, rfl, rfl, rfl, rfl⟩)

def f_X0_copyFrom_B121 (S : v_S) (I : v_I) (w0 : Nat) (w1 : Nat) (s121 : Int32 × v_F) : Option ((Int32 × v_F) ⊕ (Int32 × v_F)) :=
if (6 : Int32) ≤ s121.1 then (
some (.inr (s121.1, s121.2)))
else (
(p_ob S 0 w0).bind fun _ =>
(s121.2 w0 11).bind fun a_52 =>
(p_ob S 0 w1).bind fun _ =>
(s121.2 w1 11).bind fun a_55 =>
(p_ix S 24 a_55 s121.1).bind fun j_57 =>
p_let (s121.2 a_55 j_57) fun x_59 =>
(p_ix S 24 a_52 s121.1).bind fun j_61 =>
(p_oq S 8 x_59).bind fun _ =>
p_let (v_up s121.2 a_52 j_61 x_59) fun F_64 =>
p_let (s121.1 + (1 : Int32)) fun x_66 =>
some (.inl (x_66, F_64)))
def f_X0_copyFrom (S : v_S) (I : v_I) (F : v_F) (p0 : Nat) (p1 : Nat) : Option (v_I × v_F) :=
(p_ob S 0 p1).bind fun _ =>
(p_ob S 0 p0).bind fun _ =>
p_let (v_up I p0 0 (I p1 0)) fun I_3 =>
(F p0 1).bind fun a_5 =>
(F p1 1).bind fun a_7 =>
(p_ob S 3 a_5).bind fun _ =>
(f_X3_copyFrom S I_3 F a_5 a_7).bind fun r_9 =>
(F p1 2).bind fun a_12 =>
(F p0 2).bind fun a_14 =>
(p_cp S a_12 a_14 (0 : Int32) (0 : Int32) (8 : Int32)).bind fun _ =>
p_let (p_cpy r_9 a_12 a_14 (0 : Int32).toNatClampNeg (0 : Int32).toNatClampNeg (8 : Int32).toNatClampNeg) fun I_17 =>
(F p1 3).bind fun a_19 =>
(F p0 3).bind fun a_21 =>
(p_cp S a_19 a_21 (0 : Int32) (0 : Int32) (8 : Int32)).bind fun _ =>
p_let (p_cpy I_17 a_19 a_21 (0 : Int32).toNatClampNeg (0 : Int32).toNatClampNeg (8 : Int32).toNatClampNeg) fun I_24 =>
p_let (v_up I_24 p0 4 (I_24 p1 4)) fun I_26 =>
p_let (v_up I_26 p0 5 (I_26 p1 5)) fun I_28 =>
p_let (v_up I_28 p0 6 (I_28 p1 6)) fun I_30 =>
p_let (v_up I_30 p0 7 (I_30 p1 7)) fun I_32 =>
(F p1 8).bind fun a_34 =>
(F p0 8).bind fun a_36 =>
(p_cp S a_34 a_36 (0 : Int32) (0 : Int32) (6 : Int32)).bind fun _ =>
p_let (p_cpy I_32 a_34 a_36 (0 : Int32).toNatClampNeg (0 : Int32).toNatClampNeg (6 : Int32).toNatClampNeg) fun I_39 =>
(F p1 9).bind fun a_41 =>
(F p0 9).bind fun a_43 =>
(p_cp S a_41 a_43 (0 : Int32) (0 : Int32) (6 : Int32)).bind fun _ =>
p_let (p_cpy I_39 a_41 a_43 (0 : Int32).toNatClampNeg (0 : Int32).toNatClampNeg (6 : Int32).toNatClampNeg) fun I_46 =>
p_let (v_up I_46 p0 10 (I_46 p1 10)) fun I_48 =>
(v_loop (f_X0_copyFrom_B121 S I_48 p0 p1) FU ((0 : Int32), F)).bind fun q_68 =>
p_let (v_up I_48 p0 12 (I_48 p1 12)) fun I_70 =>
some (I_70, q_68.2)
set_option maxHeartbeats 4000000 in
set_option maxRecDepth 100000 in
theorem t_X0_copyFrom {p0 : Nat} {p1 : Nat} {r : v_I × v_F} (h : f_X0_copyFrom S I F p0 p1 = some r) : v_R l B D ac (v_EE B wa wb wt sb sL sx) yX0_copyFrom cX0_copyFrom 3 none 3 0 0 [.ref (B + p0), .ref (B + p1)] S I J F (v_D none S r.1 J r.2) := by
  refine v_R.of (by decide) (Nat.le_of_ble_eq_true rfl) fun d hd => ?_
  generalize hQ : v_D none S r.1 J r.2 = Q
  have b121 : ∀ (I : v_I) (w0 : Nat) (w1 : Nat) (s121 : Int32 × v_F) (rx121 : (Int32 × v_F) ⊕ (Int32 × v_F)), f_X0_copyFrom_B121 S I w0 w1 s121 = some rx121 → v_K (fun (sP : Int32 × v_F) => V l B D ac (v_EE B wa wb wt sb sL sx) yX0_copyFrom cX0_copyFrom 3 none d 0 0 0 0 S I J sP.2 121 [(0, .ref (B + w0)), (1, .ref (B + w1)), (2, .int sP.1)] [] Q) (fun (rE : Int32 × v_F) => V l B D ac (v_EE B wa wb wt sb sL sx) yX0_copyFrom cX0_copyFrom 3 none d 0 0 0 0 S I J rE.2 145 [(0, .ref (B + w0)), (1, .ref (B + w1))] [] Q) rx121 → V l B D ac (v_EE B wa wb wt sb sL sx) yX0_copyFrom cX0_copyFrom 3 none d 0 0 0 0 S I J s121.2 121 [(0, .ref (B + w0)), (1, .ref (B + w1)), (2, .int s121.1)] [] Q := by
    intro I w0 w1 s121 rx121 h hk
    unfold f_X0_copyFrom_B121 at h
    refine v_iload_n dX0_copyFrom_121 rfl ?_
    refine v_bipush (6 : Int32) dX0_copyFrom_122 (by decide) ?_
    refine v_icmp_ge 145 dX0_copyFrom_124 (by decide) (fun c_50 => ?_) (fun c_50 => ?_)
    · rw [if_pos c_50] at h
      cases h
      refine v_sub [(0, .ref (B + w0)), (1, .ref (B + w1))] ⟨rfl, rfl, trivial⟩ ?_
      exact hk
    · rw [if_neg c_50] at h
      refine v_aload_n dX0_copyFrom_127 rfl ?_
      replace h := p_bind_elim h
      obtain ⟨_, q_51, h⟩ := h
      have q_51 := p_ob_spec q_51
      replace h := p_bind_elim h
      obtain ⟨a_52, q_53, h⟩ := h
      refine v_getR q_53 rfl fl_X0_52 dX0_copyFrom_128 q_51 ?_
      refine v_iload_n dX0_copyFrom_131 rfl ?_
      refine v_aload_n dX0_copyFrom_132 rfl ?_
      replace h := p_bind_elim h
      obtain ⟨_, q_54, h⟩ := h
      have q_54 := p_ob_spec q_54
      replace h := p_bind_elim h
      obtain ⟨a_55, q_56, h⟩ := h
      refine v_getR q_56 rfl fl_X0_52 dX0_copyFrom_133 q_54 ?_
      refine v_iload_n dX0_copyFrom_136 rfl ?_
      replace h := p_bind_elim h
      obtain ⟨j_57, q_58, h⟩ := h
      refine v_aaldP4 dX0_copyFrom_137 q_58 ?_
      replace h := p_let_elim h
      obtain ⟨x_59, h_60, h⟩ := h
      rw [← h_60]
      replace h := p_bind_elim h
      obtain ⟨j_61, q_62, h⟩ := h
      replace h := p_bind_elim h
      obtain ⟨_, q_63, h⟩ := h
      refine v_aastP4 (e := x_59) dX0_copyFrom_138 q_62 q_63 ?_
      replace h := p_let_elim h
      obtain ⟨F_64, h_65, h⟩ := h
      rw [← h_65]
      replace h := p_let_elim h
      obtain ⟨x_66, h_67, h⟩ := h
      refine v_iincE (1 : Int32) dX0_copyFrom_139 (by decide) rfl (by decide) ?_
      rw [← h_67]
      refine v_sub [(0, .ref (B + w0)), (1, .ref (B + w1)), (2, .int x_66)] ⟨rfl, rfl, rfl, trivial⟩ ?_
      refine v_goto 121 dX0_copyFrom_142 (by decide) ?_
      cases h
      refine v_sub [(0, .ref (B + w0)), (1, .ref (B + w1)), (2, .int x_66)] ⟨rfl, rfl, rfl, trivial⟩ ?_
      exact hk
  unfold f_X0_copyFrom at h
  refine v_sub [(0, .ref (B + p0)), (1, .ref (B + p1))] ⟨rfl, rfl, trivial⟩ ?_
  refine v_aload_n dX0_copyFrom_0 rfl ?_
  refine v_aload_n dX0_copyFrom_1 rfl ?_
  replace h := p_bind_elim h
  obtain ⟨_, q_1, h⟩ := h
  have q_1 := p_ob_spec q_1
  refine v_getI rfl fl_X0_9 dX0_copyFrom_2 q_1 ?_
  replace h := p_bind_elim h
  obtain ⟨_, q_2, h⟩ := h
  have q_2 := p_ob_spec q_2
  refine v_putI rfl fl_X0_9 dX0_copyFrom_5 q_2 rfl rfl ?_
  replace h := p_let_elim h
  obtain ⟨I_3, h_4, h⟩ := h
  rw [← h_4]
  refine v_aload_n dX0_copyFrom_8 rfl ?_
  replace h := p_bind_elim h
  obtain ⟨a_5, q_6, h⟩ := h
  refine v_getR q_6 rfl fl_X0_18 dX0_copyFrom_9 q_2 ?_
  refine v_aload_n dX0_copyFrom_12 rfl ?_
  replace h := p_bind_elim h
  obtain ⟨a_7, q_8, h⟩ := h
  refine v_getR q_8 rfl fl_X0_18 dX0_copyFrom_13 q_1 ?_
  replace h := p_bind_elim h
  obtain ⟨_, q_11, h⟩ := h
  have q_11 := p_ob_spec q_11
  replace h := p_bind_elim h
  obtain ⟨r_9, q_10, h⟩ := h
  refine v_cVn (t_X3_copyFrom q_10) cal_X3_copyFrom ml_X0_59 sel_X3_copyFrom q_11 kk_3 dX0_copyFrom_16 (by omega) (by decide) (by decide) (Nat.le_of_ble_eq_true rfl) rfl ?_
  refine v_aload_n dX0_copyFrom_19 rfl ?_
  replace h := p_bind_elim h
  obtain ⟨a_12, q_13, h⟩ := h
  refine v_getR q_13 rfl fl_X0_22 dX0_copyFrom_20 q_1 ?_
  refine v_iconstE (0 : Int32) dX0_copyFrom_23 (by decide) ?_
  refine v_aload_n dX0_copyFrom_24 rfl ?_
  replace h := p_bind_elim h
  obtain ⟨a_14, q_15, h⟩ := h
  refine v_getR q_15 rfl fl_X0_22 dX0_copyFrom_25 q_2 ?_
  refine v_iconstE (0 : Int32) dX0_copyFrom_28 (by decide) ?_
  refine v_bipush (8 : Int32) dX0_copyFrom_29 (by decide) ?_
  replace h := p_bind_elim h
  obtain ⟨_, q_16, h⟩ := h
  refine v_copy dX0_copyFrom_31 ml_X0_63 q_16 (by omega) (Nat.le_of_ble_eq_true rfl) ?_
  replace h := p_let_elim h
  obtain ⟨I_17, h_18, h⟩ := h
  rw [← h_18]
  refine v_aload_n dX0_copyFrom_34 rfl ?_
  replace h := p_bind_elim h
  obtain ⟨a_19, q_20, h⟩ := h
  refine v_getR q_20 rfl fl_X0_26 dX0_copyFrom_35 q_1 ?_
  refine v_iconstE (0 : Int32) dX0_copyFrom_38 (by decide) ?_
  refine v_aload_n dX0_copyFrom_39 rfl ?_
  replace h := p_bind_elim h
  obtain ⟨a_21, q_22, h⟩ := h
  refine v_getR q_22 rfl fl_X0_26 dX0_copyFrom_40 q_2 ?_
  refine v_iconstE (0 : Int32) dX0_copyFrom_43 (by decide) ?_
  refine v_bipush (8 : Int32) dX0_copyFrom_44 (by decide) ?_
  replace h := p_bind_elim h
  obtain ⟨_, q_23, h⟩ := h
  refine v_copy dX0_copyFrom_46 ml_X0_63 q_23 (by omega) (Nat.le_of_ble_eq_true rfl) ?_
  replace h := p_let_elim h
  obtain ⟨I_24, h_25, h⟩ := h
  rw [← h_25]
  refine v_aload_n dX0_copyFrom_49 rfl ?_
  refine v_aload_n dX0_copyFrom_50 rfl ?_
  refine v_getI rfl fl_X0_29 dX0_copyFrom_51 q_1 ?_
  refine v_putI rfl fl_X0_29 dX0_copyFrom_54 q_2 rfl rfl ?_
  replace h := p_let_elim h
  obtain ⟨I_26, h_27, h⟩ := h
  rw [← h_27]
  refine v_aload_n dX0_copyFrom_57 rfl ?_
  refine v_aload_n dX0_copyFrom_58 rfl ?_
  refine v_getI rfl fl_X0_32 dX0_copyFrom_59 q_1 ?_
  refine v_putI rfl fl_X0_32 dX0_copyFrom_62 q_2 rfl rfl ?_
  replace h := p_let_elim h
  obtain ⟨I_28, h_29, h⟩ := h
  rw [← h_29]
  refine v_aload_n dX0_copyFrom_65 rfl ?_
  refine v_aload_n dX0_copyFrom_66 rfl ?_
  refine v_getI rfl fl_X0_35 dX0_copyFrom_67 q_1 ?_
  refine v_putI rfl fl_X0_35 dX0_copyFrom_70 q_2 rfl rfl ?_
  replace h := p_let_elim h
  obtain ⟨I_30, h_31, h⟩ := h
  rw [← h_31]
  refine v_aload_n dX0_copyFrom_73 rfl ?_
  refine v_aload_n dX0_copyFrom_74 rfl ?_
  refine v_getI rfl fl_X0_38 dX0_copyFrom_75 q_1 ?_
  refine v_putI rfl fl_X0_38 dX0_copyFrom_78 q_2 rfl rfl ?_
  replace h := p_let_elim h
  obtain ⟨I_32, h_33, h⟩ := h
  rw [← h_33]
  refine v_aload_n dX0_copyFrom_81 rfl ?_
  replace h := p_bind_elim h
  obtain ⟨a_34, q_35, h⟩ := h
  refine v_getR q_35 rfl fl_X0_41 dX0_copyFrom_82 q_1 ?_
  refine v_iconstE (0 : Int32) dX0_copyFrom_85 (by decide) ?_
  refine v_aload_n dX0_copyFrom_86 rfl ?_
  replace h := p_bind_elim h
  obtain ⟨a_36, q_37, h⟩ := h
  refine v_getR q_37 rfl fl_X0_41 dX0_copyFrom_87 q_2 ?_
  refine v_iconstE (0 : Int32) dX0_copyFrom_90 (by decide) ?_
  refine v_bipush (6 : Int32) dX0_copyFrom_91 (by decide) ?_
  replace h := p_bind_elim h
  obtain ⟨_, q_38, h⟩ := h
  refine v_copy dX0_copyFrom_93 ml_X0_63 q_38 (by omega) (Nat.le_of_ble_eq_true rfl) ?_
  replace h := p_let_elim h
  obtain ⟨I_39, h_40, h⟩ := h
  rw [← h_40]
  refine v_aload_n dX0_copyFrom_96 rfl ?_
  replace h := p_bind_elim h
  obtain ⟨a_41, q_42, h⟩ := h
  refine v_getR q_42 rfl fl_X0_44 dX0_copyFrom_97 q_1 ?_
  refine v_iconstE (0 : Int32) dX0_copyFrom_100 (by decide) ?_
  refine v_aload_n dX0_copyFrom_101 rfl ?_
  replace h := p_bind_elim h
  obtain ⟨a_43, q_44, h⟩ := h
  refine v_getR q_44 rfl fl_X0_44 dX0_copyFrom_102 q_2 ?_
  refine v_iconstE (0 : Int32) dX0_copyFrom_105 (by decide) ?_
  refine v_bipush (6 : Int32) dX0_copyFrom_106 (by decide) ?_
  replace h := p_bind_elim h
  obtain ⟨_, q_45, h⟩ := h
  refine v_copy dX0_copyFrom_108 ml_X0_63 q_45 (by omega) (Nat.le_of_ble_eq_true rfl) ?_
  replace h := p_let_elim h
  obtain ⟨I_46, h_47, h⟩ := h
  rw [← h_47]
  refine v_aload_n dX0_copyFrom_111 rfl ?_
  refine v_aload_n dX0_copyFrom_112 rfl ?_
  refine v_getI rfl fl_X0_47 dX0_copyFrom_113 q_1 ?_
  refine v_putI rfl fl_X0_47 dX0_copyFrom_116 q_2 rfl rfl ?_
  replace h := p_let_elim h
  obtain ⟨I_48, h_49, h⟩ := h
  rw [← h_49]
  refine v_iconstE (0 : Int32) dX0_copyFrom_119 (by decide) ?_
  refine v_istore_n dX0_copyFrom_120 (by decide) ?_
  refine v_sub [(0, .ref (B + p0)), (1, .ref (B + p1)), (2, .int (0 : Int32))] ⟨rfl, rfl, rfl, trivial⟩ ?_
  replace h := p_bind_elim h
  obtain ⟨q_68, h_69, h⟩ := h
  refine v_sub [(0, .ref (B + p0)), (1, .ref (B + p1)), (2, .int (0 : Int32))] ⟨rfl, rfl, rfl, trivial⟩ ?_
  refine v_loopV (fun (sP : Int32 × v_F) => V l B D ac (v_EE B wa wb wt sb sL sx) yX0_copyFrom cX0_copyFrom 3 none d 0 0 0 0 S I_48 J sP.2 121 [(0, .ref (B + p0)), (1, .ref (B + p1)), (2, .int sP.1)] [] Q) (fun (rE : Int32 × v_F) => V l B D ac (v_EE B wa wb wt sb sL sx) yX0_copyFrom cX0_copyFrom 3 none d 0 0 0 0 S I_48 J rE.2 145 [(0, .ref (B + p0)), (1, .ref (B + p1))] [] Q) (fun s_ x_ hb hk => b121 _ _ _ s_ x_ hb hk) (r := q_68) ?_ h_69
  try dsimp only
  refine v_aload_n dX0_copyFrom_145 rfl ?_
  refine v_aload_n dX0_copyFrom_146 rfl ?_
  refine v_getI rfl fl_X0_56 dX0_copyFrom_147 q_1 ?_
  refine v_putI rfl fl_X0_56 dX0_copyFrom_150 q_2 rfl rfl ?_
  replace h := p_let_elim h
  obtain ⟨I_70, h_71, h⟩ := h
  rw [← h_71]
  cases h
  exact v_vret dX0_copyFrom_153 rfl (by decide) (by decide) (by rw [← hQ]; exact ⟨rfl, rfl, rfl, rfl, rfl⟩)

def f_X9_image (S : v_S) (I : v_I) (F : v_F) (p0 : Nat) (p1 : Int32) : Option (Int32 × v_S × v_I × v_F) :=
(f_X9_isUpTo p1.toInt64 (1 : Int32)).bind fun r_1 =>
if r_1 = (0 : Int32) then (
(p_ob S 9 p0).bind fun _ =>
(f_X9_refuse S I F p0 (-1 : Int32)).bind fun r_41 =>
some (r_41.1, S, r_41.2, F))
else (
(p_ob S 9 p0).bind fun _ =>
(F p0 1).bind fun a_5 =>
(p_ix S 26 a_5 p1).bind fun j_7 =>
p_let (F a_5 j_7) fun x_9 =>
p_nul x_9 (
p_let (S ++ [(0, v_n 0)]) fun S_13 =>
(f_X0_init S_13 I F S.length).bind fun r_17 =>
(p_ob r_17.1 9 p0).bind fun _ =>
(r_17.2.2 p0 1).bind fun a_20 =>
(p_ix r_17.1 26 a_20 p1).bind fun j_22 =>
(p_oq r_17.1 0 (some S.length)).bind fun _ =>
p_let (v_up r_17.2.2 a_20 j_22 (some S.length)) fun F_25 =>
(F_25 p0 0).bind fun a_27 =>
(p_ob r_17.1 0 S.length).bind fun _ =>
(f_X0_copyFrom r_17.1 r_17.2.1 F_25 S.length a_27).bind fun r_29 =>
(f_X9_accept r_17.1 r_29.1 p0 (0 : Int32)).bind fun r_32 =>
some (r_32.1, r_17.1, r_32.2, r_29.2)) (fun a_11 =>
(F p0 0).bind fun a_34 =>
(p_ob S 0 a_11).bind fun _ =>
(f_X0_copyFrom S I F a_11 a_34).bind fun r_36 =>
(f_X9_accept S r_36.1 p0 (0 : Int32)).bind fun r_39 =>
some (r_39.1, S, r_39.2, r_36.2)))
set_option maxHeartbeats 4000000 in
set_option maxRecDepth 100000 in
theorem t_X9_image {p0 : Nat} {p1 : Int32} {r : Int32 × v_S × v_I × v_F} (h : f_X9_image S I F p0 p1 = some r) : v_R l B D ac (v_EE B wa wb wt sb sL sx) yX9_image cX9_image 3 (some .int) 4 9 67 [.ref (B + p0), .int p1] S I J F (v_D (some (.int r.1)) r.2.1 r.2.2.1 J r.2.2.2) := by
  refine v_R.of (by decide) (Nat.le_of_ble_eq_true rfl) fun d hd => ?_
  generalize hQ : v_D (some (.int r.1)) r.2.1 r.2.2.1 J r.2.2.2 = Q
  unfold f_X9_image at h
  refine v_sub [(0, .ref (B + p0)), (1, .int p1)] ⟨rfl, rfl, trivial⟩ ?_
  refine v_iload_n dX9_image_0 rfl ?_
  refine v_i2l dX9_image_1 ?_
  refine v_iconstE (1 : Int32) dX9_image_2 (by decide) ?_
  replace h := p_bind_elim h
  obtain ⟨r_1, q_2, h⟩ := h
  refine v_cSr (t_X9_isUpTo q_2) cal_X9_isUpTo ml_X9_95 sta_X9_isUpTo dX9_image_3 (by omega) (by decide) (by decide) (Nat.le_of_ble_eq_true rfl) rfl ?_
  refine v_if_ne 15 dX9_image_6 (by decide) (fun c_3 => ?_) (fun c_3 => ?_)
  · rw [if_neg c_3] at h
    refine v_aload_n dX9_image_15 rfl ?_
    replace h := p_bind_elim h
    obtain ⟨_, q_4, h⟩ := h
    have q_4 := p_ob_spec q_4
    replace h := p_bind_elim h
    obtain ⟨a_5, q_6, h⟩ := h
    refine v_getR q_6 rfl fl_X9_16 dX9_image_16 q_4 ?_
    refine v_iload_n dX9_image_19 rfl ?_
    replace h := p_bind_elim h
    obtain ⟨j_7, q_8, h⟩ := h
    refine v_aaldP6 dX9_image_20 q_8 ?_
    replace h := p_let_elim h
    obtain ⟨x_9, h_10, h⟩ := h
    rw [← h_10]
    refine v_astore_nQ dX9_image_21 (by decide) ?_
    refine v_sub [(0, .ref (B + p0)), (1, .int p1), (2, v_rf B x_9)] (by rcases x_9 with _ | _ <;> exact ⟨rfl, rfl, rfl, trivial⟩) ?_
    refine v_aload_nQ dX9_image_22 rfl ?_
    replace h := p_nul_elim h
    rcases h with ⟨q_12, h⟩ | ⟨a_11, q_12, h⟩
    · subst q_12
      refine v_ifnonnullN dX9_image_23 ?_
      refine v_new dX9_image_26 kc_0 cl_X9_9 knt_0 kni_0 kdf_0 (by decide) (by decide) ?_
      replace h := p_let_elim h
      obtain ⟨S_13, h_14, h⟩ := h
      rw [← h_14]
      have q_15 := p_app h_14 q_4
      have q_16 := p_fresh h_14
      refine v_dup dX9_image_29 rfl ?_
      replace h := p_bind_elim h
      obtain ⟨r_17, q_18, h⟩ := h
      refine v_cINnc (t_X0_init q_18) cal_X0_init ml_X9_11 ins_X0_init rfl dX9_image_30 (by omega) (by decide) (by decide) (Nat.le_of_ble_eq_true rfl) rfl ?_
      refine v_astore_n dX9_image_33 (by decide) ?_
      refine v_sub [(0, .ref (B + p0)), (1, .int p1), (2, .ref (B + S.length))] ⟨rfl, rfl, rfl, trivial⟩ ?_
      refine v_aload_n dX9_image_34 rfl ?_
      replace h := p_bind_elim h
      obtain ⟨_, q_19, h⟩ := h
      have q_19 := p_ob_spec q_19
      replace h := p_bind_elim h
      obtain ⟨a_20, q_21, h⟩ := h
      refine v_getR q_21 rfl fl_X9_16 dX9_image_35 q_19 ?_
      refine v_iload_n dX9_image_38 rfl ?_
      refine v_aload_n dX9_image_39 rfl ?_
      replace h := p_bind_elim h
      obtain ⟨j_22, q_23, h⟩ := h
      replace h := p_bind_elim h
      obtain ⟨_, q_24, h⟩ := h
      refine v_aastP6 (e := (some S.length)) dX9_image_40 q_23 q_24 ?_
      replace h := p_let_elim h
      obtain ⟨F_25, h_26, h⟩ := h
      rw [← h_26]
      refine v_aload_n dX9_image_41 rfl ?_
      refine v_aload_n dX9_image_42 rfl ?_
      replace h := p_bind_elim h
      obtain ⟨a_27, q_28, h⟩ := h
      refine v_getR q_28 rfl fl_X9_12 dX9_image_43 q_19 ?_
      replace h := p_bind_elim h
      obtain ⟨_, q_31, h⟩ := h
      have q_31 := p_ob_spec q_31
      replace h := p_bind_elim h
      obtain ⟨r_29, q_30, h⟩ := h
      refine v_cVn (t_X0_copyFrom q_30) cal_X0_copyFrom ml_X9_298 sel_X0_copyFrom q_31 kk_0 dX9_image_46 (by omega) (by decide) (by decide) (Nat.le_of_ble_eq_true rfl) rfl ?_
      refine v_aload_n dX9_image_49 rfl ?_
      refine v_iconstE (0 : Int32) dX9_image_50 (by decide) ?_
      replace h := p_bind_elim h
      obtain ⟨r_32, q_33, h⟩ := h
      refine v_cVr (t_X9_accept q_33) cal_X9_accept ml_X9_113 sel_X9_accept q_19 kk_9 dX9_image_51 (by omega) (by decide) (by decide) (Nat.le_of_ble_eq_true rfl) rfl ?_
      cases h
      exact v_iret dX9_image_54 rfl (by decide) (by decide) (by rw [← hQ]; exact ⟨rfl, rfl, rfl, rfl, rfl⟩)
    · subst q_12
      refine v_ifnonnull 41 dX9_image_23 (by decide) ?_
      refine v_aload_n dX9_image_41 rfl ?_
      refine v_aload_n dX9_image_42 rfl ?_
      replace h := p_bind_elim h
      obtain ⟨a_34, q_35, h⟩ := h
      refine v_getR q_35 rfl fl_X9_12 dX9_image_43 q_4 ?_
      replace h := p_bind_elim h
      obtain ⟨_, q_38, h⟩ := h
      have q_38 := p_ob_spec q_38
      replace h := p_bind_elim h
      obtain ⟨r_36, q_37, h⟩ := h
      refine v_cVn (t_X0_copyFrom q_37) cal_X0_copyFrom ml_X9_298 sel_X0_copyFrom q_38 kk_0 dX9_image_46 (by omega) (by decide) (by decide) (Nat.le_of_ble_eq_true rfl) rfl ?_
      refine v_aload_n dX9_image_49 rfl ?_
      refine v_iconstE (0 : Int32) dX9_image_50 (by decide) ?_
      replace h := p_bind_elim h
      obtain ⟨r_39, q_40, h⟩ := h
      refine v_cVr (t_X9_accept q_40) cal_X9_accept ml_X9_113 sel_X9_accept q_4 kk_9 dX9_image_51 (by omega) (by decide) (by decide) (Nat.le_of_ble_eq_true rfl) rfl ?_
      cases h
      exact v_iret dX9_image_54 rfl (by decide) (by decide) (by rw [← hQ]; exact ⟨rfl, rfl, rfl, rfl, rfl⟩)
  · rw [if_pos c_3] at h
    refine v_aload_n dX9_image_9 rfl ?_
    refine v_iconstE (-1 : Int32) dX9_image_10 (by decide) ?_
    replace h := p_bind_elim h
    obtain ⟨_, q_43, h⟩ := h
    have q_43 := p_ob_spec q_43
    replace h := p_bind_elim h
    obtain ⟨r_41, q_42, h⟩ := h
    refine v_cVr (t_X9_refuse q_42) cal_X9_refuse ml_X9_99 sel_X9_refuse q_43 kk_9 dX9_image_11 (by omega) (by decide) (by decide) (Nat.le_of_ble_eq_true rfl) rfl ?_
    cases h
    exact v_iret dX9_image_14 rfl (by decide) (by decide) (by rw [← hQ]; exact ⟨rfl, rfl, rfl, rfl, rfl⟩)

def f_X9_back (S : v_S) (I : v_I) (F : v_F) (p0 : Nat) (p1 : Int32) : Option (Int32 × v_I × v_F) :=
(f_X9_isUpTo p1.toInt64 (1 : Int32)).bind fun r_1 =>
if r_1 = (0 : Int32) then (
(p_ob S 9 p0).bind fun _ =>
(f_X9_refuse S I F p0 (-1 : Int32)).bind fun r_27 =>
some (r_27.1, r_27.2, F))
else (
(p_ob S 9 p0).bind fun _ =>
(F p0 1).bind fun a_5 =>
(p_ix S 26 a_5 p1).bind fun j_7 =>
p_let (F a_5 j_7) fun x_9 =>
p_nul x_9 (
(f_X9_refuse S I F p0 (-2 : Int32)).bind fun r_13 =>
some (r_13.1, r_13.2, F)) (fun a_11 =>
(F p0 0).bind fun a_15 =>
(p_ob S 0 a_15).bind fun _ =>
(f_X0_copyFrom S I F a_15 a_11).bind fun r_17 =>
(r_17.2 p0 2).bind fun a_20 =>
(p_ob S 4 a_20).bind fun _ =>
(f_X4_clear S r_17.1 a_20).bind fun r_22 =>
(f_X9_accept S r_22 p0 (0 : Int32)).bind fun r_25 =>
some (r_25.1, r_25.2, r_17.2)))
set_option maxHeartbeats 4000000 in
set_option maxRecDepth 100000 in
theorem t_X9_back {p0 : Nat} {p1 : Int32} {r : Int32 × v_I × v_F} (h : f_X9_back S I F p0 p1 = some r) : v_R l B D ac (v_EE B wa wb wt sb sL sx) yX9_back cX9_back 3 (some .int) 4 0 0 [.ref (B + p0), .int p1] S I J F (v_D (some (.int r.1)) S r.2.1 J r.2.2) := by
  refine v_R.of (by decide) (Nat.le_of_ble_eq_true rfl) fun d hd => ?_
  generalize hQ : v_D (some (.int r.1)) S r.2.1 J r.2.2 = Q
  unfold f_X9_back at h
  refine v_sub [(0, .ref (B + p0)), (1, .int p1)] ⟨rfl, rfl, trivial⟩ ?_
  refine v_iload_n dX9_back_0 rfl ?_
  refine v_i2l dX9_back_1 ?_
  refine v_iconstE (1 : Int32) dX9_back_2 (by decide) ?_
  replace h := p_bind_elim h
  obtain ⟨r_1, q_2, h⟩ := h
  refine v_cSr (t_X9_isUpTo q_2) cal_X9_isUpTo ml_X9_95 sta_X9_isUpTo dX9_back_3 (by omega) (by decide) (by decide) (Nat.le_of_ble_eq_true rfl) rfl ?_
  refine v_if_ne 15 dX9_back_6 (by decide) (fun c_3 => ?_) (fun c_3 => ?_)
  · rw [if_neg c_3] at h
    refine v_aload_n dX9_back_15 rfl ?_
    replace h := p_bind_elim h
    obtain ⟨_, q_4, h⟩ := h
    have q_4 := p_ob_spec q_4
    replace h := p_bind_elim h
    obtain ⟨a_5, q_6, h⟩ := h
    refine v_getR q_6 rfl fl_X9_16 dX9_back_16 q_4 ?_
    refine v_iload_n dX9_back_19 rfl ?_
    replace h := p_bind_elim h
    obtain ⟨j_7, q_8, h⟩ := h
    refine v_aaldP6 dX9_back_20 q_8 ?_
    replace h := p_let_elim h
    obtain ⟨x_9, h_10, h⟩ := h
    rw [← h_10]
    refine v_astore_nQ dX9_back_21 (by decide) ?_
    refine v_sub [(0, .ref (B + p0)), (2, v_rf B x_9)] (by rcases x_9 with _ | _ <;> exact ⟨rfl, rfl, trivial⟩) ?_
    refine v_aload_nQ dX9_back_22 rfl ?_
    replace h := p_nul_elim h
    rcases h with ⟨q_12, h⟩ | ⟨a_11, q_12, h⟩
    · subst q_12
      refine v_ifnonnullN dX9_back_23 ?_
      refine v_aload_n dX9_back_26 rfl ?_
      refine v_bipush (-2 : Int32) dX9_back_27 (by decide) ?_
      replace h := p_bind_elim h
      obtain ⟨r_13, q_14, h⟩ := h
      refine v_cVr (t_X9_refuse q_14) cal_X9_refuse ml_X9_99 sel_X9_refuse q_4 kk_9 dX9_back_29 (by omega) (by decide) (by decide) (Nat.le_of_ble_eq_true rfl) rfl ?_
      cases h
      exact v_iret dX9_back_32 rfl (by decide) (by decide) (by rw [← hQ]; exact ⟨rfl, rfl, rfl, rfl, rfl⟩)
    · subst q_12
      refine v_ifnonnull 33 dX9_back_23 (by decide) ?_
      refine v_aload_n dX9_back_33 rfl ?_
      replace h := p_bind_elim h
      obtain ⟨a_15, q_16, h⟩ := h
      refine v_getR q_16 rfl fl_X9_12 dX9_back_34 q_4 ?_
      refine v_aload_n dX9_back_37 rfl ?_
      replace h := p_bind_elim h
      obtain ⟨_, q_19, h⟩ := h
      have q_19 := p_ob_spec q_19
      replace h := p_bind_elim h
      obtain ⟨r_17, q_18, h⟩ := h
      refine v_cVn (t_X0_copyFrom q_18) cal_X0_copyFrom ml_X9_298 sel_X0_copyFrom q_19 kk_0 dX9_back_38 (by omega) (by decide) (by decide) (Nat.le_of_ble_eq_true rfl) rfl ?_
      refine v_aload_n dX9_back_41 rfl ?_
      replace h := p_bind_elim h
      obtain ⟨a_20, q_21, h⟩ := h
      refine v_getR q_21 rfl fl_X9_23 dX9_back_42 q_4 ?_
      replace h := p_bind_elim h
      obtain ⟨_, q_24, h⟩ := h
      have q_24 := p_ob_spec q_24
      replace h := p_bind_elim h
      obtain ⟨r_22, q_23, h⟩ := h
      refine v_cVn (t_X4_clear q_23) cal_X4_clear ml_X9_106 sel_X4_clear q_24 kk_4 dX9_back_45 (by omega) (by decide) (by decide) (Nat.le_of_ble_eq_true rfl) rfl ?_
      refine v_aload_n dX9_back_48 rfl ?_
      refine v_iconstE (0 : Int32) dX9_back_49 (by decide) ?_
      replace h := p_bind_elim h
      obtain ⟨r_25, q_26, h⟩ := h
      refine v_cVr (t_X9_accept q_26) cal_X9_accept ml_X9_113 sel_X9_accept q_4 kk_9 dX9_back_50 (by omega) (by decide) (by decide) (Nat.le_of_ble_eq_true rfl) rfl ?_
      cases h
      exact v_iret dX9_back_53 rfl (by decide) (by decide) (by rw [← hQ]; exact ⟨rfl, rfl, rfl, rfl, rfl⟩)
  · rw [if_pos c_3] at h
    refine v_aload_n dX9_back_9 rfl ?_
    refine v_iconstE (-1 : Int32) dX9_back_10 (by decide) ?_
    replace h := p_bind_elim h
    obtain ⟨_, q_29, h⟩ := h
    have q_29 := p_ob_spec q_29
    replace h := p_bind_elim h
    obtain ⟨r_27, q_28, h⟩ := h
    refine v_cVr (t_X9_refuse q_28) cal_X9_refuse ml_X9_99 sel_X9_refuse q_29 kk_9 dX9_back_11 (by omega) (by decide) (by decide) (Nat.le_of_ble_eq_true rfl) rfl ?_
    cases h
    exact v_iret dX9_back_14 rfl (by decide) (by decide) (by rw [← hQ]; exact ⟨rfl, rfl, rfl, rfl, rfl⟩)

def f_X9_count_J46 (S : v_S) (I : v_I) (F : v_F) (y0 : Nat) (y1 : Int32) : Option (Int32) :=
if y1 = (0 : Int32) then (
(p_ob S 9 y0).bind fun _ =>
(F y0 0).bind fun a_4 =>
(p_ob S 0 a_4).bind fun _ =>
some (I a_4 0))
else if y1 = (1 : Int32) then (
(p_ob S 9 y0).bind fun _ =>
(F y0 0).bind fun a_8 =>
(p_ob S 0 a_8).bind fun _ =>
(F a_8 1).bind fun a_11 =>
(p_ob S 3 a_11).bind fun _ =>
(f_X3_openMany S I a_11).bind fun r_13 =>
some (r_13))
else if y1 = (2 : Int32) then (
(p_ob S 9 y0).bind fun _ =>
(F y0 0).bind fun a_17 =>
(p_ob S 0 a_17).bind fun _ =>
some (I a_17 7))
else if y1 = (3 : Int32) then (
(p_ob S 9 y0).bind fun _ =>
(F y0 0).bind fun a_21 =>
(p_ob S 0 a_21).bind fun _ =>
some (I a_21 10))
else if y1 = (4 : Int32) then (
(p_ob S 9 y0).bind fun _ =>
(F y0 2).bind fun a_25 =>
(p_ob S 4 a_25).bind fun _ =>
some (I a_25 0))
else if y1 = (5 : Int32) then (
(p_ob S 9 y0).bind fun _ =>
some (I y0 8))
else if y1 = (6 : Int32) then (
some ((-1 : Int32)))
else if y1 = (7 : Int32) then (
some ((-1 : Int32)))
else if y1 = (8 : Int32) then (
some ((-1 : Int32)))
else if y1 = (9 : Int32) then (
some ((-1 : Int32)))
else if y1 = (10 : Int32) then (
some ((-1 : Int32)))
else if y1 = (11 : Int32) then (
(p_ob S 9 y0).bind fun _ =>
(F y0 0).bind fun a_30 =>
(p_ob S 0 a_30).bind fun _ =>
some (I a_30 12))
else (
some ((-1 : Int32)))
def f_X9_count_J22 (S : v_S) (I : v_I) (F : v_F) (y0 : Nat) (y1 : Int32) : Option (Int32) :=
if y1 < (12 : Int32) then (
f_X9_count_J46 S I F y0 y1)
else (
if (16 : Int32) ≤ y1 then (
f_X9_count_J46 S I F y0 y1)
else (
(p_ob S 9 y0).bind fun _ =>
(F y0 0).bind fun a_47 =>
(p_ob S 0 a_47).bind fun _ =>
(f_X0_term S I F a_47 (y1 - (12 : Int32))).bind fun r_49 =>
some (r_49)))
def f_X9_count (S : v_S) (I : v_I) (F : v_F) (p0 : Nat) (p1 : Int32) : Option (Int32) :=
if p1 < (6 : Int32) then (
f_X9_count_J22 S I F p0 p1)
else (
if (11 : Int32) ≤ p1 then (
f_X9_count_J22 S I F p0 p1)
else (
(p_ob S 9 p0).bind fun _ =>
(F p0 13).bind fun a_54 =>
(p_ix S 20 a_54 (p1 - (6 : Int32))).bind fun j_56 =>
some (I a_54 j_56)))
set_option maxHeartbeats 4000000 in
set_option maxRecDepth 100000 in
theorem t_X9_count {p0 : Nat} {p1 : Int32} {r : Int32} (h : f_X9_count S I F p0 p1 = some r) : v_R l B D ac (v_EE B wa wb wt sb sL sx) yX9_count cX9_count 2 (some .int) 3 0 0 [.ref (B + p0), .int p1] S I J F (v_D (some (.int r)) S I J F) := by
  refine v_R.of (by decide) (Nat.le_of_ble_eq_true rfl) fun d hd => ?_
  generalize hQ : v_D (some (.int r)) S I J F = Q
  have j46 : ∀ (y0 : Nat) (y1 : Int32), f_X9_count_J46 S I F y0 y1 = some r → V l B D ac (v_EE B wa wb wt sb sL sx) yX9_count cX9_count 2 (some .int) d 0 0 0 0 S I J F 46 [(0, .ref (B + y0)), (1, .int y1)] [] Q := by
    intro y0 y1 h
    unfold f_X9_count_J46 at h
    refine v_iload_n dX9_count_46 rfl ?_
    by_cases c_33 : y1 = (0 : Int32)
    · rw [if_pos c_33] at h
      refine v_swIn 108 (0 : Int32) c_33 dX9_count_47 (by decide) (by decide) rfl (by decide) ?_
      refine v_aload_n dX9_count_108 rfl ?_
      replace h := p_bind_elim h
      obtain ⟨_, q_3, h⟩ := h
      have q_3 := p_ob_spec q_3
      replace h := p_bind_elim h
      obtain ⟨a_4, q_5, h⟩ := h
      refine v_getR q_5 rfl fl_X9_12 dX9_count_109 q_3 ?_
      replace h := p_bind_elim h
      obtain ⟨_, q_6, h⟩ := h
      have q_6 := p_ob_spec q_6
      refine v_getI rfl fl_X9_103 dX9_count_112 q_6 ?_
      cases h
      exact v_iret dX9_count_115 rfl (by decide) (by decide) (by rw [← hQ]; exact ⟨rfl, rfl, rfl, rfl, rfl⟩)
    · rw [if_neg c_33] at h
      by_cases c_34 : y1 = (1 : Int32)
      · rw [if_pos c_34] at h
        refine v_swIn 116 (1 : Int32) c_34 dX9_count_47 (by decide) (by decide) rfl (by decide) ?_
        refine v_aload_n dX9_count_116 rfl ?_
        replace h := p_bind_elim h
        obtain ⟨_, q_7, h⟩ := h
        have q_7 := p_ob_spec q_7
        replace h := p_bind_elim h
        obtain ⟨a_8, q_9, h⟩ := h
        refine v_getR q_9 rfl fl_X9_12 dX9_count_117 q_7 ?_
        replace h := p_bind_elim h
        obtain ⟨_, q_10, h⟩ := h
        have q_10 := p_ob_spec q_10
        replace h := p_bind_elim h
        obtain ⟨a_11, q_12, h⟩ := h
        refine v_getR q_12 rfl fl_X9_123 dX9_count_120 q_10 ?_
        replace h := p_bind_elim h
        obtain ⟨_, q_15, h⟩ := h
        have q_15 := p_ob_spec q_15
        replace h := p_bind_elim h
        obtain ⟨r_13, q_14, h⟩ := h
        refine v_cVr (t_X3_openMany q_14) cal_X3_openMany ml_X9_300 sel_X3_openMany q_15 kk_3 dX9_count_123 (by omega) (by decide) (by decide) (Nat.le_of_ble_eq_true rfl) rfl ?_
        cases h
        exact v_iret dX9_count_126 rfl (by decide) (by decide) (by rw [← hQ]; exact ⟨rfl, rfl, rfl, rfl, rfl⟩)
      · rw [if_neg c_34] at h
        by_cases c_35 : y1 = (2 : Int32)
        · rw [if_pos c_35] at h
          refine v_swIn 127 (2 : Int32) c_35 dX9_count_47 (by decide) (by decide) rfl (by decide) ?_
          refine v_aload_n dX9_count_127 rfl ?_
          replace h := p_bind_elim h
          obtain ⟨_, q_16, h⟩ := h
          have q_16 := p_ob_spec q_16
          replace h := p_bind_elim h
          obtain ⟨a_17, q_18, h⟩ := h
          refine v_getR q_18 rfl fl_X9_12 dX9_count_128 q_16 ?_
          replace h := p_bind_elim h
          obtain ⟨_, q_19, h⟩ := h
          have q_19 := p_ob_spec q_19
          refine v_getI rfl fl_X9_259 dX9_count_131 q_19 ?_
          cases h
          exact v_iret dX9_count_134 rfl (by decide) (by decide) (by rw [← hQ]; exact ⟨rfl, rfl, rfl, rfl, rfl⟩)
        · rw [if_neg c_35] at h
          by_cases c_36 : y1 = (3 : Int32)
          · rw [if_pos c_36] at h
            refine v_swIn 135 (3 : Int32) c_36 dX9_count_47 (by decide) (by decide) rfl (by decide) ?_
            refine v_aload_n dX9_count_135 rfl ?_
            replace h := p_bind_elim h
            obtain ⟨_, q_20, h⟩ := h
            have q_20 := p_ob_spec q_20
            replace h := p_bind_elim h
            obtain ⟨a_21, q_22, h⟩ := h
            refine v_getR q_22 rfl fl_X9_12 dX9_count_136 q_20 ?_
            replace h := p_bind_elim h
            obtain ⟨_, q_23, h⟩ := h
            have q_23 := p_ob_spec q_23
            refine v_getI rfl fl_X9_163 dX9_count_139 q_23 ?_
            cases h
            exact v_iret dX9_count_142 rfl (by decide) (by decide) (by rw [← hQ]; exact ⟨rfl, rfl, rfl, rfl, rfl⟩)
          · rw [if_neg c_36] at h
            by_cases c_37 : y1 = (4 : Int32)
            · rw [if_pos c_37] at h
              refine v_swIn 143 (4 : Int32) c_37 dX9_count_47 (by decide) (by decide) rfl (by decide) ?_
              refine v_aload_n dX9_count_143 rfl ?_
              replace h := p_bind_elim h
              obtain ⟨_, q_24, h⟩ := h
              have q_24 := p_ob_spec q_24
              replace h := p_bind_elim h
              obtain ⟨a_25, q_26, h⟩ := h
              refine v_getR q_26 rfl fl_X9_23 dX9_count_144 q_24 ?_
              replace h := p_bind_elim h
              obtain ⟨_, q_27, h⟩ := h
              have q_27 := p_ob_spec q_27
              refine v_getI rfl fl_X9_303 dX9_count_147 q_27 ?_
              cases h
              exact v_iret dX9_count_150 rfl (by decide) (by decide) (by rw [← hQ]; exact ⟨rfl, rfl, rfl, rfl, rfl⟩)
            · rw [if_neg c_37] at h
              by_cases c_38 : y1 = (5 : Int32)
              · rw [if_pos c_38] at h
                refine v_swIn 151 (5 : Int32) c_38 dX9_count_47 (by decide) (by decide) rfl (by decide) ?_
                refine v_aload_n dX9_count_151 rfl ?_
                replace h := p_bind_elim h
                obtain ⟨_, q_28, h⟩ := h
                have q_28 := p_ob_spec q_28
                refine v_getI rfl fl_X9_56 dX9_count_152 q_28 ?_
                cases h
                exact v_iret dX9_count_155 rfl (by decide) (by decide) (by rw [← hQ]; exact ⟨rfl, rfl, rfl, rfl, rfl⟩)
              · rw [if_neg c_38] at h
                by_cases c_39 : y1 = (6 : Int32)
                · rw [if_pos c_39] at h
                  refine v_swIn 164 (6 : Int32) c_39 dX9_count_47 (by decide) (by decide) rfl (by decide) ?_
                  refine v_iconstE (-1 : Int32) dX9_count_164 (by decide) ?_
                  cases h
                  exact v_iret dX9_count_165 rfl (by decide) (by decide) (by rw [← hQ]; exact ⟨rfl, rfl, rfl, rfl, rfl⟩)
                · rw [if_neg c_39] at h
                  by_cases c_40 : y1 = (7 : Int32)
                  · rw [if_pos c_40] at h
                    refine v_swIn 164 (7 : Int32) c_40 dX9_count_47 (by decide) (by decide) rfl (by decide) ?_
                    refine v_iconstE (-1 : Int32) dX9_count_164 (by decide) ?_
                    cases h
                    exact v_iret dX9_count_165 rfl (by decide) (by decide) (by rw [← hQ]; exact ⟨rfl, rfl, rfl, rfl, rfl⟩)
                  · rw [if_neg c_40] at h
                    by_cases c_41 : y1 = (8 : Int32)
                    · rw [if_pos c_41] at h
                      refine v_swIn 164 (8 : Int32) c_41 dX9_count_47 (by decide) (by decide) rfl (by decide) ?_
                      refine v_iconstE (-1 : Int32) dX9_count_164 (by decide) ?_
                      cases h
                      exact v_iret dX9_count_165 rfl (by decide) (by decide) (by rw [← hQ]; exact ⟨rfl, rfl, rfl, rfl, rfl⟩)
                    · rw [if_neg c_41] at h
                      by_cases c_42 : y1 = (9 : Int32)
                      · rw [if_pos c_42] at h
                        refine v_swIn 164 (9 : Int32) c_42 dX9_count_47 (by decide) (by decide) rfl (by decide) ?_
                        refine v_iconstE (-1 : Int32) dX9_count_164 (by decide) ?_
                        cases h
                        exact v_iret dX9_count_165 rfl (by decide) (by decide) (by rw [← hQ]; exact ⟨rfl, rfl, rfl, rfl, rfl⟩)
                      · rw [if_neg c_42] at h
                        by_cases c_43 : y1 = (10 : Int32)
                        · rw [if_pos c_43] at h
                          refine v_swIn 164 (10 : Int32) c_43 dX9_count_47 (by decide) (by decide) rfl (by decide) ?_
                          refine v_iconstE (-1 : Int32) dX9_count_164 (by decide) ?_
                          cases h
                          exact v_iret dX9_count_165 rfl (by decide) (by decide) (by rw [← hQ]; exact ⟨rfl, rfl, rfl, rfl, rfl⟩)
                        · rw [if_neg c_43] at h
                          by_cases c_44 : y1 = (11 : Int32)
                          · rw [if_pos c_44] at h
                            refine v_swIn 156 (11 : Int32) c_44 dX9_count_47 (by decide) (by decide) rfl (by decide) ?_
                            refine v_aload_n dX9_count_156 rfl ?_
                            replace h := p_bind_elim h
                            obtain ⟨_, q_29, h⟩ := h
                            have q_29 := p_ob_spec q_29
                            replace h := p_bind_elim h
                            obtain ⟨a_30, q_31, h⟩ := h
                            refine v_getR q_31 rfl fl_X9_12 dX9_count_157 q_29 ?_
                            replace h := p_bind_elim h
                            obtain ⟨_, q_32, h⟩ := h
                            have q_32 := p_ob_spec q_32
                            refine v_getI rfl fl_X9_199 dX9_count_160 q_32 ?_
                            cases h
                            exact v_iret dX9_count_163 rfl (by decide) (by decide) (by rw [← hQ]; exact ⟨rfl, rfl, rfl, rfl, rfl⟩)
                          · rw [if_neg c_44] at h
                            refine v_tableOut 164 dX9_count_47 (p_sw_out (fun k h1 h2 => by have h3 : k = 0 ∨ k = 1 ∨ k = 2 ∨ k = 3 ∨ k = 4 ∨ k = 5 ∨ k = 6 ∨ k = 7 ∨ k = 8 ∨ k = 9 ∨ k = 10 ∨ k = 11 := (by omega); rcases h3 with rfl | rfl | rfl | rfl | rfl | rfl | rfl | rfl | rfl | rfl | rfl | rfl <;> first | exact c_33 | exact c_34 | exact c_35 | exact c_36 | exact c_37 | exact c_38 | exact c_39 | exact c_40 | exact c_41 | exact c_42 | exact c_43 | exact c_44)) (by decide) ?_
                            refine v_iconstE (-1 : Int32) dX9_count_164 (by decide) ?_
                            cases h
                            exact v_iret dX9_count_165 rfl (by decide) (by decide) (by rw [← hQ]; exact ⟨rfl, rfl, rfl, rfl, rfl⟩)
  have j22 : ∀ (y0 : Nat) (y1 : Int32), f_X9_count_J22 S I F y0 y1 = some r → V l B D ac (v_EE B wa wb wt sb sL sx) yX9_count cX9_count 2 (some .int) d 0 0 0 0 S I J F 22 [(0, .ref (B + y0)), (1, .int y1)] [] Q := by
    intro y0 y1 h
    unfold f_X9_count_J22 at h
    refine v_iload_n dX9_count_22 rfl ?_
    refine v_bipush (12 : Int32) dX9_count_23 (by decide) ?_
    refine v_icmp_lt 46 dX9_count_25 (by decide) (fun c_2 => ?_) (fun c_2 => ?_)
    · rw [if_pos c_2] at h
      refine v_sub [(0, .ref (B + y0)), (1, .int y1)] ⟨rfl, rfl, trivial⟩ ?_
      exact j46 _ _ h
    · rw [if_neg c_2] at h
      refine v_iload_n dX9_count_28 rfl ?_
      refine v_bipush (16 : Int32) dX9_count_29 (by decide) ?_
      refine v_icmp_ge 46 dX9_count_31 (by decide) (fun c_45 => ?_) (fun c_45 => ?_)
      · rw [if_pos c_45] at h
        refine v_sub [(0, .ref (B + y0)), (1, .int y1)] ⟨rfl, rfl, trivial⟩ ?_
        exact j46 _ _ h
      · rw [if_neg c_45] at h
        refine v_aload_n dX9_count_34 rfl ?_
        replace h := p_bind_elim h
        obtain ⟨_, q_46, h⟩ := h
        have q_46 := p_ob_spec q_46
        replace h := p_bind_elim h
        obtain ⟨a_47, q_48, h⟩ := h
        refine v_getR q_48 rfl fl_X9_12 dX9_count_35 q_46 ?_
        refine v_iload_n dX9_count_38 rfl ?_
        refine v_bipush (12 : Int32) dX9_count_39 (by decide) ?_
        refine v_isub dX9_count_41 ?_
        replace h := p_bind_elim h
        obtain ⟨_, q_51, h⟩ := h
        have q_51 := p_ob_spec q_51
        replace h := p_bind_elim h
        obtain ⟨r_49, q_50, h⟩ := h
        refine v_cVr (t_X0_term q_50) cal_X0_term ml_X9_149 sel_X0_term q_51 kk_0 dX9_count_42 (by omega) (by decide) (by decide) (Nat.le_of_ble_eq_true rfl) rfl ?_
        cases h
        exact v_iret dX9_count_45 rfl (by decide) (by decide) (by rw [← hQ]; exact ⟨rfl, rfl, rfl, rfl, rfl⟩)
  unfold f_X9_count at h
  refine v_sub [(0, .ref (B + p0)), (1, .int p1)] ⟨rfl, rfl, trivial⟩ ?_
  refine v_iload_n dX9_count_0 rfl ?_
  refine v_bipush (6 : Int32) dX9_count_1 (by decide) ?_
  refine v_icmp_lt 22 dX9_count_3 (by decide) (fun c_1 => ?_) (fun c_1 => ?_)
  · rw [if_pos c_1] at h
    refine v_sub [(0, .ref (B + p0)), (1, .int p1)] ⟨rfl, rfl, trivial⟩ ?_
    exact j22 _ _ h
  · rw [if_neg c_1] at h
    refine v_iload_n dX9_count_6 rfl ?_
    refine v_bipush (11 : Int32) dX9_count_7 (by decide) ?_
    refine v_icmp_ge 22 dX9_count_9 (by decide) (fun c_52 => ?_) (fun c_52 => ?_)
    · rw [if_pos c_52] at h
      refine v_sub [(0, .ref (B + p0)), (1, .int p1)] ⟨rfl, rfl, trivial⟩ ?_
      exact j22 _ _ h
    · rw [if_neg c_52] at h
      refine v_aload_n dX9_count_12 rfl ?_
      replace h := p_bind_elim h
      obtain ⟨_, q_53, h⟩ := h
      have q_53 := p_ob_spec q_53
      replace h := p_bind_elim h
      obtain ⟨a_54, q_55, h⟩ := h
      refine v_getR q_55 rfl fl_X9_80 dX9_count_13 q_53 ?_
      refine v_iload_n dX9_count_16 rfl ?_
      refine v_bipush (6 : Int32) dX9_count_17 (by decide) ?_
      refine v_isub dX9_count_19 ?_
      replace h := p_bind_elim h
      obtain ⟨j_56, q_57, h⟩ := h
      refine v_ialdP dX9_count_20 q_57 ?_
      cases h
      exact v_iret dX9_count_21 rfl (by decide) (by decide) (by rw [← hQ]; exact ⟨rfl, rfl, rfl, rfl, rfl⟩)

def f_X9_status (S : v_S) (I : v_I) (p0 : Nat) : Option (Int32) :=
(p_ob S 9 p0).bind fun _ =>
some (I p0 14)
set_option maxHeartbeats 4000000 in
set_option maxRecDepth 100000 in
theorem t_X9_status {p0 : Nat} {r : Int32} (h : f_X9_status S I p0 = some r) : v_R l B D ac (v_EE B wa wb wt sb sL sx) yX9_status cX9_status 1 (some .int) 1 0 0 [.ref (B + p0)] S I J F (v_D (some (.int r)) S I J F) := by
  refine v_R.of (by decide) (Nat.le_of_ble_eq_true rfl) fun d hd => ?_
  generalize hQ : v_D (some (.int r)) S I J F = Q
  unfold f_X9_status at h
  refine v_sub [(0, .ref (B + p0))] ⟨rfl, trivial⟩ ?_
  refine v_aload_n dX9_status_0 rfl ?_
  replace h := p_bind_elim h
  obtain ⟨_, q_1, h⟩ := h
  have q_1 := p_ob_spec q_1
  refine v_getI rfl fl_X9_83 dX9_status_1 q_1 ?_
  cases h
  exact v_iret dX9_status_4 rfl (by decide) (by decide) (by rw [← hQ]; exact ⟨rfl, rfl, rfl, rfl, rfl⟩)

set_option maxRecDepth 100000 in
def f_X10_init (S : v_S) (I : v_I) (F : v_F) (p0 : Nat) : Option (v_S × v_I × v_F) :=
p_let (S ++ [(20, 7)]) fun S_1 =>
(p_ob S_1 10 p0).bind fun _ =>
p_let (v_up F p0 1 (some S.length)) fun F_4 =>
p_let (S_1 ++ [(20, 5660)]) fun S_6 =>
p_let (v_up F_4 p0 2 (some S_1.length)) fun F_9 =>
p_let (S_6 ++ [(20, 11320)]) fun S_11 =>
p_let (v_up F_9 p0 3 (some S_6.length)) fun F_14 =>
p_let (S_11 ++ [(22, 2)]) fun S_16 =>
p_let (v_up F_14 p0 4 (some S_11.length)) fun F_19 =>
p_let (S_16 ++ [(20, 36)]) fun S_21 =>
p_let (v_up F_19 p0 5 (some S_16.length)) fun F_24 =>
p_let (S_21 ++ [(21, 123)]) fun S_26 =>
(p_ix S_26 21 S_21.length (0 : Int32)).bind fun j_29 =>
p_let (v_up I S_21.length j_29 (vp_nar .byte (110 : Int32))) fun I_31 =>
(p_ix S_26 21 S_21.length (1 : Int32)).bind fun j_33 =>
p_let (v_up I_31 S_21.length j_33 (vp_nar .byte (101 : Int32))) fun I_35 =>
(p_ix S_26 21 S_21.length (2 : Int32)).bind fun j_37 =>
p_let (v_up I_35 S_21.length j_37 (vp_nar .byte (101 : Int32))) fun I_39 =>
(p_ix S_26 21 S_21.length (3 : Int32)).bind fun j_41 =>
p_let (v_up I_39 S_21.length j_41 (vp_nar .byte (100 : Int32))) fun I_43 =>
(p_ix S_26 21 S_21.length (4 : Int32)).bind fun j_45 =>
p_let (v_up I_43 S_21.length j_45 (vp_nar .byte (115 : Int32))) fun I_47 =>
(p_ix S_26 21 S_21.length (5 : Int32)).bind fun j_49 =>
p_let (v_up I_47 S_21.length j_49 (vp_nar .byte (32 : Int32))) fun I_51 =>
(p_ix S_26 21 S_21.length (6 : Int32)).bind fun j_53 =>
p_let (v_up I_51 S_21.length j_53 (vp_nar .byte (119 : Int32))) fun I_55 =>
(p_ix S_26 21 S_21.length (7 : Int32)).bind fun j_57 =>
p_let (v_up I_55 S_21.length j_57 (vp_nar .byte (97 : Int32))) fun I_59 =>
(p_ix S_26 21 S_21.length (8 : Int32)).bind fun j_61 =>
p_let (v_up I_59 S_21.length j_61 (vp_nar .byte (110 : Int32))) fun I_63 =>
(p_ix S_26 21 S_21.length (9 : Int32)).bind fun j_65 =>
p_let (v_up I_63 S_21.length j_65 (vp_nar .byte (116 : Int32))) fun I_67 =>
(p_ix S_26 21 S_21.length (10 : Int32)).bind fun j_69 =>
p_let (v_up I_67 S_21.length j_69 (vp_nar .byte (115 : Int32))) fun I_71 =>
(p_ix S_26 21 S_21.length (11 : Int32)).bind fun j_73 =>
p_let (v_up I_71 S_21.length j_73 (vp_nar .byte (32 : Int32))) fun I_75 =>
(p_ix S_26 21 S_21.length (12 : Int32)).bind fun j_77 =>
p_let (v_up I_75 S_21.length j_77 (vp_nar .byte (115 : Int32))) fun I_79 =>
(p_ix S_26 21 S_21.length (13 : Int32)).bind fun j_81 =>
p_let (v_up I_79 S_21.length j_81 (vp_nar .byte (104 : Int32))) fun I_83 =>
(p_ix S_26 21 S_21.length (14 : Int32)).bind fun j_85 =>
p_let (v_up I_83 S_21.length j_85 (vp_nar .byte (117 : Int32))) fun I_87 =>
(p_ix S_26 21 S_21.length (15 : Int32)).bind fun j_89 =>
p_let (v_up I_87 S_21.length j_89 (vp_nar .byte (116 : Int32))) fun I_91 =>
(p_ix S_26 21 S_21.length (16 : Int32)).bind fun j_93 =>
p_let (v_up I_91 S_21.length j_93 (vp_nar .byte (115 : Int32))) fun I_95 =>
(p_ix S_26 21 S_21.length (17 : Int32)).bind fun j_97 =>
p_let (v_up I_95 S_21.length j_97 (vp_nar .byte (32 : Int32))) fun I_99 =>
(p_ix S_26 21 S_21.length (18 : Int32)).bind fun j_101 =>
p_let (v_up I_99 S_21.length j_101 (vp_nar .byte (105 : Int32))) fun I_103 =>
(p_ix S_26 21 S_21.length (19 : Int32)).bind fun j_105 =>
p_let (v_up I_103 S_21.length j_105 (vp_nar .byte (102 : Int32))) fun I_107 =>
(p_ix S_26 21 S_21.length (20 : Int32)).bind fun j_109 =>
p_let (v_up I_107 S_21.length j_109 (vp_nar .byte (32 : Int32))) fun I_111 =>
(p_ix S_26 21 S_21.length (21 : Int32)).bind fun j_113 =>
p_let (v_up I_111 S_21.length j_113 (vp_nar .byte (111 : Int32))) fun I_115 =>
(p_ix S_26 21 S_21.length (22 : Int32)).bind fun j_117 =>
p_let (v_up I_115 S_21.length j_117 (vp_nar .byte (114 : Int32))) fun I_119 =>
(p_ix S_26 21 S_21.length (23 : Int32)).bind fun j_121 =>
p_let (v_up I_119 S_21.length j_121 (vp_nar .byte (32 : Int32))) fun I_123 =>
(p_ix S_26 21 S_21.length (24 : Int32)).bind fun j_125 =>
p_let (v_up I_123 S_21.length j_125 (vp_nar .byte (97 : Int32))) fun I_127 =>
(p_ix S_26 21 S_21.length (25 : Int32)).bind fun j_129 =>
p_let (v_up I_127 S_21.length j_129 (vp_nar .byte (110 : Int32))) fun I_131 =>
(p_ix S_26 21 S_21.length (26 : Int32)).bind fun j_133 =>
p_let (v_up I_131 S_21.length j_133 (vp_nar .byte (100 : Int32))) fun I_135 =>
(p_ix S_26 21 S_21.length (27 : Int32)).bind fun j_137 =>
p_let (v_up I_135 S_21.length j_137 (vp_nar .byte (32 : Int32))) fun I_139 =>
(p_ix S_26 21 S_21.length (28 : Int32)).bind fun j_141 =>
p_let (v_up I_139 S_21.length j_141 (vp_nar .byte (110 : Int32))) fun I_143 =>
(p_ix S_26 21 S_21.length (29 : Int32)).bind fun j_145 =>
p_let (v_up I_143 S_21.length j_145 (vp_nar .byte (111 : Int32))) fun I_147 =>
(p_ix S_26 21 S_21.length (30 : Int32)).bind fun j_149 =>
p_let (v_up I_147 S_21.length j_149 (vp_nar .byte (116 : Int32))) fun I_151 =>
(p_ix S_26 21 S_21.length (31 : Int32)).bind fun j_153 =>
p_let (v_up I_151 S_21.length j_153 (vp_nar .byte (32 : Int32))) fun I_155 =>
(p_ix S_26 21 S_21.length (32 : Int32)).bind fun j_157 =>
p_let (v_up I_155 S_21.length j_157 (vp_nar .byte (119 : Int32))) fun I_159 =>
(p_ix S_26 21 S_21.length (33 : Int32)).bind fun j_161 =>
p_let (v_up I_159 S_21.length j_161 (vp_nar .byte (104 : Int32))) fun I_163 =>
(p_ix S_26 21 S_21.length (34 : Int32)).bind fun j_165 =>
p_let (v_up I_163 S_21.length j_165 (vp_nar .byte (111 : Int32))) fun I_167 =>
(p_ix S_26 21 S_21.length (35 : Int32)).bind fun j_169 =>
p_let (v_up I_167 S_21.length j_169 (vp_nar .byte (32 : Int32))) fun I_171 =>
(p_ix S_26 21 S_21.length (36 : Int32)).bind fun j_173 =>
p_let (v_up I_171 S_21.length j_173 (vp_nar .byte (115 : Int32))) fun I_175 =>
(p_ix S_26 21 S_21.length (37 : Int32)).bind fun j_177 =>
p_let (v_up I_175 S_21.length j_177 (vp_nar .byte (104 : Int32))) fun I_179 =>
(p_ix S_26 21 S_21.length (38 : Int32)).bind fun j_181 =>
p_let (v_up I_179 S_21.length j_181 (vp_nar .byte (121 : Int32))) fun I_183 =>
(p_ix S_26 21 S_21.length (39 : Int32)).bind fun j_185 =>
p_let (v_up I_183 S_21.length j_185 (vp_nar .byte (32 : Int32))) fun I_187 =>
(p_ix S_26 21 S_21.length (40 : Int32)).bind fun j_189 =>
p_let (v_up I_187 S_21.length j_189 (vp_nar .byte (110 : Int32))) fun I_191 =>
(p_ix S_26 21 S_21.length (41 : Int32)).bind fun j_193 =>
p_let (v_up I_191 S_21.length j_193 (vp_nar .byte (101 : Int32))) fun I_195 =>
(p_ix S_26 21 S_21.length (42 : Int32)).bind fun j_197 =>
p_let (v_up I_195 S_21.length j_197 (vp_nar .byte (97 : Int32))) fun I_199 =>
(p_ix S_26 21 S_21.length (43 : Int32)).bind fun j_201 =>
p_let (v_up I_199 S_21.length j_201 (vp_nar .byte (114 : Int32))) fun I_203 =>
(p_ix S_26 21 S_21.length (44 : Int32)).bind fun j_205 =>
p_let (v_up I_203 S_21.length j_205 (vp_nar .byte (32 : Int32))) fun I_207 =>
(p_ix S_26 21 S_21.length (45 : Int32)).bind fun j_209 =>
p_let (v_up I_207 S_21.length j_209 (vp_nar .byte (104 : Int32))) fun I_211 =>
(p_ix S_26 21 S_21.length (46 : Int32)).bind fun j_213 =>
p_let (v_up I_211 S_21.length j_213 (vp_nar .byte (117 : Int32))) fun I_215 =>
(p_ix S_26 21 S_21.length (47 : Int32)).bind fun j_217 =>
p_let (v_up I_215 S_21.length j_217 (vp_nar .byte (115 : Int32))) fun I_219 =>
(p_ix S_26 21 S_21.length (48 : Int32)).bind fun j_221 =>
p_let (v_up I_219 S_21.length j_221 (vp_nar .byte (104 : Int32))) fun I_223 =>
(p_ix S_26 21 S_21.length (49 : Int32)).bind fun j_225 =>
p_let (v_up I_223 S_21.length j_225 (vp_nar .byte (32 : Int32))) fun I_227 =>
(p_ix S_26 21 S_21.length (50 : Int32)).bind fun j_229 =>
p_let (v_up I_227 S_21.length j_229 (vp_nar .byte (109 : Int32))) fun I_231 =>
(p_ix S_26 21 S_21.length (51 : Int32)).bind fun j_233 =>
p_let (v_up I_231 S_21.length j_233 (vp_nar .byte (111 : Int32))) fun I_235 =>
(p_ix S_26 21 S_21.length (52 : Int32)).bind fun j_237 =>
p_let (v_up I_235 S_21.length j_237 (vp_nar .byte (111 : Int32))) fun I_239 =>
(p_ix S_26 21 S_21.length (53 : Int32)).bind fun j_241 =>
p_let (v_up I_239 S_21.length j_241 (vp_nar .byte (100 : Int32))) fun I_243 =>
(p_ix S_26 21 S_21.length (54 : Int32)).bind fun j_245 =>
p_let (v_up I_243 S_21.length j_245 (vp_nar .byte (32 : Int32))) fun I_247 =>
(p_ix S_26 21 S_21.length (55 : Int32)).bind fun j_249 =>
p_let (v_up I_247 S_21.length j_249 (vp_nar .byte (119 : Int32))) fun I_251 =>
(p_ix S_26 21 S_21.length (56 : Int32)).bind fun j_253 =>
p_let (v_up I_251 S_21.length j_253 (vp_nar .byte (97 : Int32))) fun I_255 =>
(p_ix S_26 21 S_21.length (57 : Int32)).bind fun j_257 =>
p_let (v_up I_255 S_21.length j_257 (vp_nar .byte (110 : Int32))) fun I_259 =>
(p_ix S_26 21 S_21.length (58 : Int32)).bind fun j_261 =>
p_let (v_up I_259 S_21.length j_261 (vp_nar .byte (116 : Int32))) fun I_263 =>
(p_ix S_26 21 S_21.length (59 : Int32)).bind fun j_265 =>
p_let (v_up I_263 S_21.length j_265 (vp_nar .byte (32 : Int32))) fun I_267 =>
(p_ix S_26 21 S_21.length (60 : Int32)).bind fun j_269 =>
p_let (v_up I_267 S_21.length j_269 (vp_nar .byte (115 : Int32))) fun I_271 =>
(p_ix S_26 21 S_21.length (61 : Int32)).bind fun j_273 =>
p_let (v_up I_271 S_21.length j_273 (vp_nar .byte (116 : Int32))) fun I_275 =>
(p_ix S_26 21 S_21.length (62 : Int32)).bind fun j_277 =>
p_let (v_up I_275 S_21.length j_277 (vp_nar .byte (105 : Int32))) fun I_279 =>
(p_ix S_26 21 S_21.length (63 : Int32)).bind fun j_281 =>
p_let (v_up I_279 S_21.length j_281 (vp_nar .byte (108 : Int32))) fun I_283 =>
(p_ix S_26 21 S_21.length (64 : Int32)).bind fun j_285 =>
p_let (v_up I_283 S_21.length j_285 (vp_nar .byte (108 : Int32))) fun I_287 =>
(p_ix S_26 21 S_21.length (65 : Int32)).bind fun j_289 =>
p_let (v_up I_287 S_21.length j_289 (vp_nar .byte (32 : Int32))) fun I_291 =>
(p_ix S_26 21 S_21.length (66 : Int32)).bind fun j_293 =>
p_let (v_up I_291 S_21.length j_293 (vp_nar .byte (97 : Int32))) fun I_295 =>
(p_ix S_26 21 S_21.length (67 : Int32)).bind fun j_297 =>
p_let (v_up I_295 S_21.length j_297 (vp_nar .byte (108 : Int32))) fun I_299 =>
(p_ix S_26 21 S_21.length (68 : Int32)).bind fun j_301 =>
p_let (v_up I_299 S_21.length j_301 (vp_nar .byte (108 : Int32))) fun I_303 =>
(p_ix S_26 21 S_21.length (69 : Int32)).bind fun j_305 =>
p_let (v_up I_303 S_21.length j_305 (vp_nar .byte (32 : Int32))) fun I_307 =>
(p_ix S_26 21 S_21.length (70 : Int32)).bind fun j_309 =>
p_let (v_up I_307 S_21.length j_309 (vp_nar .byte (109 : Int32))) fun I_311 =>
(p_ix S_26 21 S_21.length (71 : Int32)).bind fun j_313 =>
p_let (v_up I_311 S_21.length j_313 (vp_nar .byte (105 : Int32))) fun I_315 =>
(p_ix S_26 21 S_21.length (72 : Int32)).bind fun j_317 =>
p_let (v_up I_315 S_21.length j_317 (vp_nar .byte (110 : Int32))) fun I_319 =>
(p_ix S_26 21 S_21.length (73 : Int32)).bind fun j_321 =>
p_let (v_up I_319 S_21.length j_321 (vp_nar .byte (117 : Int32))) fun I_323 =>
(p_ix S_26 21 S_21.length (74 : Int32)).bind fun j_325 =>
p_let (v_up I_323 S_21.length j_325 (vp_nar .byte (116 : Int32))) fun I_327 =>
(p_ix S_26 21 S_21.length (75 : Int32)).bind fun j_329 =>
p_let (v_up I_327 S_21.length j_329 (vp_nar .byte (101 : Int32))) fun I_331 =>
(p_ix S_26 21 S_21.length (76 : Int32)).bind fun j_333 =>
p_let (v_up I_331 S_21.length j_333 (vp_nar .byte (32 : Int32))) fun I_335 =>
(p_ix S_26 21 S_21.length (77 : Int32)).bind fun j_337 =>
p_let (v_up I_335 S_21.length j_337 (vp_nar .byte (100 : Int32))) fun I_339 =>
(p_ix S_26 21 S_21.length (78 : Int32)).bind fun j_341 =>
p_let (v_up I_339 S_21.length j_341 (vp_nar .byte (111 : Int32))) fun I_343 =>
(p_ix S_26 21 S_21.length (79 : Int32)).bind fun j_345 =>
p_let (v_up I_343 S_21.length j_345 (vp_nar .byte (110 : Int32))) fun I_347 =>
(p_ix S_26 21 S_21.length (80 : Int32)).bind fun j_349 =>
p_let (v_up I_347 S_21.length j_349 (vp_nar .byte (101 : Int32))) fun I_351 =>
(p_ix S_26 21 S_21.length (81 : Int32)).bind fun j_353 =>
p_let (v_up I_351 S_21.length j_353 (vp_nar .byte (32 : Int32))) fun I_355 =>
(p_ix S_26 21 S_21.length (82 : Int32)).bind fun j_357 =>
p_let (v_up I_355 S_21.length j_357 (vp_nar .byte (108 : Int32))) fun I_359 =>
(p_ix S_26 21 S_21.length (83 : Int32)).bind fun j_361 =>
p_let (v_up I_359 S_21.length j_361 (vp_nar .byte (97 : Int32))) fun I_363 =>
(p_ix S_26 21 S_21.length (84 : Int32)).bind fun j_365 =>
p_let (v_up I_363 S_21.length j_365 (vp_nar .byte (116 : Int32))) fun I_367 =>
(p_ix S_26 21 S_21.length (85 : Int32)).bind fun j_369 =>
p_let (v_up I_367 S_21.length j_369 (vp_nar .byte (101 : Int32))) fun I_371 =>
(p_ix S_26 21 S_21.length (86 : Int32)).bind fun j_373 =>
p_let (v_up I_371 S_21.length j_373 (vp_nar .byte (115 : Int32))) fun I_375 =>
(p_ix S_26 21 S_21.length (87 : Int32)).bind fun j_377 =>
p_let (v_up I_375 S_21.length j_377 (vp_nar .byte (116 : Int32))) fun I_379 =>
(p_ix S_26 21 S_21.length (88 : Int32)).bind fun j_381 =>
p_let (v_up I_379 S_21.length j_381 (vp_nar .byte (32 : Int32))) fun I_383 =>
(p_ix S_26 21 S_21.length (89 : Int32)).bind fun j_385 =>
p_let (v_up I_383 S_21.length j_385 (vp_nar .byte (105 : Int32))) fun I_387 =>
(p_ix S_26 21 S_21.length (90 : Int32)).bind fun j_389 =>
p_let (v_up I_387 S_21.length j_389 (vp_nar .byte (115 : Int32))) fun I_391 =>
(p_ix S_26 21 S_21.length (91 : Int32)).bind fun j_393 =>
p_let (v_up I_391 S_21.length j_393 (vp_nar .byte (32 : Int32))) fun I_395 =>
(p_ix S_26 21 S_21.length (92 : Int32)).bind fun j_397 =>
p_let (v_up I_395 S_21.length j_397 (vp_nar .byte (116 : Int32))) fun I_399 =>
(p_ix S_26 21 S_21.length (93 : Int32)).bind fun j_401 =>
p_let (v_up I_399 S_21.length j_401 (vp_nar .byte (111 : Int32))) fun I_403 =>
(p_ix S_26 21 S_21.length (94 : Int32)).bind fun j_405 =>
p_let (v_up I_403 S_21.length j_405 (vp_nar .byte (117 : Int32))) fun I_407 =>
(p_ix S_26 21 S_21.length (95 : Int32)).bind fun j_409 =>
p_let (v_up I_407 S_21.length j_409 (vp_nar .byte (99 : Int32))) fun I_411 =>
(p_ix S_26 21 S_21.length (96 : Int32)).bind fun j_413 =>
p_let (v_up I_411 S_21.length j_413 (vp_nar .byte (104 : Int32))) fun I_415 =>
(p_ix S_26 21 S_21.length (97 : Int32)).bind fun j_417 =>
p_let (v_up I_415 S_21.length j_417 (vp_nar .byte (32 : Int32))) fun I_419 =>
(p_ix S_26 21 S_21.length (98 : Int32)).bind fun j_421 =>
p_let (v_up I_419 S_21.length j_421 (vp_nar .byte (99 : Int32))) fun I_423 =>
(p_ix S_26 21 S_21.length (99 : Int32)).bind fun j_425 =>
p_let (v_up I_423 S_21.length j_425 (vp_nar .byte (111 : Int32))) fun I_427 =>
(p_ix S_26 21 S_21.length (100 : Int32)).bind fun j_429 =>
p_let (v_up I_427 S_21.length j_429 (vp_nar .byte (97 : Int32))) fun I_431 =>
(p_ix S_26 21 S_21.length (101 : Int32)).bind fun j_433 =>
p_let (v_up I_431 S_21.length j_433 (vp_nar .byte (120 : Int32))) fun I_435 =>
(p_ix S_26 21 S_21.length (102 : Int32)).bind fun j_437 =>
p_let (v_up I_435 S_21.length j_437 (vp_nar .byte (32 : Int32))) fun I_439 =>
(p_ix S_26 21 S_21.length (103 : Int32)).bind fun j_441 =>
p_let (v_up I_439 S_21.length j_441 (vp_nar .byte (116 : Int32))) fun I_443 =>
(p_ix S_26 21 S_21.length (104 : Int32)).bind fun j_445 =>
p_let (v_up I_443 S_21.length j_445 (vp_nar .byte (101 : Int32))) fun I_447 =>
(p_ix S_26 21 S_21.length (105 : Int32)).bind fun j_449 =>
p_let (v_up I_447 S_21.length j_449 (vp_nar .byte (109 : Int32))) fun I_451 =>
(p_ix S_26 21 S_21.length (106 : Int32)).bind fun j_453 =>
p_let (v_up I_451 S_21.length j_453 (vp_nar .byte (112 : Int32))) fun I_455 =>
(p_ix S_26 21 S_21.length (107 : Int32)).bind fun j_457 =>
p_let (v_up I_455 S_21.length j_457 (vp_nar .byte (116 : Int32))) fun I_459 =>
(p_ix S_26 21 S_21.length (108 : Int32)).bind fun j_461 =>
p_let (v_up I_459 S_21.length j_461 (vp_nar .byte (32 : Int32))) fun I_463 =>
(p_ix S_26 21 S_21.length (109 : Int32)).bind fun j_465 =>
p_let (v_up I_463 S_21.length j_465 (vp_nar .byte (116 : Int32))) fun I_467 =>
(p_ix S_26 21 S_21.length (110 : Int32)).bind fun j_469 =>
p_let (v_up I_467 S_21.length j_469 (vp_nar .byte (111 : Int32))) fun I_471 =>
(p_ix S_26 21 S_21.length (111 : Int32)).bind fun j_473 =>
p_let (v_up I_471 S_21.length j_473 (vp_nar .byte (32 : Int32))) fun I_475 =>
(p_ix S_26 21 S_21.length (112 : Int32)).bind fun j_477 =>
p_let (v_up I_475 S_21.length j_477 (vp_nar .byte (112 : Int32))) fun I_479 =>
(p_ix S_26 21 S_21.length (113 : Int32)).bind fun j_481 =>
p_let (v_up I_479 S_21.length j_481 (vp_nar .byte (97 : Int32))) fun I_483 =>
(p_ix S_26 21 S_21.length (114 : Int32)).bind fun j_485 =>
p_let (v_up I_483 S_21.length j_485 (vp_nar .byte (115 : Int32))) fun I_487 =>
(p_ix S_26 21 S_21.length (115 : Int32)).bind fun j_489 =>
p_let (v_up I_487 S_21.length j_489 (vp_nar .byte (115 : Int32))) fun I_491 =>
(p_ix S_26 21 S_21.length (116 : Int32)).bind fun j_493 =>
p_let (v_up I_491 S_21.length j_493 (vp_nar .byte (32 : Int32))) fun I_495 =>
(p_ix S_26 21 S_21.length (117 : Int32)).bind fun j_497 =>
p_let (v_up I_495 S_21.length j_497 (vp_nar .byte (116 : Int32))) fun I_499 =>
(p_ix S_26 21 S_21.length (118 : Int32)).bind fun j_501 =>
p_let (v_up I_499 S_21.length j_501 (vp_nar .byte (105 : Int32))) fun I_503 =>
(p_ix S_26 21 S_21.length (119 : Int32)).bind fun j_505 =>
p_let (v_up I_503 S_21.length j_505 (vp_nar .byte (109 : Int32))) fun I_507 =>
(p_ix S_26 21 S_21.length (120 : Int32)).bind fun j_509 =>
p_let (v_up I_507 S_21.length j_509 (vp_nar .byte (101 : Int32))) fun I_511 =>
(p_ix S_26 21 S_21.length (121 : Int32)).bind fun j_513 =>
p_let (v_up I_511 S_21.length j_513 (vp_nar .byte (115 : Int32))) fun I_515 =>
(p_ix S_26 21 S_21.length (122 : Int32)).bind fun j_517 =>
p_let (v_up I_515 S_21.length j_517 (vp_nar .byte (32 : Int32))) fun I_519 =>
p_let (v_up F_24 p0 7 (some S_21.length)) fun F_521 =>
p_let (S_26 ++ [(21, 400)]) fun S_523 =>
p_let (v_up F_521 p0 11 (some S_26.length)) fun F_526 =>
p_let (S_523 ++ [(20, 5)]) fun S_528 =>
p_let (v_up F_526 p0 12 (some S_523.length)) fun F_531 =>
p_let (v_up I_519 p0 14 (-1 : Int32)) fun I_533 =>
p_let (S_528 ++ [(20, 401)]) fun S_535 =>
p_let (v_up F_531 p0 15 (some S_528.length)) fun F_538 =>
p_let (S_535 ++ [(20, 401)]) fun S_540 =>
p_let (v_up F_538 p0 16 (some S_535.length)) fun F_543 =>
p_let (S_540 ++ [(20, 401)]) fun S_545 =>
p_let (v_up F_543 p0 17 (some S_540.length)) fun F_548 =>
p_let (S_545 ++ [(20, 9)]) fun S_550 =>
p_let (v_up F_548 p0 26 (some S_545.length)) fun F_553 =>
p_let (S_550 ++ [(20, 8)]) fun S_555 =>
p_let (v_up F_553 p0 29 (some S_550.length)) fun F_558 =>
p_let (S_555 ++ [(20, 304)]) fun S_560 =>
p_let (v_up F_558 p0 30 (some S_555.length)) fun F_563 =>
p_let (S_560 ++ [(20, 304)]) fun S_565 =>
p_let (v_up F_563 p0 31 (some S_560.length)) fun F_568 =>
p_let (S_565 ++ [(20, 61)]) fun S_570 =>
p_let (v_up F_568 p0 33 (some S_565.length)) fun F_573 =>
p_let (S_570 ++ [(20, 8)]) fun S_575 =>
p_let (v_up F_573 p0 34 (some S_570.length)) fun F_578 =>
p_let (S_575 ++ [(20, 8)]) fun S_580 =>
p_let (v_up F_578 p0 35 (some S_575.length)) fun F_583 =>
p_let (S_580 ++ [(20, 8)]) fun S_585 =>
p_let (v_up F_583 p0 36 (some S_580.length)) fun F_588 =>
p_let (S_585 ++ [(23, 21)]) fun S_590 =>
p_let (v_up F_588 p0 37 (some S_585.length)) fun F_593 =>
p_let (v_up I_533 p0 38 (-1 : Int32)) fun I_595 =>
p_let (S_590 ++ [(23, 2)]) fun S_597 =>
p_let (v_up F_593 p0 44 (some S_590.length)) fun F_600 =>
p_let (S_597 ++ [(20, 18)]) fun S_602 =>
p_let (v_up F_600 p0 45 (some S_597.length)) fun F_605 =>
p_let (v_up I_595 p0 46 (-1 : Int32)) fun I_607 =>
(F_605 p0 2).bind fun a_609 =>
(p_ix S_602 20 a_609 (46 : Int32)).bind fun j_611 =>
p_let (v_up I_607 a_609 j_611 (1 : Int32)) fun I_613 =>
(F_605 p0 2).bind fun a_615 =>
(p_ix S_602 20 a_615 (52 : Int32)).bind fun j_617 =>
p_let (v_up I_613 a_615 j_617 (-1 : Int32)) fun I_619 =>
some (S_602, I_619, F_605)
set_option maxHeartbeats 4000000 in
set_option maxRecDepth 100000 in
theorem t_X10_init {p0 : Nat} {r : v_S × v_I × v_F} (h : f_X10_init S I F p0 = some r) : v_R l B D ac (v_EE B wa wb wt sb sL sx) yX10_init cX10_init 1 none 2 22 19507 [.ref (B + p0)] S I J F (v_D none r.1 r.2.1 J r.2.2) := by
  refine v_R.of (by decide) (Nat.le_of_ble_eq_true rfl) fun d hd => ?_
  generalize hQ : v_D none r.1 r.2.1 J r.2.2 = Q
  unfold f_X10_init at h
  refine v_sub [(0, .ref (B + p0))] ⟨rfl, trivial⟩ ?_
  refine v_aload_n dX10_init_0 rfl ?_
  refine v_objInit dX10_init_1 ml_X10_22 oi_i oi_c (by omega) (Nat.le_of_ble_eq_true rfl) ?_
  refine v_aload_n dX10_init_4 rfl ?_
  refine v_bipush (7 : Int32) dX10_init_5 (by decide) ?_
  refine v_newa0 7 dX10_init_7 ka_int (by decide) (by decide) (by decide) (by decide) (by decide) ?_
  replace h := p_let_elim h
  obtain ⟨S_1, h_2, h⟩ := h
  rw [← h_2]
  replace h := p_bind_elim h
  obtain ⟨_, q_3, h⟩ := h
  have q_3 := p_ob_spec q_3
  refine v_putRF rfl fl_X10_7 rfl (fun _ _ h => by cases h; rfl) dX10_init_9 q_3 rfl rfl ?_
  replace h := p_let_elim h
  obtain ⟨F_4, h_5, h⟩ := h
  rw [← h_5]
  refine v_aload_n dX10_init_12 rfl ?_
  refine v_sipush (5660 : Int32) dX10_init_13 (by decide) ?_
  refine v_newa0 5660 dX10_init_16 ka_int (by decide) (by decide) (by decide) (by decide) (by decide) ?_
  replace h := p_let_elim h
  obtain ⟨S_6, h_7, h⟩ := h
  rw [← h_7]
  have q_8 := p_app h_7 q_3
  refine v_putRF rfl fl_X10_28 rfl (fun _ _ h => by cases h; rfl) dX10_init_18 q_8 rfl rfl ?_
  replace h := p_let_elim h
  obtain ⟨F_9, h_10, h⟩ := h
  rw [← h_10]
  refine v_aload_n dX10_init_21 rfl ?_
  refine v_sipush (11320 : Int32) dX10_init_22 (by decide) ?_
  refine v_newa0 11320 dX10_init_25 ka_int (by decide) (by decide) (by decide) (by decide) (by decide) ?_
  replace h := p_let_elim h
  obtain ⟨S_11, h_12, h⟩ := h
  rw [← h_12]
  have q_13 := p_app h_12 q_8
  refine v_putRF rfl fl_X10_31 rfl (fun _ _ h => by cases h; rfl) dX10_init_27 q_13 rfl rfl ?_
  replace h := p_let_elim h
  obtain ⟨F_14, h_15, h⟩ := h
  rw [← h_15]
  refine v_aload_n dX10_init_30 rfl ?_
  refine v_iconstE (2 : Int32) dX10_init_31 (by decide) ?_
  refine v_newa2 2 dX10_init_32 ka_boolean (by decide) (by decide) (by decide) (by decide) (by decide) ?_
  replace h := p_let_elim h
  obtain ⟨S_16, h_17, h⟩ := h
  rw [← h_17]
  have q_18 := p_app h_17 q_13
  refine v_putRF rfl fl_X10_34 rfl (fun _ _ h => by cases h; rfl) dX10_init_34 q_18 rfl rfl ?_
  replace h := p_let_elim h
  obtain ⟨F_19, h_20, h⟩ := h
  rw [← h_20]
  refine v_aload_n dX10_init_37 rfl ?_
  refine v_bipush (36 : Int32) dX10_init_38 (by decide) ?_
  refine v_newa0 36 dX10_init_40 ka_int (by decide) (by decide) (by decide) (by decide) (by decide) ?_
  replace h := p_let_elim h
  obtain ⟨S_21, h_22, h⟩ := h
  rw [← h_22]
  have q_23 := p_app h_22 q_18
  refine v_putRF rfl fl_X10_38 rfl (fun _ _ h => by cases h; rfl) dX10_init_42 q_23 rfl rfl ?_
  replace h := p_let_elim h
  obtain ⟨F_24, h_25, h⟩ := h
  rw [← h_25]
  refine v_aload_n dX10_init_45 rfl ?_
  refine v_bipush (123 : Int32) dX10_init_46 (by decide) ?_
  refine v_newa1 123 dX10_init_48 ka_byte (by decide) (by decide) (by decide) (by decide) (by decide) ?_
  replace h := p_let_elim h
  obtain ⟨S_26, h_27, h⟩ := h
  rw [← h_27]
  have q_28 := p_app h_27 q_23
  refine v_dup dX10_init_50 rfl ?_
  refine v_iconstE (0 : Int32) dX10_init_51 (by decide) ?_
  refine v_bipush (110 : Int32) dX10_init_52 (by decide) ?_
  replace h := p_bind_elim h
  obtain ⟨j_29, q_30, h⟩ := h
  refine v_bastP dX10_init_54 q_30 ?_
  replace h := p_let_elim h
  obtain ⟨I_31, h_32, h⟩ := h
  rw [← h_32]
  refine v_dup dX10_init_55 rfl ?_
  refine v_iconstE (1 : Int32) dX10_init_56 (by decide) ?_
  refine v_bipush (101 : Int32) dX10_init_57 (by decide) ?_
  replace h := p_bind_elim h
  obtain ⟨j_33, q_34, h⟩ := h
  refine v_bastP dX10_init_59 q_34 ?_
  replace h := p_let_elim h
  obtain ⟨I_35, h_36, h⟩ := h
  rw [← h_36]
  refine v_dup dX10_init_60 rfl ?_
  refine v_iconstE (2 : Int32) dX10_init_61 (by decide) ?_
  refine v_bipush (101 : Int32) dX10_init_62 (by decide) ?_
  replace h := p_bind_elim h
  obtain ⟨j_37, q_38, h⟩ := h
  refine v_bastP dX10_init_64 q_38 ?_
  replace h := p_let_elim h
  obtain ⟨I_39, h_40, h⟩ := h
  rw [← h_40]
  refine v_dup dX10_init_65 rfl ?_
  refine v_iconstE (3 : Int32) dX10_init_66 (by decide) ?_
  refine v_bipush (100 : Int32) dX10_init_67 (by decide) ?_
  replace h := p_bind_elim h
  obtain ⟨j_41, q_42, h⟩ := h
  refine v_bastP dX10_init_69 q_42 ?_
  replace h := p_let_elim h
  obtain ⟨I_43, h_44, h⟩ := h
  rw [← h_44]
  refine v_dup dX10_init_70 rfl ?_
  refine v_iconstE (4 : Int32) dX10_init_71 (by decide) ?_
  refine v_bipush (115 : Int32) dX10_init_72 (by decide) ?_
  replace h := p_bind_elim h
  obtain ⟨j_45, q_46, h⟩ := h
  refine v_bastP dX10_init_74 q_46 ?_
  replace h := p_let_elim h
  obtain ⟨I_47, h_48, h⟩ := h
  rw [← h_48]
  refine v_dup dX10_init_75 rfl ?_
  refine v_iconstE (5 : Int32) dX10_init_76 (by decide) ?_
  refine v_bipush (32 : Int32) dX10_init_77 (by decide) ?_
  replace h := p_bind_elim h
  obtain ⟨j_49, q_50, h⟩ := h
  refine v_bastP dX10_init_79 q_50 ?_
  replace h := p_let_elim h
  obtain ⟨I_51, h_52, h⟩ := h
  rw [← h_52]
  refine v_dup dX10_init_80 rfl ?_
  refine v_bipush (6 : Int32) dX10_init_81 (by decide) ?_
  refine v_bipush (119 : Int32) dX10_init_83 (by decide) ?_
  replace h := p_bind_elim h
  obtain ⟨j_53, q_54, h⟩ := h
  refine v_bastP dX10_init_85 q_54 ?_
  replace h := p_let_elim h
  obtain ⟨I_55, h_56, h⟩ := h
  rw [← h_56]
  refine v_dup dX10_init_86 rfl ?_
  refine v_bipush (7 : Int32) dX10_init_87 (by decide) ?_
  refine v_bipush (97 : Int32) dX10_init_89 (by decide) ?_
  replace h := p_bind_elim h
  obtain ⟨j_57, q_58, h⟩ := h
  refine v_bastP dX10_init_91 q_58 ?_
  replace h := p_let_elim h
  obtain ⟨I_59, h_60, h⟩ := h
  rw [← h_60]
  refine v_dup dX10_init_92 rfl ?_
  refine v_bipush (8 : Int32) dX10_init_93 (by decide) ?_
  refine v_bipush (110 : Int32) dX10_init_95 (by decide) ?_
  replace h := p_bind_elim h
  obtain ⟨j_61, q_62, h⟩ := h
  refine v_bastP dX10_init_97 q_62 ?_
  replace h := p_let_elim h
  obtain ⟨I_63, h_64, h⟩ := h
  rw [← h_64]
  refine v_dup dX10_init_98 rfl ?_
  refine v_bipush (9 : Int32) dX10_init_99 (by decide) ?_
  refine v_bipush (116 : Int32) dX10_init_101 (by decide) ?_
  replace h := p_bind_elim h
  obtain ⟨j_65, q_66, h⟩ := h
  refine v_bastP dX10_init_103 q_66 ?_
  replace h := p_let_elim h
  obtain ⟨I_67, h_68, h⟩ := h
  rw [← h_68]
  refine v_dup dX10_init_104 rfl ?_
  refine v_bipush (10 : Int32) dX10_init_105 (by decide) ?_
  refine v_bipush (115 : Int32) dX10_init_107 (by decide) ?_
  replace h := p_bind_elim h
  obtain ⟨j_69, q_70, h⟩ := h
  refine v_bastP dX10_init_109 q_70 ?_
  replace h := p_let_elim h
  obtain ⟨I_71, h_72, h⟩ := h
  rw [← h_72]
  refine v_dup dX10_init_110 rfl ?_
  refine v_bipush (11 : Int32) dX10_init_111 (by decide) ?_
  refine v_bipush (32 : Int32) dX10_init_113 (by decide) ?_
  replace h := p_bind_elim h
  obtain ⟨j_73, q_74, h⟩ := h
  refine v_bastP dX10_init_115 q_74 ?_
  replace h := p_let_elim h
  obtain ⟨I_75, h_76, h⟩ := h
  rw [← h_76]
  refine v_dup dX10_init_116 rfl ?_
  refine v_bipush (12 : Int32) dX10_init_117 (by decide) ?_
  refine v_bipush (115 : Int32) dX10_init_119 (by decide) ?_
  replace h := p_bind_elim h
  obtain ⟨j_77, q_78, h⟩ := h
  refine v_bastP dX10_init_121 q_78 ?_
  replace h := p_let_elim h
  obtain ⟨I_79, h_80, h⟩ := h
  rw [← h_80]
  refine v_dup dX10_init_122 rfl ?_
  refine v_bipush (13 : Int32) dX10_init_123 (by decide) ?_
  refine v_bipush (104 : Int32) dX10_init_125 (by decide) ?_
  replace h := p_bind_elim h
  obtain ⟨j_81, q_82, h⟩ := h
  refine v_bastP dX10_init_127 q_82 ?_
  replace h := p_let_elim h
  obtain ⟨I_83, h_84, h⟩ := h
  rw [← h_84]
  refine v_dup dX10_init_128 rfl ?_
  refine v_bipush (14 : Int32) dX10_init_129 (by decide) ?_
  refine v_bipush (117 : Int32) dX10_init_131 (by decide) ?_
  replace h := p_bind_elim h
  obtain ⟨j_85, q_86, h⟩ := h
  refine v_bastP dX10_init_133 q_86 ?_
  replace h := p_let_elim h
  obtain ⟨I_87, h_88, h⟩ := h
  rw [← h_88]
  refine v_dup dX10_init_134 rfl ?_
  refine v_bipush (15 : Int32) dX10_init_135 (by decide) ?_
  refine v_bipush (116 : Int32) dX10_init_137 (by decide) ?_
  replace h := p_bind_elim h
  obtain ⟨j_89, q_90, h⟩ := h
  refine v_bastP dX10_init_139 q_90 ?_
  replace h := p_let_elim h
  obtain ⟨I_91, h_92, h⟩ := h
  rw [← h_92]
  refine v_dup dX10_init_140 rfl ?_
  refine v_bipush (16 : Int32) dX10_init_141 (by decide) ?_
  refine v_bipush (115 : Int32) dX10_init_143 (by decide) ?_
  replace h := p_bind_elim h
  obtain ⟨j_93, q_94, h⟩ := h
  refine v_bastP dX10_init_145 q_94 ?_
  replace h := p_let_elim h
  obtain ⟨I_95, h_96, h⟩ := h
  rw [← h_96]
  refine v_dup dX10_init_146 rfl ?_
  refine v_bipush (17 : Int32) dX10_init_147 (by decide) ?_
  refine v_bipush (32 : Int32) dX10_init_149 (by decide) ?_
  replace h := p_bind_elim h
  obtain ⟨j_97, q_98, h⟩ := h
  refine v_bastP dX10_init_151 q_98 ?_
  replace h := p_let_elim h
  obtain ⟨I_99, h_100, h⟩ := h
  rw [← h_100]
  refine v_dup dX10_init_152 rfl ?_
  refine v_bipush (18 : Int32) dX10_init_153 (by decide) ?_
  refine v_bipush (105 : Int32) dX10_init_155 (by decide) ?_
  replace h := p_bind_elim h
  obtain ⟨j_101, q_102, h⟩ := h
  refine v_bastP dX10_init_157 q_102 ?_
  replace h := p_let_elim h
  obtain ⟨I_103, h_104, h⟩ := h
  rw [← h_104]
  refine v_dup dX10_init_158 rfl ?_
  refine v_bipush (19 : Int32) dX10_init_159 (by decide) ?_
  refine v_bipush (102 : Int32) dX10_init_161 (by decide) ?_
  replace h := p_bind_elim h
  obtain ⟨j_105, q_106, h⟩ := h
  refine v_bastP dX10_init_163 q_106 ?_
  replace h := p_let_elim h
  obtain ⟨I_107, h_108, h⟩ := h
  rw [← h_108]
  refine v_dup dX10_init_164 rfl ?_
  refine v_bipush (20 : Int32) dX10_init_165 (by decide) ?_
  refine v_bipush (32 : Int32) dX10_init_167 (by decide) ?_
  replace h := p_bind_elim h
  obtain ⟨j_109, q_110, h⟩ := h
  refine v_bastP dX10_init_169 q_110 ?_
  replace h := p_let_elim h
  obtain ⟨I_111, h_112, h⟩ := h
  rw [← h_112]
  refine v_dup dX10_init_170 rfl ?_
  refine v_bipush (21 : Int32) dX10_init_171 (by decide) ?_
  refine v_bipush (111 : Int32) dX10_init_173 (by decide) ?_
  replace h := p_bind_elim h
  obtain ⟨j_113, q_114, h⟩ := h
  refine v_bastP dX10_init_175 q_114 ?_
  replace h := p_let_elim h
  obtain ⟨I_115, h_116, h⟩ := h
  rw [← h_116]
  refine v_dup dX10_init_176 rfl ?_
  refine v_bipush (22 : Int32) dX10_init_177 (by decide) ?_
  refine v_bipush (114 : Int32) dX10_init_179 (by decide) ?_
  replace h := p_bind_elim h
  obtain ⟨j_117, q_118, h⟩ := h
  refine v_bastP dX10_init_181 q_118 ?_
  replace h := p_let_elim h
  obtain ⟨I_119, h_120, h⟩ := h
  rw [← h_120]
  refine v_dup dX10_init_182 rfl ?_
  refine v_bipush (23 : Int32) dX10_init_183 (by decide) ?_
  refine v_bipush (32 : Int32) dX10_init_185 (by decide) ?_
  replace h := p_bind_elim h
  obtain ⟨j_121, q_122, h⟩ := h
  refine v_bastP dX10_init_187 q_122 ?_
  replace h := p_let_elim h
  obtain ⟨I_123, h_124, h⟩ := h
  rw [← h_124]
  refine v_dup dX10_init_188 rfl ?_
  refine v_bipush (24 : Int32) dX10_init_189 (by decide) ?_
  refine v_bipush (97 : Int32) dX10_init_191 (by decide) ?_
  replace h := p_bind_elim h
  obtain ⟨j_125, q_126, h⟩ := h
  refine v_bastP dX10_init_193 q_126 ?_
  replace h := p_let_elim h
  obtain ⟨I_127, h_128, h⟩ := h
  rw [← h_128]
  refine v_dup dX10_init_194 rfl ?_
  refine v_bipush (25 : Int32) dX10_init_195 (by decide) ?_
  refine v_bipush (110 : Int32) dX10_init_197 (by decide) ?_
  replace h := p_bind_elim h
  obtain ⟨j_129, q_130, h⟩ := h
  refine v_bastP dX10_init_199 q_130 ?_
  replace h := p_let_elim h
  obtain ⟨I_131, h_132, h⟩ := h
  rw [← h_132]
  refine v_dup dX10_init_200 rfl ?_
  refine v_bipush (26 : Int32) dX10_init_201 (by decide) ?_
  refine v_bipush (100 : Int32) dX10_init_203 (by decide) ?_
  replace h := p_bind_elim h
  obtain ⟨j_133, q_134, h⟩ := h
  refine v_bastP dX10_init_205 q_134 ?_
  replace h := p_let_elim h
  obtain ⟨I_135, h_136, h⟩ := h
  rw [← h_136]
  refine v_dup dX10_init_206 rfl ?_
  refine v_bipush (27 : Int32) dX10_init_207 (by decide) ?_
  refine v_bipush (32 : Int32) dX10_init_209 (by decide) ?_
  replace h := p_bind_elim h
  obtain ⟨j_137, q_138, h⟩ := h
  refine v_bastP dX10_init_211 q_138 ?_
  replace h := p_let_elim h
  obtain ⟨I_139, h_140, h⟩ := h
  rw [← h_140]
  refine v_dup dX10_init_212 rfl ?_
  refine v_bipush (28 : Int32) dX10_init_213 (by decide) ?_
  refine v_bipush (110 : Int32) dX10_init_215 (by decide) ?_
  replace h := p_bind_elim h
  obtain ⟨j_141, q_142, h⟩ := h
  refine v_bastP dX10_init_217 q_142 ?_
  replace h := p_let_elim h
  obtain ⟨I_143, h_144, h⟩ := h
  rw [← h_144]
  refine v_dup dX10_init_218 rfl ?_
  refine v_bipush (29 : Int32) dX10_init_219 (by decide) ?_
  refine v_bipush (111 : Int32) dX10_init_221 (by decide) ?_
  replace h := p_bind_elim h
  obtain ⟨j_145, q_146, h⟩ := h
  refine v_bastP dX10_init_223 q_146 ?_
  replace h := p_let_elim h
  obtain ⟨I_147, h_148, h⟩ := h
  rw [← h_148]
  refine v_dup dX10_init_224 rfl ?_
  refine v_bipush (30 : Int32) dX10_init_225 (by decide) ?_
  refine v_bipush (116 : Int32) dX10_init_227 (by decide) ?_
  replace h := p_bind_elim h
  obtain ⟨j_149, q_150, h⟩ := h
  refine v_bastP dX10_init_229 q_150 ?_
  replace h := p_let_elim h
  obtain ⟨I_151, h_152, h⟩ := h
  rw [← h_152]
  refine v_dup dX10_init_230 rfl ?_
  refine v_bipush (31 : Int32) dX10_init_231 (by decide) ?_
  refine v_bipush (32 : Int32) dX10_init_233 (by decide) ?_
  replace h := p_bind_elim h
  obtain ⟨j_153, q_154, h⟩ := h
  refine v_bastP dX10_init_235 q_154 ?_
  replace h := p_let_elim h
  obtain ⟨I_155, h_156, h⟩ := h
  rw [← h_156]
  refine v_dup dX10_init_236 rfl ?_
  refine v_bipush (32 : Int32) dX10_init_237 (by decide) ?_
  refine v_bipush (119 : Int32) dX10_init_239 (by decide) ?_
  replace h := p_bind_elim h
  obtain ⟨j_157, q_158, h⟩ := h
  refine v_bastP dX10_init_241 q_158 ?_
  replace h := p_let_elim h
  obtain ⟨I_159, h_160, h⟩ := h
  rw [← h_160]
  refine v_dup dX10_init_242 rfl ?_
  refine v_bipush (33 : Int32) dX10_init_243 (by decide) ?_
  refine v_bipush (104 : Int32) dX10_init_245 (by decide) ?_
  replace h := p_bind_elim h
  obtain ⟨j_161, q_162, h⟩ := h
  refine v_bastP dX10_init_247 q_162 ?_
  replace h := p_let_elim h
  obtain ⟨I_163, h_164, h⟩ := h
  rw [← h_164]
  refine v_dup dX10_init_248 rfl ?_
  refine v_bipush (34 : Int32) dX10_init_249 (by decide) ?_
  refine v_bipush (111 : Int32) dX10_init_251 (by decide) ?_
  replace h := p_bind_elim h
  obtain ⟨j_165, q_166, h⟩ := h
  refine v_bastP dX10_init_253 q_166 ?_
  replace h := p_let_elim h
  obtain ⟨I_167, h_168, h⟩ := h
  rw [← h_168]
  refine v_dup dX10_init_254 rfl ?_
  refine v_bipush (35 : Int32) dX10_init_255 (by decide) ?_
  refine v_bipush (32 : Int32) dX10_init_257 (by decide) ?_
  replace h := p_bind_elim h
  obtain ⟨j_169, q_170, h⟩ := h
  refine v_bastP dX10_init_259 q_170 ?_
  replace h := p_let_elim h
  obtain ⟨I_171, h_172, h⟩ := h
  rw [← h_172]
  refine v_dup dX10_init_260 rfl ?_
  refine v_bipush (36 : Int32) dX10_init_261 (by decide) ?_
  refine v_bipush (115 : Int32) dX10_init_263 (by decide) ?_
  replace h := p_bind_elim h
  obtain ⟨j_173, q_174, h⟩ := h
  refine v_bastP dX10_init_265 q_174 ?_
  replace h := p_let_elim h
  obtain ⟨I_175, h_176, h⟩ := h
  rw [← h_176]
  refine v_dup dX10_init_266 rfl ?_
  refine v_bipush (37 : Int32) dX10_init_267 (by decide) ?_
  refine v_bipush (104 : Int32) dX10_init_269 (by decide) ?_
  replace h := p_bind_elim h
  obtain ⟨j_177, q_178, h⟩ := h
  refine v_bastP dX10_init_271 q_178 ?_
  replace h := p_let_elim h
  obtain ⟨I_179, h_180, h⟩ := h
  rw [← h_180]
  refine v_dup dX10_init_272 rfl ?_
  refine v_bipush (38 : Int32) dX10_init_273 (by decide) ?_
  refine v_bipush (121 : Int32) dX10_init_275 (by decide) ?_
  replace h := p_bind_elim h
  obtain ⟨j_181, q_182, h⟩ := h
  refine v_bastP dX10_init_277 q_182 ?_
  replace h := p_let_elim h
  obtain ⟨I_183, h_184, h⟩ := h
  rw [← h_184]
  refine v_dup dX10_init_278 rfl ?_
  refine v_bipush (39 : Int32) dX10_init_279 (by decide) ?_
  refine v_bipush (32 : Int32) dX10_init_281 (by decide) ?_
  replace h := p_bind_elim h
  obtain ⟨j_185, q_186, h⟩ := h
  refine v_bastP dX10_init_283 q_186 ?_
  replace h := p_let_elim h
  obtain ⟨I_187, h_188, h⟩ := h
  rw [← h_188]
  refine v_dup dX10_init_284 rfl ?_
  refine v_bipush (40 : Int32) dX10_init_285 (by decide) ?_
  refine v_bipush (110 : Int32) dX10_init_287 (by decide) ?_
  replace h := p_bind_elim h
  obtain ⟨j_189, q_190, h⟩ := h
  refine v_bastP dX10_init_289 q_190 ?_
  replace h := p_let_elim h
  obtain ⟨I_191, h_192, h⟩ := h
  rw [← h_192]
  refine v_dup dX10_init_290 rfl ?_
  refine v_bipush (41 : Int32) dX10_init_291 (by decide) ?_
  refine v_bipush (101 : Int32) dX10_init_293 (by decide) ?_
  replace h := p_bind_elim h
  obtain ⟨j_193, q_194, h⟩ := h
  refine v_bastP dX10_init_295 q_194 ?_
  replace h := p_let_elim h
  obtain ⟨I_195, h_196, h⟩ := h
  rw [← h_196]
  refine v_dup dX10_init_296 rfl ?_
  refine v_bipush (42 : Int32) dX10_init_297 (by decide) ?_
  refine v_bipush (97 : Int32) dX10_init_299 (by decide) ?_
  replace h := p_bind_elim h
  obtain ⟨j_197, q_198, h⟩ := h
  refine v_bastP dX10_init_301 q_198 ?_
  replace h := p_let_elim h
  obtain ⟨I_199, h_200, h⟩ := h
  rw [← h_200]
  refine v_dup dX10_init_302 rfl ?_
  refine v_bipush (43 : Int32) dX10_init_303 (by decide) ?_
  refine v_bipush (114 : Int32) dX10_init_305 (by decide) ?_
  replace h := p_bind_elim h
  obtain ⟨j_201, q_202, h⟩ := h
  refine v_bastP dX10_init_307 q_202 ?_
  replace h := p_let_elim h
  obtain ⟨I_203, h_204, h⟩ := h
  rw [← h_204]
  refine v_dup dX10_init_308 rfl ?_
  refine v_bipush (44 : Int32) dX10_init_309 (by decide) ?_
  refine v_bipush (32 : Int32) dX10_init_311 (by decide) ?_
  replace h := p_bind_elim h
  obtain ⟨j_205, q_206, h⟩ := h
  refine v_bastP dX10_init_313 q_206 ?_
  replace h := p_let_elim h
  obtain ⟨I_207, h_208, h⟩ := h
  rw [← h_208]
  refine v_dup dX10_init_314 rfl ?_
  refine v_bipush (45 : Int32) dX10_init_315 (by decide) ?_
  refine v_bipush (104 : Int32) dX10_init_317 (by decide) ?_
  replace h := p_bind_elim h
  obtain ⟨j_209, q_210, h⟩ := h
  refine v_bastP dX10_init_319 q_210 ?_
  replace h := p_let_elim h
  obtain ⟨I_211, h_212, h⟩ := h
  rw [← h_212]
  refine v_dup dX10_init_320 rfl ?_
  refine v_bipush (46 : Int32) dX10_init_321 (by decide) ?_
  refine v_bipush (117 : Int32) dX10_init_323 (by decide) ?_
  replace h := p_bind_elim h
  obtain ⟨j_213, q_214, h⟩ := h
  refine v_bastP dX10_init_325 q_214 ?_
  replace h := p_let_elim h
  obtain ⟨I_215, h_216, h⟩ := h
  rw [← h_216]
  refine v_dup dX10_init_326 rfl ?_
  refine v_bipush (47 : Int32) dX10_init_327 (by decide) ?_
  refine v_bipush (115 : Int32) dX10_init_329 (by decide) ?_
  replace h := p_bind_elim h
  obtain ⟨j_217, q_218, h⟩ := h
  refine v_bastP dX10_init_331 q_218 ?_
  replace h := p_let_elim h
  obtain ⟨I_219, h_220, h⟩ := h
  rw [← h_220]
  refine v_dup dX10_init_332 rfl ?_
  refine v_bipush (48 : Int32) dX10_init_333 (by decide) ?_
  refine v_bipush (104 : Int32) dX10_init_335 (by decide) ?_
  replace h := p_bind_elim h
  obtain ⟨j_221, q_222, h⟩ := h
  refine v_bastP dX10_init_337 q_222 ?_
  replace h := p_let_elim h
  obtain ⟨I_223, h_224, h⟩ := h
  rw [← h_224]
  refine v_dup dX10_init_338 rfl ?_
  refine v_bipush (49 : Int32) dX10_init_339 (by decide) ?_
  refine v_bipush (32 : Int32) dX10_init_341 (by decide) ?_
  replace h := p_bind_elim h
  obtain ⟨j_225, q_226, h⟩ := h
  refine v_bastP dX10_init_343 q_226 ?_
  replace h := p_let_elim h
  obtain ⟨I_227, h_228, h⟩ := h
  rw [← h_228]
  refine v_dup dX10_init_344 rfl ?_
  refine v_bipush (50 : Int32) dX10_init_345 (by decide) ?_
  refine v_bipush (109 : Int32) dX10_init_347 (by decide) ?_
  replace h := p_bind_elim h
  obtain ⟨j_229, q_230, h⟩ := h
  refine v_bastP dX10_init_349 q_230 ?_
  replace h := p_let_elim h
  obtain ⟨I_231, h_232, h⟩ := h
  rw [← h_232]
  refine v_dup dX10_init_350 rfl ?_
  refine v_bipush (51 : Int32) dX10_init_351 (by decide) ?_
  refine v_bipush (111 : Int32) dX10_init_353 (by decide) ?_
  replace h := p_bind_elim h
  obtain ⟨j_233, q_234, h⟩ := h
  refine v_bastP dX10_init_355 q_234 ?_
  replace h := p_let_elim h
  obtain ⟨I_235, h_236, h⟩ := h
  rw [← h_236]
  refine v_dup dX10_init_356 rfl ?_
  refine v_bipush (52 : Int32) dX10_init_357 (by decide) ?_
  refine v_bipush (111 : Int32) dX10_init_359 (by decide) ?_
  replace h := p_bind_elim h
  obtain ⟨j_237, q_238, h⟩ := h
  refine v_bastP dX10_init_361 q_238 ?_
  replace h := p_let_elim h
  obtain ⟨I_239, h_240, h⟩ := h
  rw [← h_240]
  refine v_dup dX10_init_362 rfl ?_
  refine v_bipush (53 : Int32) dX10_init_363 (by decide) ?_
  refine v_bipush (100 : Int32) dX10_init_365 (by decide) ?_
  replace h := p_bind_elim h
  obtain ⟨j_241, q_242, h⟩ := h
  refine v_bastP dX10_init_367 q_242 ?_
  replace h := p_let_elim h
  obtain ⟨I_243, h_244, h⟩ := h
  rw [← h_244]
  refine v_dup dX10_init_368 rfl ?_
  refine v_bipush (54 : Int32) dX10_init_369 (by decide) ?_
  refine v_bipush (32 : Int32) dX10_init_371 (by decide) ?_
  replace h := p_bind_elim h
  obtain ⟨j_245, q_246, h⟩ := h
  refine v_bastP dX10_init_373 q_246 ?_
  replace h := p_let_elim h
  obtain ⟨I_247, h_248, h⟩ := h
  rw [← h_248]
  refine v_dup dX10_init_374 rfl ?_
  refine v_bipush (55 : Int32) dX10_init_375 (by decide) ?_
  refine v_bipush (119 : Int32) dX10_init_377 (by decide) ?_
  replace h := p_bind_elim h
  obtain ⟨j_249, q_250, h⟩ := h
  refine v_bastP dX10_init_379 q_250 ?_
  replace h := p_let_elim h
  obtain ⟨I_251, h_252, h⟩ := h
  rw [← h_252]
  refine v_dup dX10_init_380 rfl ?_
  refine v_bipush (56 : Int32) dX10_init_381 (by decide) ?_
  refine v_bipush (97 : Int32) dX10_init_383 (by decide) ?_
  replace h := p_bind_elim h
  obtain ⟨j_253, q_254, h⟩ := h
  refine v_bastP dX10_init_385 q_254 ?_
  replace h := p_let_elim h
  obtain ⟨I_255, h_256, h⟩ := h
  rw [← h_256]
  refine v_dup dX10_init_386 rfl ?_
  refine v_bipush (57 : Int32) dX10_init_387 (by decide) ?_
  refine v_bipush (110 : Int32) dX10_init_389 (by decide) ?_
  replace h := p_bind_elim h
  obtain ⟨j_257, q_258, h⟩ := h
  refine v_bastP dX10_init_391 q_258 ?_
  replace h := p_let_elim h
  obtain ⟨I_259, h_260, h⟩ := h
  rw [← h_260]
  refine v_dup dX10_init_392 rfl ?_
  refine v_bipush (58 : Int32) dX10_init_393 (by decide) ?_
  refine v_bipush (116 : Int32) dX10_init_395 (by decide) ?_
  replace h := p_bind_elim h
  obtain ⟨j_261, q_262, h⟩ := h
  refine v_bastP dX10_init_397 q_262 ?_
  replace h := p_let_elim h
  obtain ⟨I_263, h_264, h⟩ := h
  rw [← h_264]
  refine v_dup dX10_init_398 rfl ?_
  refine v_bipush (59 : Int32) dX10_init_399 (by decide) ?_
  refine v_bipush (32 : Int32) dX10_init_401 (by decide) ?_
  replace h := p_bind_elim h
  obtain ⟨j_265, q_266, h⟩ := h
  refine v_bastP dX10_init_403 q_266 ?_
  replace h := p_let_elim h
  obtain ⟨I_267, h_268, h⟩ := h
  rw [← h_268]
  refine v_dup dX10_init_404 rfl ?_
  refine v_bipush (60 : Int32) dX10_init_405 (by decide) ?_
  refine v_bipush (115 : Int32) dX10_init_407 (by decide) ?_
  replace h := p_bind_elim h
  obtain ⟨j_269, q_270, h⟩ := h
  refine v_bastP dX10_init_409 q_270 ?_
  replace h := p_let_elim h
  obtain ⟨I_271, h_272, h⟩ := h
  rw [← h_272]
  refine v_dup dX10_init_410 rfl ?_
  refine v_bipush (61 : Int32) dX10_init_411 (by decide) ?_
  refine v_bipush (116 : Int32) dX10_init_413 (by decide) ?_
  replace h := p_bind_elim h
  obtain ⟨j_273, q_274, h⟩ := h
  refine v_bastP dX10_init_415 q_274 ?_
  replace h := p_let_elim h
  obtain ⟨I_275, h_276, h⟩ := h
  rw [← h_276]
  refine v_dup dX10_init_416 rfl ?_
  refine v_bipush (62 : Int32) dX10_init_417 (by decide) ?_
  refine v_bipush (105 : Int32) dX10_init_419 (by decide) ?_
  replace h := p_bind_elim h
  obtain ⟨j_277, q_278, h⟩ := h
  refine v_bastP dX10_init_421 q_278 ?_
  replace h := p_let_elim h
  obtain ⟨I_279, h_280, h⟩ := h
  rw [← h_280]
  refine v_dup dX10_init_422 rfl ?_
  refine v_bipush (63 : Int32) dX10_init_423 (by decide) ?_
  refine v_bipush (108 : Int32) dX10_init_425 (by decide) ?_
  replace h := p_bind_elim h
  obtain ⟨j_281, q_282, h⟩ := h
  refine v_bastP dX10_init_427 q_282 ?_
  replace h := p_let_elim h
  obtain ⟨I_283, h_284, h⟩ := h
  rw [← h_284]
  refine v_dup dX10_init_428 rfl ?_
  refine v_bipush (64 : Int32) dX10_init_429 (by decide) ?_
  refine v_bipush (108 : Int32) dX10_init_431 (by decide) ?_
  replace h := p_bind_elim h
  obtain ⟨j_285, q_286, h⟩ := h
  refine v_bastP dX10_init_433 q_286 ?_
  replace h := p_let_elim h
  obtain ⟨I_287, h_288, h⟩ := h
  rw [← h_288]
  refine v_dup dX10_init_434 rfl ?_
  refine v_bipush (65 : Int32) dX10_init_435 (by decide) ?_
  refine v_bipush (32 : Int32) dX10_init_437 (by decide) ?_
  replace h := p_bind_elim h
  obtain ⟨j_289, q_290, h⟩ := h
  refine v_bastP dX10_init_439 q_290 ?_
  replace h := p_let_elim h
  obtain ⟨I_291, h_292, h⟩ := h
  rw [← h_292]
  refine v_dup dX10_init_440 rfl ?_
  refine v_bipush (66 : Int32) dX10_init_441 (by decide) ?_
  refine v_bipush (97 : Int32) dX10_init_443 (by decide) ?_
  replace h := p_bind_elim h
  obtain ⟨j_293, q_294, h⟩ := h
  refine v_bastP dX10_init_445 q_294 ?_
  replace h := p_let_elim h
  obtain ⟨I_295, h_296, h⟩ := h
  rw [← h_296]
  refine v_dup dX10_init_446 rfl ?_
  refine v_bipush (67 : Int32) dX10_init_447 (by decide) ?_
  refine v_bipush (108 : Int32) dX10_init_449 (by decide) ?_
  replace h := p_bind_elim h
  obtain ⟨j_297, q_298, h⟩ := h
  refine v_bastP dX10_init_451 q_298 ?_
  replace h := p_let_elim h
  obtain ⟨I_299, h_300, h⟩ := h
  rw [← h_300]
  refine v_dup dX10_init_452 rfl ?_
  refine v_bipush (68 : Int32) dX10_init_453 (by decide) ?_
  refine v_bipush (108 : Int32) dX10_init_455 (by decide) ?_
  replace h := p_bind_elim h
  obtain ⟨j_301, q_302, h⟩ := h
  refine v_bastP dX10_init_457 q_302 ?_
  replace h := p_let_elim h
  obtain ⟨I_303, h_304, h⟩ := h
  rw [← h_304]
  refine v_dup dX10_init_458 rfl ?_
  refine v_bipush (69 : Int32) dX10_init_459 (by decide) ?_
  refine v_bipush (32 : Int32) dX10_init_461 (by decide) ?_
  replace h := p_bind_elim h
  obtain ⟨j_305, q_306, h⟩ := h
  refine v_bastP dX10_init_463 q_306 ?_
  replace h := p_let_elim h
  obtain ⟨I_307, h_308, h⟩ := h
  rw [← h_308]
  refine v_dup dX10_init_464 rfl ?_
  refine v_bipush (70 : Int32) dX10_init_465 (by decide) ?_
  refine v_bipush (109 : Int32) dX10_init_467 (by decide) ?_
  replace h := p_bind_elim h
  obtain ⟨j_309, q_310, h⟩ := h
  refine v_bastP dX10_init_469 q_310 ?_
  replace h := p_let_elim h
  obtain ⟨I_311, h_312, h⟩ := h
  rw [← h_312]
  refine v_dup dX10_init_470 rfl ?_
  refine v_bipush (71 : Int32) dX10_init_471 (by decide) ?_
  refine v_bipush (105 : Int32) dX10_init_473 (by decide) ?_
  replace h := p_bind_elim h
  obtain ⟨j_313, q_314, h⟩ := h
  refine v_bastP dX10_init_475 q_314 ?_
  replace h := p_let_elim h
  obtain ⟨I_315, h_316, h⟩ := h
  rw [← h_316]
  refine v_dup dX10_init_476 rfl ?_
  refine v_bipush (72 : Int32) dX10_init_477 (by decide) ?_
  refine v_bipush (110 : Int32) dX10_init_479 (by decide) ?_
  replace h := p_bind_elim h
  obtain ⟨j_317, q_318, h⟩ := h
  refine v_bastP dX10_init_481 q_318 ?_
  replace h := p_let_elim h
  obtain ⟨I_319, h_320, h⟩ := h
  rw [← h_320]
  refine v_dup dX10_init_482 rfl ?_
  refine v_bipush (73 : Int32) dX10_init_483 (by decide) ?_
  refine v_bipush (117 : Int32) dX10_init_485 (by decide) ?_
  replace h := p_bind_elim h
  obtain ⟨j_321, q_322, h⟩ := h
  refine v_bastP dX10_init_487 q_322 ?_
  replace h := p_let_elim h
  obtain ⟨I_323, h_324, h⟩ := h
  rw [← h_324]
  refine v_dup dX10_init_488 rfl ?_
  refine v_bipush (74 : Int32) dX10_init_489 (by decide) ?_
  refine v_bipush (116 : Int32) dX10_init_491 (by decide) ?_
  replace h := p_bind_elim h
  obtain ⟨j_325, q_326, h⟩ := h
  refine v_bastP dX10_init_493 q_326 ?_
  replace h := p_let_elim h
  obtain ⟨I_327, h_328, h⟩ := h
  rw [← h_328]
  refine v_dup dX10_init_494 rfl ?_
  refine v_bipush (75 : Int32) dX10_init_495 (by decide) ?_
  refine v_bipush (101 : Int32) dX10_init_497 (by decide) ?_
  replace h := p_bind_elim h
  obtain ⟨j_329, q_330, h⟩ := h
  refine v_bastP dX10_init_499 q_330 ?_
  replace h := p_let_elim h
  obtain ⟨I_331, h_332, h⟩ := h
  rw [← h_332]
  refine v_dup dX10_init_500 rfl ?_
  refine v_bipush (76 : Int32) dX10_init_501 (by decide) ?_
  refine v_bipush (32 : Int32) dX10_init_503 (by decide) ?_
  replace h := p_bind_elim h
  obtain ⟨j_333, q_334, h⟩ := h
  refine v_bastP dX10_init_505 q_334 ?_
  replace h := p_let_elim h
  obtain ⟨I_335, h_336, h⟩ := h
  rw [← h_336]
  refine v_dup dX10_init_506 rfl ?_
  refine v_bipush (77 : Int32) dX10_init_507 (by decide) ?_
  refine v_bipush (100 : Int32) dX10_init_509 (by decide) ?_
  replace h := p_bind_elim h
  obtain ⟨j_337, q_338, h⟩ := h
  refine v_bastP dX10_init_511 q_338 ?_
  replace h := p_let_elim h
  obtain ⟨I_339, h_340, h⟩ := h
  rw [← h_340]
  refine v_dup dX10_init_512 rfl ?_
  refine v_bipush (78 : Int32) dX10_init_513 (by decide) ?_
  refine v_bipush (111 : Int32) dX10_init_515 (by decide) ?_
  replace h := p_bind_elim h
  obtain ⟨j_341, q_342, h⟩ := h
  refine v_bastP dX10_init_517 q_342 ?_
  replace h := p_let_elim h
  obtain ⟨I_343, h_344, h⟩ := h
  rw [← h_344]
  refine v_dup dX10_init_518 rfl ?_
  refine v_bipush (79 : Int32) dX10_init_519 (by decide) ?_
  refine v_bipush (110 : Int32) dX10_init_521 (by decide) ?_
  replace h := p_bind_elim h
  obtain ⟨j_345, q_346, h⟩ := h
  refine v_bastP dX10_init_523 q_346 ?_
  replace h := p_let_elim h
  obtain ⟨I_347, h_348, h⟩ := h
  rw [← h_348]
  refine v_dup dX10_init_524 rfl ?_
  refine v_bipush (80 : Int32) dX10_init_525 (by decide) ?_
  refine v_bipush (101 : Int32) dX10_init_527 (by decide) ?_
  replace h := p_bind_elim h
  obtain ⟨j_349, q_350, h⟩ := h
  refine v_bastP dX10_init_529 q_350 ?_
  replace h := p_let_elim h
  obtain ⟨I_351, h_352, h⟩ := h
  rw [← h_352]
  refine v_dup dX10_init_530 rfl ?_
  refine v_bipush (81 : Int32) dX10_init_531 (by decide) ?_
  refine v_bipush (32 : Int32) dX10_init_533 (by decide) ?_
  replace h := p_bind_elim h
  obtain ⟨j_353, q_354, h⟩ := h
  refine v_bastP dX10_init_535 q_354 ?_
  replace h := p_let_elim h
  obtain ⟨I_355, h_356, h⟩ := h
  rw [← h_356]
  refine v_dup dX10_init_536 rfl ?_
  refine v_bipush (82 : Int32) dX10_init_537 (by decide) ?_
  refine v_bipush (108 : Int32) dX10_init_539 (by decide) ?_
  replace h := p_bind_elim h
  obtain ⟨j_357, q_358, h⟩ := h
  refine v_bastP dX10_init_541 q_358 ?_
  replace h := p_let_elim h
  obtain ⟨I_359, h_360, h⟩ := h
  rw [← h_360]
  refine v_dup dX10_init_542 rfl ?_
  refine v_bipush (83 : Int32) dX10_init_543 (by decide) ?_
  refine v_bipush (97 : Int32) dX10_init_545 (by decide) ?_
  replace h := p_bind_elim h
  obtain ⟨j_361, q_362, h⟩ := h
  refine v_bastP dX10_init_547 q_362 ?_
  replace h := p_let_elim h
  obtain ⟨I_363, h_364, h⟩ := h
  rw [← h_364]
  refine v_dup dX10_init_548 rfl ?_
  refine v_bipush (84 : Int32) dX10_init_549 (by decide) ?_
  refine v_bipush (116 : Int32) dX10_init_551 (by decide) ?_
  replace h := p_bind_elim h
  obtain ⟨j_365, q_366, h⟩ := h
  refine v_bastP dX10_init_553 q_366 ?_
  replace h := p_let_elim h
  obtain ⟨I_367, h_368, h⟩ := h
  rw [← h_368]
  refine v_dup dX10_init_554 rfl ?_
  refine v_bipush (85 : Int32) dX10_init_555 (by decide) ?_
  refine v_bipush (101 : Int32) dX10_init_557 (by decide) ?_
  replace h := p_bind_elim h
  obtain ⟨j_369, q_370, h⟩ := h
  refine v_bastP dX10_init_559 q_370 ?_
  replace h := p_let_elim h
  obtain ⟨I_371, h_372, h⟩ := h
  rw [← h_372]
  refine v_dup dX10_init_560 rfl ?_
  refine v_bipush (86 : Int32) dX10_init_561 (by decide) ?_
  refine v_bipush (115 : Int32) dX10_init_563 (by decide) ?_
  replace h := p_bind_elim h
  obtain ⟨j_373, q_374, h⟩ := h
  refine v_bastP dX10_init_565 q_374 ?_
  replace h := p_let_elim h
  obtain ⟨I_375, h_376, h⟩ := h
  rw [← h_376]
  refine v_dup dX10_init_566 rfl ?_
  refine v_bipush (87 : Int32) dX10_init_567 (by decide) ?_
  refine v_bipush (116 : Int32) dX10_init_569 (by decide) ?_
  replace h := p_bind_elim h
  obtain ⟨j_377, q_378, h⟩ := h
  refine v_bastP dX10_init_571 q_378 ?_
  replace h := p_let_elim h
  obtain ⟨I_379, h_380, h⟩ := h
  rw [← h_380]
  refine v_dup dX10_init_572 rfl ?_
  refine v_bipush (88 : Int32) dX10_init_573 (by decide) ?_
  refine v_bipush (32 : Int32) dX10_init_575 (by decide) ?_
  replace h := p_bind_elim h
  obtain ⟨j_381, q_382, h⟩ := h
  refine v_bastP dX10_init_577 q_382 ?_
  replace h := p_let_elim h
  obtain ⟨I_383, h_384, h⟩ := h
  rw [← h_384]
  refine v_dup dX10_init_578 rfl ?_
  refine v_bipush (89 : Int32) dX10_init_579 (by decide) ?_
  refine v_bipush (105 : Int32) dX10_init_581 (by decide) ?_
  replace h := p_bind_elim h
  obtain ⟨j_385, q_386, h⟩ := h
  refine v_bastP dX10_init_583 q_386 ?_
  replace h := p_let_elim h
  obtain ⟨I_387, h_388, h⟩ := h
  rw [← h_388]
  refine v_dup dX10_init_584 rfl ?_
  refine v_bipush (90 : Int32) dX10_init_585 (by decide) ?_
  refine v_bipush (115 : Int32) dX10_init_587 (by decide) ?_
  replace h := p_bind_elim h
  obtain ⟨j_389, q_390, h⟩ := h
  refine v_bastP dX10_init_589 q_390 ?_
  replace h := p_let_elim h
  obtain ⟨I_391, h_392, h⟩ := h
  rw [← h_392]
  refine v_dup dX10_init_590 rfl ?_
  refine v_bipush (91 : Int32) dX10_init_591 (by decide) ?_
  refine v_bipush (32 : Int32) dX10_init_593 (by decide) ?_
  replace h := p_bind_elim h
  obtain ⟨j_393, q_394, h⟩ := h
  refine v_bastP dX10_init_595 q_394 ?_
  replace h := p_let_elim h
  obtain ⟨I_395, h_396, h⟩ := h
  rw [← h_396]
  refine v_dup dX10_init_596 rfl ?_
  refine v_bipush (92 : Int32) dX10_init_597 (by decide) ?_
  refine v_bipush (116 : Int32) dX10_init_599 (by decide) ?_
  replace h := p_bind_elim h
  obtain ⟨j_397, q_398, h⟩ := h
  refine v_bastP dX10_init_601 q_398 ?_
  replace h := p_let_elim h
  obtain ⟨I_399, h_400, h⟩ := h
  rw [← h_400]
  refine v_dup dX10_init_602 rfl ?_
  refine v_bipush (93 : Int32) dX10_init_603 (by decide) ?_
  refine v_bipush (111 : Int32) dX10_init_605 (by decide) ?_
  replace h := p_bind_elim h
  obtain ⟨j_401, q_402, h⟩ := h
  refine v_bastP dX10_init_607 q_402 ?_
  replace h := p_let_elim h
  obtain ⟨I_403, h_404, h⟩ := h
  rw [← h_404]
  refine v_dup dX10_init_608 rfl ?_
  refine v_bipush (94 : Int32) dX10_init_609 (by decide) ?_
  refine v_bipush (117 : Int32) dX10_init_611 (by decide) ?_
  replace h := p_bind_elim h
  obtain ⟨j_405, q_406, h⟩ := h
  refine v_bastP dX10_init_613 q_406 ?_
  replace h := p_let_elim h
  obtain ⟨I_407, h_408, h⟩ := h
  rw [← h_408]
  refine v_dup dX10_init_614 rfl ?_
  refine v_bipush (95 : Int32) dX10_init_615 (by decide) ?_
  refine v_bipush (99 : Int32) dX10_init_617 (by decide) ?_
  replace h := p_bind_elim h
  obtain ⟨j_409, q_410, h⟩ := h
  refine v_bastP dX10_init_619 q_410 ?_
  replace h := p_let_elim h
  obtain ⟨I_411, h_412, h⟩ := h
  rw [← h_412]
  refine v_dup dX10_init_620 rfl ?_
  refine v_bipush (96 : Int32) dX10_init_621 (by decide) ?_
  refine v_bipush (104 : Int32) dX10_init_623 (by decide) ?_
  replace h := p_bind_elim h
  obtain ⟨j_413, q_414, h⟩ := h
  refine v_bastP dX10_init_625 q_414 ?_
  replace h := p_let_elim h
  obtain ⟨I_415, h_416, h⟩ := h
  rw [← h_416]
  refine v_dup dX10_init_626 rfl ?_
  refine v_bipush (97 : Int32) dX10_init_627 (by decide) ?_
  refine v_bipush (32 : Int32) dX10_init_629 (by decide) ?_
  replace h := p_bind_elim h
  obtain ⟨j_417, q_418, h⟩ := h
  refine v_bastP dX10_init_631 q_418 ?_
  replace h := p_let_elim h
  obtain ⟨I_419, h_420, h⟩ := h
  rw [← h_420]
  refine v_dup dX10_init_632 rfl ?_
  refine v_bipush (98 : Int32) dX10_init_633 (by decide) ?_
  refine v_bipush (99 : Int32) dX10_init_635 (by decide) ?_
  replace h := p_bind_elim h
  obtain ⟨j_421, q_422, h⟩ := h
  refine v_bastP dX10_init_637 q_422 ?_
  replace h := p_let_elim h
  obtain ⟨I_423, h_424, h⟩ := h
  rw [← h_424]
  refine v_dup dX10_init_638 rfl ?_
  refine v_bipush (99 : Int32) dX10_init_639 (by decide) ?_
  refine v_bipush (111 : Int32) dX10_init_641 (by decide) ?_
  replace h := p_bind_elim h
  obtain ⟨j_425, q_426, h⟩ := h
  refine v_bastP dX10_init_643 q_426 ?_
  replace h := p_let_elim h
  obtain ⟨I_427, h_428, h⟩ := h
  rw [← h_428]
  refine v_dup dX10_init_644 rfl ?_
  refine v_bipush (100 : Int32) dX10_init_645 (by decide) ?_
  refine v_bipush (97 : Int32) dX10_init_647 (by decide) ?_
  replace h := p_bind_elim h
  obtain ⟨j_429, q_430, h⟩ := h
  refine v_bastP dX10_init_649 q_430 ?_
  replace h := p_let_elim h
  obtain ⟨I_431, h_432, h⟩ := h
  rw [← h_432]
  refine v_dup dX10_init_650 rfl ?_
  refine v_bipush (101 : Int32) dX10_init_651 (by decide) ?_
  refine v_bipush (120 : Int32) dX10_init_653 (by decide) ?_
  replace h := p_bind_elim h
  obtain ⟨j_433, q_434, h⟩ := h
  refine v_bastP dX10_init_655 q_434 ?_
  replace h := p_let_elim h
  obtain ⟨I_435, h_436, h⟩ := h
  rw [← h_436]
  refine v_dup dX10_init_656 rfl ?_
  refine v_bipush (102 : Int32) dX10_init_657 (by decide) ?_
  refine v_bipush (32 : Int32) dX10_init_659 (by decide) ?_
  replace h := p_bind_elim h
  obtain ⟨j_437, q_438, h⟩ := h
  refine v_bastP dX10_init_661 q_438 ?_
  replace h := p_let_elim h
  obtain ⟨I_439, h_440, h⟩ := h
  rw [← h_440]
  refine v_dup dX10_init_662 rfl ?_
  refine v_bipush (103 : Int32) dX10_init_663 (by decide) ?_
  refine v_bipush (116 : Int32) dX10_init_665 (by decide) ?_
  replace h := p_bind_elim h
  obtain ⟨j_441, q_442, h⟩ := h
  refine v_bastP dX10_init_667 q_442 ?_
  replace h := p_let_elim h
  obtain ⟨I_443, h_444, h⟩ := h
  rw [← h_444]
  refine v_dup dX10_init_668 rfl ?_
  refine v_bipush (104 : Int32) dX10_init_669 (by decide) ?_
  refine v_bipush (101 : Int32) dX10_init_671 (by decide) ?_
  replace h := p_bind_elim h
  obtain ⟨j_445, q_446, h⟩ := h
  refine v_bastP dX10_init_673 q_446 ?_
  replace h := p_let_elim h
  obtain ⟨I_447, h_448, h⟩ := h
  rw [← h_448]
  refine v_dup dX10_init_674 rfl ?_
  refine v_bipush (105 : Int32) dX10_init_675 (by decide) ?_
  refine v_bipush (109 : Int32) dX10_init_677 (by decide) ?_
  replace h := p_bind_elim h
  obtain ⟨j_449, q_450, h⟩ := h
  refine v_bastP dX10_init_679 q_450 ?_
  replace h := p_let_elim h
  obtain ⟨I_451, h_452, h⟩ := h
  rw [← h_452]
  refine v_dup dX10_init_680 rfl ?_
  refine v_bipush (106 : Int32) dX10_init_681 (by decide) ?_
  refine v_bipush (112 : Int32) dX10_init_683 (by decide) ?_
  replace h := p_bind_elim h
  obtain ⟨j_453, q_454, h⟩ := h
  refine v_bastP dX10_init_685 q_454 ?_
  replace h := p_let_elim h
  obtain ⟨I_455, h_456, h⟩ := h
  rw [← h_456]
  refine v_dup dX10_init_686 rfl ?_
  refine v_bipush (107 : Int32) dX10_init_687 (by decide) ?_
  refine v_bipush (116 : Int32) dX10_init_689 (by decide) ?_
  replace h := p_bind_elim h
  obtain ⟨j_457, q_458, h⟩ := h
  refine v_bastP dX10_init_691 q_458 ?_
  replace h := p_let_elim h
  obtain ⟨I_459, h_460, h⟩ := h
  rw [← h_460]
  refine v_dup dX10_init_692 rfl ?_
  refine v_bipush (108 : Int32) dX10_init_693 (by decide) ?_
  refine v_bipush (32 : Int32) dX10_init_695 (by decide) ?_
  replace h := p_bind_elim h
  obtain ⟨j_461, q_462, h⟩ := h
  refine v_bastP dX10_init_697 q_462 ?_
  replace h := p_let_elim h
  obtain ⟨I_463, h_464, h⟩ := h
  rw [← h_464]
  refine v_dup dX10_init_698 rfl ?_
  refine v_bipush (109 : Int32) dX10_init_699 (by decide) ?_
  refine v_bipush (116 : Int32) dX10_init_701 (by decide) ?_
  replace h := p_bind_elim h
  obtain ⟨j_465, q_466, h⟩ := h
  refine v_bastP dX10_init_703 q_466 ?_
  replace h := p_let_elim h
  obtain ⟨I_467, h_468, h⟩ := h
  rw [← h_468]
  refine v_dup dX10_init_704 rfl ?_
  refine v_bipush (110 : Int32) dX10_init_705 (by decide) ?_
  refine v_bipush (111 : Int32) dX10_init_707 (by decide) ?_
  replace h := p_bind_elim h
  obtain ⟨j_469, q_470, h⟩ := h
  refine v_bastP dX10_init_709 q_470 ?_
  replace h := p_let_elim h
  obtain ⟨I_471, h_472, h⟩ := h
  rw [← h_472]
  refine v_dup dX10_init_710 rfl ?_
  refine v_bipush (111 : Int32) dX10_init_711 (by decide) ?_
  refine v_bipush (32 : Int32) dX10_init_713 (by decide) ?_
  replace h := p_bind_elim h
  obtain ⟨j_473, q_474, h⟩ := h
  refine v_bastP dX10_init_715 q_474 ?_
  replace h := p_let_elim h
  obtain ⟨I_475, h_476, h⟩ := h
  rw [← h_476]
  refine v_dup dX10_init_716 rfl ?_
  refine v_bipush (112 : Int32) dX10_init_717 (by decide) ?_
  refine v_bipush (112 : Int32) dX10_init_719 (by decide) ?_
  replace h := p_bind_elim h
  obtain ⟨j_477, q_478, h⟩ := h
  refine v_bastP dX10_init_721 q_478 ?_
  replace h := p_let_elim h
  obtain ⟨I_479, h_480, h⟩ := h
  rw [← h_480]
  refine v_dup dX10_init_722 rfl ?_
  refine v_bipush (113 : Int32) dX10_init_723 (by decide) ?_
  refine v_bipush (97 : Int32) dX10_init_725 (by decide) ?_
  replace h := p_bind_elim h
  obtain ⟨j_481, q_482, h⟩ := h
  refine v_bastP dX10_init_727 q_482 ?_
  replace h := p_let_elim h
  obtain ⟨I_483, h_484, h⟩ := h
  rw [← h_484]
  refine v_dup dX10_init_728 rfl ?_
  refine v_bipush (114 : Int32) dX10_init_729 (by decide) ?_
  refine v_bipush (115 : Int32) dX10_init_731 (by decide) ?_
  replace h := p_bind_elim h
  obtain ⟨j_485, q_486, h⟩ := h
  refine v_bastP dX10_init_733 q_486 ?_
  replace h := p_let_elim h
  obtain ⟨I_487, h_488, h⟩ := h
  rw [← h_488]
  refine v_dup dX10_init_734 rfl ?_
  refine v_bipush (115 : Int32) dX10_init_735 (by decide) ?_
  refine v_bipush (115 : Int32) dX10_init_737 (by decide) ?_
  replace h := p_bind_elim h
  obtain ⟨j_489, q_490, h⟩ := h
  refine v_bastP dX10_init_739 q_490 ?_
  replace h := p_let_elim h
  obtain ⟨I_491, h_492, h⟩ := h
  rw [← h_492]
  refine v_dup dX10_init_740 rfl ?_
  refine v_bipush (116 : Int32) dX10_init_741 (by decide) ?_
  refine v_bipush (32 : Int32) dX10_init_743 (by decide) ?_
  replace h := p_bind_elim h
  obtain ⟨j_493, q_494, h⟩ := h
  refine v_bastP dX10_init_745 q_494 ?_
  replace h := p_let_elim h
  obtain ⟨I_495, h_496, h⟩ := h
  rw [← h_496]
  refine v_dup dX10_init_746 rfl ?_
  refine v_bipush (117 : Int32) dX10_init_747 (by decide) ?_
  refine v_bipush (116 : Int32) dX10_init_749 (by decide) ?_
  replace h := p_bind_elim h
  obtain ⟨j_497, q_498, h⟩ := h
  refine v_bastP dX10_init_751 q_498 ?_
  replace h := p_let_elim h
  obtain ⟨I_499, h_500, h⟩ := h
  rw [← h_500]
  refine v_dup dX10_init_752 rfl ?_
  refine v_bipush (118 : Int32) dX10_init_753 (by decide) ?_
  refine v_bipush (105 : Int32) dX10_init_755 (by decide) ?_
  replace h := p_bind_elim h
  obtain ⟨j_501, q_502, h⟩ := h
  refine v_bastP dX10_init_757 q_502 ?_
  replace h := p_let_elim h
  obtain ⟨I_503, h_504, h⟩ := h
  rw [← h_504]
  refine v_dup dX10_init_758 rfl ?_
  refine v_bipush (119 : Int32) dX10_init_759 (by decide) ?_
  refine v_bipush (109 : Int32) dX10_init_761 (by decide) ?_
  replace h := p_bind_elim h
  obtain ⟨j_505, q_506, h⟩ := h
  refine v_bastP dX10_init_763 q_506 ?_
  replace h := p_let_elim h
  obtain ⟨I_507, h_508, h⟩ := h
  rw [← h_508]
  refine v_dup dX10_init_764 rfl ?_
  refine v_bipush (120 : Int32) dX10_init_765 (by decide) ?_
  refine v_bipush (101 : Int32) dX10_init_767 (by decide) ?_
  replace h := p_bind_elim h
  obtain ⟨j_509, q_510, h⟩ := h
  refine v_bastP dX10_init_769 q_510 ?_
  replace h := p_let_elim h
  obtain ⟨I_511, h_512, h⟩ := h
  rw [← h_512]
  refine v_dup dX10_init_770 rfl ?_
  refine v_bipush (121 : Int32) dX10_init_771 (by decide) ?_
  refine v_bipush (115 : Int32) dX10_init_773 (by decide) ?_
  replace h := p_bind_elim h
  obtain ⟨j_513, q_514, h⟩ := h
  refine v_bastP dX10_init_775 q_514 ?_
  replace h := p_let_elim h
  obtain ⟨I_515, h_516, h⟩ := h
  rw [← h_516]
  refine v_dup dX10_init_776 rfl ?_
  refine v_bipush (122 : Int32) dX10_init_777 (by decide) ?_
  refine v_bipush (32 : Int32) dX10_init_779 (by decide) ?_
  replace h := p_bind_elim h
  obtain ⟨j_517, q_518, h⟩ := h
  refine v_bastP dX10_init_781 q_518 ?_
  replace h := p_let_elim h
  obtain ⟨I_519, h_520, h⟩ := h
  rw [← h_520]
  refine v_putRF rfl fl_X10_41 rfl (fun _ _ h => by cases h; rfl) dX10_init_782 q_28 rfl rfl ?_
  replace h := p_let_elim h
  obtain ⟨F_521, h_522, h⟩ := h
  rw [← h_522]
  refine v_aload_n dX10_init_785 rfl ?_
  refine v_sipush (400 : Int32) dX10_init_786 (by decide) ?_
  refine v_newa1 400 dX10_init_789 ka_byte (by decide) (by decide) (by decide) (by decide) (by decide) ?_
  replace h := p_let_elim h
  obtain ⟨S_523, h_524, h⟩ := h
  rw [← h_524]
  have q_525 := p_app h_524 q_28
  refine v_putRF rfl fl_X10_45 rfl (fun _ _ h => by cases h; rfl) dX10_init_791 q_525 rfl rfl ?_
  replace h := p_let_elim h
  obtain ⟨F_526, h_527, h⟩ := h
  rw [← h_527]
  refine v_aload_n dX10_init_794 rfl ?_
  refine v_iconstE (5 : Int32) dX10_init_795 (by decide) ?_
  refine v_newa0 5 dX10_init_796 ka_int (by decide) (by decide) (by decide) (by decide) (by decide) ?_
  replace h := p_let_elim h
  obtain ⟨S_528, h_529, h⟩ := h
  rw [← h_529]
  have q_530 := p_app h_529 q_525
  refine v_putRF rfl fl_X10_48 rfl (fun _ _ h => by cases h; rfl) dX10_init_798 q_530 rfl rfl ?_
  replace h := p_let_elim h
  obtain ⟨F_531, h_532, h⟩ := h
  rw [← h_532]
  refine v_aload_n dX10_init_801 rfl ?_
  refine v_iconstE (-1 : Int32) dX10_init_802 (by decide) ?_
  refine v_putI rfl fl_X10_51 dX10_init_803 q_530 rfl rfl ?_
  replace h := p_let_elim h
  obtain ⟨I_533, h_534, h⟩ := h
  rw [← h_534]
  refine v_aload_n dX10_init_806 rfl ?_
  refine v_sipush (401 : Int32) dX10_init_807 (by decide) ?_
  refine v_newa0 401 dX10_init_810 ka_int (by decide) (by decide) (by decide) (by decide) (by decide) ?_
  replace h := p_let_elim h
  obtain ⟨S_535, h_536, h⟩ := h
  rw [← h_536]
  have q_537 := p_app h_536 q_530
  refine v_putRF rfl fl_X10_54 rfl (fun _ _ h => by cases h; rfl) dX10_init_812 q_537 rfl rfl ?_
  replace h := p_let_elim h
  obtain ⟨F_538, h_539, h⟩ := h
  rw [← h_539]
  refine v_aload_n dX10_init_815 rfl ?_
  refine v_sipush (401 : Int32) dX10_init_816 (by decide) ?_
  refine v_newa0 401 dX10_init_819 ka_int (by decide) (by decide) (by decide) (by decide) (by decide) ?_
  replace h := p_let_elim h
  obtain ⟨S_540, h_541, h⟩ := h
  rw [← h_541]
  have q_542 := p_app h_541 q_537
  refine v_putRF rfl fl_X10_57 rfl (fun _ _ h => by cases h; rfl) dX10_init_821 q_542 rfl rfl ?_
  replace h := p_let_elim h
  obtain ⟨F_543, h_544, h⟩ := h
  rw [← h_544]
  refine v_aload_n dX10_init_824 rfl ?_
  refine v_sipush (401 : Int32) dX10_init_825 (by decide) ?_
  refine v_newa0 401 dX10_init_828 ka_int (by decide) (by decide) (by decide) (by decide) (by decide) ?_
  replace h := p_let_elim h
  obtain ⟨S_545, h_546, h⟩ := h
  rw [← h_546]
  have q_547 := p_app h_546 q_542
  refine v_putRF rfl fl_X10_60 rfl (fun _ _ h => by cases h; rfl) dX10_init_830 q_547 rfl rfl ?_
  replace h := p_let_elim h
  obtain ⟨F_548, h_549, h⟩ := h
  rw [← h_549]
  refine v_aload_n dX10_init_833 rfl ?_
  refine v_bipush (9 : Int32) dX10_init_834 (by decide) ?_
  refine v_newa0 9 dX10_init_836 ka_int (by decide) (by decide) (by decide) (by decide) (by decide) ?_
  replace h := p_let_elim h
  obtain ⟨S_550, h_551, h⟩ := h
  rw [← h_551]
  have q_552 := p_app h_551 q_547
  refine v_putRF rfl fl_X10_63 rfl (fun _ _ h => by cases h; rfl) dX10_init_838 q_552 rfl rfl ?_
  replace h := p_let_elim h
  obtain ⟨F_553, h_554, h⟩ := h
  rw [← h_554]
  refine v_aload_n dX10_init_841 rfl ?_
  refine v_bipush (8 : Int32) dX10_init_842 (by decide) ?_
  refine v_newa0 8 dX10_init_844 ka_int (by decide) (by decide) (by decide) (by decide) (by decide) ?_
  replace h := p_let_elim h
  obtain ⟨S_555, h_556, h⟩ := h
  rw [← h_556]
  have q_557 := p_app h_556 q_552
  refine v_putRF rfl fl_X10_66 rfl (fun _ _ h => by cases h; rfl) dX10_init_846 q_557 rfl rfl ?_
  replace h := p_let_elim h
  obtain ⟨F_558, h_559, h⟩ := h
  rw [← h_559]
  refine v_aload_n dX10_init_849 rfl ?_
  refine v_sipush (304 : Int32) dX10_init_850 (by decide) ?_
  refine v_newa0 304 dX10_init_853 ka_int (by decide) (by decide) (by decide) (by decide) (by decide) ?_
  replace h := p_let_elim h
  obtain ⟨S_560, h_561, h⟩ := h
  rw [← h_561]
  have q_562 := p_app h_561 q_557
  refine v_putRF rfl fl_X10_69 rfl (fun _ _ h => by cases h; rfl) dX10_init_855 q_562 rfl rfl ?_
  replace h := p_let_elim h
  obtain ⟨F_563, h_564, h⟩ := h
  rw [← h_564]
  refine v_aload_n dX10_init_858 rfl ?_
  refine v_sipush (304 : Int32) dX10_init_859 (by decide) ?_
  refine v_newa0 304 dX10_init_862 ka_int (by decide) (by decide) (by decide) (by decide) (by decide) ?_
  replace h := p_let_elim h
  obtain ⟨S_565, h_566, h⟩ := h
  rw [← h_566]
  have q_567 := p_app h_566 q_562
  refine v_putRF rfl fl_X10_72 rfl (fun _ _ h => by cases h; rfl) dX10_init_864 q_567 rfl rfl ?_
  replace h := p_let_elim h
  obtain ⟨F_568, h_569, h⟩ := h
  rw [← h_569]
  refine v_aload_n dX10_init_867 rfl ?_
  refine v_bipush (61 : Int32) dX10_init_868 (by decide) ?_
  refine v_newa0 61 dX10_init_870 ka_int (by decide) (by decide) (by decide) (by decide) (by decide) ?_
  replace h := p_let_elim h
  obtain ⟨S_570, h_571, h⟩ := h
  rw [← h_571]
  have q_572 := p_app h_571 q_567
  refine v_putRF rfl fl_X10_75 rfl (fun _ _ h => by cases h; rfl) dX10_init_872 q_572 rfl rfl ?_
  replace h := p_let_elim h
  obtain ⟨F_573, h_574, h⟩ := h
  rw [← h_574]
  refine v_aload_n dX10_init_875 rfl ?_
  refine v_bipush (8 : Int32) dX10_init_876 (by decide) ?_
  refine v_newa0 8 dX10_init_878 ka_int (by decide) (by decide) (by decide) (by decide) (by decide) ?_
  replace h := p_let_elim h
  obtain ⟨S_575, h_576, h⟩ := h
  rw [← h_576]
  have q_577 := p_app h_576 q_572
  refine v_putRF rfl fl_X10_78 rfl (fun _ _ h => by cases h; rfl) dX10_init_880 q_577 rfl rfl ?_
  replace h := p_let_elim h
  obtain ⟨F_578, h_579, h⟩ := h
  rw [← h_579]
  refine v_aload_n dX10_init_883 rfl ?_
  refine v_bipush (8 : Int32) dX10_init_884 (by decide) ?_
  refine v_newa0 8 dX10_init_886 ka_int (by decide) (by decide) (by decide) (by decide) (by decide) ?_
  replace h := p_let_elim h
  obtain ⟨S_580, h_581, h⟩ := h
  rw [← h_581]
  have q_582 := p_app h_581 q_577
  refine v_putRF rfl fl_X10_81 rfl (fun _ _ h => by cases h; rfl) dX10_init_888 q_582 rfl rfl ?_
  replace h := p_let_elim h
  obtain ⟨F_583, h_584, h⟩ := h
  rw [← h_584]
  refine v_aload_n dX10_init_891 rfl ?_
  refine v_bipush (8 : Int32) dX10_init_892 (by decide) ?_
  refine v_newa0 8 dX10_init_894 ka_int (by decide) (by decide) (by decide) (by decide) (by decide) ?_
  replace h := p_let_elim h
  obtain ⟨S_585, h_586, h⟩ := h
  rw [← h_586]
  have q_587 := p_app h_586 q_582
  refine v_putRF rfl fl_X10_84 rfl (fun _ _ h => by cases h; rfl) dX10_init_896 q_587 rfl rfl ?_
  replace h := p_let_elim h
  obtain ⟨F_588, h_589, h⟩ := h
  rw [← h_589]
  refine v_aload_n dX10_init_899 rfl ?_
  refine v_bipush (21 : Int32) dX10_init_900 (by decide) ?_
  refine v_newa3 21 dX10_init_902 ka_long (by decide) (by decide) (by decide) (by decide) (by decide) ?_
  replace h := p_let_elim h
  obtain ⟨S_590, h_591, h⟩ := h
  rw [← h_591]
  have q_592 := p_app h_591 q_587
  refine v_putRF rfl fl_X10_87 rfl (fun _ _ h => by cases h; rfl) dX10_init_904 q_592 rfl rfl ?_
  replace h := p_let_elim h
  obtain ⟨F_593, h_594, h⟩ := h
  rw [← h_594]
  refine v_aload_n dX10_init_907 rfl ?_
  refine v_iconstE (-1 : Int32) dX10_init_908 (by decide) ?_
  refine v_putI rfl fl_X10_91 dX10_init_909 q_592 rfl rfl ?_
  replace h := p_let_elim h
  obtain ⟨I_595, h_596, h⟩ := h
  rw [← h_596]
  refine v_aload_n dX10_init_912 rfl ?_
  refine v_iconstE (2 : Int32) dX10_init_913 (by decide) ?_
  refine v_newa3 2 dX10_init_914 ka_long (by decide) (by decide) (by decide) (by decide) (by decide) ?_
  replace h := p_let_elim h
  obtain ⟨S_597, h_598, h⟩ := h
  rw [← h_598]
  have q_599 := p_app h_598 q_592
  refine v_putRF rfl fl_X10_94 rfl (fun _ _ h => by cases h; rfl) dX10_init_916 q_599 rfl rfl ?_
  replace h := p_let_elim h
  obtain ⟨F_600, h_601, h⟩ := h
  rw [← h_601]
  refine v_aload_n dX10_init_919 rfl ?_
  refine v_bipush (18 : Int32) dX10_init_920 (by decide) ?_
  refine v_newa0 18 dX10_init_922 ka_int (by decide) (by decide) (by decide) (by decide) (by decide) ?_
  replace h := p_let_elim h
  obtain ⟨S_602, h_603, h⟩ := h
  rw [← h_603]
  have q_604 := p_app h_603 q_599
  refine v_putRF rfl fl_X10_97 rfl (fun _ _ h => by cases h; rfl) dX10_init_924 q_604 rfl rfl ?_
  replace h := p_let_elim h
  obtain ⟨F_605, h_606, h⟩ := h
  rw [← h_606]
  refine v_aload_n dX10_init_927 rfl ?_
  refine v_iconstE (-1 : Int32) dX10_init_928 (by decide) ?_
  refine v_putI rfl fl_X10_100 dX10_init_929 q_604 rfl rfl ?_
  replace h := p_let_elim h
  obtain ⟨I_607, h_608, h⟩ := h
  rw [← h_608]
  refine v_aload_n dX10_init_932 rfl ?_
  replace h := p_bind_elim h
  obtain ⟨a_609, q_610, h⟩ := h
  refine v_getR q_610 rfl fl_X10_28 dX10_init_933 q_604 ?_
  refine v_bipush (46 : Int32) dX10_init_936 (by decide) ?_
  refine v_iconstE (1 : Int32) dX10_init_938 (by decide) ?_
  replace h := p_bind_elim h
  obtain ⟨j_611, q_612, h⟩ := h
  refine v_iastP dX10_init_939 q_612 ?_
  replace h := p_let_elim h
  obtain ⟨I_613, h_614, h⟩ := h
  rw [← h_614]
  refine v_aload_n dX10_init_940 rfl ?_
  replace h := p_bind_elim h
  obtain ⟨a_615, q_616, h⟩ := h
  refine v_getR q_616 rfl fl_X10_28 dX10_init_941 q_604 ?_
  refine v_bipush (52 : Int32) dX10_init_944 (by decide) ?_
  refine v_iconstE (-1 : Int32) dX10_init_946 (by decide) ?_
  replace h := p_bind_elim h
  obtain ⟨j_617, q_618, h⟩ := h
  refine v_iastP dX10_init_947 q_618 ?_
  replace h := p_let_elim h
  obtain ⟨I_619, h_620, h⟩ := h
  rw [← h_620]
  cases h
  exact v_vret dX10_init_948 rfl (by decide) (by decide) (by rw [← hQ]; exact ⟨rfl, rfl, rfl, rfl, rfl⟩)

def f_X10_good (S : v_S) (I : v_I) (p0 : Nat) (p1 : Int32) : Option (Int32 × v_I) :=
(p_ob S 10 p0).bind fun _ =>
p_let (v_up I p0 0 (0 : Int32)) fun I_2 =>
some (p1, I_2)
set_option maxHeartbeats 4000000 in
set_option maxRecDepth 100000 in
theorem t_X10_good {p0 : Nat} {p1 : Int32} {r : Int32 × v_I} (h : f_X10_good S I p0 p1 = some r) : v_R l B D ac (v_EE B wa wb wt sb sL sx) yX10_good cX10_good 2 (some .int) 1 0 0 [.ref (B + p0), .int p1] S I J F (v_D (some (.int r.1)) S r.2 J F) := by
  refine v_R.of (by decide) (Nat.le_of_ble_eq_true rfl) fun d hd => ?_
  generalize hQ : v_D (some (.int r.1)) S r.2 J F = Q
  unfold f_X10_good at h
  refine v_sub [(0, .ref (B + p0)), (1, .int p1)] ⟨rfl, rfl, trivial⟩ ?_
  refine v_aload_n dX10_good_0 rfl ?_
  refine v_iconstE (0 : Int32) dX10_good_1 (by decide) ?_
  replace h := p_bind_elim h
  obtain ⟨_, q_1, h⟩ := h
  have q_1 := p_ob_spec q_1
  refine v_putI rfl fl_X10_3 dX10_good_2 q_1 rfl rfl ?_
  replace h := p_let_elim h
  obtain ⟨I_2, h_3, h⟩ := h
  rw [← h_3]
  refine v_iload_n dX10_good_5 rfl ?_
  cases h
  exact v_iret dX10_good_6 rfl (by decide) (by decide) (by rw [← hQ]; exact ⟨rfl, rfl, rfl, rfl, rfl⟩)

def f_X10_lies (p0 : Int32) (p1 : Int32) (p2 : Int32) : Option (Int32) :=
if p0 < p1 then (
some ((0 : Int32)))
else (
if p2 < p0 then (
some ((0 : Int32)))
else (
some ((1 : Int32))))
set_option maxHeartbeats 4000000 in
set_option maxRecDepth 100000 in
theorem t_X10_lies {p0 : Int32} {p1 : Int32} {p2 : Int32} {r : Int32} (h : f_X10_lies p0 p1 p2 = some r) : v_R l B D ac (v_EE B wa wb wt sb sL sx) yX10_lies cX10_lies 3 (some .boolean) 1 0 0 [.int p0, .int p1, .int p2] S I J F (v_D (some (.int r)) S I J F) := by
  refine v_R.of (by decide) (Nat.le_of_ble_eq_true rfl) fun d hd => ?_
  generalize hQ : v_D (some (.int r)) S I J F = Q
  unfold f_X10_lies at h
  refine v_sub [(0, .int p0), (1, .int p1), (2, .int p2)] ⟨rfl, rfl, rfl, trivial⟩ ?_
  refine v_iload_n dX10_lies_0 rfl ?_
  refine v_iload_n dX10_lies_1 rfl ?_
  refine v_icmp_lt 14 dX10_lies_2 (by decide) (fun c_1 => ?_) (fun c_1 => ?_)
  · rw [if_pos c_1] at h
    refine v_iconstE (0 : Int32) dX10_lies_14 (by decide) ?_
    cases h
    exact v_zret dX10_lies_15 rfl rfl (by decide) (by decide) (by rw [← hQ]; exact ⟨rfl, rfl, rfl, rfl, rfl⟩)
  · rw [if_neg c_1] at h
    refine v_iload_n dX10_lies_5 rfl ?_
    refine v_iload_n dX10_lies_6 rfl ?_
    refine v_icmp_gt 14 dX10_lies_7 (by decide) (fun c_2 => ?_) (fun c_2 => ?_)
    · rw [if_pos c_2] at h
      refine v_iconstE (0 : Int32) dX10_lies_14 (by decide) ?_
      cases h
      exact v_zret dX10_lies_15 rfl rfl (by decide) (by decide) (by rw [← hQ]; exact ⟨rfl, rfl, rfl, rfl, rfl⟩)
    · rw [if_neg c_2] at h
      refine v_iconstE (1 : Int32) dX10_lies_10 (by decide) ?_
      refine v_goto 15 dX10_lies_11 (by decide) ?_
      cases h
      exact v_zret dX10_lies_15 rfl rfl (by decide) (by decide) (by rw [← hQ]; exact ⟨rfl, rfl, rfl, rfl, rfl⟩)

def f_X10_refuses (S : v_S) (I : v_I) (F : v_F) (p0 : Nat) (p1 : Int32) : Option (Int32 × v_I) :=
(p_ob S 10 p0).bind fun _ =>
p_let (v_up I p0 0 p1) fun I_2 =>
(F p0 1).bind fun a_4 =>
(p_ix S 20 a_4 (-p1)).bind fun j_6 =>
(p_ix S 20 a_4 (-p1)).bind fun j_8 =>
p_let (v_up I_2 a_4 j_8 ((I_2 a_4 j_6) + (1 : Int32))) fun I_10 =>
some (p1, I_10)
set_option maxHeartbeats 4000000 in
set_option maxRecDepth 100000 in
theorem t_X10_refuses {p0 : Nat} {p1 : Int32} {r : Int32 × v_I} (h : f_X10_refuses S I F p0 p1 = some r) : v_R l B D ac (v_EE B wa wb wt sb sL sx) yX10_refuses cX10_refuses 2 (some .int) 1 0 0 [.ref (B + p0), .int p1] S I J F (v_D (some (.int r.1)) S r.2 J F) := by
  refine v_R.of (by decide) (Nat.le_of_ble_eq_true rfl) fun d hd => ?_
  generalize hQ : v_D (some (.int r.1)) S r.2 J F = Q
  unfold f_X10_refuses at h
  refine v_sub [(0, .ref (B + p0)), (1, .int p1)] ⟨rfl, rfl, trivial⟩ ?_
  refine v_aload_n dX10_refuses_0 rfl ?_
  refine v_iload_n dX10_refuses_1 rfl ?_
  replace h := p_bind_elim h
  obtain ⟨_, q_1, h⟩ := h
  have q_1 := p_ob_spec q_1
  refine v_putI rfl fl_X10_3 dX10_refuses_2 q_1 rfl rfl ?_
  replace h := p_let_elim h
  obtain ⟨I_2, h_3, h⟩ := h
  rw [← h_3]
  refine v_aload_n dX10_refuses_5 rfl ?_
  replace h := p_bind_elim h
  obtain ⟨a_4, q_5, h⟩ := h
  refine v_getR q_5 rfl fl_X10_7 dX10_refuses_6 q_1 ?_
  refine v_iload_n dX10_refuses_9 rfl ?_
  refine v_ineg dX10_refuses_10 ?_
  refine v_dup2 dX10_refuses_11 rfl rfl ?_
  replace h := p_bind_elim h
  obtain ⟨j_6, q_7, h⟩ := h
  refine v_ialdP dX10_refuses_12 q_7 ?_
  refine v_iconstE (1 : Int32) dX10_refuses_13 (by decide) ?_
  refine v_iadd dX10_refuses_14 ?_
  replace h := p_bind_elim h
  obtain ⟨j_8, q_9, h⟩ := h
  refine v_iastP dX10_refuses_15 q_9 ?_
  replace h := p_let_elim h
  obtain ⟨I_10, h_11, h⟩ := h
  rw [← h_11]
  refine v_iload_n dX10_refuses_16 rfl ?_
  cases h
  exact v_iret dX10_refuses_17 rfl (by decide) (by decide) (by rw [← hQ]; exact ⟨rfl, rfl, rfl, rfl, rfl⟩)

def f_X10_image_B17 (S : v_S) (F : v_F) (w0 : Nat) (w1 : Int32) (s17 : Int32 × v_I) : Option ((Int32 × v_I) ⊕ (Int32 × v_I)) :=
if (5660 : Int32) ≤ s17.1 then (
some (.inr (s17.1, s17.2)))
else (
(p_ob S 10 w0).bind fun _ =>
(F w0 3).bind fun a_6 =>
(F w0 2).bind fun a_8 =>
(p_ix S 20 a_8 s17.1).bind fun j_10 =>
(p_ix S 20 a_6 (((5660 : Int32) * w1) + s17.1)).bind fun j_12 =>
p_let (v_up s17.2 a_6 j_12 (s17.2 a_8 j_10)) fun I_14 =>
p_let (s17.1 + (1 : Int32)) fun x_16 =>
some (.inl (x_16, I_14)))
def f_X10_image (S : v_S) (I : v_I) (F : v_F) (p0 : Nat) (p1 : Int32) : Option (Int32 × v_I) :=
(f_X10_lies p1 (0 : Int32) (1 : Int32)).bind fun r_1 =>
if r_1 = (0 : Int32) then (
(p_ob S 10 p0).bind fun _ =>
(f_X10_refuses S I F p0 (-1 : Int32)).bind fun r_29 =>
some (r_29.1, r_29.2))
else (
(v_loop (f_X10_image_B17 S F p0 p1) FU ((0 : Int32), I)).bind fun q_18 =>
(p_ob S 10 p0).bind fun _ =>
(F p0 4).bind fun a_21 =>
(p_ix S 22 a_21 p1).bind fun j_23 =>
p_let (v_up q_18.2 a_21 j_23 (vp_nar .boolean (1 : Int32))) fun I_25 =>
(f_X10_good S I_25 p0 (0 : Int32)).bind fun r_27 =>
some (r_27.1, r_27.2))
set_option maxHeartbeats 4000000 in
set_option maxRecDepth 100000 in
theorem t_X10_image {p0 : Nat} {p1 : Int32} {r : Int32 × v_I} (h : f_X10_image S I F p0 p1 = some r) : v_R l B D ac (v_EE B wa wb wt sb sL sx) yX10_image cX10_image 3 (some .int) 2 0 0 [.ref (B + p0), .int p1] S I J F (v_D (some (.int r.1)) S r.2 J F) := by
  refine v_R.of (by decide) (Nat.le_of_ble_eq_true rfl) fun d hd => ?_
  generalize hQ : v_D (some (.int r.1)) S r.2 J F = Q
  have b17 : ∀ (w0 : Nat) (w1 : Int32) (s17 : Int32 × v_I) (rx17 : (Int32 × v_I) ⊕ (Int32 × v_I)), f_X10_image_B17 S F w0 w1 s17 = some rx17 → v_K (fun (sP : Int32 × v_I) => V l B D ac (v_EE B wa wb wt sb sL sx) yX10_image cX10_image 3 (some .int) d 0 0 0 0 S sP.2 J F 17 [(0, .ref (B + w0)), (1, .int w1), (2, .int sP.1)] [] Q) (fun (rE : Int32 × v_I) => V l B D ac (v_EE B wa wb wt sb sL sx) yX10_image cX10_image 3 (some .int) d 0 0 0 0 S rE.2 J F 48 [(0, .ref (B + w0)), (1, .int w1)] [] Q) rx17 → V l B D ac (v_EE B wa wb wt sb sL sx) yX10_image cX10_image 3 (some .int) d 0 0 0 0 S s17.2 J F 17 [(0, .ref (B + w0)), (1, .int w1), (2, .int s17.1)] [] Q := by
    intro w0 w1 s17 rx17 h hk
    unfold f_X10_image_B17 at h
    refine v_iload_n dX10_image_17 rfl ?_
    refine v_sipush (5660 : Int32) dX10_image_18 (by decide) ?_
    refine v_icmp_ge 48 dX10_image_21 (by decide) (fun c_4 => ?_) (fun c_4 => ?_)
    · rw [if_pos c_4] at h
      cases h
      refine v_sub [(0, .ref (B + w0)), (1, .int w1)] ⟨rfl, rfl, trivial⟩ ?_
      exact hk
    · rw [if_neg c_4] at h
      refine v_aload_n dX10_image_24 rfl ?_
      replace h := p_bind_elim h
      obtain ⟨_, q_5, h⟩ := h
      have q_5 := p_ob_spec q_5
      replace h := p_bind_elim h
      obtain ⟨a_6, q_7, h⟩ := h
      refine v_getR q_7 rfl fl_X10_31 dX10_image_25 q_5 ?_
      refine v_sipush (5660 : Int32) dX10_image_28 (by decide) ?_
      refine v_iload_n dX10_image_31 rfl ?_
      refine v_imul dX10_image_32 ?_
      refine v_iload_n dX10_image_33 rfl ?_
      refine v_iadd dX10_image_34 ?_
      refine v_aload_n dX10_image_35 rfl ?_
      replace h := p_bind_elim h
      obtain ⟨a_8, q_9, h⟩ := h
      refine v_getR q_9 rfl fl_X10_28 dX10_image_36 q_5 ?_
      refine v_iload_n dX10_image_39 rfl ?_
      replace h := p_bind_elim h
      obtain ⟨j_10, q_11, h⟩ := h
      refine v_ialdP dX10_image_40 q_11 ?_
      replace h := p_bind_elim h
      obtain ⟨j_12, q_13, h⟩ := h
      refine v_iastP dX10_image_41 q_13 ?_
      replace h := p_let_elim h
      obtain ⟨I_14, h_15, h⟩ := h
      rw [← h_15]
      replace h := p_let_elim h
      obtain ⟨x_16, h_17, h⟩ := h
      refine v_iincE (1 : Int32) dX10_image_42 (by decide) rfl (by decide) ?_
      rw [← h_17]
      refine v_sub [(0, .ref (B + w0)), (1, .int w1), (2, .int x_16)] ⟨rfl, rfl, rfl, trivial⟩ ?_
      refine v_goto 17 dX10_image_45 (by decide) ?_
      cases h
      refine v_sub [(0, .ref (B + w0)), (1, .int w1), (2, .int x_16)] ⟨rfl, rfl, rfl, trivial⟩ ?_
      exact hk
  unfold f_X10_image at h
  refine v_sub [(0, .ref (B + p0)), (1, .int p1)] ⟨rfl, rfl, trivial⟩ ?_
  refine v_iload_n dX10_image_0 rfl ?_
  refine v_iconstE (0 : Int32) dX10_image_1 (by decide) ?_
  refine v_iconstE (1 : Int32) dX10_image_2 (by decide) ?_
  replace h := p_bind_elim h
  obtain ⟨r_1, q_2, h⟩ := h
  refine v_cSr (t_X10_lies q_2) cal_X10_lies ml_X10_18 sta_X10_lies dX10_image_3 (by omega) (by decide) (by decide) (Nat.le_of_ble_eq_true rfl) rfl ?_
  refine v_if_ne 15 dX10_image_6 (by decide) (fun c_3 => ?_) (fun c_3 => ?_)
  · rw [if_neg c_3] at h
    refine v_iconstE (0 : Int32) dX10_image_15 (by decide) ?_
    refine v_istore_n dX10_image_16 (by decide) ?_
    refine v_sub [(0, .ref (B + p0)), (1, .int p1), (2, .int (0 : Int32))] ⟨rfl, rfl, rfl, trivial⟩ ?_
    replace h := p_bind_elim h
    obtain ⟨q_18, h_19, h⟩ := h
    refine v_sub [(0, .ref (B + p0)), (1, .int p1), (2, .int (0 : Int32))] ⟨rfl, rfl, rfl, trivial⟩ ?_
    refine v_loopV (fun (sP : Int32 × v_I) => V l B D ac (v_EE B wa wb wt sb sL sx) yX10_image cX10_image 3 (some .int) d 0 0 0 0 S sP.2 J F 17 [(0, .ref (B + p0)), (1, .int p1), (2, .int sP.1)] [] Q) (fun (rE : Int32 × v_I) => V l B D ac (v_EE B wa wb wt sb sL sx) yX10_image cX10_image 3 (some .int) d 0 0 0 0 S rE.2 J F 48 [(0, .ref (B + p0)), (1, .int p1)] [] Q) (fun s_ x_ hb hk => b17 _ _ s_ x_ hb hk) (r := q_18) ?_ h_19
    try dsimp only
    refine v_aload_n dX10_image_48 rfl ?_
    replace h := p_bind_elim h
    obtain ⟨_, q_20, h⟩ := h
    have q_20 := p_ob_spec q_20
    replace h := p_bind_elim h
    obtain ⟨a_21, q_22, h⟩ := h
    refine v_getR q_22 rfl fl_X10_34 dX10_image_49 q_20 ?_
    refine v_iload_n dX10_image_52 rfl ?_
    refine v_iconstE (1 : Int32) dX10_image_53 (by decide) ?_
    replace h := p_bind_elim h
    obtain ⟨j_23, q_24, h⟩ := h
    refine v_zastP dX10_image_54 q_24 ?_
    replace h := p_let_elim h
    obtain ⟨I_25, h_26, h⟩ := h
    rw [← h_26]
    refine v_aload_n dX10_image_55 rfl ?_
    refine v_iconstE (0 : Int32) dX10_image_56 (by decide) ?_
    replace h := p_bind_elim h
    obtain ⟨r_27, q_28, h⟩ := h
    refine v_cVr (t_X10_good q_28) cal_X10_good ml_X10_14 sel_X10_good q_20 kk_10 dX10_image_57 (by omega) (by decide) (by decide) (Nat.le_of_ble_eq_true rfl) rfl ?_
    cases h
    exact v_iret dX10_image_60 rfl (by decide) (by decide) (by rw [← hQ]; exact ⟨rfl, rfl, rfl, rfl, rfl⟩)
  · rw [if_pos c_3] at h
    refine v_aload_n dX10_image_9 rfl ?_
    refine v_iconstE (-1 : Int32) dX10_image_10 (by decide) ?_
    replace h := p_bind_elim h
    obtain ⟨_, q_31, h⟩ := h
    have q_31 := p_ob_spec q_31
    replace h := p_bind_elim h
    obtain ⟨r_29, q_30, h⟩ := h
    refine v_cVr (t_X10_refuses q_30) cal_X10_refuses ml_X10_103 sel_X10_refuses q_31 kk_10 dX10_image_11 (by omega) (by decide) (by decide) (Nat.le_of_ble_eq_true rfl) rfl ?_
    cases h
    exact v_iret dX10_image_14 rfl (by decide) (by decide) (by rw [← hQ]; exact ⟨rfl, rfl, rfl, rfl, rfl⟩)

def f_X10_settled (S : v_S) (I : v_I) (p0 : Nat) (p1 : Int32) : Option (Int32 × v_I) :=
(p_ob S 10 p0).bind fun _ =>
p_let (v_up I p0 32 (0 : Int32)) fun I_2 =>
(f_X10_good S I_2 p0 p1).bind fun r_4 =>
some (r_4.1, r_4.2)
set_option maxHeartbeats 4000000 in
set_option maxRecDepth 100000 in
theorem t_X10_settled {p0 : Nat} {p1 : Int32} {r : Int32 × v_I} (h : f_X10_settled S I p0 p1 = some r) : v_R l B D ac (v_EE B wa wb wt sb sL sx) yX10_settled cX10_settled 2 (some .int) 2 0 0 [.ref (B + p0), .int p1] S I J F (v_D (some (.int r.1)) S r.2 J F) := by
  refine v_R.of (by decide) (Nat.le_of_ble_eq_true rfl) fun d hd => ?_
  generalize hQ : v_D (some (.int r.1)) S r.2 J F = Q
  unfold f_X10_settled at h
  refine v_sub [(0, .ref (B + p0)), (1, .int p1)] ⟨rfl, rfl, trivial⟩ ?_
  refine v_aload_n dX10_settled_0 rfl ?_
  refine v_iconstE (0 : Int32) dX10_settled_1 (by decide) ?_
  replace h := p_bind_elim h
  obtain ⟨_, q_1, h⟩ := h
  have q_1 := p_ob_spec q_1
  refine v_putI rfl fl_X10_11 dX10_settled_2 q_1 rfl rfl ?_
  replace h := p_let_elim h
  obtain ⟨I_2, h_3, h⟩ := h
  rw [← h_3]
  refine v_aload_n dX10_settled_5 rfl ?_
  refine v_iload_n dX10_settled_6 rfl ?_
  replace h := p_bind_elim h
  obtain ⟨r_4, q_5, h⟩ := h
  refine v_cVr (t_X10_good q_5) cal_X10_good ml_X10_14 sel_X10_good q_1 kk_10 dX10_settled_7 (by omega) (by decide) (by decide) (Nat.le_of_ble_eq_true rfl) rfl ?_
  cases h
  exact v_iret dX10_settled_10 rfl (by decide) (by decide) (by rw [← hQ]; exact ⟨rfl, rfl, rfl, rfl, rfl⟩)

def f_X10_back_B33 (S : v_S) (F : v_F) (w0 : Nat) (w1 : Int32) (s33 : Int32 × v_I) : Option ((Int32 × v_I) ⊕ (Int32 × v_I)) :=
if (5660 : Int32) ≤ s33.1 then (
some (.inr (s33.1, s33.2)))
else (
(p_ob S 10 w0).bind fun _ =>
(F w0 2).bind fun a_12 =>
(F w0 3).bind fun a_14 =>
(p_ix S 20 a_14 (((5660 : Int32) * w1) + s33.1)).bind fun j_16 =>
(p_ix S 20 a_12 s33.1).bind fun j_18 =>
p_let (v_up s33.2 a_12 j_18 (s33.2 a_14 j_16)) fun I_20 =>
p_let (s33.1 + (1 : Int32)) fun x_22 =>
some (.inl (x_22, I_20)))
def f_X10_back (S : v_S) (I : v_I) (F : v_F) (p0 : Nat) (p1 : Int32) : Option (Int32 × v_I) :=
(f_X10_lies p1 (0 : Int32) (1 : Int32)).bind fun r_1 =>
if r_1 = (0 : Int32) then (
(p_ob S 10 p0).bind fun _ =>
(f_X10_refuses S I F p0 (-1 : Int32)).bind fun r_30 =>
some (r_30.1, r_30.2))
else (
(p_ob S 10 p0).bind fun _ =>
(F p0 4).bind fun a_5 =>
(p_ix S 22 a_5 p1).bind fun j_7 =>
if (I a_5 j_7) = (0 : Int32) then (
(f_X10_refuses S I F p0 (-2 : Int32)).bind fun r_28 =>
some (r_28.1, r_28.2))
else (
(v_loop (f_X10_back_B33 S F p0 p1) FU ((0 : Int32), I)).bind fun q_24 =>
(f_X10_settled S q_24.2 p0 (0 : Int32)).bind fun r_26 =>
some (r_26.1, r_26.2)))
set_option maxHeartbeats 4000000 in
set_option maxRecDepth 100000 in
theorem t_X10_back {p0 : Nat} {p1 : Int32} {r : Int32 × v_I} (h : f_X10_back S I F p0 p1 = some r) : v_R l B D ac (v_EE B wa wb wt sb sL sx) yX10_back cX10_back 3 (some .int) 3 0 0 [.ref (B + p0), .int p1] S I J F (v_D (some (.int r.1)) S r.2 J F) := by
  refine v_R.of (by decide) (Nat.le_of_ble_eq_true rfl) fun d hd => ?_
  generalize hQ : v_D (some (.int r.1)) S r.2 J F = Q
  have b33 : ∀ (w0 : Nat) (w1 : Int32) (s33 : Int32 × v_I) (rx33 : (Int32 × v_I) ⊕ (Int32 × v_I)), f_X10_back_B33 S F w0 w1 s33 = some rx33 → v_K (fun (sP : Int32 × v_I) => V l B D ac (v_EE B wa wb wt sb sL sx) yX10_back cX10_back 3 (some .int) d 0 0 0 0 S sP.2 J F 33 [(0, .ref (B + w0)), (1, .int w1), (2, .int sP.1)] [] Q) (fun (rE : Int32 × v_I) => V l B D ac (v_EE B wa wb wt sb sL sx) yX10_back cX10_back 3 (some .int) d 0 0 0 0 S rE.2 J F 64 [(0, .ref (B + w0))] [] Q) rx33 → V l B D ac (v_EE B wa wb wt sb sL sx) yX10_back cX10_back 3 (some .int) d 0 0 0 0 S s33.2 J F 33 [(0, .ref (B + w0)), (1, .int w1), (2, .int s33.1)] [] Q := by
    intro w0 w1 s33 rx33 h hk
    unfold f_X10_back_B33 at h
    refine v_iload_n dX10_back_33 rfl ?_
    refine v_sipush (5660 : Int32) dX10_back_34 (by decide) ?_
    refine v_icmp_ge 64 dX10_back_37 (by decide) (fun c_10 => ?_) (fun c_10 => ?_)
    · rw [if_pos c_10] at h
      cases h
      refine v_sub [(0, .ref (B + w0))] ⟨rfl, trivial⟩ ?_
      exact hk
    · rw [if_neg c_10] at h
      refine v_aload_n dX10_back_40 rfl ?_
      replace h := p_bind_elim h
      obtain ⟨_, q_11, h⟩ := h
      have q_11 := p_ob_spec q_11
      replace h := p_bind_elim h
      obtain ⟨a_12, q_13, h⟩ := h
      refine v_getR q_13 rfl fl_X10_28 dX10_back_41 q_11 ?_
      refine v_iload_n dX10_back_44 rfl ?_
      refine v_aload_n dX10_back_45 rfl ?_
      replace h := p_bind_elim h
      obtain ⟨a_14, q_15, h⟩ := h
      refine v_getR q_15 rfl fl_X10_31 dX10_back_46 q_11 ?_
      refine v_sipush (5660 : Int32) dX10_back_49 (by decide) ?_
      refine v_iload_n dX10_back_52 rfl ?_
      refine v_imul dX10_back_53 ?_
      refine v_iload_n dX10_back_54 rfl ?_
      refine v_iadd dX10_back_55 ?_
      replace h := p_bind_elim h
      obtain ⟨j_16, q_17, h⟩ := h
      refine v_ialdP dX10_back_56 q_17 ?_
      replace h := p_bind_elim h
      obtain ⟨j_18, q_19, h⟩ := h
      refine v_iastP dX10_back_57 q_19 ?_
      replace h := p_let_elim h
      obtain ⟨I_20, h_21, h⟩ := h
      rw [← h_21]
      replace h := p_let_elim h
      obtain ⟨x_22, h_23, h⟩ := h
      refine v_iincE (1 : Int32) dX10_back_58 (by decide) rfl (by decide) ?_
      rw [← h_23]
      refine v_sub [(0, .ref (B + w0)), (1, .int w1), (2, .int x_22)] ⟨rfl, rfl, rfl, trivial⟩ ?_
      refine v_goto 33 dX10_back_61 (by decide) ?_
      cases h
      refine v_sub [(0, .ref (B + w0)), (1, .int w1), (2, .int x_22)] ⟨rfl, rfl, rfl, trivial⟩ ?_
      exact hk
  unfold f_X10_back at h
  refine v_sub [(0, .ref (B + p0)), (1, .int p1)] ⟨rfl, rfl, trivial⟩ ?_
  refine v_iload_n dX10_back_0 rfl ?_
  refine v_iconstE (0 : Int32) dX10_back_1 (by decide) ?_
  refine v_iconstE (1 : Int32) dX10_back_2 (by decide) ?_
  replace h := p_bind_elim h
  obtain ⟨r_1, q_2, h⟩ := h
  refine v_cSr (t_X10_lies q_2) cal_X10_lies ml_X10_18 sta_X10_lies dX10_back_3 (by omega) (by decide) (by decide) (Nat.le_of_ble_eq_true rfl) rfl ?_
  refine v_if_ne 15 dX10_back_6 (by decide) (fun c_3 => ?_) (fun c_3 => ?_)
  · rw [if_neg c_3] at h
    refine v_aload_n dX10_back_15 rfl ?_
    replace h := p_bind_elim h
    obtain ⟨_, q_4, h⟩ := h
    have q_4 := p_ob_spec q_4
    replace h := p_bind_elim h
    obtain ⟨a_5, q_6, h⟩ := h
    refine v_getR q_6 rfl fl_X10_34 dX10_back_16 q_4 ?_
    refine v_iload_n dX10_back_19 rfl ?_
    replace h := p_bind_elim h
    obtain ⟨j_7, q_8, h⟩ := h
    refine v_zaldP dX10_back_20 q_8 ?_
    refine v_if_ne 31 dX10_back_21 (by decide) (fun c_9 => ?_) (fun c_9 => ?_)
    · rw [if_neg c_9] at h
      refine v_iconstE (0 : Int32) dX10_back_31 (by decide) ?_
      refine v_istore_n dX10_back_32 (by decide) ?_
      refine v_sub [(0, .ref (B + p0)), (1, .int p1), (2, .int (0 : Int32))] ⟨rfl, rfl, rfl, trivial⟩ ?_
      replace h := p_bind_elim h
      obtain ⟨q_24, h_25, h⟩ := h
      refine v_sub [(0, .ref (B + p0)), (1, .int p1), (2, .int (0 : Int32))] ⟨rfl, rfl, rfl, trivial⟩ ?_
      refine v_loopV (fun (sP : Int32 × v_I) => V l B D ac (v_EE B wa wb wt sb sL sx) yX10_back cX10_back 3 (some .int) d 0 0 0 0 S sP.2 J F 33 [(0, .ref (B + p0)), (1, .int p1), (2, .int sP.1)] [] Q) (fun (rE : Int32 × v_I) => V l B D ac (v_EE B wa wb wt sb sL sx) yX10_back cX10_back 3 (some .int) d 0 0 0 0 S rE.2 J F 64 [(0, .ref (B + p0))] [] Q) (fun s_ x_ hb hk => b33 _ _ s_ x_ hb hk) (r := q_24) ?_ h_25
      try dsimp only
      refine v_aload_n dX10_back_64 rfl ?_
      refine v_iconstE (0 : Int32) dX10_back_65 (by decide) ?_
      replace h := p_bind_elim h
      obtain ⟨r_26, q_27, h⟩ := h
      refine v_cVr (t_X10_settled q_27) cal_X10_settled ml_X10_106 sel_X10_settled q_4 kk_10 dX10_back_66 (by omega) (by decide) (by decide) (Nat.le_of_ble_eq_true rfl) rfl ?_
      cases h
      exact v_iret dX10_back_69 rfl (by decide) (by decide) (by rw [← hQ]; exact ⟨rfl, rfl, rfl, rfl, rfl⟩)
    · rw [if_pos c_9] at h
      refine v_aload_n dX10_back_24 rfl ?_
      refine v_bipush (-2 : Int32) dX10_back_25 (by decide) ?_
      replace h := p_bind_elim h
      obtain ⟨r_28, q_29, h⟩ := h
      refine v_cVr (t_X10_refuses q_29) cal_X10_refuses ml_X10_103 sel_X10_refuses q_4 kk_10 dX10_back_27 (by omega) (by decide) (by decide) (Nat.le_of_ble_eq_true rfl) rfl ?_
      cases h
      exact v_iret dX10_back_30 rfl (by decide) (by decide) (by rw [← hQ]; exact ⟨rfl, rfl, rfl, rfl, rfl⟩)
  · rw [if_pos c_3] at h
    refine v_aload_n dX10_back_9 rfl ?_
    refine v_iconstE (-1 : Int32) dX10_back_10 (by decide) ?_
    replace h := p_bind_elim h
    obtain ⟨_, q_32, h⟩ := h
    have q_32 := p_ob_spec q_32
    replace h := p_bind_elim h
    obtain ⟨r_30, q_31, h⟩ := h
    refine v_cVr (t_X10_refuses q_31) cal_X10_refuses ml_X10_103 sel_X10_refuses q_32 kk_10 dX10_back_11 (by omega) (by decide) (by decide) (Nat.le_of_ble_eq_true rfl) rfl ?_
    cases h
    exact v_iret dX10_back_14 rfl (by decide) (by decide) (by rw [← hQ]; exact ⟨rfl, rfl, rfl, rfl, rfl⟩)

def f_X10_many (S : v_S) (I : v_I) (F : v_F) (p0 : Nat) : Option (Int32) :=
(p_ob S 10 p0).bind fun _ =>
(F p0 2).bind fun a_2 =>
(p_ix S 20 a_2 (49 : Int32)).bind fun j_4 =>
some (I a_2 j_4)
set_option maxHeartbeats 4000000 in
set_option maxRecDepth 100000 in
theorem t_X10_many {p0 : Nat} {r : Int32} (h : f_X10_many S I F p0 = some r) : v_R l B D ac (v_EE B wa wb wt sb sL sx) yX10_many cX10_many 1 (some .int) 1 0 0 [.ref (B + p0)] S I J F (v_D (some (.int r)) S I J F) := by
  refine v_R.of (by decide) (Nat.le_of_ble_eq_true rfl) fun d hd => ?_
  generalize hQ : v_D (some (.int r)) S I J F = Q
  unfold f_X10_many at h
  refine v_sub [(0, .ref (B + p0))] ⟨rfl, trivial⟩ ?_
  refine v_aload_n dX10_many_0 rfl ?_
  replace h := p_bind_elim h
  obtain ⟨_, q_1, h⟩ := h
  have q_1 := p_ob_spec q_1
  replace h := p_bind_elim h
  obtain ⟨a_2, q_3, h⟩ := h
  refine v_getR q_3 rfl fl_X10_28 dX10_many_1 q_1 ?_
  refine v_bipush (49 : Int32) dX10_many_4 (by decide) ?_
  replace h := p_bind_elim h
  obtain ⟨j_4, q_5, h⟩ := h
  refine v_ialdP dX10_many_6 q_5 ?_
  cases h
  exact v_iret dX10_many_7 rfl (by decide) (by decide) (by rw [← hQ]; exact ⟨rfl, rfl, rfl, rfl, rfl⟩)

def f_X10_adds (S : v_S) (I : v_I) (F : v_F) (p0 : Nat) (p1 : Int32) (p2 : Int32) (p3 : Int32) : Option (Int32 × v_I) :=
(p_ob S 10 p0).bind fun _ =>
(f_X10_many S I F p0).bind fun r_1 =>
(F p0 2).bind fun a_4 =>
(p_ix S 20 a_4 (0 : Int32)).bind fun j_6 =>
(p_ix S 20 a_4 (0 : Int32)).bind fun j_8 =>
p_let (v_up I a_4 j_8 ((I a_4 j_6) &&& (((1 : Int32) <<< (r_1 &&& 31)) ^^^ (-1 : Int32)))) fun I_10 =>
(F p0 2).bind fun a_12 =>
(p_ix S 20 a_12 ((1 : Int32) + r_1)).bind fun j_14 =>
p_let (v_up I_10 a_12 j_14 p1) fun I_16 =>
(F p0 2).bind fun a_18 =>
(p_ix S 20 a_18 ((9 : Int32) + r_1)).bind fun j_20 =>
p_let (v_up I_16 a_18 j_20 (0 : Int32)) fun I_22 =>
(F p0 2).bind fun a_24 =>
(p_ix S 20 a_24 ((18 : Int32) + r_1)).bind fun j_26 =>
p_let (v_up I_22 a_24 j_26 p2) fun I_28 =>
(F p0 2).bind fun a_30 =>
(p_ix S 20 a_30 ((26 : Int32) + r_1)).bind fun j_32 =>
p_let (v_up I_28 a_30 j_32 p3) fun I_34 =>
(F p0 2).bind fun a_36 =>
(p_ix S 20 a_36 (49 : Int32)).bind fun j_38 =>
(p_ix S 20 a_36 (49 : Int32)).bind fun j_40 =>
p_let (v_up I_34 a_36 j_40 ((I_34 a_36 j_38) + (1 : Int32))) fun I_42 =>
some (r_1, I_42)
set_option maxHeartbeats 4000000 in
set_option maxRecDepth 100000 in
theorem t_X10_adds {p0 : Nat} {p1 : Int32} {p2 : Int32} {p3 : Int32} {r : Int32 × v_I} (h : f_X10_adds S I F p0 p1 p2 p3 = some r) : v_R l B D ac (v_EE B wa wb wt sb sL sx) yX10_adds cX10_adds 5 (some .int) 2 0 0 [.ref (B + p0), .int p1, .int p2, .int p3] S I J F (v_D (some (.int r.1)) S r.2 J F) := by
  refine v_R.of (by decide) (Nat.le_of_ble_eq_true rfl) fun d hd => ?_
  generalize hQ : v_D (some (.int r.1)) S r.2 J F = Q
  unfold f_X10_adds at h
  refine v_sub [(0, .ref (B + p0)), (1, .int p1), (2, .int p2), (3, .int p3)] ⟨rfl, rfl, rfl, rfl, trivial⟩ ?_
  refine v_aload_n dX10_adds_0 rfl ?_
  replace h := p_bind_elim h
  obtain ⟨_, q_3, h⟩ := h
  have q_3 := p_ob_spec q_3
  replace h := p_bind_elim h
  obtain ⟨r_1, q_2, h⟩ := h
  refine v_cVr (t_X10_many q_2) cal_X10_many ml_X10_109 sel_X10_many q_3 kk_10 dX10_adds_1 (by omega) (by decide) (by decide) (Nat.le_of_ble_eq_true rfl) rfl ?_
  refine v_istore dX10_adds_4 (by decide) ?_
  refine v_sub [(0, .ref (B + p0)), (1, .int p1), (2, .int p2), (3, .int p3), (4, .int r_1)] ⟨rfl, rfl, rfl, rfl, rfl, trivial⟩ ?_
  refine v_aload_n dX10_adds_6 rfl ?_
  replace h := p_bind_elim h
  obtain ⟨a_4, q_5, h⟩ := h
  refine v_getR q_5 rfl fl_X10_28 dX10_adds_7 q_3 ?_
  refine v_iconstE (0 : Int32) dX10_adds_10 (by decide) ?_
  refine v_dup2 dX10_adds_11 rfl rfl ?_
  replace h := p_bind_elim h
  obtain ⟨j_6, q_7, h⟩ := h
  refine v_ialdP dX10_adds_12 q_7 ?_
  refine v_iconstE (1 : Int32) dX10_adds_13 (by decide) ?_
  refine v_iload dX10_adds_14 rfl ?_
  refine v_ishl dX10_adds_16 ?_
  refine v_iconstE (-1 : Int32) dX10_adds_17 (by decide) ?_
  refine v_ixor dX10_adds_18 ?_
  refine v_iand dX10_adds_19 ?_
  replace h := p_bind_elim h
  obtain ⟨j_8, q_9, h⟩ := h
  refine v_iastP dX10_adds_20 q_9 ?_
  replace h := p_let_elim h
  obtain ⟨I_10, h_11, h⟩ := h
  rw [← h_11]
  refine v_aload_n dX10_adds_21 rfl ?_
  replace h := p_bind_elim h
  obtain ⟨a_12, q_13, h⟩ := h
  refine v_getR q_13 rfl fl_X10_28 dX10_adds_22 q_3 ?_
  refine v_iconstE (1 : Int32) dX10_adds_25 (by decide) ?_
  refine v_iload dX10_adds_26 rfl ?_
  refine v_iadd dX10_adds_28 ?_
  refine v_iload_n dX10_adds_29 rfl ?_
  replace h := p_bind_elim h
  obtain ⟨j_14, q_15, h⟩ := h
  refine v_iastP dX10_adds_30 q_15 ?_
  replace h := p_let_elim h
  obtain ⟨I_16, h_17, h⟩ := h
  rw [← h_17]
  refine v_aload_n dX10_adds_31 rfl ?_
  replace h := p_bind_elim h
  obtain ⟨a_18, q_19, h⟩ := h
  refine v_getR q_19 rfl fl_X10_28 dX10_adds_32 q_3 ?_
  refine v_bipush (9 : Int32) dX10_adds_35 (by decide) ?_
  refine v_iload dX10_adds_37 rfl ?_
  refine v_iadd dX10_adds_39 ?_
  refine v_iconstE (0 : Int32) dX10_adds_40 (by decide) ?_
  replace h := p_bind_elim h
  obtain ⟨j_20, q_21, h⟩ := h
  refine v_iastP dX10_adds_41 q_21 ?_
  replace h := p_let_elim h
  obtain ⟨I_22, h_23, h⟩ := h
  rw [← h_23]
  refine v_aload_n dX10_adds_42 rfl ?_
  replace h := p_bind_elim h
  obtain ⟨a_24, q_25, h⟩ := h
  refine v_getR q_25 rfl fl_X10_28 dX10_adds_43 q_3 ?_
  refine v_bipush (18 : Int32) dX10_adds_46 (by decide) ?_
  refine v_iload dX10_adds_48 rfl ?_
  refine v_iadd dX10_adds_50 ?_
  refine v_iload_n dX10_adds_51 rfl ?_
  replace h := p_bind_elim h
  obtain ⟨j_26, q_27, h⟩ := h
  refine v_iastP dX10_adds_52 q_27 ?_
  replace h := p_let_elim h
  obtain ⟨I_28, h_29, h⟩ := h
  rw [← h_29]
  refine v_aload_n dX10_adds_53 rfl ?_
  replace h := p_bind_elim h
  obtain ⟨a_30, q_31, h⟩ := h
  refine v_getR q_31 rfl fl_X10_28 dX10_adds_54 q_3 ?_
  refine v_bipush (26 : Int32) dX10_adds_57 (by decide) ?_
  refine v_iload dX10_adds_59 rfl ?_
  refine v_iadd dX10_adds_61 ?_
  refine v_iload_n dX10_adds_62 rfl ?_
  replace h := p_bind_elim h
  obtain ⟨j_32, q_33, h⟩ := h
  refine v_iastP dX10_adds_63 q_33 ?_
  replace h := p_let_elim h
  obtain ⟨I_34, h_35, h⟩ := h
  rw [← h_35]
  refine v_aload_n dX10_adds_64 rfl ?_
  replace h := p_bind_elim h
  obtain ⟨a_36, q_37, h⟩ := h
  refine v_getR q_37 rfl fl_X10_28 dX10_adds_65 q_3 ?_
  refine v_bipush (49 : Int32) dX10_adds_68 (by decide) ?_
  refine v_dup2 dX10_adds_70 rfl rfl ?_
  replace h := p_bind_elim h
  obtain ⟨j_38, q_39, h⟩ := h
  refine v_ialdP dX10_adds_71 q_39 ?_
  refine v_iconstE (1 : Int32) dX10_adds_72 (by decide) ?_
  refine v_iadd dX10_adds_73 ?_
  replace h := p_bind_elim h
  obtain ⟨j_40, q_41, h⟩ := h
  refine v_iastP dX10_adds_74 q_41 ?_
  replace h := p_let_elim h
  obtain ⟨I_42, h_43, h⟩ := h
  rw [← h_43]
  refine v_iload dX10_adds_75 rfl ?_
  cases h
  exact v_iret dX10_adds_77 rfl (by decide) (by decide) (by rw [← hQ]; exact ⟨rfl, rfl, rfl, rfl, rfl⟩)

def f_X10_isNine (p0 : Int32) : Option (Int32) :=
(f_X10_lies p0 (0 : Int32) (9 : Int32)).bind fun r_1 =>
(p_bl r_1).bind fun _ =>
some (r_1)
set_option maxHeartbeats 4000000 in
set_option maxRecDepth 100000 in
theorem t_X10_isNine {p0 : Int32} {r : Int32} (h : f_X10_isNine p0 = some r) : v_R l B D ac (v_EE B wa wb wt sb sL sx) yX10_isNine cX10_isNine 1 (some .boolean) 2 0 0 [.int p0] S I J F (v_D (some (.int r)) S I J F) := by
  refine v_R.of (by decide) (Nat.le_of_ble_eq_true rfl) fun d hd => ?_
  generalize hQ : v_D (some (.int r)) S I J F = Q
  unfold f_X10_isNine at h
  refine v_sub [(0, .int p0)] ⟨rfl, trivial⟩ ?_
  refine v_iload_n dX10_isNine_0 rfl ?_
  refine v_iconstE (0 : Int32) dX10_isNine_1 (by decide) ?_
  refine v_bipush (9 : Int32) dX10_isNine_2 (by decide) ?_
  replace h := p_bind_elim h
  obtain ⟨r_1, q_2, h⟩ := h
  refine v_cSr (t_X10_lies q_2) cal_X10_lies ml_X10_18 sta_X10_lies dX10_isNine_4 (by omega) (by decide) (by decide) (Nat.le_of_ble_eq_true rfl) rfl ?_
  replace h := p_bind_elim h
  obtain ⟨_, q_3, h⟩ := h
  cases h
  exact v_zret dX10_isNine_7 rfl (p_bl_spec q_3).1 (by decide) (by decide) (by rw [← hQ]; exact ⟨rfl, rfl, rfl, rfl, rfl⟩)

def f_X10_hedgehog_J14 (S : v_S) (F : v_F) (I : v_I) (y0 : Nat) : Option (Int32 × v_I) :=
(p_ob S 10 y0).bind fun _ =>
(f_X10_refuses S I F y0 (-1 : Int32)).bind fun r_4 =>
some (r_4.1, r_4.2)
def f_X10_hedgehog (S : v_S) (I : v_I) (F : v_F) (p0 : Nat) (p1 : Int32) (p2 : Int32) : Option (Int32 × v_I) :=
(f_X10_isNine p1).bind fun r_1 =>
if r_1 = (0 : Int32) then (
f_X10_hedgehog_J14 S F I p0)
else (
(f_X10_isNine p2).bind fun r_7 =>
if r_7 = (0 : Int32) then (
f_X10_hedgehog_J14 S F I p0)
else (
(p_ob S 10 p0).bind fun _ =>
(f_X10_many S I F p0).bind fun r_10 =>
if r_10 = (8 : Int32) then (
(f_X10_refuses S I F p0 (-5 : Int32)).bind fun r_18 =>
some (r_18.1, r_18.2))
else (
(f_X10_adds S I F p0 p1 p2 (0 : Int32)).bind fun r_14 =>
(f_X10_settled S r_14.2 p0 r_14.1).bind fun r_16 =>
some (r_16.1, r_16.2))))
set_option maxHeartbeats 4000000 in
set_option maxRecDepth 100000 in
theorem t_X10_hedgehog {p0 : Nat} {p1 : Int32} {p2 : Int32} {r : Int32 × v_I} (h : f_X10_hedgehog S I F p0 p1 p2 = some r) : v_R l B D ac (v_EE B wa wb wt sb sL sx) yX10_hedgehog cX10_hedgehog 3 (some .int) 3 0 0 [.ref (B + p0), .int p1, .int p2] S I J F (v_D (some (.int r.1)) S r.2 J F) := by
  refine v_R.of (by decide) (Nat.le_of_ble_eq_true rfl) fun d hd => ?_
  generalize hQ : v_D (some (.int r.1)) S r.2 J F = Q
  have j14 : ∀ (I : v_I) (y0 : Nat), f_X10_hedgehog_J14 S F I y0 = some r → V l B D ac (v_EE B wa wb wt sb sL sx) yX10_hedgehog cX10_hedgehog 3 (some .int) d 0 0 0 0 S I J F 14 [(0, .ref (B + y0))] [] Q := by
    intro I y0 h
    unfold f_X10_hedgehog_J14 at h
    refine v_aload_n dX10_hedgehog_14 rfl ?_
    refine v_iconstE (-1 : Int32) dX10_hedgehog_15 (by decide) ?_
    replace h := p_bind_elim h
    obtain ⟨_, q_6, h⟩ := h
    have q_6 := p_ob_spec q_6
    replace h := p_bind_elim h
    obtain ⟨r_4, q_5, h⟩ := h
    refine v_cVr (t_X10_refuses q_5) cal_X10_refuses ml_X10_103 sel_X10_refuses q_6 kk_10 dX10_hedgehog_16 (by omega) (by decide) (by decide) (Nat.le_of_ble_eq_true rfl) rfl ?_
    cases h
    exact v_iret dX10_hedgehog_19 rfl (by decide) (by decide) (by rw [← hQ]; exact ⟨rfl, rfl, rfl, rfl, rfl⟩)
  unfold f_X10_hedgehog at h
  refine v_sub [(0, .ref (B + p0)), (1, .int p1), (2, .int p2)] ⟨rfl, rfl, rfl, trivial⟩ ?_
  refine v_iload_n dX10_hedgehog_0 rfl ?_
  replace h := p_bind_elim h
  obtain ⟨r_1, q_2, h⟩ := h
  refine v_cSr (t_X10_isNine q_2) cal_X10_isNine ml_X10_117 sta_X10_isNine dX10_hedgehog_1 (by omega) (by decide) (by decide) (Nat.le_of_ble_eq_true rfl) rfl ?_
  refine v_if_eq 14 dX10_hedgehog_4 (by decide) (fun c_3 => ?_) (fun c_3 => ?_)
  · rw [if_pos c_3] at h
    refine v_sub [(0, .ref (B + p0))] ⟨rfl, trivial⟩ ?_
    exact j14 _ _ h
  · rw [if_neg c_3] at h
    refine v_iload_n dX10_hedgehog_7 rfl ?_
    replace h := p_bind_elim h
    obtain ⟨r_7, q_8, h⟩ := h
    refine v_cSr (t_X10_isNine q_8) cal_X10_isNine ml_X10_117 sta_X10_isNine dX10_hedgehog_8 (by omega) (by decide) (by decide) (Nat.le_of_ble_eq_true rfl) rfl ?_
    refine v_if_ne 20 dX10_hedgehog_11 (by decide) (fun c_9 => ?_) (fun c_9 => ?_)
    · rw [if_neg c_9] at h
      refine v_aload_n dX10_hedgehog_20 rfl ?_
      replace h := p_bind_elim h
      obtain ⟨_, q_12, h⟩ := h
      have q_12 := p_ob_spec q_12
      replace h := p_bind_elim h
      obtain ⟨r_10, q_11, h⟩ := h
      refine v_cVr (t_X10_many q_11) cal_X10_many ml_X10_109 sel_X10_many q_12 kk_10 dX10_hedgehog_21 (by omega) (by decide) (by decide) (Nat.le_of_ble_eq_true rfl) rfl ?_
      refine v_bipush (8 : Int32) dX10_hedgehog_24 (by decide) ?_
      refine v_icmp_ne 36 dX10_hedgehog_26 (by decide) (fun c_13 => ?_) (fun c_13 => ?_)
      · rw [if_neg c_13] at h
        refine v_aload_n dX10_hedgehog_36 rfl ?_
        refine v_aload_n dX10_hedgehog_37 rfl ?_
        refine v_iload_n dX10_hedgehog_38 rfl ?_
        refine v_iload_n dX10_hedgehog_39 rfl ?_
        refine v_iconstE (0 : Int32) dX10_hedgehog_40 (by decide) ?_
        replace h := p_bind_elim h
        obtain ⟨r_14, q_15, h⟩ := h
        refine v_cVr (t_X10_adds q_15) cal_X10_adds ml_X10_121 sel_X10_adds q_12 kk_10 dX10_hedgehog_41 (by omega) (by decide) (by decide) (Nat.le_of_ble_eq_true rfl) rfl ?_
        replace h := p_bind_elim h
        obtain ⟨r_16, q_17, h⟩ := h
        refine v_cVr (t_X10_settled q_17) cal_X10_settled ml_X10_106 sel_X10_settled q_12 kk_10 dX10_hedgehog_44 (by omega) (by decide) (by decide) (Nat.le_of_ble_eq_true rfl) rfl ?_
        cases h
        exact v_iret dX10_hedgehog_47 rfl (by decide) (by decide) (by rw [← hQ]; exact ⟨rfl, rfl, rfl, rfl, rfl⟩)
      · rw [if_pos c_13] at h
        refine v_aload_n dX10_hedgehog_29 rfl ?_
        refine v_bipush (-5 : Int32) dX10_hedgehog_30 (by decide) ?_
        replace h := p_bind_elim h
        obtain ⟨r_18, q_19, h⟩ := h
        refine v_cVr (t_X10_refuses q_19) cal_X10_refuses ml_X10_103 sel_X10_refuses q_12 kk_10 dX10_hedgehog_32 (by omega) (by decide) (by decide) (Nat.le_of_ble_eq_true rfl) rfl ?_
        cases h
        exact v_iret dX10_hedgehog_35 rfl (by decide) (by decide) (by rw [← hQ]; exact ⟨rfl, rfl, rfl, rfl, rfl⟩)
    · rw [if_pos c_9] at h
      refine v_sub [(0, .ref (B + p0))] ⟨rfl, trivial⟩ ?_
      exact j14 _ _ h

def f_X10_isBit (p0 : Int32) : Option (Int32) :=
(f_X10_lies p0 (0 : Int32) (1 : Int32)).bind fun r_1 =>
(p_bl r_1).bind fun _ =>
some (r_1)
set_option maxHeartbeats 4000000 in
set_option maxRecDepth 100000 in
theorem t_X10_isBit {p0 : Int32} {r : Int32} (h : f_X10_isBit p0 = some r) : v_R l B D ac (v_EE B wa wb wt sb sL sx) yX10_isBit cX10_isBit 1 (some .boolean) 2 0 0 [.int p0] S I J F (v_D (some (.int r)) S I J F) := by
  refine v_R.of (by decide) (Nat.le_of_ble_eq_true rfl) fun d hd => ?_
  generalize hQ : v_D (some (.int r)) S I J F = Q
  unfold f_X10_isBit at h
  refine v_sub [(0, .int p0)] ⟨rfl, trivial⟩ ?_
  refine v_iload_n dX10_isBit_0 rfl ?_
  refine v_iconstE (0 : Int32) dX10_isBit_1 (by decide) ?_
  refine v_iconstE (1 : Int32) dX10_isBit_2 (by decide) ?_
  replace h := p_bind_elim h
  obtain ⟨r_1, q_2, h⟩ := h
  refine v_cSr (t_X10_lies q_2) cal_X10_lies ml_X10_18 sta_X10_lies dX10_isBit_3 (by omega) (by decide) (by decide) (Nat.le_of_ble_eq_true rfl) rfl ?_
  replace h := p_bind_elim h
  obtain ⟨_, q_3, h⟩ := h
  cases h
  exact v_zret dX10_isBit_6 rfl (p_bl_spec q_3).1 (by decide) (by decide) (by rw [← hQ]; exact ⟨rfl, rfl, rfl, rfl, rfl⟩)

def f_X10_isOne (S : v_S) (I : v_I) (F : v_F) (p0 : Nat) (p1 : Int32) : Option (Int32) :=
(p_ob S 10 p0).bind fun _ =>
(f_X10_many S I F p0).bind fun r_1 =>
(f_X10_lies p1 (0 : Int32) (r_1 - (1 : Int32))).bind fun r_4 =>
(p_bl r_4).bind fun _ =>
some (r_4)
set_option maxHeartbeats 4000000 in
set_option maxRecDepth 100000 in
theorem t_X10_isOne {p0 : Nat} {p1 : Int32} {r : Int32} (h : f_X10_isOne S I F p0 p1 = some r) : v_R l B D ac (v_EE B wa wb wt sb sL sx) yX10_isOne cX10_isOne 2 (some .boolean) 2 0 0 [.ref (B + p0), .int p1] S I J F (v_D (some (.int r)) S I J F) := by
  refine v_R.of (by decide) (Nat.le_of_ble_eq_true rfl) fun d hd => ?_
  generalize hQ : v_D (some (.int r)) S I J F = Q
  unfold f_X10_isOne at h
  refine v_sub [(0, .ref (B + p0)), (1, .int p1)] ⟨rfl, rfl, trivial⟩ ?_
  refine v_iload_n dX10_isOne_0 rfl ?_
  refine v_iconstE (0 : Int32) dX10_isOne_1 (by decide) ?_
  refine v_aload_n dX10_isOne_2 rfl ?_
  replace h := p_bind_elim h
  obtain ⟨_, q_3, h⟩ := h
  have q_3 := p_ob_spec q_3
  replace h := p_bind_elim h
  obtain ⟨r_1, q_2, h⟩ := h
  refine v_cVr (t_X10_many q_2) cal_X10_many ml_X10_109 sel_X10_many q_3 kk_10 dX10_isOne_3 (by omega) (by decide) (by decide) (Nat.le_of_ble_eq_true rfl) rfl ?_
  refine v_iconstE (1 : Int32) dX10_isOne_6 (by decide) ?_
  refine v_isub dX10_isOne_7 ?_
  replace h := p_bind_elim h
  obtain ⟨r_4, q_5, h⟩ := h
  refine v_cSr (t_X10_lies q_5) cal_X10_lies ml_X10_18 sta_X10_lies dX10_isOne_8 (by omega) (by decide) (by decide) (Nat.le_of_ble_eq_true rfl) rfl ?_
  replace h := p_bind_elim h
  obtain ⟨_, q_6, h⟩ := h
  cases h
  exact v_zret dX10_isOne_11 rfl (p_bl_spec q_6).1 (by decide) (by decide) (by rw [← hQ]; exact ⟨rfl, rfl, rfl, rfl, rfl⟩)

def f_X10_watch_J12 (S : v_S) (F : v_F) (I : v_I) (y0 : Nat) : Option (Int32 × v_I) :=
(p_ob S 10 y0).bind fun _ =>
(f_X10_refuses S I F y0 (-1 : Int32)).bind fun r_2 =>
some (r_2.1, r_2.2)
def f_X10_watch_J34 (S : v_S) (F : v_F) (I : v_I) (y0 : Nat) : Option (Int32 × v_I) :=
(p_ob S 10 y0).bind fun _ =>
(f_X10_refuses S I F y0 (-2 : Int32)).bind fun r_12 =>
some (r_12.1, r_12.2)
def f_X10_watch (S : v_S) (I : v_I) (F : v_F) (p0 : Nat) (p1 : Int32) (p2 : Int32) (p3 : Int32) : Option (Int32 × v_I) :=
if p1 = p2 then (
f_X10_watch_J12 S F I p0)
else (
(f_X10_isBit p3).bind fun r_5 =>
if r_5 = (0 : Int32) then (
f_X10_watch_J12 S F I p0)
else (
(p_ob S 10 p0).bind fun _ =>
(f_X10_isOne S I F p0 p1).bind fun r_8 =>
if r_8 = (0 : Int32) then (
f_X10_watch_J34 S F I p0)
else (
(f_X10_isOne S I F p0 p2).bind fun r_15 =>
if r_15 = (0 : Int32) then (
f_X10_watch_J34 S F I p0)
else (
(F p0 2).bind fun a_18 =>
(p_ix S 20 a_18 ((26 : Int32) + p1)).bind fun j_20 =>
p_let (((I a_18 j_20) >>> (p2 &&& 31)) &&& (1 : Int32)) fun x_22 =>
(F p0 2).bind fun a_24 =>
(F p0 2).bind fun a_26 =>
(p_ix S 20 a_26 ((26 : Int32) + p1)).bind fun j_28 =>
(p_ix S 20 a_24 ((26 : Int32) + p1)).bind fun j_30 =>
p_let (v_up I a_24 j_30 (((I a_26 j_28) &&& (((1 : Int32) <<< (p2 &&& 31)) ^^^ (-1 : Int32))) ||| (p3 <<< (p2 &&& 31)))) fun I_32 =>
(f_X10_good S I_32 p0 x_22).bind fun r_34 =>
some (r_34.1, r_34.2)))))
set_option maxHeartbeats 4000000 in
set_option maxRecDepth 100000 in
theorem t_X10_watch {p0 : Nat} {p1 : Int32} {p2 : Int32} {p3 : Int32} {r : Int32 × v_I} (h : f_X10_watch S I F p0 p1 p2 p3 = some r) : v_R l B D ac (v_EE B wa wb wt sb sL sx) yX10_watch cX10_watch 5 (some .int) 3 0 0 [.ref (B + p0), .int p1, .int p2, .int p3] S I J F (v_D (some (.int r.1)) S r.2 J F) := by
  refine v_R.of (by decide) (Nat.le_of_ble_eq_true rfl) fun d hd => ?_
  generalize hQ : v_D (some (.int r.1)) S r.2 J F = Q
  have j12 : ∀ (I : v_I) (y0 : Nat), f_X10_watch_J12 S F I y0 = some r → V l B D ac (v_EE B wa wb wt sb sL sx) yX10_watch cX10_watch 5 (some .int) d 0 0 0 0 S I J F 12 [(0, .ref (B + y0))] [] Q := by
    intro I y0 h
    unfold f_X10_watch_J12 at h
    refine v_aload_n dX10_watch_12 rfl ?_
    refine v_iconstE (-1 : Int32) dX10_watch_13 (by decide) ?_
    replace h := p_bind_elim h
    obtain ⟨_, q_4, h⟩ := h
    have q_4 := p_ob_spec q_4
    replace h := p_bind_elim h
    obtain ⟨r_2, q_3, h⟩ := h
    refine v_cVr (t_X10_refuses q_3) cal_X10_refuses ml_X10_103 sel_X10_refuses q_4 kk_10 dX10_watch_14 (by omega) (by decide) (by decide) (Nat.le_of_ble_eq_true rfl) rfl ?_
    cases h
    exact v_iret dX10_watch_17 rfl (by decide) (by decide) (by rw [← hQ]; exact ⟨rfl, rfl, rfl, rfl, rfl⟩)
  have j34 : ∀ (I : v_I) (y0 : Nat), f_X10_watch_J34 S F I y0 = some r → V l B D ac (v_EE B wa wb wt sb sL sx) yX10_watch cX10_watch 5 (some .int) d 0 0 0 0 S I J F 34 [(0, .ref (B + y0))] [] Q := by
    intro I y0 h
    unfold f_X10_watch_J34 at h
    refine v_aload_n dX10_watch_34 rfl ?_
    refine v_bipush (-2 : Int32) dX10_watch_35 (by decide) ?_
    replace h := p_bind_elim h
    obtain ⟨_, q_14, h⟩ := h
    have q_14 := p_ob_spec q_14
    replace h := p_bind_elim h
    obtain ⟨r_12, q_13, h⟩ := h
    refine v_cVr (t_X10_refuses q_13) cal_X10_refuses ml_X10_103 sel_X10_refuses q_14 kk_10 dX10_watch_37 (by omega) (by decide) (by decide) (Nat.le_of_ble_eq_true rfl) rfl ?_
    cases h
    exact v_iret dX10_watch_40 rfl (by decide) (by decide) (by rw [← hQ]; exact ⟨rfl, rfl, rfl, rfl, rfl⟩)
  unfold f_X10_watch at h
  refine v_sub [(0, .ref (B + p0)), (1, .int p1), (2, .int p2), (3, .int p3)] ⟨rfl, rfl, rfl, rfl, trivial⟩ ?_
  refine v_iload_n dX10_watch_0 rfl ?_
  refine v_iload_n dX10_watch_1 rfl ?_
  refine v_icmp_eq 12 dX10_watch_2 (by decide) (fun c_1 => ?_) (fun c_1 => ?_)
  · rw [if_pos c_1] at h
    refine v_sub [(0, .ref (B + p0))] ⟨rfl, trivial⟩ ?_
    exact j12 _ _ h
  · rw [if_neg c_1] at h
    refine v_iload_n dX10_watch_5 rfl ?_
    replace h := p_bind_elim h
    obtain ⟨r_5, q_6, h⟩ := h
    refine v_cSr (t_X10_isBit q_6) cal_X10_isBit ml_X10_125 sta_X10_isBit dX10_watch_6 (by omega) (by decide) (by decide) (Nat.le_of_ble_eq_true rfl) rfl ?_
    refine v_if_ne 18 dX10_watch_9 (by decide) (fun c_7 => ?_) (fun c_7 => ?_)
    · rw [if_neg c_7] at h
      refine v_aload_n dX10_watch_18 rfl ?_
      refine v_iload_n dX10_watch_19 rfl ?_
      replace h := p_bind_elim h
      obtain ⟨_, q_10, h⟩ := h
      have q_10 := p_ob_spec q_10
      replace h := p_bind_elim h
      obtain ⟨r_8, q_9, h⟩ := h
      refine v_cVr (t_X10_isOne q_9) cal_X10_isOne ml_X10_128 sel_X10_isOne q_10 kk_10 dX10_watch_20 (by omega) (by decide) (by decide) (Nat.le_of_ble_eq_true rfl) rfl ?_
      refine v_if_eq 34 dX10_watch_23 (by decide) (fun c_11 => ?_) (fun c_11 => ?_)
      · rw [if_pos c_11] at h
        refine v_sub [(0, .ref (B + p0))] ⟨rfl, trivial⟩ ?_
        exact j34 _ _ h
      · rw [if_neg c_11] at h
        refine v_aload_n dX10_watch_26 rfl ?_
        refine v_iload_n dX10_watch_27 rfl ?_
        replace h := p_bind_elim h
        obtain ⟨r_15, q_16, h⟩ := h
        refine v_cVr (t_X10_isOne q_16) cal_X10_isOne ml_X10_128 sel_X10_isOne q_10 kk_10 dX10_watch_28 (by omega) (by decide) (by decide) (Nat.le_of_ble_eq_true rfl) rfl ?_
        refine v_if_ne 41 dX10_watch_31 (by decide) (fun c_17 => ?_) (fun c_17 => ?_)
        · rw [if_neg c_17] at h
          refine v_aload_n dX10_watch_41 rfl ?_
          replace h := p_bind_elim h
          obtain ⟨a_18, q_19, h⟩ := h
          refine v_getR q_19 rfl fl_X10_28 dX10_watch_42 q_10 ?_
          refine v_bipush (26 : Int32) dX10_watch_45 (by decide) ?_
          refine v_iload_n dX10_watch_47 rfl ?_
          refine v_iadd dX10_watch_48 ?_
          replace h := p_bind_elim h
          obtain ⟨j_20, q_21, h⟩ := h
          refine v_ialdP dX10_watch_49 q_21 ?_
          refine v_iload_n dX10_watch_50 rfl ?_
          refine v_ishr dX10_watch_51 ?_
          refine v_iconstE (1 : Int32) dX10_watch_52 (by decide) ?_
          refine v_iand dX10_watch_53 ?_
          replace h := p_let_elim h
          obtain ⟨x_22, h_23, h⟩ := h
          rw [← h_23]
          refine v_istore dX10_watch_54 (by decide) ?_
          refine v_sub [(0, .ref (B + p0)), (1, .int p1), (2, .int p2), (3, .int p3), (4, .int x_22)] ⟨rfl, rfl, rfl, rfl, rfl, trivial⟩ ?_
          refine v_aload_n dX10_watch_56 rfl ?_
          replace h := p_bind_elim h
          obtain ⟨a_24, q_25, h⟩ := h
          refine v_getR q_25 rfl fl_X10_28 dX10_watch_57 q_10 ?_
          refine v_bipush (26 : Int32) dX10_watch_60 (by decide) ?_
          refine v_iload_n dX10_watch_62 rfl ?_
          refine v_iadd dX10_watch_63 ?_
          refine v_aload_n dX10_watch_64 rfl ?_
          replace h := p_bind_elim h
          obtain ⟨a_26, q_27, h⟩ := h
          refine v_getR q_27 rfl fl_X10_28 dX10_watch_65 q_10 ?_
          refine v_bipush (26 : Int32) dX10_watch_68 (by decide) ?_
          refine v_iload_n dX10_watch_70 rfl ?_
          refine v_iadd dX10_watch_71 ?_
          replace h := p_bind_elim h
          obtain ⟨j_28, q_29, h⟩ := h
          refine v_ialdP dX10_watch_72 q_29 ?_
          refine v_iconstE (1 : Int32) dX10_watch_73 (by decide) ?_
          refine v_iload_n dX10_watch_74 rfl ?_
          refine v_ishl dX10_watch_75 ?_
          refine v_iconstE (-1 : Int32) dX10_watch_76 (by decide) ?_
          refine v_ixor dX10_watch_77 ?_
          refine v_iand dX10_watch_78 ?_
          refine v_iload_n dX10_watch_79 rfl ?_
          refine v_iload_n dX10_watch_80 rfl ?_
          refine v_ishl dX10_watch_81 ?_
          refine v_ior dX10_watch_82 ?_
          replace h := p_bind_elim h
          obtain ⟨j_30, q_31, h⟩ := h
          refine v_iastP dX10_watch_83 q_31 ?_
          replace h := p_let_elim h
          obtain ⟨I_32, h_33, h⟩ := h
          rw [← h_33]
          refine v_aload_n dX10_watch_84 rfl ?_
          refine v_iload dX10_watch_85 rfl ?_
          replace h := p_bind_elim h
          obtain ⟨r_34, q_35, h⟩ := h
          refine v_cVr (t_X10_good q_35) cal_X10_good ml_X10_14 sel_X10_good q_10 kk_10 dX10_watch_87 (by omega) (by decide) (by decide) (Nat.le_of_ble_eq_true rfl) rfl ?_
          cases h
          exact v_iret dX10_watch_90 rfl (by decide) (by decide) (by rw [← hQ]; exact ⟨rfl, rfl, rfl, rfl, rfl⟩)
        · rw [if_pos c_17] at h
          refine v_sub [(0, .ref (B + p0))] ⟨rfl, trivial⟩ ?_
          exact j34 _ _ h
    · rw [if_pos c_7] at h
      refine v_sub [(0, .ref (B + p0))] ⟨rfl, trivial⟩ ?_
      exact j12 _ _ h

def f_X10_isIn (p0 : Int32) (p1 : Int32) : Option (Int32) :=
if ((p0 >>> (p1 &&& 31)) &&& (1 : Int32)) = (1 : Int32) then (
some ((1 : Int32)))
else (
some ((0 : Int32)))
set_option maxHeartbeats 4000000 in
set_option maxRecDepth 100000 in
theorem t_X10_isIn {p0 : Int32} {p1 : Int32} {r : Int32} (h : f_X10_isIn p0 p1 = some r) : v_R l B D ac (v_EE B wa wb wt sb sL sx) yX10_isIn cX10_isIn 2 (some .boolean) 1 0 0 [.int p0, .int p1] S I J F (v_D (some (.int r)) S I J F) := by
  refine v_R.of (by decide) (Nat.le_of_ble_eq_true rfl) fun d hd => ?_
  generalize hQ : v_D (some (.int r)) S I J F = Q
  unfold f_X10_isIn at h
  refine v_sub [(0, .int p0), (1, .int p1)] ⟨rfl, rfl, trivial⟩ ?_
  refine v_iload_n dX10_isIn_0 rfl ?_
  refine v_iload_n dX10_isIn_1 rfl ?_
  refine v_ishr dX10_isIn_2 ?_
  refine v_iconstE (1 : Int32) dX10_isIn_3 (by decide) ?_
  refine v_iand dX10_isIn_4 ?_
  refine v_iconstE (1 : Int32) dX10_isIn_5 (by decide) ?_
  refine v_icmp_ne 13 dX10_isIn_6 (by decide) (fun c_1 => ?_) (fun c_1 => ?_)
  · rw [if_neg c_1] at h
    refine v_iconstE (0 : Int32) dX10_isIn_13 (by decide) ?_
    cases h
    exact v_zret dX10_isIn_14 rfl rfl (by decide) (by decide) (by rw [← hQ]; exact ⟨rfl, rfl, rfl, rfl, rfl⟩)
  · rw [if_pos c_1] at h
    refine v_iconstE (1 : Int32) dX10_isIn_9 (by decide) ?_
    refine v_goto 14 dX10_isIn_10 (by decide) ?_
    cases h
    exact v_zret dX10_isIn_14 rfl rfl (by decide) (by decide) (by rw [← hQ]; exact ⟨rfl, rfl, rfl, rfl, rfl⟩)

def f_X10_isOpen (S : v_S) (I : v_I) (F : v_F) (p0 : Nat) (p1 : Int32) : Option (Int32) :=
(p_ob S 10 p0).bind fun _ =>
(F p0 2).bind fun a_2 =>
(p_ix S 20 a_2 (0 : Int32)).bind fun j_4 =>
(f_X10_isIn (I a_2 j_4) p1).bind fun r_6 =>
(p_bl r_6).bind fun _ =>
some (r_6)
set_option maxHeartbeats 4000000 in
set_option maxRecDepth 100000 in
theorem t_X10_isOpen {p0 : Nat} {p1 : Int32} {r : Int32} (h : f_X10_isOpen S I F p0 p1 = some r) : v_R l B D ac (v_EE B wa wb wt sb sL sx) yX10_isOpen cX10_isOpen 2 (some .boolean) 2 0 0 [.ref (B + p0), .int p1] S I J F (v_D (some (.int r)) S I J F) := by
  refine v_R.of (by decide) (Nat.le_of_ble_eq_true rfl) fun d hd => ?_
  generalize hQ : v_D (some (.int r)) S I J F = Q
  unfold f_X10_isOpen at h
  refine v_sub [(0, .ref (B + p0)), (1, .int p1)] ⟨rfl, rfl, trivial⟩ ?_
  refine v_aload_n dX10_isOpen_0 rfl ?_
  replace h := p_bind_elim h
  obtain ⟨_, q_1, h⟩ := h
  have q_1 := p_ob_spec q_1
  replace h := p_bind_elim h
  obtain ⟨a_2, q_3, h⟩ := h
  refine v_getR q_3 rfl fl_X10_28 dX10_isOpen_1 q_1 ?_
  refine v_iconstE (0 : Int32) dX10_isOpen_4 (by decide) ?_
  replace h := p_bind_elim h
  obtain ⟨j_4, q_5, h⟩ := h
  refine v_ialdP dX10_isOpen_5 q_5 ?_
  refine v_iload_n dX10_isOpen_6 rfl ?_
  replace h := p_bind_elim h
  obtain ⟨r_6, q_7, h⟩ := h
  refine v_cSr (t_X10_isIn q_7) cal_X10_isIn ml_X10_113 sta_X10_isIn dX10_isOpen_7 (by omega) (by decide) (by decide) (Nat.le_of_ble_eq_true rfl) rfl ?_
  replace h := p_bind_elim h
  obtain ⟨_, q_8, h⟩ := h
  cases h
  exact v_zret dX10_isOpen_10 rfl (p_bl_spec q_8).1 (by decide) (by decide) (by rw [← hQ]; exact ⟨rfl, rfl, rfl, rfl, rfl⟩)

def f_X10_toldBare (S : v_S) (I : v_I) (F : v_F) (p0 : Nat) (p1 : Int32) (p2 : Int32) : Option (Int32) :=
if p2 = (0 : Int32) then (
(p_ob S 10 p0).bind fun _ =>
(F p0 2).bind fun a_2 =>
(p_ix S 20 a_2 ((1 : Int32) + p1)).bind fun j_4 =>
some (I a_2 j_4))
else if p2 = (1 : Int32) then (
(p_ob S 10 p0).bind fun _ =>
(F p0 2).bind fun a_7 =>
(p_ix S 20 a_7 ((18 : Int32) + p1)).bind fun j_9 =>
some (I a_7 j_9))
else if p2 = (2 : Int32) then (
(p_ob S 10 p0).bind fun _ =>
(F p0 2).bind fun a_12 =>
(p_ix S 20 a_12 ((26 : Int32) + p1)).bind fun j_14 =>
some (I a_12 j_14))
else if p2 = (3 : Int32) then (
(p_ob S 10 p0).bind fun _ =>
(f_X10_isOpen S I F p0 p1).bind fun r_16 =>
if r_16 = (0 : Int32) then (
some ((0 : Int32)))
else (
some ((1 : Int32))))
else (
(p_ob S 10 p0).bind fun _ =>
(F p0 2).bind fun a_21 =>
(p_ix S 20 a_21 ((9 : Int32) + p1)).bind fun j_23 =>
some (I a_21 j_23))
set_option maxHeartbeats 4000000 in
set_option maxRecDepth 100000 in
theorem t_X10_toldBare {p0 : Nat} {p1 : Int32} {p2 : Int32} {r : Int32} (h : f_X10_toldBare S I F p0 p1 p2 = some r) : v_R l B D ac (v_EE B wa wb wt sb sL sx) yX10_toldBare cX10_toldBare 3 (some .int) 3 0 0 [.ref (B + p0), .int p1, .int p2] S I J F (v_D (some (.int r)) S I J F) := by
  refine v_R.of (by decide) (Nat.le_of_ble_eq_true rfl) fun d hd => ?_
  generalize hQ : v_D (some (.int r)) S I J F = Q
  unfold f_X10_toldBare at h
  refine v_sub [(0, .ref (B + p0)), (1, .int p1), (2, .int p2)] ⟨rfl, rfl, rfl, trivial⟩ ?_
  refine v_iload_n dX10_toldBare_0 rfl ?_
  by_cases c_25 : p2 = (0 : Int32)
  · rw [if_pos c_25] at h
    refine v_swIn 32 (0 : Int32) c_25 dX10_toldBare_1 (by decide) (by decide) rfl (by decide) ?_
    refine v_aload_n dX10_toldBare_32 rfl ?_
    replace h := p_bind_elim h
    obtain ⟨_, q_1, h⟩ := h
    have q_1 := p_ob_spec q_1
    replace h := p_bind_elim h
    obtain ⟨a_2, q_3, h⟩ := h
    refine v_getR q_3 rfl fl_X10_28 dX10_toldBare_33 q_1 ?_
    refine v_iconstE (1 : Int32) dX10_toldBare_36 (by decide) ?_
    refine v_iload_n dX10_toldBare_37 rfl ?_
    refine v_iadd dX10_toldBare_38 ?_
    replace h := p_bind_elim h
    obtain ⟨j_4, q_5, h⟩ := h
    refine v_ialdP dX10_toldBare_39 q_5 ?_
    cases h
    exact v_iret dX10_toldBare_40 rfl (by decide) (by decide) (by rw [← hQ]; exact ⟨rfl, rfl, rfl, rfl, rfl⟩)
  · rw [if_neg c_25] at h
    by_cases c_26 : p2 = (1 : Int32)
    · rw [if_pos c_26] at h
      refine v_swIn 41 (1 : Int32) c_26 dX10_toldBare_1 (by decide) (by decide) rfl (by decide) ?_
      refine v_aload_n dX10_toldBare_41 rfl ?_
      replace h := p_bind_elim h
      obtain ⟨_, q_6, h⟩ := h
      have q_6 := p_ob_spec q_6
      replace h := p_bind_elim h
      obtain ⟨a_7, q_8, h⟩ := h
      refine v_getR q_8 rfl fl_X10_28 dX10_toldBare_42 q_6 ?_
      refine v_bipush (18 : Int32) dX10_toldBare_45 (by decide) ?_
      refine v_iload_n dX10_toldBare_47 rfl ?_
      refine v_iadd dX10_toldBare_48 ?_
      replace h := p_bind_elim h
      obtain ⟨j_9, q_10, h⟩ := h
      refine v_ialdP dX10_toldBare_49 q_10 ?_
      cases h
      exact v_iret dX10_toldBare_50 rfl (by decide) (by decide) (by rw [← hQ]; exact ⟨rfl, rfl, rfl, rfl, rfl⟩)
    · rw [if_neg c_26] at h
      by_cases c_27 : p2 = (2 : Int32)
      · rw [if_pos c_27] at h
        refine v_swIn 51 (2 : Int32) c_27 dX10_toldBare_1 (by decide) (by decide) rfl (by decide) ?_
        refine v_aload_n dX10_toldBare_51 rfl ?_
        replace h := p_bind_elim h
        obtain ⟨_, q_11, h⟩ := h
        have q_11 := p_ob_spec q_11
        replace h := p_bind_elim h
        obtain ⟨a_12, q_13, h⟩ := h
        refine v_getR q_13 rfl fl_X10_28 dX10_toldBare_52 q_11 ?_
        refine v_bipush (26 : Int32) dX10_toldBare_55 (by decide) ?_
        refine v_iload_n dX10_toldBare_57 rfl ?_
        refine v_iadd dX10_toldBare_58 ?_
        replace h := p_bind_elim h
        obtain ⟨j_14, q_15, h⟩ := h
        refine v_ialdP dX10_toldBare_59 q_15 ?_
        cases h
        exact v_iret dX10_toldBare_60 rfl (by decide) (by decide) (by rw [← hQ]; exact ⟨rfl, rfl, rfl, rfl, rfl⟩)
      · rw [if_neg c_27] at h
        by_cases c_28 : p2 = (3 : Int32)
        · rw [if_pos c_28] at h
          refine v_swIn 61 (3 : Int32) c_28 dX10_toldBare_1 (by decide) (by decide) rfl (by decide) ?_
          refine v_aload_n dX10_toldBare_61 rfl ?_
          refine v_iload_n dX10_toldBare_62 rfl ?_
          replace h := p_bind_elim h
          obtain ⟨_, q_18, h⟩ := h
          have q_18 := p_ob_spec q_18
          replace h := p_bind_elim h
          obtain ⟨r_16, q_17, h⟩ := h
          refine v_cVr (t_X10_isOpen q_17) cal_X10_isOpen ml_X10_131 sel_X10_isOpen q_18 kk_10 dX10_toldBare_63 (by omega) (by decide) (by decide) (Nat.le_of_ble_eq_true rfl) rfl ?_
          refine v_if_eq 73 dX10_toldBare_66 (by decide) (fun c_19 => ?_) (fun c_19 => ?_)
          · rw [if_pos c_19] at h
            refine v_iconstE (0 : Int32) dX10_toldBare_73 (by decide) ?_
            cases h
            exact v_iret dX10_toldBare_74 rfl (by decide) (by decide) (by rw [← hQ]; exact ⟨rfl, rfl, rfl, rfl, rfl⟩)
          · rw [if_neg c_19] at h
            refine v_iconstE (1 : Int32) dX10_toldBare_69 (by decide) ?_
            refine v_goto 74 dX10_toldBare_70 (by decide) ?_
            cases h
            exact v_iret dX10_toldBare_74 rfl (by decide) (by decide) (by rw [← hQ]; exact ⟨rfl, rfl, rfl, rfl, rfl⟩)
        · rw [if_neg c_28] at h
          refine v_tableOut 75 dX10_toldBare_1 (p_sw_out (fun k h1 h2 => by have h3 : k = 0 ∨ k = 1 ∨ k = 2 ∨ k = 3 := (by omega); rcases h3 with rfl | rfl | rfl | rfl <;> first | exact c_25 | exact c_26 | exact c_27 | exact c_28)) (by decide) ?_
          refine v_aload_n dX10_toldBare_75 rfl ?_
          replace h := p_bind_elim h
          obtain ⟨_, q_20, h⟩ := h
          have q_20 := p_ob_spec q_20
          replace h := p_bind_elim h
          obtain ⟨a_21, q_22, h⟩ := h
          refine v_getR q_22 rfl fl_X10_28 dX10_toldBare_76 q_20 ?_
          refine v_bipush (9 : Int32) dX10_toldBare_79 (by decide) ?_
          refine v_iload_n dX10_toldBare_81 rfl ?_
          refine v_iadd dX10_toldBare_82 ?_
          replace h := p_bind_elim h
          obtain ⟨j_23, q_24, h⟩ := h
          refine v_ialdP dX10_toldBare_83 q_24 ?_
          cases h
          exact v_iret dX10_toldBare_84 rfl (by decide) (by decide) (by rw [← hQ]; exact ⟨rfl, rfl, rfl, rfl, rfl⟩)

def f_X10_codeAt (S : v_S) (I : v_I) (F : v_F) (p0 : Nat) (p1 : Int32) : Option (Int32) :=
(p_ob S 10 p0).bind fun _ =>
if (I p0 23) ≤ p1 then (
some ((0 : Int32)))
else (
(F p0 2).bind fun a_3 =>
(p_ix S 20 a_3 ((60 : Int32) + p1)).bind fun j_5 =>
some (I a_3 j_5))
set_option maxHeartbeats 4000000 in
set_option maxRecDepth 100000 in
theorem t_X10_codeAt {p0 : Nat} {p1 : Int32} {r : Int32} (h : f_X10_codeAt S I F p0 p1 = some r) : v_R l B D ac (v_EE B wa wb wt sb sL sx) yX10_codeAt cX10_codeAt 2 (some .int) 1 0 0 [.ref (B + p0), .int p1] S I J F (v_D (some (.int r)) S I J F) := by
  refine v_R.of (by decide) (Nat.le_of_ble_eq_true rfl) fun d hd => ?_
  generalize hQ : v_D (some (.int r)) S I J F = Q
  unfold f_X10_codeAt at h
  refine v_sub [(0, .ref (B + p0)), (1, .int p1)] ⟨rfl, rfl, trivial⟩ ?_
  refine v_iload_n dX10_codeAt_0 rfl ?_
  refine v_aload_n dX10_codeAt_1 rfl ?_
  replace h := p_bind_elim h
  obtain ⟨_, q_1, h⟩ := h
  have q_1 := p_ob_spec q_1
  refine v_getI rfl fl_X10_274 dX10_codeAt_2 q_1 ?_
  refine v_icmp_ge 20 dX10_codeAt_5 (by decide) (fun c_2 => ?_) (fun c_2 => ?_)
  · rw [if_pos c_2] at h
    refine v_iconstE (0 : Int32) dX10_codeAt_20 (by decide) ?_
    cases h
    exact v_iret dX10_codeAt_21 rfl (by decide) (by decide) (by rw [← hQ]; exact ⟨rfl, rfl, rfl, rfl, rfl⟩)
  · rw [if_neg c_2] at h
    refine v_aload_n dX10_codeAt_8 rfl ?_
    replace h := p_bind_elim h
    obtain ⟨a_3, q_4, h⟩ := h
    refine v_getR q_4 rfl fl_X10_28 dX10_codeAt_9 q_1 ?_
    refine v_bipush (60 : Int32) dX10_codeAt_12 (by decide) ?_
    refine v_iload_n dX10_codeAt_14 rfl ?_
    refine v_iadd dX10_codeAt_15 ?_
    replace h := p_bind_elim h
    obtain ⟨j_5, q_6, h⟩ := h
    refine v_ialdP dX10_codeAt_16 q_6 ?_
    refine v_goto 21 dX10_codeAt_17 (by decide) ?_
    cases h
    exact v_iret dX10_codeAt_21 rfl (by decide) (by decide) (by rw [← hQ]; exact ⟨rfl, rfl, rfl, rfl, rfl⟩)

def f_X10_passes0_J17 (S : v_S) (F : v_F) (I : v_I) (y0 : Nat) (z0 : Int32) : Option (Int32 × v_I) :=
if z0 = (0 : Int32) then (
(p_bl z0).bind fun _ =>
some (z0, I))
else (
(p_ob S 10 y0).bind fun _ =>
p_let (v_up I y0 22 ((I y0 22) + (1 : Int32))) fun I_8 =>
(p_bl z0).bind fun _ =>
some (z0, I_8))
def f_X10_passes0 (S : v_S) (I : v_I) (F : v_F) (p0 : Nat) (p1 : Int32) : Option (Int32 × v_I) :=
(p_ob S 10 p0).bind fun _ =>
(f_X10_codeAt S I F p0 (I p0 22)).bind fun r_2 =>
if r_2 = p1 then (
f_X10_passes0_J17 S F I p0 (1 : Int32))
else (
f_X10_passes0_J17 S F I p0 (0 : Int32))
set_option maxHeartbeats 4000000 in
set_option maxRecDepth 100000 in
theorem t_X10_passes0 {p0 : Nat} {p1 : Int32} {r : Int32 × v_I} (h : f_X10_passes0 S I F p0 p1 = some r) : v_R l B D ac (v_EE B wa wb wt sb sL sx) yX10_passes0 cX10_passes0 3 (some .boolean) 2 0 0 [.ref (B + p0), .int p1] S I J F (v_D (some (.int r.1)) S r.2 J F) := by
  refine v_R.of (by decide) (Nat.le_of_ble_eq_true rfl) fun d hd => ?_
  generalize hQ : v_D (some (.int r.1)) S r.2 J F = Q
  have j17 : ∀ (I : v_I) (y0 : Nat) (z0 : Int32), f_X10_passes0_J17 S F I y0 z0 = some r → V l B D ac (v_EE B wa wb wt sb sL sx) yX10_passes0 cX10_passes0 3 (some .boolean) d 0 0 0 0 S I J F 17 [(0, .ref (B + y0))] [.int z0] Q := by
    intro I y0 z0 h
    unfold f_X10_passes0_J17 at h
    refine v_istore_n dX10_passes0_17 (by decide) ?_
    refine v_sub [(0, .ref (B + y0)), (2, .int z0)] ⟨rfl, rfl, trivial⟩ ?_
    refine v_iload_n dX10_passes0_18 rfl ?_
    refine v_if_eq 32 dX10_passes0_19 (by decide) (fun c_5 => ?_) (fun c_5 => ?_)
    · rw [if_pos c_5] at h
      refine v_iload_n dX10_passes0_32 rfl ?_
      replace h := p_bind_elim h
      obtain ⟨_, q_6, h⟩ := h
      cases h
      exact v_zret dX10_passes0_33 rfl (p_bl_spec q_6).1 (by decide) (by decide) (by rw [← hQ]; exact ⟨rfl, rfl, rfl, rfl, rfl⟩)
    · rw [if_neg c_5] at h
      refine v_aload_n dX10_passes0_22 rfl ?_
      refine v_dup dX10_passes0_23 rfl ?_
      replace h := p_bind_elim h
      obtain ⟨_, q_7, h⟩ := h
      have q_7 := p_ob_spec q_7
      refine v_getI rfl fl_X10_277 dX10_passes0_24 q_7 ?_
      refine v_iconstE (1 : Int32) dX10_passes0_27 (by decide) ?_
      refine v_iadd dX10_passes0_28 ?_
      refine v_putI rfl fl_X10_277 dX10_passes0_29 q_7 rfl rfl ?_
      replace h := p_let_elim h
      obtain ⟨I_8, h_9, h⟩ := h
      rw [← h_9]
      refine v_iload_n dX10_passes0_32 rfl ?_
      replace h := p_bind_elim h
      obtain ⟨_, q_10, h⟩ := h
      cases h
      exact v_zret dX10_passes0_33 rfl (p_bl_spec q_10).1 (by decide) (by decide) (by rw [← hQ]; exact ⟨rfl, rfl, rfl, rfl, rfl⟩)
  unfold f_X10_passes0 at h
  refine v_sub [(0, .ref (B + p0)), (1, .int p1)] ⟨rfl, rfl, trivial⟩ ?_
  refine v_aload_n dX10_passes0_0 rfl ?_
  refine v_aload_n dX10_passes0_1 rfl ?_
  replace h := p_bind_elim h
  obtain ⟨_, q_1, h⟩ := h
  have q_1 := p_ob_spec q_1
  refine v_getI rfl fl_X10_277 dX10_passes0_2 q_1 ?_
  replace h := p_bind_elim h
  obtain ⟨r_2, q_3, h⟩ := h
  refine v_cVr (t_X10_codeAt q_3) cal_X10_codeAt ml_X10_280 sel_X10_codeAt q_1 kk_10 dX10_passes0_5 (by omega) (by decide) (by decide) (Nat.le_of_ble_eq_true rfl) rfl ?_
  refine v_iload_n dX10_passes0_8 rfl ?_
  refine v_icmp_ne 16 dX10_passes0_9 (by decide) (fun c_4 => ?_) (fun c_4 => ?_)
  · rw [if_neg c_4] at h
    refine v_iconstE (0 : Int32) dX10_passes0_16 (by decide) ?_
    refine v_sub [(0, .ref (B + p0))] ⟨rfl, trivial⟩ ?_
    exact j17 _ _ _ h
  · rw [if_pos c_4] at h
    refine v_iconstE (1 : Int32) dX10_passes0_12 (by decide) ?_
    refine v_goto 17 dX10_passes0_13 (by decide) ?_
    refine v_sub [(0, .ref (B + p0))] ⟨rfl, trivial⟩ ?_
    exact j17 _ _ _ h

def f_X10_ones_B4 (w0 : Int32) (s4 : Int32 × Int32) : Option ((Int32 × Int32) ⊕ (Int32 × Int32)) :=
if (8 : Int32) ≤ s4.2 then (
some (.inr (s4.1, s4.2)))
else (
p_let (s4.1 + ((w0 >>> (s4.2 &&& 31)) &&& (1 : Int32))) fun x_2 =>
p_let (s4.2 + (1 : Int32)) fun x_4 =>
some (.inl (x_2, x_4)))
def f_X10_ones (p0 : Int32) : Option (Int32) :=
(v_loop (f_X10_ones_B4 p0) FU ((0 : Int32), (0 : Int32))).bind fun q_6 =>
some (q_6.1)
set_option maxHeartbeats 4000000 in
set_option maxRecDepth 100000 in
theorem t_X10_ones {p0 : Int32} {r : Int32} (h : f_X10_ones p0 = some r) : v_R l B D ac (v_EE B wa wb wt sb sL sx) yX10_ones cX10_ones 3 (some .int) 1 0 0 [.int p0] S I J F (v_D (some (.int r)) S I J F) := by
  refine v_R.of (by decide) (Nat.le_of_ble_eq_true rfl) fun d hd => ?_
  generalize hQ : v_D (some (.int r)) S I J F = Q
  have b4 : ∀ (w0 : Int32) (s4 : Int32 × Int32) (rx4 : (Int32 × Int32) ⊕ (Int32 × Int32)), f_X10_ones_B4 w0 s4 = some rx4 → v_K (fun (sP : Int32 × Int32) => V l B D ac (v_EE B wa wb wt sb sL sx) yX10_ones cX10_ones 3 (some .int) d 0 0 0 0 S I J F 4 [(0, .int w0), (1, .int sP.1), (2, .int sP.2)] [] Q) (fun (rE : Int32 × Int32) => V l B D ac (v_EE B wa wb wt sb sL sx) yX10_ones cX10_ones 3 (some .int) d 0 0 0 0 S I J F 24 [(1, .int rE.1)] [] Q) rx4 → V l B D ac (v_EE B wa wb wt sb sL sx) yX10_ones cX10_ones 3 (some .int) d 0 0 0 0 S I J F 4 [(0, .int w0), (1, .int s4.1), (2, .int s4.2)] [] Q := by
    intro w0 s4 rx4 h hk
    unfold f_X10_ones_B4 at h
    refine v_iload_n dX10_ones_4 rfl ?_
    refine v_bipush (8 : Int32) dX10_ones_5 (by decide) ?_
    refine v_icmp_ge 24 dX10_ones_7 (by decide) (fun c_1 => ?_) (fun c_1 => ?_)
    · rw [if_pos c_1] at h
      cases h
      refine v_sub [(1, .int s4.1)] ⟨rfl, trivial⟩ ?_
      exact hk
    · rw [if_neg c_1] at h
      refine v_iload_n dX10_ones_10 rfl ?_
      refine v_iload_n dX10_ones_11 rfl ?_
      refine v_iload_n dX10_ones_12 rfl ?_
      refine v_ishr dX10_ones_13 ?_
      refine v_iconstE (1 : Int32) dX10_ones_14 (by decide) ?_
      refine v_iand dX10_ones_15 ?_
      refine v_iadd dX10_ones_16 ?_
      replace h := p_let_elim h
      obtain ⟨x_2, h_3, h⟩ := h
      rw [← h_3]
      refine v_istore_n dX10_ones_17 (by decide) ?_
      refine v_sub [(0, .int w0), (1, .int x_2), (2, .int s4.2)] ⟨rfl, rfl, rfl, trivial⟩ ?_
      replace h := p_let_elim h
      obtain ⟨x_4, h_5, h⟩ := h
      refine v_iincE (1 : Int32) dX10_ones_18 (by decide) rfl (by decide) ?_
      rw [← h_5]
      refine v_sub [(0, .int w0), (1, .int x_2), (2, .int x_4)] ⟨rfl, rfl, rfl, trivial⟩ ?_
      refine v_goto 4 dX10_ones_21 (by decide) ?_
      cases h
      refine v_sub [(0, .int w0), (1, .int x_2), (2, .int x_4)] ⟨rfl, rfl, rfl, trivial⟩ ?_
      exact hk
  unfold f_X10_ones at h
  refine v_sub [(0, .int p0)] ⟨rfl, trivial⟩ ?_
  refine v_iconstE (0 : Int32) dX10_ones_0 (by decide) ?_
  refine v_istore_n dX10_ones_1 (by decide) ?_
  refine v_sub [(0, .int p0), (1, .int (0 : Int32))] ⟨rfl, rfl, trivial⟩ ?_
  refine v_iconstE (0 : Int32) dX10_ones_2 (by decide) ?_
  refine v_istore_n dX10_ones_3 (by decide) ?_
  refine v_sub [(0, .int p0), (1, .int (0 : Int32)), (2, .int (0 : Int32))] ⟨rfl, rfl, rfl, trivial⟩ ?_
  replace h := p_bind_elim h
  obtain ⟨q_6, h_7, h⟩ := h
  refine v_sub [(0, .int p0), (1, .int (0 : Int32)), (2, .int (0 : Int32))] ⟨rfl, rfl, rfl, trivial⟩ ?_
  refine v_loopV (fun (sP : Int32 × Int32) => V l B D ac (v_EE B wa wb wt sb sL sx) yX10_ones cX10_ones 3 (some .int) d 0 0 0 0 S I J F 4 [(0, .int p0), (1, .int sP.1), (2, .int sP.2)] [] Q) (fun (rE : Int32 × Int32) => V l B D ac (v_EE B wa wb wt sb sL sx) yX10_ones cX10_ones 3 (some .int) d 0 0 0 0 S I J F 24 [(1, .int rE.1)] [] Q) (fun s_ x_ hb hk => b4 _ s_ x_ hb hk) (r := q_6) ?_ h_7
  try dsimp only
  refine v_iload_n dX10_ones_24 rfl ?_
  cases h
  exact v_iret dX10_ones_25 rfl (by decide) (by decide) (by rw [← hQ]; exact ⟨rfl, rfl, rfl, rfl, rfl⟩)

def f_X10_nearOf (S : v_S) (I : v_I) (F : v_F) (p0 : Nat) (p1 : Int32) : Option (Int32) :=
(p_ob S 10 p0).bind fun _ =>
(F p0 2).bind fun a_2 =>
(p_ix S 20 a_2 ((26 : Int32) + p1)).bind fun j_4 =>
(F p0 2).bind fun a_6 =>
(p_ix S 20 a_6 (0 : Int32)).bind fun j_8 =>
(f_X10_ones ((I a_2 j_4) &&& (I a_6 j_8))).bind fun r_10 =>
some (r_10)
set_option maxHeartbeats 4000000 in
set_option maxRecDepth 100000 in
theorem t_X10_nearOf {p0 : Nat} {p1 : Int32} {r : Int32} (h : f_X10_nearOf S I F p0 p1 = some r) : v_R l B D ac (v_EE B wa wb wt sb sL sx) yX10_nearOf cX10_nearOf 2 (some .int) 2 0 0 [.ref (B + p0), .int p1] S I J F (v_D (some (.int r)) S I J F) := by
  refine v_R.of (by decide) (Nat.le_of_ble_eq_true rfl) fun d hd => ?_
  generalize hQ : v_D (some (.int r)) S I J F = Q
  unfold f_X10_nearOf at h
  refine v_sub [(0, .ref (B + p0)), (1, .int p1)] ⟨rfl, rfl, trivial⟩ ?_
  refine v_aload_n dX10_nearOf_0 rfl ?_
  replace h := p_bind_elim h
  obtain ⟨_, q_1, h⟩ := h
  have q_1 := p_ob_spec q_1
  replace h := p_bind_elim h
  obtain ⟨a_2, q_3, h⟩ := h
  refine v_getR q_3 rfl fl_X10_28 dX10_nearOf_1 q_1 ?_
  refine v_bipush (26 : Int32) dX10_nearOf_4 (by decide) ?_
  refine v_iload_n dX10_nearOf_6 rfl ?_
  refine v_iadd dX10_nearOf_7 ?_
  replace h := p_bind_elim h
  obtain ⟨j_4, q_5, h⟩ := h
  refine v_ialdP dX10_nearOf_8 q_5 ?_
  refine v_aload_n dX10_nearOf_9 rfl ?_
  replace h := p_bind_elim h
  obtain ⟨a_6, q_7, h⟩ := h
  refine v_getR q_7 rfl fl_X10_28 dX10_nearOf_10 q_1 ?_
  refine v_iconstE (0 : Int32) dX10_nearOf_13 (by decide) ?_
  replace h := p_bind_elim h
  obtain ⟨j_8, q_9, h⟩ := h
  refine v_ialdP dX10_nearOf_14 q_9 ?_
  refine v_iand dX10_nearOf_15 ?_
  replace h := p_bind_elim h
  obtain ⟨r_10, q_11, h⟩ := h
  refine v_cSr (t_X10_ones q_11) cal_X10_ones ml_X10_313 sta_X10_ones dX10_nearOf_16 (by omega) (by decide) (by decide) (Nat.le_of_ble_eq_true rfl) rfl ?_
  cases h
  exact v_iret dX10_nearOf_19 rfl (by decide) (by decide) (by rw [← hQ]; exact ⟨rfl, rfl, rfl, rfl, rfl⟩)

def f_X10_setsAsked (S : v_S) (I : v_I) (F : v_F) (p0 : Nat) (p1 : Int32) : Option (v_I) :=
(p_ob S 10 p0).bind fun _ =>
(F p0 26).bind fun a_2 =>
(p_ix S 20 a_2 (0 : Int32)).bind fun j_4 =>
p_let (v_up I a_2 j_4 p1) fun I_6 =>
(F p0 26).bind fun a_8 =>
(F p0 2).bind fun a_10 =>
(p_ix S 20 a_10 ((18 : Int32) + p1)).bind fun j_12 =>
(p_ix S 20 a_8 (1 : Int32)).bind fun j_14 =>
p_let (v_up I_6 a_8 j_14 (I_6 a_10 j_12)) fun I_16 =>
(F p0 26).bind fun a_18 =>
(f_X10_nearOf S I_16 F p0 p1).bind fun r_20 =>
(p_ix S 20 a_18 (2 : Int32)).bind fun j_22 =>
p_let (v_up I_16 a_18 j_22 r_20) fun I_24 =>
(F p0 26).bind fun a_26 =>
(F p0 2).bind fun a_28 =>
(p_ix S 20 a_28 (47 : Int32)).bind fun j_30 =>
(p_ix S 20 a_26 (3 : Int32)).bind fun j_32 =>
p_let (v_up I_24 a_26 j_32 (I_24 a_28 j_30)) fun I_34 =>
(F p0 26).bind fun a_36 =>
(F p0 2).bind fun a_38 =>
(p_ix S 20 a_38 (48 : Int32)).bind fun j_40 =>
(p_ix S 20 a_36 (4 : Int32)).bind fun j_42 =>
p_let (v_up I_34 a_36 j_42 (I_34 a_38 j_40)) fun I_44 =>
(F p0 26).bind fun a_46 =>
(F p0 2).bind fun a_48 =>
(p_ix S 20 a_48 ((1 : Int32) + p1)).bind fun j_50 =>
(p_ix S 20 a_46 (5 : Int32)).bind fun j_52 =>
p_let (v_up I_44 a_46 j_52 (I_44 a_48 j_50)) fun I_54 =>
(F p0 26).bind fun a_56 =>
(F p0 2).bind fun a_58 =>
(p_ix S 20 a_58 ((9 : Int32) + p1)).bind fun j_60 =>
(p_ix S 20 a_56 (6 : Int32)).bind fun j_62 =>
p_let (v_up I_54 a_56 j_62 (I_54 a_58 j_60)) fun I_64 =>
(F p0 26).bind fun a_66 =>
(F p0 2).bind fun a_68 =>
(p_ix S 20 a_68 (0 : Int32)).bind fun j_70 =>
(f_X10_ones (I_64 a_68 j_70)).bind fun r_72 =>
(p_ix S 20 a_66 (7 : Int32)).bind fun j_74 =>
p_let (v_up I_64 a_66 j_74 r_72) fun I_76 =>
(F p0 26).bind fun a_78 =>
(F p0 2).bind fun a_80 =>
(p_ix S 20 a_80 (17 : Int32)).bind fun j_82 =>
(p_ix S 20 a_78 (8 : Int32)).bind fun j_84 =>
p_let (v_up I_76 a_78 j_84 (I_76 a_80 j_82)) fun I_86 =>
some (I_86)
set_option maxHeartbeats 4000000 in
set_option maxRecDepth 100000 in
theorem t_X10_setsAsked {p0 : Nat} {p1 : Int32} {r : v_I} (h : f_X10_setsAsked S I F p0 p1 = some r) : v_R l B D ac (v_EE B wa wb wt sb sL sx) yX10_setsAsked cX10_setsAsked 2 none 3 0 0 [.ref (B + p0), .int p1] S I J F (v_D none S r J F) := by
  refine v_R.of (by decide) (Nat.le_of_ble_eq_true rfl) fun d hd => ?_
  generalize hQ : v_D none S r J F = Q
  unfold f_X10_setsAsked at h
  refine v_sub [(0, .ref (B + p0)), (1, .int p1)] ⟨rfl, rfl, trivial⟩ ?_
  refine v_aload_n dX10_setsAsked_0 rfl ?_
  replace h := p_bind_elim h
  obtain ⟨_, q_1, h⟩ := h
  have q_1 := p_ob_spec q_1
  replace h := p_bind_elim h
  obtain ⟨a_2, q_3, h⟩ := h
  refine v_getR q_3 rfl fl_X10_63 dX10_setsAsked_1 q_1 ?_
  refine v_iconstE (0 : Int32) dX10_setsAsked_4 (by decide) ?_
  refine v_iload_n dX10_setsAsked_5 rfl ?_
  replace h := p_bind_elim h
  obtain ⟨j_4, q_5, h⟩ := h
  refine v_iastP dX10_setsAsked_6 q_5 ?_
  replace h := p_let_elim h
  obtain ⟨I_6, h_7, h⟩ := h
  rw [← h_7]
  refine v_aload_n dX10_setsAsked_7 rfl ?_
  replace h := p_bind_elim h
  obtain ⟨a_8, q_9, h⟩ := h
  refine v_getR q_9 rfl fl_X10_63 dX10_setsAsked_8 q_1 ?_
  refine v_iconstE (1 : Int32) dX10_setsAsked_11 (by decide) ?_
  refine v_aload_n dX10_setsAsked_12 rfl ?_
  replace h := p_bind_elim h
  obtain ⟨a_10, q_11, h⟩ := h
  refine v_getR q_11 rfl fl_X10_28 dX10_setsAsked_13 q_1 ?_
  refine v_bipush (18 : Int32) dX10_setsAsked_16 (by decide) ?_
  refine v_iload_n dX10_setsAsked_18 rfl ?_
  refine v_iadd dX10_setsAsked_19 ?_
  replace h := p_bind_elim h
  obtain ⟨j_12, q_13, h⟩ := h
  refine v_ialdP dX10_setsAsked_20 q_13 ?_
  replace h := p_bind_elim h
  obtain ⟨j_14, q_15, h⟩ := h
  refine v_iastP dX10_setsAsked_21 q_15 ?_
  replace h := p_let_elim h
  obtain ⟨I_16, h_17, h⟩ := h
  rw [← h_17]
  refine v_aload_n dX10_setsAsked_22 rfl ?_
  replace h := p_bind_elim h
  obtain ⟨a_18, q_19, h⟩ := h
  refine v_getR q_19 rfl fl_X10_63 dX10_setsAsked_23 q_1 ?_
  refine v_iconstE (2 : Int32) dX10_setsAsked_26 (by decide) ?_
  refine v_aload_n dX10_setsAsked_27 rfl ?_
  refine v_iload_n dX10_setsAsked_28 rfl ?_
  replace h := p_bind_elim h
  obtain ⟨r_20, q_21, h⟩ := h
  refine v_cVr (t_X10_nearOf q_21) cal_X10_nearOf ml_X10_334 sel_X10_nearOf q_1 kk_10 dX10_setsAsked_29 (by omega) (by decide) (by decide) (Nat.le_of_ble_eq_true rfl) rfl ?_
  replace h := p_bind_elim h
  obtain ⟨j_22, q_23, h⟩ := h
  refine v_iastP dX10_setsAsked_32 q_23 ?_
  replace h := p_let_elim h
  obtain ⟨I_24, h_25, h⟩ := h
  rw [← h_25]
  refine v_aload_n dX10_setsAsked_33 rfl ?_
  replace h := p_bind_elim h
  obtain ⟨a_26, q_27, h⟩ := h
  refine v_getR q_27 rfl fl_X10_63 dX10_setsAsked_34 q_1 ?_
  refine v_iconstE (3 : Int32) dX10_setsAsked_37 (by decide) ?_
  refine v_aload_n dX10_setsAsked_38 rfl ?_
  replace h := p_bind_elim h
  obtain ⟨a_28, q_29, h⟩ := h
  refine v_getR q_29 rfl fl_X10_28 dX10_setsAsked_39 q_1 ?_
  refine v_bipush (47 : Int32) dX10_setsAsked_42 (by decide) ?_
  replace h := p_bind_elim h
  obtain ⟨j_30, q_31, h⟩ := h
  refine v_ialdP dX10_setsAsked_44 q_31 ?_
  replace h := p_bind_elim h
  obtain ⟨j_32, q_33, h⟩ := h
  refine v_iastP dX10_setsAsked_45 q_33 ?_
  replace h := p_let_elim h
  obtain ⟨I_34, h_35, h⟩ := h
  rw [← h_35]
  refine v_aload_n dX10_setsAsked_46 rfl ?_
  replace h := p_bind_elim h
  obtain ⟨a_36, q_37, h⟩ := h
  refine v_getR q_37 rfl fl_X10_63 dX10_setsAsked_47 q_1 ?_
  refine v_iconstE (4 : Int32) dX10_setsAsked_50 (by decide) ?_
  refine v_aload_n dX10_setsAsked_51 rfl ?_
  replace h := p_bind_elim h
  obtain ⟨a_38, q_39, h⟩ := h
  refine v_getR q_39 rfl fl_X10_28 dX10_setsAsked_52 q_1 ?_
  refine v_bipush (48 : Int32) dX10_setsAsked_55 (by decide) ?_
  replace h := p_bind_elim h
  obtain ⟨j_40, q_41, h⟩ := h
  refine v_ialdP dX10_setsAsked_57 q_41 ?_
  replace h := p_bind_elim h
  obtain ⟨j_42, q_43, h⟩ := h
  refine v_iastP dX10_setsAsked_58 q_43 ?_
  replace h := p_let_elim h
  obtain ⟨I_44, h_45, h⟩ := h
  rw [← h_45]
  refine v_aload_n dX10_setsAsked_59 rfl ?_
  replace h := p_bind_elim h
  obtain ⟨a_46, q_47, h⟩ := h
  refine v_getR q_47 rfl fl_X10_63 dX10_setsAsked_60 q_1 ?_
  refine v_iconstE (5 : Int32) dX10_setsAsked_63 (by decide) ?_
  refine v_aload_n dX10_setsAsked_64 rfl ?_
  replace h := p_bind_elim h
  obtain ⟨a_48, q_49, h⟩ := h
  refine v_getR q_49 rfl fl_X10_28 dX10_setsAsked_65 q_1 ?_
  refine v_iconstE (1 : Int32) dX10_setsAsked_68 (by decide) ?_
  refine v_iload_n dX10_setsAsked_69 rfl ?_
  refine v_iadd dX10_setsAsked_70 ?_
  replace h := p_bind_elim h
  obtain ⟨j_50, q_51, h⟩ := h
  refine v_ialdP dX10_setsAsked_71 q_51 ?_
  replace h := p_bind_elim h
  obtain ⟨j_52, q_53, h⟩ := h
  refine v_iastP dX10_setsAsked_72 q_53 ?_
  replace h := p_let_elim h
  obtain ⟨I_54, h_55, h⟩ := h
  rw [← h_55]
  refine v_aload_n dX10_setsAsked_73 rfl ?_
  replace h := p_bind_elim h
  obtain ⟨a_56, q_57, h⟩ := h
  refine v_getR q_57 rfl fl_X10_63 dX10_setsAsked_74 q_1 ?_
  refine v_bipush (6 : Int32) dX10_setsAsked_77 (by decide) ?_
  refine v_aload_n dX10_setsAsked_79 rfl ?_
  replace h := p_bind_elim h
  obtain ⟨a_58, q_59, h⟩ := h
  refine v_getR q_59 rfl fl_X10_28 dX10_setsAsked_80 q_1 ?_
  refine v_bipush (9 : Int32) dX10_setsAsked_83 (by decide) ?_
  refine v_iload_n dX10_setsAsked_85 rfl ?_
  refine v_iadd dX10_setsAsked_86 ?_
  replace h := p_bind_elim h
  obtain ⟨j_60, q_61, h⟩ := h
  refine v_ialdP dX10_setsAsked_87 q_61 ?_
  replace h := p_bind_elim h
  obtain ⟨j_62, q_63, h⟩ := h
  refine v_iastP dX10_setsAsked_88 q_63 ?_
  replace h := p_let_elim h
  obtain ⟨I_64, h_65, h⟩ := h
  rw [← h_65]
  refine v_aload_n dX10_setsAsked_89 rfl ?_
  replace h := p_bind_elim h
  obtain ⟨a_66, q_67, h⟩ := h
  refine v_getR q_67 rfl fl_X10_63 dX10_setsAsked_90 q_1 ?_
  refine v_bipush (7 : Int32) dX10_setsAsked_93 (by decide) ?_
  refine v_aload_n dX10_setsAsked_95 rfl ?_
  replace h := p_bind_elim h
  obtain ⟨a_68, q_69, h⟩ := h
  refine v_getR q_69 rfl fl_X10_28 dX10_setsAsked_96 q_1 ?_
  refine v_iconstE (0 : Int32) dX10_setsAsked_99 (by decide) ?_
  replace h := p_bind_elim h
  obtain ⟨j_70, q_71, h⟩ := h
  refine v_ialdP dX10_setsAsked_100 q_71 ?_
  replace h := p_bind_elim h
  obtain ⟨r_72, q_73, h⟩ := h
  refine v_cSr (t_X10_ones q_73) cal_X10_ones ml_X10_313 sta_X10_ones dX10_setsAsked_101 (by omega) (by decide) (by decide) (Nat.le_of_ble_eq_true rfl) rfl ?_
  replace h := p_bind_elim h
  obtain ⟨j_74, q_75, h⟩ := h
  refine v_iastP dX10_setsAsked_104 q_75 ?_
  replace h := p_let_elim h
  obtain ⟨I_76, h_77, h⟩ := h
  rw [← h_77]
  refine v_aload_n dX10_setsAsked_105 rfl ?_
  replace h := p_bind_elim h
  obtain ⟨a_78, q_79, h⟩ := h
  refine v_getR q_79 rfl fl_X10_63 dX10_setsAsked_106 q_1 ?_
  refine v_bipush (8 : Int32) dX10_setsAsked_109 (by decide) ?_
  refine v_aload_n dX10_setsAsked_111 rfl ?_
  replace h := p_bind_elim h
  obtain ⟨a_80, q_81, h⟩ := h
  refine v_getR q_81 rfl fl_X10_28 dX10_setsAsked_112 q_1 ?_
  refine v_bipush (17 : Int32) dX10_setsAsked_115 (by decide) ?_
  replace h := p_bind_elim h
  obtain ⟨j_82, q_83, h⟩ := h
  refine v_ialdP dX10_setsAsked_117 q_83 ?_
  replace h := p_bind_elim h
  obtain ⟨j_84, q_85, h⟩ := h
  refine v_iastP dX10_setsAsked_118 q_85 ?_
  replace h := p_let_elim h
  obtain ⟨I_86, h_87, h⟩ := h
  rw [← h_87]
  cases h
  exact v_vret dX10_setsAsked_119 rfl (by decide) (by decide) (by rw [← hQ]; exact ⟨rfl, rfl, rfl, rfl, rfl⟩)

def f_X10_bounded_J25 (S : v_S) (I : v_I) (y0 : Nat) (y1 : Int64) : Option (Int64 × v_I) :=
(p_ob S 10 y0).bind fun _ =>
if (I y0 24) = (0 : Int32) then (
some (y1, I))
else (
some ((0 : Int64), I))
def f_X10_bounded_J20 (S : v_S) (I : v_I) (y0 : Nat) (y1 : Int64) : Option (Int64 × v_I) :=
(p_ob S 10 y0).bind fun _ =>
p_let (v_up I y0 24 (1 : Int32)) fun I_6 =>
f_X10_bounded_J25 S I_6 y0 y1
def f_X10_bounded (S : v_S) (I : v_I) (p0 : Nat) (p1 : Int64) (p3 : Int32) : Option (Int64 × v_I) :=
if p3 = (0 : Int32) then (
f_X10_bounded_J25 S I p0 p1)
else (
if (0 : Int32) < (lg_cmp p1 (1000000000 : Int64)) then (
f_X10_bounded_J20 S I p0 p1)
else (
if (0 : Int32) ≤ (lg_cmp p1 (-1000000000 : Int64)) then (
f_X10_bounded_J25 S I p0 p1)
else (
f_X10_bounded_J20 S I p0 p1)))
set_option maxHeartbeats 4000000 in
set_option maxRecDepth 100000 in
theorem t_X10_bounded {p0 : Nat} {p1 : Int64} {p3 : Int32} {r : Int64 × v_I} (h : f_X10_bounded S I p0 p1 p3 = some r) : v_R l B D ac (v_EE B wa wb wt sb sL sx) yX10_bounded cX10_bounded 4 (some .long) 1 0 0 [.ref (B + p0), .long p1, .int p3] S I J F (v_D (some (.long r.1)) S r.2 J F) := by
  refine v_R.of (by decide) (Nat.le_of_ble_eq_true rfl) fun d hd => ?_
  generalize hQ : v_D (some (.long r.1)) S r.2 J F = Q
  have j25 : ∀ (I : v_I) (y0 : Nat) (y1 : Int64), f_X10_bounded_J25 S I y0 y1 = some r → V l B D ac (v_EE B wa wb wt sb sL sx) yX10_bounded cX10_bounded 4 (some .long) d 0 0 0 0 S I J F 25 [(0, .ref (B + y0)), (1, .long y1)] [] Q := by
    intro I y0 y1 h
    unfold f_X10_bounded_J25 at h
    refine v_aload_n dX10_bounded_25 rfl ?_
    replace h := p_bind_elim h
    obtain ⟨_, q_2, h⟩ := h
    have q_2 := p_ob_spec q_2
    refine v_getI rfl fl_X10_287 dX10_bounded_26 q_2 ?_
    refine v_if_eq 36 dX10_bounded_29 (by decide) (fun c_3 => ?_) (fun c_3 => ?_)
    · rw [if_pos c_3] at h
      refine v_lload_n dX10_bounded_36 rfl ?_
      cases h
      exact v_lret dX10_bounded_37 rfl (by decide) (by decide) (by rw [← hQ]; exact ⟨rfl, rfl, rfl, rfl, rfl⟩)
    · rw [if_neg c_3] at h
      refine v_lconst (0 : Int64) dX10_bounded_32 (by decide) ?_
      refine v_goto 37 dX10_bounded_33 (by decide) ?_
      cases h
      exact v_lret dX10_bounded_37 rfl (by decide) (by decide) (by rw [← hQ]; exact ⟨rfl, rfl, rfl, rfl, rfl⟩)
  have j20 : ∀ (I : v_I) (y0 : Nat) (y1 : Int64), f_X10_bounded_J20 S I y0 y1 = some r → V l B D ac (v_EE B wa wb wt sb sL sx) yX10_bounded cX10_bounded 4 (some .long) d 0 0 0 0 S I J F 20 [(0, .ref (B + y0)), (1, .long y1)] [] Q := by
    intro I y0 y1 h
    unfold f_X10_bounded_J20 at h
    refine v_aload_n dX10_bounded_20 rfl ?_
    refine v_iconstE (1 : Int32) dX10_bounded_21 (by decide) ?_
    replace h := p_bind_elim h
    obtain ⟨_, q_5, h⟩ := h
    have q_5 := p_ob_spec q_5
    refine v_putI rfl fl_X10_287 dX10_bounded_22 q_5 rfl rfl ?_
    replace h := p_let_elim h
    obtain ⟨I_6, h_7, h⟩ := h
    rw [← h_7]
    refine v_sub [(0, .ref (B + y0)), (1, .long y1)] ⟨rfl, rfl, trivial⟩ ?_
    exact j25 _ _ _ h
  unfold f_X10_bounded at h
  refine v_sub [(0, .ref (B + p0)), (1, .long p1), (3, .int p3)] ⟨rfl, rfl, rfl, trivial⟩ ?_
  refine v_iload_n dX10_bounded_0 rfl ?_
  refine v_if_eq 25 dX10_bounded_1 (by decide) (fun c_1 => ?_) (fun c_1 => ?_)
  · rw [if_pos c_1] at h
    refine v_sub [(0, .ref (B + p0)), (1, .long p1)] ⟨rfl, rfl, trivial⟩ ?_
    exact j25 _ _ _ h
  · rw [if_neg c_1] at h
    refine v_lload_n dX10_bounded_4 rfl ?_
    refine v_ldc2 (1000000000 : Int64) dX10_bounded_5 kn_X10_283 ?_
    refine v_lcmp dX10_bounded_8 ?_
    refine v_if_gt 20 dX10_bounded_9 (by decide) (fun c_4 => ?_) (fun c_4 => ?_)
    · rw [if_pos c_4] at h
      refine v_sub [(0, .ref (B + p0)), (1, .long p1)] ⟨rfl, rfl, trivial⟩ ?_
      exact j20 _ _ _ h
    · rw [if_neg c_4] at h
      refine v_lload_n dX10_bounded_12 rfl ?_
      refine v_ldc2 (-1000000000 : Int64) dX10_bounded_13 kn_X10_285 ?_
      refine v_lcmp dX10_bounded_16 ?_
      refine v_if_ge 25 dX10_bounded_17 (by decide) (fun c_8 => ?_) (fun c_8 => ?_)
      · rw [if_pos c_8] at h
        refine v_sub [(0, .ref (B + p0)), (1, .long p1)] ⟨rfl, rfl, trivial⟩ ?_
        exact j25 _ _ _ h
      · rw [if_neg c_8] at h
        refine v_sub [(0, .ref (B + p0)), (1, .long p1)] ⟨rfl, rfl, trivial⟩ ?_
        exact j20 _ _ _ h

def f_X10_sign (p0 : Int32) : Option (Int32) :=
some ((100 : Int32) + p0)
set_option maxHeartbeats 4000000 in
set_option maxRecDepth 100000 in
theorem t_X10_sign {p0 : Int32} {r : Int32} (h : f_X10_sign p0 = some r) : v_R l B D ac (v_EE B wa wb wt sb sL sx) yX10_sign cX10_sign 1 (some .int) 1 0 0 [.int p0] S I J F (v_D (some (.int r)) S I J F) := by
  refine v_R.of (by decide) (Nat.le_of_ble_eq_true rfl) fun d hd => ?_
  generalize hQ : v_D (some (.int r)) S I J F = Q
  unfold f_X10_sign at h
  refine v_sub [(0, .int p0)] ⟨rfl, trivial⟩ ?_
  refine v_bipush (100 : Int32) dX10_sign_0 (by decide) ?_
  refine v_iload_n dX10_sign_2 rfl ?_
  refine v_iadd dX10_sign_3 ?_
  cases h
  exact v_iret dX10_sign_4 rfl (by decide) (by decide) (by rw [← hQ]; exact ⟨rfl, rfl, rfl, rfl, rfl⟩)

def f_X10_orderValue (S : v_S) (I : v_I) (F : v_F) (p0 : Nat) (p1 : Int32) (p2 : Int32) : Option (Int32) :=
if p1 = (13 : Int32) then (
(p_ob S 10 p0).bind fun _ =>
(f_X10_isOne S I F p0 p2).bind fun r_1 =>
if r_1 = (0 : Int32) then (
some ((-1 : Int32)))
else (
(F p0 2).bind fun a_5 =>
(p_ix S 20 a_5 ((1 : Int32) + p2)).bind fun j_7 =>
some (I a_5 j_7)))
else if p1 = (14 : Int32) then (
(p_ob S 10 p0).bind fun _ =>
(f_X10_isOne S I F p0 p2).bind fun r_9 =>
if r_9 = (0 : Int32) then (
some ((-1 : Int32)))
else (
(F p0 2).bind fun a_13 =>
(p_ix S 20 a_13 ((9 : Int32) + p2)).bind fun j_15 =>
some (I a_13 j_15)))
else if p1 = (15 : Int32) then (
(p_ob S 10 p0).bind fun _ =>
(F p0 2).bind fun a_18 =>
(p_ix S 20 a_18 (0 : Int32)).bind fun j_20 =>
(f_X10_ones (I a_18 j_20)).bind fun r_22 =>
some (r_22))
else if p1 = (16 : Int32) then (
(p_ob S 10 p0).bind fun _ =>
(F p0 2).bind fun a_25 =>
(p_ix S 20 a_25 (17 : Int32)).bind fun j_27 =>
some (I a_25 j_27))
else if p1 = (17 : Int32) then (
(p_ob S 10 p0).bind fun _ =>
some (I p0 27))
else if p1 = (18 : Int32) then (
(p_ob S 10 p0).bind fun _ =>
some (I p0 28))
else if p1 = (19 : Int32) then (
(p_ob S 10 p0).bind fun _ =>
(f_X10_isOne S I F p0 p2).bind fun r_31 =>
if r_31 = (0 : Int32) then (
some ((-1 : Int32)))
else (
(f_X10_isOpen S I F p0 p2).bind fun r_35 =>
if r_35 = (0 : Int32) then (
some ((0 : Int32)))
else (
some ((1 : Int32)))))
else (
(p_ob S 10 p0).bind fun _ =>
some (I p0 28))
set_option maxHeartbeats 4000000 in
set_option maxRecDepth 100000 in
theorem t_X10_orderValue {p0 : Nat} {p1 : Int32} {p2 : Int32} {r : Int32} (h : f_X10_orderValue S I F p0 p1 p2 = some r) : v_R l B D ac (v_EE B wa wb wt sb sL sx) yX10_orderValue cX10_orderValue 3 (some .int) 3 0 0 [.ref (B + p0), .int p1, .int p2] S I J F (v_D (some (.int r)) S I J F) := by
  refine v_R.of (by decide) (Nat.le_of_ble_eq_true rfl) fun d hd => ?_
  generalize hQ : v_D (some (.int r)) S I J F = Q
  unfold f_X10_orderValue at h
  refine v_sub [(0, .ref (B + p0)), (1, .int p1), (2, .int p2)] ⟨rfl, rfl, rfl, trivial⟩ ?_
  refine v_iload_n dX10_orderValue_0 rfl ?_
  by_cases c_39 : p1 = (13 : Int32)
  · rw [if_pos c_39] at h
    refine v_swIn 44 (13 : Int32) c_39 dX10_orderValue_1 (by decide) (by decide) rfl (by decide) ?_
    refine v_aload_n dX10_orderValue_44 rfl ?_
    refine v_iload_n dX10_orderValue_45 rfl ?_
    replace h := p_bind_elim h
    obtain ⟨_, q_3, h⟩ := h
    have q_3 := p_ob_spec q_3
    replace h := p_bind_elim h
    obtain ⟨r_1, q_2, h⟩ := h
    refine v_cVr (t_X10_isOne q_2) cal_X10_isOne ml_X10_128 sel_X10_isOne q_3 kk_10 dX10_orderValue_46 (by omega) (by decide) (by decide) (Nat.le_of_ble_eq_true rfl) rfl ?_
    refine v_if_eq 63 dX10_orderValue_49 (by decide) (fun c_4 => ?_) (fun c_4 => ?_)
    · rw [if_pos c_4] at h
      refine v_iconstE (-1 : Int32) dX10_orderValue_63 (by decide) ?_
      cases h
      exact v_iret dX10_orderValue_64 rfl (by decide) (by decide) (by rw [← hQ]; exact ⟨rfl, rfl, rfl, rfl, rfl⟩)
    · rw [if_neg c_4] at h
      refine v_aload_n dX10_orderValue_52 rfl ?_
      replace h := p_bind_elim h
      obtain ⟨a_5, q_6, h⟩ := h
      refine v_getR q_6 rfl fl_X10_28 dX10_orderValue_53 q_3 ?_
      refine v_iconstE (1 : Int32) dX10_orderValue_56 (by decide) ?_
      refine v_iload_n dX10_orderValue_57 rfl ?_
      refine v_iadd dX10_orderValue_58 ?_
      replace h := p_bind_elim h
      obtain ⟨j_7, q_8, h⟩ := h
      refine v_ialdP dX10_orderValue_59 q_8 ?_
      refine v_goto 64 dX10_orderValue_60 (by decide) ?_
      cases h
      exact v_iret dX10_orderValue_64 rfl (by decide) (by decide) (by rw [← hQ]; exact ⟨rfl, rfl, rfl, rfl, rfl⟩)
  · rw [if_neg c_39] at h
    by_cases c_40 : p1 = (14 : Int32)
    · rw [if_pos c_40] at h
      refine v_swIn 65 (14 : Int32) c_40 dX10_orderValue_1 (by decide) (by decide) rfl (by decide) ?_
      refine v_aload_n dX10_orderValue_65 rfl ?_
      refine v_iload_n dX10_orderValue_66 rfl ?_
      replace h := p_bind_elim h
      obtain ⟨_, q_11, h⟩ := h
      have q_11 := p_ob_spec q_11
      replace h := p_bind_elim h
      obtain ⟨r_9, q_10, h⟩ := h
      refine v_cVr (t_X10_isOne q_10) cal_X10_isOne ml_X10_128 sel_X10_isOne q_11 kk_10 dX10_orderValue_67 (by omega) (by decide) (by decide) (Nat.le_of_ble_eq_true rfl) rfl ?_
      refine v_if_eq 85 dX10_orderValue_70 (by decide) (fun c_12 => ?_) (fun c_12 => ?_)
      · rw [if_pos c_12] at h
        refine v_iconstE (-1 : Int32) dX10_orderValue_85 (by decide) ?_
        cases h
        exact v_iret dX10_orderValue_86 rfl (by decide) (by decide) (by rw [← hQ]; exact ⟨rfl, rfl, rfl, rfl, rfl⟩)
      · rw [if_neg c_12] at h
        refine v_aload_n dX10_orderValue_73 rfl ?_
        replace h := p_bind_elim h
        obtain ⟨a_13, q_14, h⟩ := h
        refine v_getR q_14 rfl fl_X10_28 dX10_orderValue_74 q_11 ?_
        refine v_bipush (9 : Int32) dX10_orderValue_77 (by decide) ?_
        refine v_iload_n dX10_orderValue_79 rfl ?_
        refine v_iadd dX10_orderValue_80 ?_
        replace h := p_bind_elim h
        obtain ⟨j_15, q_16, h⟩ := h
        refine v_ialdP dX10_orderValue_81 q_16 ?_
        refine v_goto 86 dX10_orderValue_82 (by decide) ?_
        cases h
        exact v_iret dX10_orderValue_86 rfl (by decide) (by decide) (by rw [← hQ]; exact ⟨rfl, rfl, rfl, rfl, rfl⟩)
    · rw [if_neg c_40] at h
      by_cases c_41 : p1 = (15 : Int32)
      · rw [if_pos c_41] at h
        refine v_swIn 113 (15 : Int32) c_41 dX10_orderValue_1 (by decide) (by decide) rfl (by decide) ?_
        refine v_aload_n dX10_orderValue_113 rfl ?_
        replace h := p_bind_elim h
        obtain ⟨_, q_17, h⟩ := h
        have q_17 := p_ob_spec q_17
        replace h := p_bind_elim h
        obtain ⟨a_18, q_19, h⟩ := h
        refine v_getR q_19 rfl fl_X10_28 dX10_orderValue_114 q_17 ?_
        refine v_iconstE (0 : Int32) dX10_orderValue_117 (by decide) ?_
        replace h := p_bind_elim h
        obtain ⟨j_20, q_21, h⟩ := h
        refine v_ialdP dX10_orderValue_118 q_21 ?_
        replace h := p_bind_elim h
        obtain ⟨r_22, q_23, h⟩ := h
        refine v_cSr (t_X10_ones q_23) cal_X10_ones ml_X10_313 sta_X10_ones dX10_orderValue_119 (by omega) (by decide) (by decide) (Nat.le_of_ble_eq_true rfl) rfl ?_
        cases h
        exact v_iret dX10_orderValue_122 rfl (by decide) (by decide) (by rw [← hQ]; exact ⟨rfl, rfl, rfl, rfl, rfl⟩)
      · rw [if_neg c_41] at h
        by_cases c_42 : p1 = (16 : Int32)
        · rw [if_pos c_42] at h
          refine v_swIn 123 (16 : Int32) c_42 dX10_orderValue_1 (by decide) (by decide) rfl (by decide) ?_
          refine v_aload_n dX10_orderValue_123 rfl ?_
          replace h := p_bind_elim h
          obtain ⟨_, q_24, h⟩ := h
          have q_24 := p_ob_spec q_24
          replace h := p_bind_elim h
          obtain ⟨a_25, q_26, h⟩ := h
          refine v_getR q_26 rfl fl_X10_28 dX10_orderValue_124 q_24 ?_
          refine v_bipush (17 : Int32) dX10_orderValue_127 (by decide) ?_
          replace h := p_bind_elim h
          obtain ⟨j_27, q_28, h⟩ := h
          refine v_ialdP dX10_orderValue_129 q_28 ?_
          cases h
          exact v_iret dX10_orderValue_130 rfl (by decide) (by decide) (by rw [← hQ]; exact ⟨rfl, rfl, rfl, rfl, rfl⟩)
        · rw [if_neg c_42] at h
          by_cases c_43 : p1 = (17 : Int32)
          · rw [if_pos c_43] at h
            refine v_swIn 131 (17 : Int32) c_43 dX10_orderValue_1 (by decide) (by decide) rfl (by decide) ?_
            refine v_aload_n dX10_orderValue_131 rfl ?_
            replace h := p_bind_elim h
            obtain ⟨_, q_29, h⟩ := h
            have q_29 := p_ob_spec q_29
            refine v_getI rfl fl_X10_316 dX10_orderValue_132 q_29 ?_
            cases h
            exact v_iret dX10_orderValue_135 rfl (by decide) (by decide) (by rw [← hQ]; exact ⟨rfl, rfl, rfl, rfl, rfl⟩)
          · rw [if_neg c_43] at h
            by_cases c_44 : p1 = (18 : Int32)
            · rw [if_pos c_44] at h
              refine v_swIn 136 (18 : Int32) c_44 dX10_orderValue_1 (by decide) (by decide) rfl (by decide) ?_
              refine v_aload_n dX10_orderValue_136 rfl ?_
              replace h := p_bind_elim h
              obtain ⟨_, q_30, h⟩ := h
              have q_30 := p_ob_spec q_30
              refine v_getI rfl fl_X10_319 dX10_orderValue_137 q_30 ?_
              cases h
              exact v_iret dX10_orderValue_140 rfl (by decide) (by decide) (by rw [← hQ]; exact ⟨rfl, rfl, rfl, rfl, rfl⟩)
            · rw [if_neg c_44] at h
              by_cases c_45 : p1 = (19 : Int32)
              · rw [if_pos c_45] at h
                refine v_swIn 87 (19 : Int32) c_45 dX10_orderValue_1 (by decide) (by decide) rfl (by decide) ?_
                refine v_aload_n dX10_orderValue_87 rfl ?_
                refine v_iload_n dX10_orderValue_88 rfl ?_
                replace h := p_bind_elim h
                obtain ⟨_, q_33, h⟩ := h
                have q_33 := p_ob_spec q_33
                replace h := p_bind_elim h
                obtain ⟨r_31, q_32, h⟩ := h
                refine v_cVr (t_X10_isOne q_32) cal_X10_isOne ml_X10_128 sel_X10_isOne q_33 kk_10 dX10_orderValue_89 (by omega) (by decide) (by decide) (Nat.le_of_ble_eq_true rfl) rfl ?_
                refine v_if_ne 99 dX10_orderValue_92 (by decide) (fun c_34 => ?_) (fun c_34 => ?_)
                · rw [if_neg c_34] at h
                  refine v_aload_n dX10_orderValue_99 rfl ?_
                  refine v_iload_n dX10_orderValue_100 rfl ?_
                  replace h := p_bind_elim h
                  obtain ⟨r_35, q_36, h⟩ := h
                  refine v_cVr (t_X10_isOpen q_36) cal_X10_isOpen ml_X10_131 sel_X10_isOpen q_33 kk_10 dX10_orderValue_101 (by omega) (by decide) (by decide) (Nat.le_of_ble_eq_true rfl) rfl ?_
                  refine v_if_eq 111 dX10_orderValue_104 (by decide) (fun c_37 => ?_) (fun c_37 => ?_)
                  · rw [if_pos c_37] at h
                    refine v_iconstE (0 : Int32) dX10_orderValue_111 (by decide) ?_
                    cases h
                    exact v_iret dX10_orderValue_112 rfl (by decide) (by decide) (by rw [← hQ]; exact ⟨rfl, rfl, rfl, rfl, rfl⟩)
                  · rw [if_neg c_37] at h
                    refine v_iconstE (1 : Int32) dX10_orderValue_107 (by decide) ?_
                    refine v_goto 112 dX10_orderValue_108 (by decide) ?_
                    cases h
                    exact v_iret dX10_orderValue_112 rfl (by decide) (by decide) (by rw [← hQ]; exact ⟨rfl, rfl, rfl, rfl, rfl⟩)
                · rw [if_pos c_34] at h
                  refine v_iconstE (-1 : Int32) dX10_orderValue_95 (by decide) ?_
                  refine v_goto 112 dX10_orderValue_96 (by decide) ?_
                  cases h
                  exact v_iret dX10_orderValue_112 rfl (by decide) (by decide) (by rw [← hQ]; exact ⟨rfl, rfl, rfl, rfl, rfl⟩)
              · rw [if_neg c_45] at h
                refine v_tableOut 136 dX10_orderValue_1 (p_sw_out (fun k h1 h2 => by have h3 : k = 13 ∨ k = 14 ∨ k = 15 ∨ k = 16 ∨ k = 17 ∨ k = 18 ∨ k = 19 := (by omega); rcases h3 with rfl | rfl | rfl | rfl | rfl | rfl | rfl <;> first | exact c_39 | exact c_40 | exact c_41 | exact c_42 | exact c_43 | exact c_44 | exact c_45)) (by decide) ?_
                refine v_aload_n dX10_orderValue_136 rfl ?_
                replace h := p_bind_elim h
                obtain ⟨_, q_38, h⟩ := h
                have q_38 := p_ob_spec q_38
                refine v_getI rfl fl_X10_319 dX10_orderValue_137 q_38 ?_
                cases h
                exact v_iret dX10_orderValue_140 rfl (by decide) (by decide) (by rw [← hQ]; exact ⟨rfl, rfl, rfl, rfl, rfl⟩)

def f_X10_isTerm (p0 : Int32) (p1 : Int32) : Option (Int32) :=
if p0 = (0 : Int32) then (
(f_X10_lies p1 (0 : Int32) (999 : Int32)).bind fun r_1 =>
(p_bl r_1).bind fun _ =>
some (r_1))
else if p0 = (1 : Int32) then (
(f_X10_lies p1 (0 : Int32) (10 : Int32)).bind fun r_4 =>
(p_bl r_4).bind fun _ =>
some (r_4))
else if p0 = (2 : Int32) then (
(f_X10_isNine p1).bind fun r_7 =>
(p_bl r_7).bind fun _ =>
some (r_7))
else if p0 = (3 : Int32) then (
(f_X10_isNine p1).bind fun r_10 =>
(p_bl r_10).bind fun _ =>
some (r_10))
else (
some ((0 : Int32)))
set_option maxHeartbeats 4000000 in
set_option maxRecDepth 100000 in
theorem t_X10_isTerm {p0 : Int32} {p1 : Int32} {r : Int32} (h : f_X10_isTerm p0 p1 = some r) : v_R l B D ac (v_EE B wa wb wt sb sL sx) yX10_isTerm cX10_isTerm 2 (some .boolean) 3 0 0 [.int p0, .int p1] S I J F (v_D (some (.int r)) S I J F) := by
  refine v_R.of (by decide) (Nat.le_of_ble_eq_true rfl) fun d hd => ?_
  generalize hQ : v_D (some (.int r)) S I J F = Q
  unfold f_X10_isTerm at h
  refine v_sub [(0, .int p0), (1, .int p1)] ⟨rfl, rfl, trivial⟩ ?_
  refine v_iload_n dX10_isTerm_0 rfl ?_
  by_cases c_13 : p0 = (0 : Int32)
  · rw [if_pos c_13] at h
    refine v_swIn 32 (0 : Int32) c_13 dX10_isTerm_1 (by decide) (by decide) rfl (by decide) ?_
    refine v_iload_n dX10_isTerm_32 rfl ?_
    refine v_iconstE (0 : Int32) dX10_isTerm_33 (by decide) ?_
    refine v_sipush (999 : Int32) dX10_isTerm_34 (by decide) ?_
    replace h := p_bind_elim h
    obtain ⟨r_1, q_2, h⟩ := h
    refine v_cSr (t_X10_lies q_2) cal_X10_lies ml_X10_18 sta_X10_lies dX10_isTerm_37 (by omega) (by decide) (by decide) (Nat.le_of_ble_eq_true rfl) rfl ?_
    replace h := p_bind_elim h
    obtain ⟨_, q_3, h⟩ := h
    cases h
    exact v_zret dX10_isTerm_40 rfl (p_bl_spec q_3).1 (by decide) (by decide) (by rw [← hQ]; exact ⟨rfl, rfl, rfl, rfl, rfl⟩)
  · rw [if_neg c_13] at h
    by_cases c_14 : p0 = (1 : Int32)
    · rw [if_pos c_14] at h
      refine v_swIn 41 (1 : Int32) c_14 dX10_isTerm_1 (by decide) (by decide) rfl (by decide) ?_
      refine v_iload_n dX10_isTerm_41 rfl ?_
      refine v_iconstE (0 : Int32) dX10_isTerm_42 (by decide) ?_
      refine v_bipush (10 : Int32) dX10_isTerm_43 (by decide) ?_
      replace h := p_bind_elim h
      obtain ⟨r_4, q_5, h⟩ := h
      refine v_cSr (t_X10_lies q_5) cal_X10_lies ml_X10_18 sta_X10_lies dX10_isTerm_45 (by omega) (by decide) (by decide) (Nat.le_of_ble_eq_true rfl) rfl ?_
      replace h := p_bind_elim h
      obtain ⟨_, q_6, h⟩ := h
      cases h
      exact v_zret dX10_isTerm_48 rfl (p_bl_spec q_6).1 (by decide) (by decide) (by rw [← hQ]; exact ⟨rfl, rfl, rfl, rfl, rfl⟩)
    · rw [if_neg c_14] at h
      by_cases c_15 : p0 = (2 : Int32)
      · rw [if_pos c_15] at h
        refine v_swIn 49 (2 : Int32) c_15 dX10_isTerm_1 (by decide) (by decide) rfl (by decide) ?_
        refine v_iload_n dX10_isTerm_49 rfl ?_
        replace h := p_bind_elim h
        obtain ⟨r_7, q_8, h⟩ := h
        refine v_cSr (t_X10_isNine q_8) cal_X10_isNine ml_X10_117 sta_X10_isNine dX10_isTerm_50 (by omega) (by decide) (by decide) (Nat.le_of_ble_eq_true rfl) rfl ?_
        replace h := p_bind_elim h
        obtain ⟨_, q_9, h⟩ := h
        cases h
        exact v_zret dX10_isTerm_53 rfl (p_bl_spec q_9).1 (by decide) (by decide) (by rw [← hQ]; exact ⟨rfl, rfl, rfl, rfl, rfl⟩)
      · rw [if_neg c_15] at h
        by_cases c_16 : p0 = (3 : Int32)
        · rw [if_pos c_16] at h
          refine v_swIn 54 (3 : Int32) c_16 dX10_isTerm_1 (by decide) (by decide) rfl (by decide) ?_
          refine v_iload_n dX10_isTerm_54 rfl ?_
          replace h := p_bind_elim h
          obtain ⟨r_10, q_11, h⟩ := h
          refine v_cSr (t_X10_isNine q_11) cal_X10_isNine ml_X10_117 sta_X10_isNine dX10_isTerm_55 (by omega) (by decide) (by decide) (Nat.le_of_ble_eq_true rfl) rfl ?_
          replace h := p_bind_elim h
          obtain ⟨_, q_12, h⟩ := h
          cases h
          exact v_zret dX10_isTerm_58 rfl (p_bl_spec q_12).1 (by decide) (by decide) (by rw [← hQ]; exact ⟨rfl, rfl, rfl, rfl, rfl⟩)
        · rw [if_neg c_16] at h
          refine v_tableOut 59 dX10_isTerm_1 (p_sw_out (fun k h1 h2 => by have h3 : k = 0 ∨ k = 1 ∨ k = 2 ∨ k = 3 := (by omega); rcases h3 with rfl | rfl | rfl | rfl <;> first | exact c_13 | exact c_14 | exact c_15 | exact c_16)) (by decide) ?_
          refine v_iconstE (0 : Int32) dX10_isTerm_59 (by decide) ?_
          cases h
          exact v_zret dX10_isTerm_60 rfl rfl (by decide) (by decide) (by rw [← hQ]; exact ⟨rfl, rfl, rfl, rfl, rfl⟩)

def f_X10_termAt (p0 : Int32) : Option (Int32) :=
if p0 = (0 : Int32) then (
some ((17 : Int32)))
else if p0 = (1 : Int32) then (
some ((46 : Int32)))
else if p0 = (2 : Int32) then (
some ((47 : Int32)))
else (
some ((48 : Int32)))
set_option maxHeartbeats 4000000 in
set_option maxRecDepth 100000 in
theorem t_X10_termAt {p0 : Int32} {r : Int32} (h : f_X10_termAt p0 = some r) : v_R l B D ac (v_EE B wa wb wt sb sL sx) yX10_termAt cX10_termAt 1 (some .int) 1 0 0 [.int p0] S I J F (v_D (some (.int r)) S I J F) := by
  refine v_R.of (by decide) (Nat.le_of_ble_eq_true rfl) fun d hd => ?_
  generalize hQ : v_D (some (.int r)) S I J F = Q
  unfold f_X10_termAt at h
  refine v_sub [(0, .int p0)] ⟨rfl, trivial⟩ ?_
  refine v_iload_n dX10_termAt_0 rfl ?_
  by_cases c_1 : p0 = (0 : Int32)
  · rw [if_pos c_1] at h
    refine v_swIn 28 (0 : Int32) c_1 dX10_termAt_1 (by decide) (by decide) rfl (by decide) ?_
    refine v_bipush (17 : Int32) dX10_termAt_28 (by decide) ?_
    cases h
    exact v_iret dX10_termAt_30 rfl (by decide) (by decide) (by rw [← hQ]; exact ⟨rfl, rfl, rfl, rfl, rfl⟩)
  · rw [if_neg c_1] at h
    by_cases c_2 : p0 = (1 : Int32)
    · rw [if_pos c_2] at h
      refine v_swIn 31 (1 : Int32) c_2 dX10_termAt_1 (by decide) (by decide) rfl (by decide) ?_
      refine v_bipush (46 : Int32) dX10_termAt_31 (by decide) ?_
      cases h
      exact v_iret dX10_termAt_33 rfl (by decide) (by decide) (by rw [← hQ]; exact ⟨rfl, rfl, rfl, rfl, rfl⟩)
    · rw [if_neg c_2] at h
      by_cases c_3 : p0 = (2 : Int32)
      · rw [if_pos c_3] at h
        refine v_swIn 34 (2 : Int32) c_3 dX10_termAt_1 (by decide) (by decide) rfl (by decide) ?_
        refine v_bipush (47 : Int32) dX10_termAt_34 (by decide) ?_
        cases h
        exact v_iret dX10_termAt_36 rfl (by decide) (by decide) (by rw [← hQ]; exact ⟨rfl, rfl, rfl, rfl, rfl⟩)
      · rw [if_neg c_3] at h
        refine v_tableOut 37 dX10_termAt_1 (p_sw_out (fun k h1 h2 => by have h3 : k = 0 ∨ k = 1 ∨ k = 2 := (by omega); rcases h3 with rfl | rfl | rfl <;> first | exact c_1 | exact c_2 | exact c_3)) (by decide) ?_
        refine v_bipush (48 : Int32) dX10_termAt_37 (by decide) ?_
        cases h
        exact v_iret dX10_termAt_39 rfl (by decide) (by decide) (by rw [← hQ]; exact ⟨rfl, rfl, rfl, rfl, rfl⟩)

end p03
