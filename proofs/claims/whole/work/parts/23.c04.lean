noncomputable section sc04
def h_X9_few_J64_94 (S : v_S) (I : v_I) (F : v_F) (w1 : Int32) (w2 : Int32) (w3 : Int32) (w4 : Int32) (J : v_J) (y5 : Int32) (z0 : Int64) : Option ((Int32 × v_J) ⊕ (Int32 × v_J)) :=
(p_in 20 y5).bind fun j_17 =>
(p_in 20 y5).bind fun j_18 =>
p_let (v_up J 47 j_18 ((((J 47 j_17) * (((10 : Int32) - w3).toInt64)) / (10 : Int64)) + z0)) fun J_19 =>
p_let (y5 + (-1 : Int32)) fun x_21 =>
some (.inl (x_21, J_19))
set_option maxHeartbeats 4000000 in
set_option maxRecDepth 100000 in
theorem s_X9_few_J64_94 {S : v_S} {F : v_F} (hS : p_SS S) (hF : p_FF F) (I : v_I) (w1 : Int32) (w2 : Int32) (w3 : Int32) (w4 : Int32) (J : v_J) (y5 : Int32) (z0 : Int64) : f_X9_few_J64_94 S I F 0 w1 w2 w3 w4 J y5 z0 = h_X9_few_J64_94 S I F w1 w2 w3 w4 J y5 z0 := by
  unfold f_X9_few_J64_94 h_X9_few_J64_94
  simp only [p_bs, s_X9_isUpTo, p_obS hS (a := 0) (kd := 9) rfl, p_FS hF (a := 0) (i := 12) (b := 47) (by decide), s_J7_fill_d0a16 hS hF, p_ixS hS (kd := 23) (a := 47) (n := 20) rfl, p_inL (n := 20) (k := 0) (i := (0 : Int32)) (by decide), p_FS hF (a := 0) (i := 0) (b := 1) (by decide), p_obS hS (a := 1) (kd := 0) rfl]
def h_X9_few_B64 (S : v_S) (I : v_I) (F : v_F) (w1 : Int32) (w2 : Int32) (w3 : Int32) (w4 : Int32) (s64 : Int32 × v_J) : Option ((Int32 × v_J) ⊕ (Int32 × v_J)) :=
if s64.1 < (0 : Int32) then (
some (.inr (s64.1, s64.2)))
else (
if s64.1 ≤ (0 : Int32) then (
h_X9_few_J64_94 S I F w1 w2 w3 w4 s64.2 s64.1 (0 : Int64))
else (
(p_in 20 (s64.1 - (1 : Int32))).bind fun j_23 =>
h_X9_few_J64_94 S I F w1 w2 w3 w4 s64.2 s64.1 (((s64.2 47 j_23) * w3.toInt64) / (10 : Int64))))
set_option maxHeartbeats 4000000 in
set_option maxRecDepth 100000 in
theorem s_X9_few_B64 {S : v_S} {F : v_F} (hS : p_SS S) (hF : p_FF F) (I : v_I) (w1 : Int32) (w2 : Int32) (w3 : Int32) (w4 : Int32) : f_X9_few_B64 S I F 0 w1 w2 w3 w4 = h_X9_few_B64 S I F w1 w2 w3 w4 := by
  funext s64
  unfold f_X9_few_B64 h_X9_few_B64
  simp only [p_bs, s_X9_isUpTo, p_obS hS (a := 0) (kd := 9) rfl, p_FS hF (a := 0) (i := 12) (b := 47) (by decide), s_J7_fill_d0a16 hS hF, p_ixS hS (kd := 23) (a := 47) (n := 20) rfl, p_inL (n := 20) (k := 0) (i := (0 : Int32)) (by decide), p_FS hF (a := 0) (i := 0) (b := 1) (by decide), p_obS hS (a := 1) (kd := 0) rfl, s_X9_few_J64_94 hS hF]
def h_X9_few_B53 (S : v_S) (I : v_I) (F : v_F) (w1 : Int32) (w2 : Int32) (w3 : Int32) (s53 : Int32 × v_J) : Option ((Int32 × v_J) ⊕ (Int32 × v_J)) :=
if w2 ≤ s53.1 then (
some (.inr (s53.1, s53.2)))
else (
p_let (w1 - (1 : Int32)) fun x_13 =>
(v_loop (h_X9_few_B64 S I F w1 w2 w3 s53.1) FU (x_13, s53.2)).bind fun q_24 =>
p_let (s53.1 + (1 : Int32)) fun x_26 =>
some (.inl (x_26, q_24.2)))
set_option maxHeartbeats 4000000 in
set_option maxRecDepth 100000 in
theorem s_X9_few_B53 {S : v_S} {F : v_F} (hS : p_SS S) (hF : p_FF F) (I : v_I) (w1 : Int32) (w2 : Int32) (w3 : Int32) : f_X9_few_B53 S I F 0 w1 w2 w3 = h_X9_few_B53 S I F w1 w2 w3 := by
  funext s53
  unfold f_X9_few_B53 h_X9_few_B53
  simp only [p_bs, s_X9_isUpTo, p_obS hS (a := 0) (kd := 9) rfl, p_FS hF (a := 0) (i := 12) (b := 47) (by decide), s_J7_fill_d0a16 hS hF, p_ixS hS (kd := 23) (a := 47) (n := 20) rfl, p_inL (n := 20) (k := 0) (i := (0 : Int32)) (by decide), p_FS hF (a := 0) (i := 0) (b := 1) (by decide), p_obS hS (a := 1) (kd := 0) rfl, s_X9_few_J64_94 hS hF, s_X9_few_B64 hS hF]
def h_X9_few_B141 (S : v_S) (I : v_I) (F : v_F) (J : v_J) (w1 : Int32) (s141 : Int64 × Int32) : Option ((Int64 × Int32) ⊕ (Int64 × Int32)) :=
if w1 ≤ s141.2 then (
some (.inr (s141.1, s141.2)))
else (
(p_in 20 s141.2).bind fun j_31 =>
p_let (s141.1 + (J 47 j_31)) fun x_32 =>
p_let (s141.2 + (1 : Int32)) fun x_34 =>
some (.inl (x_32, x_34)))
set_option maxHeartbeats 4000000 in
set_option maxRecDepth 100000 in
theorem s_X9_few_B141 {S : v_S} {F : v_F} (hS : p_SS S) (hF : p_FF F) (I : v_I) (J : v_J) (w1 : Int32) : f_X9_few_B141 S I F J 0 w1 = h_X9_few_B141 S I F J w1 := by
  funext s141
  unfold f_X9_few_B141 h_X9_few_B141
  simp only [p_bs, s_X9_isUpTo, p_obS hS (a := 0) (kd := 9) rfl, p_FS hF (a := 0) (i := 12) (b := 47) (by decide), s_J7_fill_d0a16 hS hF, p_ixS hS (kd := 23) (a := 47) (n := 20) rfl, p_inL (n := 20) (k := 0) (i := (0 : Int32)) (by decide), p_FS hF (a := 0) (i := 0) (b := 1) (by decide), p_obS hS (a := 1) (kd := 0) rfl, s_X9_few_J64_94 hS hF, s_X9_few_B64 hS hF, s_X9_few_B53 hS hF]
def h_X9_few (S : v_S) (I : v_I) (J : v_J) (F : v_F) (p1 : Int32) (p2 : Int32) : Option (Int64 × v_J) :=
if p1 < (1 : Int32) then (
some ((-1 : Int64), J))
else (
if (20 : Int32) < p1 then (
some ((-1 : Int64), J))
else (
(h_X9_isUpTo p2.toInt64 (99 : Int32)).bind fun r_3 =>
if r_3 = (0 : Int32) then (
some ((-1 : Int64), J))
else (
(h_J7_fill_d0a16 S J 47 (0 : Int64)).bind fun r_6 =>
p_let (v_up r_6 47 0 (1000000000000 : Int64)) fun J_8 =>
p_let (I 1 4) fun x_10 =>
(v_loop (h_X9_few_B53 S I F p1 p2 x_10) FU ((0 : Int32), J_8)).bind fun q_28 =>
(v_loop (h_X9_few_B141 S I F q_28.2 p1) FU ((0 : Int64), (0 : Int32))).bind fun q_36 =>
some (q_36.1, q_28.2))))
set_option maxHeartbeats 4000000 in
set_option maxRecDepth 100000 in
theorem s_X9_few {S : v_S} {F : v_F} (hS : p_SS S) (hF : p_FF F) (I : v_I) (J : v_J) (p1 : Int32) (p2 : Int32) : f_X9_few S I J F 0 p1 p2 = h_X9_few S I J F p1 p2 := by
  unfold f_X9_few h_X9_few
  simp only [p_bs, s_X9_isUpTo, p_obS hS (a := 0) (kd := 9) rfl, p_FS hF (a := 0) (i := 12) (b := 47) (by decide), s_J7_fill_d0a16 hS hF, p_ixS hS (kd := 23) (a := 47) (n := 20) rfl, p_inL (n := 20) (k := 0) (i := (0 : Int32)) (by decide), p_FS hF (a := 0) (i := 0) (b := 1) (by decide), p_obS hS (a := 1) (kd := 0) rfl, s_X9_few_J64_94 hS hF, s_X9_few_B64 hS hF, s_X9_few_B53 hS hF, s_X9_few_B141 hS hF]

def h_X1_openByLaw (S : v_S) (I : v_I) (J : v_J) (F : v_F) (p2 : Option Nat) : Option (Int32 × v_I × v_J) :=
(h_X1_begin S I F (I 2 0)).bind fun r_1 =>
(h_X1_passMinute S r_1 J F 18 19 20 p2 (0 : Int32)).bind fun r_3 =>
(h_X3_openMany S r_3.2.1 18 19 20).bind fun r_5 =>
some (r_5, r_3.2.1, r_3.2.2)
set_option maxHeartbeats 4000000 in
set_option maxRecDepth 100000 in
theorem s_X1_openByLaw {S : v_S} {F : v_F} (hS : p_SS S) (hF : p_FF F) (I : v_I) (J : v_J) (p2 : Option Nat) : f_X1_openByLaw S I J F 14 1 p2 = h_X1_openByLaw S I J F p2 := by
  unfold f_X1_openByLaw h_X1_openByLaw
  simp only [p_bs, p_obS hS (a := 1) (kd := 0) rfl, p_FS hF (a := 1) (i := 1) (b := 2) (by decide), p_obS hS (a := 2) (kd := 3) rfl, s_X1_begin hS hF, p_obS hS (a := 14) (kd := 1) rfl, p_FS hF (a := 14) (i := 1) (b := 18) (by decide), s_X1_passMinute hS hF (p_MoC hS hF 18 19 20 rfl rfl rfl (by decide) (by decide)), s_X3_openMany hS hF (p_MoC hS hF 18 19 20 rfl rfl rfl (by decide) (by decide)), p_obS hS (a := 18) (kd := 3) rfl]

def h_X9_compare_J20 (S : v_S) (F : v_F) (I : v_I) (J : v_J) (y2 : Option Nat) : Option (Int32 × v_I × v_J) :=
(h_X1_openByLaw S I J F y2).bind fun r_4 =>
some (r_4.1, r_4.2.1, r_4.2.2)
set_option maxHeartbeats 4000000 in
set_option maxRecDepth 100000 in
theorem s_X9_compare_J20 {S : v_S} {F : v_F} (hS : p_SS S) (hF : p_FF F) (I : v_I) (J : v_J) (y2 : Option Nat) : f_X9_compare_J20 S F I J 0 y2 = h_X9_compare_J20 S F I J y2 := by
  unfold f_X9_compare_J20 h_X9_compare_J20
  simp only [p_bs, p_obS hS (a := 0) (kd := 9) rfl, p_FS hF (a := 0) (i := 0) (b := 1) (by decide), s_X0_lawAt hS hF, p_obS hS (a := 1) (kd := 0) rfl, p_FS hF (a := 0) (i := 3) (b := 14) (by decide), s_X1_openByLaw hS hF, p_obS hS (a := 14) (kd := 1) rfl]
def h_X9_compare (S : v_S) (I : v_I) (J : v_J) (F : v_F) (p1 : Int32) : Option (Int32 × v_I × v_J) :=
(h_X0_lawAt S I F p1).bind fun r_1 =>
if p1 = (-1 : Int32) then (
h_X9_compare_J20 S F I J r_1)
else (
p_nul r_1 (
some ((-1 : Int32), I, J)) (fun a_6 =>
h_X9_compare_J20 S F I J (some a_6)))
set_option maxHeartbeats 4000000 in
set_option maxRecDepth 100000 in
theorem s_X9_compare {S : v_S} {F : v_F} (hS : p_SS S) (hF : p_FF F) (I : v_I) (J : v_J) (p1 : Int32) : f_X9_compare S I J F 0 p1 = h_X9_compare S I J F p1 := by
  unfold f_X9_compare h_X9_compare
  simp only [p_bs, p_obS hS (a := 0) (kd := 9) rfl, p_FS hF (a := 0) (i := 0) (b := 1) (by decide), s_X0_lawAt hS hF, p_obS hS (a := 1) (kd := 0) rfl, p_FS hF (a := 0) (i := 3) (b := 14) (by decide), s_X1_openByLaw hS hF, p_obS hS (a := 14) (kd := 1) rfl, s_X9_compare_J20 hS hF]

def h_X1_nextDraw (p0 : Int32) : Option (Int32) :=
some ((((p0.toInt64 * (1103 : Int64)) + (12345 : Int64)) - ((p0.toInt64 * (1103 : Int64)) + (12345 : Int64)) / (1000003 : Int64) * (1000003 : Int64)).toInt32)
set_option maxHeartbeats 4000000 in
set_option maxRecDepth 100000 in
theorem s_X1_nextDraw (p0 : Int32) : f_X1_nextDraw p0 = h_X1_nextDraw p0 := by
  unfold f_X1_nextDraw h_X1_nextDraw
  simp only [p_bs]

def h_X1_holdCouncils_J21_135 (m2 : Nat) (mw2 : Nat) (ms2 : Nat) (S : v_S) (F : v_F) (w4 : Int32) (w5 : Option Nat) (I : v_I) (J : v_J) (y6 : Int32) (y7 : Int32) : Option ((Int32 × Int32 × v_I × v_J) ⊕ (Int32 × Int32 × v_I × v_J)) :=
(h_X1_passMinute S I J F m2 mw2 ms2 w5 (0 : Int32)).bind fun r_19 =>
p_let (y7 + (1 : Int32)) fun x_21 =>
some (.inl (y6, x_21, r_19.2.1, r_19.2.2))
set_option maxHeartbeats 4000000 in
set_option maxRecDepth 100000 in
theorem s_X1_holdCouncils_J21_135 {S : v_S} {F : v_F} (hS : p_SS S) (hF : p_FF F) {m2 : Nat} {mw2 : Nat} {ms2 : Nat} (hm2 : p_Mo S F m2 mw2 ms2) (w4 : Int32) (w5 : Option Nat) (I : v_I) (J : v_J) (y6 : Int32) (y7 : Int32) : f_X1_holdCouncils_J21_135 S F 14 1 m2 w4 w5 I J y6 y7 = h_X1_holdCouncils_J21_135 m2 mw2 ms2 S F w4 w5 I J y6 y7 := by
  unfold f_X1_holdCouncils_J21_135 h_X1_holdCouncils_J21_135
  simp only [p_bs, p_obS hS (a := 1) (kd := 0) rfl, s_X0_lawInForce hS hF, p_Mo_ob hm2, p_Mo_w hm2, p_Mo_s hm2, p_Mo_iw hm2, p_Mo_is hm2, s_X1_nextDraw, s_X3_shutOne hS hF hm2, s_X1_passMinute hS hF hm2, p_obS hS (a := 14) (kd := 1) rfl, s_X3_openOne hS hF hm2, s_X3_changeWant hS hF hm2]
def h_X1_holdCouncils_B21 (m2 : Nat) (mw2 : Nat) (ms2 : Nat) (S : v_S) (F : v_F) (w4 : Int32) (w5 : Option Nat) (s21 : Int32 × Int32 × v_I × v_J) : Option ((Int32 × Int32 × v_I × v_J) ⊕ (Int32 × Int32 × v_I × v_J)) :=
if w4 ≤ s21.2.1 then (
some (.inr (s21.1, s21.2.1, s21.2.2.1, s21.2.2.2)))
else (
if (999 : Int32) ≤ (s21.2.2.1 m2 1) then (
some (.inr (s21.1, s21.2.1, s21.2.2.1, s21.2.2.2)))
else (
(h_X1_nextDraw s21.1).bind fun r_6 =>
(p_nz32 (s21.2.2.1 1 0)).bind fun _ =>
p_let (r_6 - r_6 / (s21.2.2.1 1 0) * (s21.2.2.1 1 0)) fun x_9 =>
(h_X1_nextDraw r_6).bind fun r_11 =>
p_let (r_11 - r_11 / (10 : Int32) * (10 : Int32)) fun x_13 =>
(h_X1_nextDraw r_11).bind fun r_15 =>
if (r_15 - r_15 / (4 : Int32) * (4 : Int32)) = (0 : Int32) then (
(h_X3_shutOne S s21.2.2.1 F m2 mw2 ms2 x_9).bind fun r_17 =>
h_X1_holdCouncils_J21_135 m2 mw2 ms2 S F w4 w5 r_17.2 s21.2.2.2 r_15 s21.2.1)
else if (r_15 - r_15 / (4 : Int32) * (4 : Int32)) = (1 : Int32) then (
(h_X3_openOne S s21.2.2.1 m2 mw2 ms2 x_9).bind fun r_23 =>
h_X1_holdCouncils_J21_135 m2 mw2 ms2 S F w4 w5 r_23 s21.2.2.2 r_15 s21.2.1)
else if (r_15 - r_15 / (4 : Int32) * (4 : Int32)) = (2 : Int32) then (
(h_X3_changeWant S s21.2.2.1 F m2 mw2 ms2 x_9 x_13).bind fun r_25 =>
h_X1_holdCouncils_J21_135 m2 mw2 ms2 S F w4 w5 r_25.2 s21.2.2.2 r_15 s21.2.1)
else (
h_X1_holdCouncils_J21_135 m2 mw2 ms2 S F w4 w5 s21.2.2.1 s21.2.2.2 r_15 s21.2.1)))
set_option maxHeartbeats 4000000 in
set_option maxRecDepth 100000 in
theorem s_X1_holdCouncils_B21 {S : v_S} {F : v_F} (hS : p_SS S) (hF : p_FF F) {m2 : Nat} {mw2 : Nat} {ms2 : Nat} (hm2 : p_Mo S F m2 mw2 ms2) (w4 : Int32) (w5 : Option Nat) : f_X1_holdCouncils_B21 S F 14 1 m2 w4 w5 = h_X1_holdCouncils_B21 m2 mw2 ms2 S F w4 w5 := by
  funext s21
  unfold f_X1_holdCouncils_B21 h_X1_holdCouncils_B21
  simp only [p_bs, p_obS hS (a := 1) (kd := 0) rfl, s_X0_lawInForce hS hF, p_Mo_ob hm2, p_Mo_w hm2, p_Mo_s hm2, p_Mo_iw hm2, p_Mo_is hm2, s_X1_nextDraw, s_X3_shutOne hS hF hm2, s_X1_passMinute hS hF hm2, p_obS hS (a := 14) (kd := 1) rfl, s_X3_openOne hS hF hm2, s_X3_changeWant hS hF hm2, s_X1_holdCouncils_J21_135 hS hF hm2]
def h_X1_holdCouncils (S : v_S) (I : v_I) (J : v_J) (F : v_F) (m2 : Nat) (mw2 : Nat) (ms2 : Nat) (p3 : Int32) (p4 : Int32) : Option (v_I × v_J) :=
if (1 : Int32) ≤ (I 1 0) then (
(h_X0_lawInForce S I F).bind fun r_2 =>
(v_loop (h_X1_holdCouncils_B21 m2 mw2 ms2 S F p4 r_2) FU (p3, (0 : Int32), I, J)).bind fun q_30 =>
some (q_30.2.2.1, q_30.2.2.2))
else (
some (I, J))
set_option maxHeartbeats 4000000 in
set_option maxRecDepth 100000 in
theorem s_X1_holdCouncils {S : v_S} {F : v_F} (hS : p_SS S) (hF : p_FF F) {m2 : Nat} {mw2 : Nat} {ms2 : Nat} (hm2 : p_Mo S F m2 mw2 ms2) (I : v_I) (J : v_J) (p3 : Int32) (p4 : Int32) : f_X1_holdCouncils S I J F 14 1 m2 p3 p4 = h_X1_holdCouncils S I J F m2 mw2 ms2 p3 p4 := by
  unfold f_X1_holdCouncils h_X1_holdCouncils
  simp only [p_bs, p_obS hS (a := 1) (kd := 0) rfl, s_X0_lawInForce hS hF, p_Mo_ob hm2, p_Mo_w hm2, p_Mo_s hm2, p_Mo_iw hm2, p_Mo_is hm2, s_X1_nextDraw, s_X3_shutOne hS hF hm2, s_X1_passMinute hS hF hm2, p_obS hS (a := 14) (kd := 1) rfl, s_X3_openOne hS hF hm2, s_X3_changeWant hS hF hm2, s_X1_holdCouncils_J21_135 hS hF hm2, s_X1_holdCouncils_B21 hS hF hm2]

def h_X9_councils_J22 (S : v_S) (F : v_F) (I : v_I) (J : v_J) : Option (Int32 × v_I × v_J) :=
(h_X9_refuse S I F (-1 : Int32)).bind fun r_4 =>
some (r_4.1, r_4.2, J)
set_option maxHeartbeats 4000000 in
set_option maxRecDepth 100000 in
theorem s_X9_councils_J22 {S : v_S} {F : v_F} (hS : p_SS S) (hF : p_FF F) (I : v_I) (J : v_J) : f_X9_councils_J22 S F I J 0 = h_X9_councils_J22 S F I J := by
  unfold f_X9_councils_J22 h_X9_councils_J22
  simp only [p_bs, s_X9_isUpTo, s_X9_refuse hS hF, p_obS hS (a := 0) (kd := 9) rfl, p_FS hF (a := 0) (i := 0) (b := 1) (by decide), p_obS hS (a := 1) (kd := 0) rfl, p_FS hF (a := 0) (i := 5) (b := 26) (by decide), p_FS hF (a := 1) (i := 1) (b := 2) (by decide), s_X3_copyFrom hS hF (p_MoC hS hF 26 27 28 rfl rfl rfl (by decide) (by decide)) (p_MoC hS hF 2 3 4 rfl rfl rfl (by decide) (by decide)), p_obS hS (a := 26) (kd := 3) rfl, p_FS hF (a := 0) (i := 3) (b := 14) (by decide), s_X1_holdCouncils hS hF (p_MoC hS hF 26 27 28 rfl rfl rfl (by decide) (by decide)), p_obS hS (a := 14) (kd := 1) rfl, s_X9_accept hS hF]
def h_X9_councils (S : v_S) (I : v_I) (J : v_J) (F : v_F) (p1 : Int32) (p2 : Int32) : Option (Int32 × v_I × v_J) :=
(h_X9_isUpTo p1.toInt64 (1000000 : Int32)).bind fun r_1 =>
if r_1 = (0 : Int32) then (
h_X9_councils_J22 S F I J)
else (
if p2 < (1 : Int32) then (
h_X9_councils_J22 S F I J)
else (
if p2 ≤ (60 : Int32) then (
if (I 1 0) = (0 : Int32) then (
(h_X9_refuse S I F (-3 : Int32)).bind fun r_17 =>
some (r_17.1, r_17.2, J))
else (
(h_X3_copyFrom S I F 26 27 28 2 3 4).bind fun r_9 =>
p_let (v_up r_9 0 6 (r_9 1 0)) fun I_11 =>
(h_X1_holdCouncils S I_11 J F 26 27 28 p1 p2).bind fun r_13 =>
(h_X9_accept S r_13.1 (r_13.1 26 0)).bind fun r_15 =>
some (r_15.1, r_15.2, r_13.2)))
else (
h_X9_councils_J22 S F I J)))
set_option maxHeartbeats 4000000 in
set_option maxRecDepth 100000 in
theorem s_X9_councils {S : v_S} {F : v_F} (hS : p_SS S) (hF : p_FF F) (I : v_I) (J : v_J) (p1 : Int32) (p2 : Int32) : f_X9_councils S I J F 0 p1 p2 = h_X9_councils S I J F p1 p2 := by
  unfold f_X9_councils h_X9_councils
  simp only [p_bs, s_X9_isUpTo, s_X9_refuse hS hF, p_obS hS (a := 0) (kd := 9) rfl, p_FS hF (a := 0) (i := 0) (b := 1) (by decide), p_obS hS (a := 1) (kd := 0) rfl, p_FS hF (a := 0) (i := 5) (b := 26) (by decide), p_FS hF (a := 1) (i := 1) (b := 2) (by decide), s_X3_copyFrom hS hF (p_MoC hS hF 26 27 28 rfl rfl rfl (by decide) (by decide)) (p_MoC hS hF 2 3 4 rfl rfl rfl (by decide) (by decide)), p_obS hS (a := 26) (kd := 3) rfl, p_FS hF (a := 0) (i := 3) (b := 14) (by decide), s_X1_holdCouncils hS hF (p_MoC hS hF 26 27 28 rfl rfl rfl (by decide) (by decide)), p_obS hS (a := 14) (kd := 1) rfl, s_X9_accept hS hF, s_X9_councils_J22 hS hF]

def h_X9_drawn (S : v_S) (I : v_I) (F : v_F) (p1 : Int32) (p2 : Int32) : Option (Int32) :=
if p1 < (0 : Int32) then (
some ((-1 : Int32)))
else (
if p1 < (I 0 6) then (
if p2 = (0 : Int32) then (
(p_in 8 p1).bind fun j_3 =>
some (I 27 j_3))
else if p2 = (1 : Int32) then (
(h_X3_isOpen S I 26 27 28 p1).bind fun r_4 =>
if r_4 = (0 : Int32) then (
some ((0 : Int32)))
else (
some ((1 : Int32))))
else if p2 = (2 : Int32) then (
(p_in 8 p1).bind fun j_7 =>
some (I 28 j_7))
else (
some ((-1 : Int32))))
else (
some ((-1 : Int32))))
set_option maxHeartbeats 4000000 in
set_option maxRecDepth 100000 in
theorem s_X9_drawn {S : v_S} {F : v_F} (hS : p_SS S) (hF : p_FF F) (I : v_I) (p1 : Int32) (p2 : Int32) : f_X9_drawn S I F 0 p1 p2 = h_X9_drawn S I F p1 p2 := by
  unfold f_X9_drawn h_X9_drawn
  simp only [p_bs, p_obS hS (a := 0) (kd := 9) rfl, p_FS hF (a := 0) (i := 5) (b := 26) (by decide), p_obS hS (a := 26) (kd := 3) rfl, p_FS hF (a := 26) (i := 2) (b := 27) (by decide), p_ixS hS (kd := 20) (a := 27) (n := 8) rfl, s_X3_isOpen hS hF (p_MoC hS hF 26 27 28 rfl rfl rfl (by decide) (by decide)), p_FS hF (a := 26) (i := 3) (b := 28) (by decide), p_ixS hS (kd := 20) (a := 28) (n := 8) rfl]

def h_X9_count_J46 (S : v_S) (I : v_I) (F : v_F) (y1 : Int32) : Option (Int32) :=
if y1 = (0 : Int32) then (
some (I 1 0))
else if y1 = (1 : Int32) then (
(h_X3_openMany S I 2 3 4).bind fun r_3 =>
some (r_3))
else if y1 = (2 : Int32) then (
some (I 1 7))
else if y1 = (3 : Int32) then (
some (I 1 10))
else if y1 = (4 : Int32) then (
some (I 11 0))
else if y1 = (5 : Int32) then (
some (I 0 8))
else if y1 = (6 : Int32) then (
some ((-1 : Int32)))
else if y1 = (7 : Int32) then (
some ((-1 : Int32)))
else if y1 = (8 : Int32) then (
some ((-1 : Int32)))
else if y1 = (9 : Int32) then (
some ((-1 : Int32)))
else if y1 = (10 : Int32) then (
some ((-1 : Int32)))
else if y1 = (11 : Int32) then (
some (I 1 12))
else (
some ((-1 : Int32)))
set_option maxHeartbeats 4000000 in
set_option maxRecDepth 100000 in
theorem s_X9_count_J46 {S : v_S} {F : v_F} (hS : p_SS S) (hF : p_FF F) (I : v_I) (y1 : Int32) : f_X9_count_J46 S I F 0 y1 = h_X9_count_J46 S I F y1 := by
  unfold f_X9_count_J46 h_X9_count_J46
  simp only [p_bs, p_obS hS (a := 0) (kd := 9) rfl, p_FS hF (a := 0) (i := 0) (b := 1) (by decide), p_obS hS (a := 1) (kd := 0) rfl, p_FS hF (a := 1) (i := 1) (b := 2) (by decide), s_X3_openMany hS hF (p_MoC hS hF 2 3 4 rfl rfl rfl (by decide) (by decide)), p_obS hS (a := 2) (kd := 3) rfl, p_FS hF (a := 0) (i := 2) (b := 11) (by decide), p_obS hS (a := 11) (kd := 4) rfl, s_X0_term hS hF, p_FS hF (a := 0) (i := 13) (b := 48) (by decide), p_ixS hS (kd := 20) (a := 48) (n := 5) rfl]
def h_X9_count_J22 (S : v_S) (I : v_I) (F : v_F) (y1 : Int32) : Option (Int32) :=
if y1 < (12 : Int32) then (
h_X9_count_J46 S I F y1)
else (
if (16 : Int32) ≤ y1 then (
h_X9_count_J46 S I F y1)
else (
(h_X0_term S I F (y1 - (12 : Int32))).bind fun r_18 =>
some (r_18)))
set_option maxHeartbeats 4000000 in
set_option maxRecDepth 100000 in
theorem s_X9_count_J22 {S : v_S} {F : v_F} (hS : p_SS S) (hF : p_FF F) (I : v_I) (y1 : Int32) : f_X9_count_J22 S I F 0 y1 = h_X9_count_J22 S I F y1 := by
  unfold f_X9_count_J22 h_X9_count_J22
  simp only [p_bs, p_obS hS (a := 0) (kd := 9) rfl, p_FS hF (a := 0) (i := 0) (b := 1) (by decide), p_obS hS (a := 1) (kd := 0) rfl, p_FS hF (a := 1) (i := 1) (b := 2) (by decide), s_X3_openMany hS hF (p_MoC hS hF 2 3 4 rfl rfl rfl (by decide) (by decide)), p_obS hS (a := 2) (kd := 3) rfl, p_FS hF (a := 0) (i := 2) (b := 11) (by decide), p_obS hS (a := 11) (kd := 4) rfl, s_X0_term hS hF, p_FS hF (a := 0) (i := 13) (b := 48) (by decide), p_ixS hS (kd := 20) (a := 48) (n := 5) rfl, s_X9_count_J46 hS hF]
def h_X9_count (S : v_S) (I : v_I) (F : v_F) (p1 : Int32) : Option (Int32) :=
if p1 < (6 : Int32) then (
h_X9_count_J22 S I F p1)
else (
if (11 : Int32) ≤ p1 then (
h_X9_count_J22 S I F p1)
else (
(p_in 5 (p1 - (6 : Int32))).bind fun j_21 =>
some (I 48 j_21)))
set_option maxHeartbeats 4000000 in
set_option maxRecDepth 100000 in
theorem s_X9_count {S : v_S} {F : v_F} (hS : p_SS S) (hF : p_FF F) (I : v_I) (p1 : Int32) : f_X9_count S I F 0 p1 = h_X9_count S I F p1 := by
  unfold f_X9_count h_X9_count
  simp only [p_bs, p_obS hS (a := 0) (kd := 9) rfl, p_FS hF (a := 0) (i := 0) (b := 1) (by decide), p_obS hS (a := 1) (kd := 0) rfl, p_FS hF (a := 1) (i := 1) (b := 2) (by decide), s_X3_openMany hS hF (p_MoC hS hF 2 3 4 rfl rfl rfl (by decide) (by decide)), p_obS hS (a := 2) (kd := 3) rfl, p_FS hF (a := 0) (i := 2) (b := 11) (by decide), p_obS hS (a := 11) (kd := 4) rfl, s_X0_term hS hF, p_FS hF (a := 0) (i := 13) (b := 48) (by decide), p_ixS hS (kd := 20) (a := 48) (n := 5) rfl, s_X9_count_J46 hS hF, s_X9_count_J22 hS hF]

def h_X9_status (S : v_S) (I : v_I) : Option (Int32) :=
some (I 0 14)
set_option maxHeartbeats 4000000 in
set_option maxRecDepth 100000 in
theorem s_X9_status {S : v_S} {F : v_F} (hS : p_SS S) (hF : p_FF F) (I : v_I) : f_X9_status S I 0 = h_X9_status S I := by
  unfold f_X9_status h_X9_status
  simp only [p_bs, p_obS hS (a := 0) (kd := 9) rfl]

end sc04
