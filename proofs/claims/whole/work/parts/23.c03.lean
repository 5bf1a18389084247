noncomputable section sc03
def h_X9_tellSet (p0 : Int32) (p1 : Int32) : Option (Int32) :=
if p0 = (-1 : Int32) then (
some (p0))
else (
if p1 = (1 : Int32) then (
some (p0))
else (
(h_J6_bitCount_0f7a4 p0).bind fun r_3 =>
some (r_3)))
set_option maxHeartbeats 4000000 in
set_option maxRecDepth 100000 in
theorem s_X9_tellSet (p0 : Int32) (p1 : Int32) : f_X9_tellSet p0 p1 = h_X9_tellSet p0 p1 := by
  unfold f_X9_tellSet h_X9_tellSet
  simp only [p_bs, s_J6_bitCount_0f7a4]

def h_X9_seeds (S : v_S) (I : v_I) (J : v_J) (F : v_F) (p1 : Int32) : Option (Int32 × v_I × v_J) :=
(h_X9_isUpTo p1.toInt64 (1 : Int32)).bind fun r_1 =>
if r_1 = (0 : Int32) then (
some ((-1 : Int32), I, J))
else (
(h_X0_everyone S I).bind fun r_4 =>
p_let (r_4 &&& ((I 2 0) ^^^ (-1 : Int32))) fun x_6 =>
(h_X0_everyone S I).bind fun r_8 =>
(h_X1_fewestCoaxed S I J F x_6 r_8).bind fun r_10 =>
(h_X9_tellSet r_10.1 p1).bind fun r_12 =>
some (r_12, r_10.2.1, r_10.2.2))
set_option maxHeartbeats 4000000 in
set_option maxRecDepth 100000 in
theorem s_X9_seeds {S : v_S} {F : v_F} (hS : p_SS S) (hF : p_FF F) (I : v_I) (J : v_J) (p1 : Int32) : f_X9_seeds S I J F 0 p1 = h_X9_seeds S I J F p1 := by
  unfold f_X9_seeds h_X9_seeds
  simp only [p_bs, s_X9_isUpTo, p_obS hS (a := 0) (kd := 9) rfl, p_FS hF (a := 0) (i := 0) (b := 1) (by decide), s_X0_everyone hS hF, p_obS hS (a := 1) (kd := 0) rfl, p_FS hF (a := 1) (i := 1) (b := 2) (by decide), p_obS hS (a := 2) (kd := 3) rfl, p_FS hF (a := 0) (i := 3) (b := 14) (by decide), s_X1_fewestCoaxed hS hF, p_obS hS (a := 14) (kd := 1) rfl, s_X9_tellSet]

def h_X9_seedsFor (S : v_S) (I : v_I) (J : v_J) (F : v_F) (p1 : Int32) (p2 : Int32) : Option (Int32 × v_I × v_J) :=
(h_X9_isUpTo p2.toInt64 (1 : Int32)).bind fun r_1 =>
if r_1 = (0 : Int32) then (
some ((-1 : Int32), I, J))
else (
(h_X0_has S I p1.toInt64).bind fun r_4 =>
if r_4 = (0 : Int32) then (
some ((-1 : Int32), I, J))
else (
(h_X0_everyone S I).bind fun r_7 =>
p_let ((r_7 &&& ((I 2 0) ^^^ (-1 : Int32))) &&& (((1 : Int32) <<< (p1 &&& 31)) ^^^ (-1 : Int32))) fun x_9 =>
(h_X1_fewestCoaxed S I J F x_9 ((1 : Int32) <<< (p1 &&& 31))).bind fun r_11 =>
(h_X9_tellSet r_11.1 p2).bind fun r_13 =>
some (r_13, r_11.2.1, r_11.2.2)))
set_option maxHeartbeats 4000000 in
set_option maxRecDepth 100000 in
theorem s_X9_seedsFor {S : v_S} {F : v_F} (hS : p_SS S) (hF : p_FF F) (I : v_I) (J : v_J) (p1 : Int32) (p2 : Int32) : f_X9_seedsFor S I J F 0 p1 p2 = h_X9_seedsFor S I J F p1 p2 := by
  unfold f_X9_seedsFor h_X9_seedsFor
  simp only [p_bs, s_X9_isUpTo, p_obS hS (a := 0) (kd := 9) rfl, p_FS hF (a := 0) (i := 0) (b := 1) (by decide), s_X0_has hS hF, p_obS hS (a := 1) (kd := 0) rfl, s_X0_everyone hS hF, p_FS hF (a := 1) (i := 1) (b := 2) (by decide), p_obS hS (a := 2) (kd := 3) rfl, p_FS hF (a := 0) (i := 3) (b := 14) (by decide), s_X1_fewestCoaxed hS hF, p_obS hS (a := 14) (kd := 1) rfl, s_X9_tellSet]

def h_X9_spread (S : v_S) (I : v_I) (J : v_J) (F : v_F) (p1 : Int32) : Option (Int32 × v_I × v_J) :=
(h_X0_has S I p1.toInt64).bind fun r_1 =>
if r_1 = (0 : Int32) then (
some ((-1 : Int32), I, J))
else (
p_let ((I 2 0) ||| ((1 : Int32) <<< (p1 &&& 31))) fun x_4 =>
(h_X1_openBehind S I J F x_4 (60 : Int32)).bind fun r_6 =>
(h_X1_openBehind S r_6.2.1 r_6.2.2 F (x_4 &&& (((1 : Int32) <<< (p1 &&& 31)) ^^^ (-1 : Int32))) (60 : Int32)).bind fun r_8 =>
some (r_6.1 &&& (r_8.1 ^^^ (-1 : Int32)), r_8.2.1, r_8.2.2))
set_option maxHeartbeats 4000000 in
set_option maxRecDepth 100000 in
theorem s_X9_spread {S : v_S} {F : v_F} (hS : p_SS S) (hF : p_FF F) (I : v_I) (J : v_J) (p1 : Int32) : f_X9_spread S I J F 0 p1 = h_X9_spread S I J F p1 := by
  unfold f_X9_spread h_X9_spread
  simp only [p_bs, p_obS hS (a := 0) (kd := 9) rfl, p_FS hF (a := 0) (i := 0) (b := 1) (by decide), s_X0_has hS hF, p_obS hS (a := 1) (kd := 0) rfl, p_FS hF (a := 1) (i := 1) (b := 2) (by decide), p_obS hS (a := 2) (kd := 3) rfl, p_FS hF (a := 0) (i := 3) (b := 14) (by decide), s_X1_openBehind hS hF, p_obS hS (a := 14) (kd := 1) rfl]

def h_X1_fewestHeld_J24_65 (S : v_S) (F : v_F) (w2 : Int32) (w3 : Int32) (w4 : Int32) (I : v_I) (J : v_J) (y5 : Int32) : Option ((Int32 × v_I × v_J) ⊕ (Nat × (Int32 × v_I × v_J))) :=
p_let (y5 + (1 : Int32)) fun x_10 =>
some (.inl (x_10, I, J))
set_option maxHeartbeats 4000000 in
set_option maxRecDepth 100000 in
theorem s_X1_fewestHeld_J24_65 {S : v_S} {F : v_F} (hS : p_SS S) (hF : p_FF F) (w2 : Int32) (w3 : Int32) (w4 : Int32) (I : v_I) (J : v_J) (y5 : Int32) : f_X1_fewestHeld_J24_65 S F 14 1 w2 w3 w4 I J y5 = h_X1_fewestHeld_J24_65 S F w2 w3 w4 I J y5 := by
  unfold f_X1_fewestHeld_J24_65 h_X1_fewestHeld_J24_65
  simp only [p_bs, s_X0_everyone hS hF, p_obS hS (a := 1) (kd := 0) rfl, s_X1_isPart, p_FS hF (a := 1) (i := 1) (b := 2) (by decide), p_obS hS (a := 2) (kd := 3) rfl, s_X1_firstMinute hS hF, p_obS hS (a := 14) (kd := 1) rfl]
def h_X1_fewestHeld_B24 (S : v_S) (F : v_F) (w2 : Int32) (w3 : Int32) (w4 : Int32) (s24 : Int32 × v_I × v_J) : Option ((Int32 × v_I × v_J) ⊕ (Nat × (Int32 × v_I × v_J))) :=
if w3 < s24.1 then (
some (.inr (1, (s24.1, s24.2.1, s24.2.2))))
else (
(h_X1_isPart s24.1 w3 w4).bind fun r_7 =>
if r_7 = (0 : Int32) then (
h_X1_fewestHeld_J24_65 S F w2 w3 w4 s24.2.1 s24.2.2 s24.1)
else (
(h_X1_firstMinute S s24.2.1 s24.2.2 F (s24.2.1 2 0) s24.1 ((1 : Int32) <<< (w2 &&& 31))).bind fun r_12 =>
if r_12.1 = (-1 : Int32) then (
some (.inr (0, (s24.1, r_12.2.1, r_12.2.2))))
else (
h_X1_fewestHeld_J24_65 S F w2 w3 w4 r_12.2.1 r_12.2.2 s24.1)))
set_option maxHeartbeats 4000000 in
set_option maxRecDepth 100000 in
theorem s_X1_fewestHeld_B24 {S : v_S} {F : v_F} (hS : p_SS S) (hF : p_FF F) (w2 : Int32) (w3 : Int32) (w4 : Int32) : f_X1_fewestHeld_B24 S F 14 1 w2 w3 w4 = h_X1_fewestHeld_B24 S F w2 w3 w4 := by
  funext s24
  unfold f_X1_fewestHeld_B24 h_X1_fewestHeld_B24
  simp only [p_bs, s_X0_everyone hS hF, p_obS hS (a := 1) (kd := 0) rfl, s_X1_isPart, p_FS hF (a := 1) (i := 1) (b := 2) (by decide), p_obS hS (a := 2) (kd := 3) rfl, s_X1_firstMinute hS hF, p_obS hS (a := 14) (kd := 1) rfl, s_X1_fewestHeld_J24_65 hS hF]
def h_X1_fewestHeld_B14 (S : v_S) (F : v_F) (w2 : Int32) (w3 : Int32) (s14 : Int32 × v_I × v_J) : Option ((Int32 × v_I × v_J) ⊕ (Nat × (Int32 × v_I × v_J × Int32))) :=
if (8 : Int32) < s14.1 then (
some (.inr (1, (s14.1, s14.2.1, s14.2.2, (0 : Int32)))))
else (
(v_loop (h_X1_fewestHeld_B24 S F w2 w3 s14.1) FU ((0 : Int32), s14.2.1, s14.2.2)).bind fun q_15 =>
if q_15.1 = 0 then (
some (.inr (0, ((0 : Int32), q_15.2.2.1, q_15.2.2.2, q_15.2.1))))
else (
p_let (s14.1 + (1 : Int32)) fun x_17 =>
some (.inl (x_17, q_15.2.2.1, q_15.2.2.2))))
set_option maxHeartbeats 4000000 in
set_option maxRecDepth 100000 in
theorem s_X1_fewestHeld_B14 {S : v_S} {F : v_F} (hS : p_SS S) (hF : p_FF F) (w2 : Int32) (w3 : Int32) : f_X1_fewestHeld_B14 S F 14 1 w2 w3 = h_X1_fewestHeld_B14 S F w2 w3 := by
  funext s14
  unfold f_X1_fewestHeld_B14 h_X1_fewestHeld_B14
  simp only [p_bs, s_X0_everyone hS hF, p_obS hS (a := 1) (kd := 0) rfl, s_X1_isPart, p_FS hF (a := 1) (i := 1) (b := 2) (by decide), p_obS hS (a := 2) (kd := 3) rfl, s_X1_firstMinute hS hF, p_obS hS (a := 14) (kd := 1) rfl, s_X1_fewestHeld_J24_65 hS hF, s_X1_fewestHeld_B24 hS hF]
def h_X1_fewestHeld (S : v_S) (I : v_I) (J : v_J) (F : v_F) (p2 : Int32) : Option (Int32 × v_I × v_J) :=
(h_X0_everyone S I).bind fun r_1 =>
p_let (r_1 &&& (((1 : Int32) <<< (p2 &&& 31)) ^^^ (-1 : Int32))) fun x_3 =>
(v_loop (h_X1_fewestHeld_B14 S F p2 x_3) FU ((0 : Int32), I, J)).bind fun q_20 =>
if q_20.1 = 0 then (
some (q_20.2.2.2.2, q_20.2.2.1, q_20.2.2.2.1))
else (
some ((-1 : Int32), q_20.2.2.1, q_20.2.2.2.1))
set_option maxHeartbeats 4000000 in
set_option maxRecDepth 100000 in
theorem s_X1_fewestHeld {S : v_S} {F : v_F} (hS : p_SS S) (hF : p_FF F) (I : v_I) (J : v_J) (p2 : Int32) : f_X1_fewestHeld S I J F 14 1 p2 = h_X1_fewestHeld S I J F p2 := by
  unfold f_X1_fewestHeld h_X1_fewestHeld
  simp only [p_bs, s_X0_everyone hS hF, p_obS hS (a := 1) (kd := 0) rfl, s_X1_isPart, p_FS hF (a := 1) (i := 1) (b := 2) (by decide), p_obS hS (a := 2) (kd := 3) rfl, s_X1_firstMinute hS hF, p_obS hS (a := 14) (kd := 1) rfl, s_X1_fewestHeld_J24_65 hS hF, s_X1_fewestHeld_B24 hS hF, s_X1_fewestHeld_B14 hS hF]

def h_X9_held (S : v_S) (I : v_I) (J : v_J) (F : v_F) (p1 : Int32) (p2 : Int32) : Option (Int32 × v_I × v_J) :=
(h_X9_isUpTo p2.toInt64 (1 : Int32)).bind fun r_1 =>
if r_1 = (0 : Int32) then (
some ((-1 : Int32), I, J))
else (
(h_X0_has S I p1.toInt64).bind fun r_4 =>
if r_4 = (0 : Int32) then (
some ((-1 : Int32), I, J))
else (
(h_X3_isOpen S I 2 3 4 p1).bind fun r_7 =>
if r_7 = (0 : Int32) then (
(h_X1_fewestHeld S I J F p1).bind fun r_10 =>
(h_X9_tellSet r_10.1 p2).bind fun r_12 =>
some (r_12, r_10.2.1, r_10.2.2))
else (
some ((-1 : Int32), I, J))))
set_option maxHeartbeats 4000000 in
set_option maxRecDepth 100000 in
theorem s_X9_held {S : v_S} {F : v_F} (hS : p_SS S) (hF : p_FF F) (I : v_I) (J : v_J) (p1 : Int32) (p2 : Int32) : f_X9_held S I J F 0 p1 p2 = h_X9_held S I J F p1 p2 := by
  unfold f_X9_held h_X9_held
  simp only [p_bs, s_X9_isUpTo, p_obS hS (a := 0) (kd := 9) rfl, p_FS hF (a := 0) (i := 0) (b := 1) (by decide), s_X0_has hS hF, p_obS hS (a := 1) (kd := 0) rfl, p_FS hF (a := 1) (i := 1) (b := 2) (by decide), s_X3_isOpen hS hF (p_MoC hS hF 2 3 4 rfl rfl rfl (by decide) (by decide)), p_obS hS (a := 2) (kd := 3) rfl, p_FS hF (a := 0) (i := 3) (b := 14) (by decide), s_X1_fewestHeld hS hF, p_obS hS (a := 14) (kd := 1) rfl, s_X9_tellSet]

def h_X5_watchedBy_J4_28 (S : v_S) (I : v_I) (F : v_F) (w1 : Int32) (y2 : Int32) (y3 : Int32) : Option ((Int32 × Int32) ⊕ (Int32 × Int32)) :=
p_let (y3 + (1 : Int32)) fun x_3 =>
some (.inl (y2, x_3))
set_option maxHeartbeats 4000000 in
set_option maxRecDepth 100000 in
theorem s_X5_watchedBy_J4_28 {S : v_S} {F : v_F} (hS : p_SS S) (hF : p_FF F) (I : v_I) (w1 : Int32) (y2 : Int32) (y3 : Int32) : f_X5_watchedBy_J4_28 S I F 1 w1 y2 y3 = h_X5_watchedBy_J4_28 S I F w1 y2 y3 := by
  unfold f_X5_watchedBy_J4_28 h_X5_watchedBy_J4_28
  simp only [p_bs, p_obS hS (a := 1) (kd := 0) rfl, p_FS hF (a := 1) (i := 3) (b := 6) (by decide), p_ixS hS (kd := 20) (a := 6) (n := 8) rfl]
def h_X5_watchedBy_B4 (S : v_S) (I : v_I) (F : v_F) (w1 : Int32) (s4 : Int32 × Int32) : Option ((Int32 × Int32) ⊕ (Int32 × Int32)) :=
if (8 : Int32) ≤ s4.2 then (
some (.inr (s4.1, s4.2)))
else (
if ((w1 >>> (s4.2 &&& 31)) &&& (1 : Int32)) = (1 : Int32) then (
(p_in 8 s4.2).bind fun j_5 =>
p_let (s4.1 ||| (I 6 j_5)) fun x_6 =>
h_X5_watchedBy_J4_28 S I F w1 x_6 s4.2)
else (
h_X5_watchedBy_J4_28 S I F w1 s4.1 s4.2))
set_option maxHeartbeats 4000000 in
set_option maxRecDepth 100000 in
theorem s_X5_watchedBy_B4 {S : v_S} {F : v_F} (hS : p_SS S) (hF : p_FF F) (I : v_I) (w1 : Int32) : f_X5_watchedBy_B4 S I F 1 w1 = h_X5_watchedBy_B4 S I F w1 := by
  funext s4
  unfold f_X5_watchedBy_B4 h_X5_watchedBy_B4
  simp only [p_bs, p_obS hS (a := 1) (kd := 0) rfl, p_FS hF (a := 1) (i := 3) (b := 6) (by decide), p_ixS hS (kd := 20) (a := 6) (n := 8) rfl, s_X5_watchedBy_J4_28 hS hF]
def h_X5_watchedBy (S : v_S) (I : v_I) (F : v_F) (p1 : Int32) : Option (Int32) :=
(v_loop (h_X5_watchedBy_B4 S I F p1) FU ((0 : Int32), (0 : Int32))).bind fun q_8 =>
some (q_8.1)
set_option maxHeartbeats 4000000 in
set_option maxRecDepth 100000 in
theorem s_X5_watchedBy {S : v_S} {F : v_F} (hS : p_SS S) (hF : p_FF F) (I : v_I) (p1 : Int32) : f_X5_watchedBy S I F 1 p1 = h_X5_watchedBy S I F p1 := by
  unfold f_X5_watchedBy h_X5_watchedBy
  simp only [p_bs, p_obS hS (a := 1) (kd := 0) rfl, p_FS hF (a := 1) (i := 3) (b := 6) (by decide), p_ixS hS (kd := 20) (a := 6) (n := 8) rfl, s_X5_watchedBy_J4_28 hS hF, s_X5_watchedBy_B4 hS hF]

def h_X5_measure_B12 (S : v_S) (F : v_F) (w2 : Int32) (s12 : Int32 × Int32 × Int32 × v_I) : Option ((Int32 × Int32 × Int32 × v_I) ⊕ (Nat × (Int32 × Int32 × Int32 × v_I))) :=
if (8 : Int32) ≤ s12.2.2.1 then (
some (.inr (1, (s12.1, s12.2.1, s12.2.2.1, s12.2.2.2))))
else (
(p_in 8 s12.2.2.1).bind fun j_4 =>
p_let (v_up s12.2.2.2 24 j_4 s12.1) fun I_5 =>
if ((s12.1 >>> (w2 &&& 31)) &&& (1 : Int32)) = (1 : Int32) then (
some (.inr (0, (s12.1, s12.2.1, s12.2.2.1, I_5))))
else (
(h_X5_watchedBy S I_5 F s12.1).bind fun r_8 =>
p_let (r_8 &&& (s12.2.1 ^^^ (-1 : Int32))) fun x_10 =>
p_let (s12.2.1 ||| x_10) fun x_12 =>
p_let (s12.2.2.1 + (1 : Int32)) fun x_14 =>
some (.inl (x_10, x_12, x_14, I_5))))
set_option maxHeartbeats 4000000 in
set_option maxRecDepth 100000 in
theorem s_X5_measure_B12 {S : v_S} {F : v_F} (hS : p_SS S) (hF : p_FF F) (w2 : Int32) : f_X5_measure_B12 S F 23 1 w2 = h_X5_measure_B12 S F w2 := by
  funext s12
  unfold f_X5_measure_B12 h_X5_measure_B12
  simp only [p_bs, p_obS hS (a := 23) (kd := 5) rfl, p_FS hF (a := 23) (i := 0) (b := 24) (by decide), p_ixS hS (kd := 20) (a := 24) (n := 8) rfl, s_X5_watchedBy hS hF]
def h_X5_measure (S : v_S) (I : v_I) (F : v_F) (p2 : Int32) (p3 : Int32) : Option (Int32 × v_I) :=
p_let ((1 : Int32) <<< (p3 &&& 31)) fun x_1 =>
(v_loop (h_X5_measure_B12 S F p2) FU (x_1, x_1, (0 : Int32), I)).bind fun q_16 =>
if q_16.1 = 0 then (
some (q_16.2.2.2.1, q_16.2.2.2.2))
else (
some ((-1 : Int32), q_16.2.2.2.2))
set_option maxHeartbeats 4000000 in
set_option maxRecDepth 100000 in
theorem s_X5_measure {S : v_S} {F : v_F} (hS : p_SS S) (hF : p_FF F) (I : v_I) (p2 : Int32) (p3 : Int32) : f_X5_measure S I F 23 1 p2 p3 = h_X5_measure S I F p2 p3 := by
  unfold f_X5_measure h_X5_measure
  simp only [p_bs, p_obS hS (a := 23) (kd := 5) rfl, p_FS hF (a := 23) (i := 0) (b := 24) (by decide), p_ixS hS (kd := 20) (a := 24) (n := 8) rfl, s_X5_watchedBy hS hF, s_X5_measure_B12 hS hF]

def h_X5_lowestWatcher_J2_33 (S : v_S) (I : v_I) (F : v_F) (w1 : Int32) (w2 : Int32) (y3 : Int32) : Option ((Int32) ⊕ (Nat × (Int32))) :=
p_let (y3 + (1 : Int32)) fun x_3 =>
some (.inl x_3)
set_option maxHeartbeats 4000000 in
set_option maxRecDepth 100000 in
theorem s_X5_lowestWatcher_J2_33 {S : v_S} {F : v_F} (hS : p_SS S) (hF : p_FF F) (I : v_I) (w1 : Int32) (w2 : Int32) (y3 : Int32) : f_X5_lowestWatcher_J2_33 S I F 1 w1 w2 y3 = h_X5_lowestWatcher_J2_33 S I F w1 w2 y3 := by
  unfold f_X5_lowestWatcher_J2_33 h_X5_lowestWatcher_J2_33
  simp only [p_bs, p_obS hS (a := 1) (kd := 0) rfl, p_FS hF (a := 1) (i := 3) (b := 6) (by decide), p_ixS hS (kd := 20) (a := 6) (n := 8) rfl]
def h_X5_lowestWatcher_B2 (S : v_S) (I : v_I) (F : v_F) (w1 : Int32) (w2 : Int32) (s2 : Int32) : Option ((Int32) ⊕ (Nat × (Int32))) :=
if (8 : Int32) ≤ s2 then (
some (.inr (1, s2)))
else (
if ((w1 >>> (s2 &&& 31)) &&& (1 : Int32)) = (1 : Int32) then (
(p_in 8 s2).bind fun j_5 =>
if (((I 6 j_5) >>> (w2 &&& 31)) &&& (1 : Int32)) = (1 : Int32) then (
some (.inr (0, s2)))
else (
h_X5_lowestWatcher_J2_33 S I F w1 w2 s2))
else (
h_X5_lowestWatcher_J2_33 S I F w1 w2 s2))
set_option maxHeartbeats 4000000 in
set_option maxRecDepth 100000 in
theorem s_X5_lowestWatcher_B2 {S : v_S} {F : v_F} (hS : p_SS S) (hF : p_FF F) (I : v_I) (w1 : Int32) (w2 : Int32) : f_X5_lowestWatcher_B2 S I F 1 w1 w2 = h_X5_lowestWatcher_B2 S I F w1 w2 := by
  funext s2
  unfold f_X5_lowestWatcher_B2 h_X5_lowestWatcher_B2
  simp only [p_bs, p_obS hS (a := 1) (kd := 0) rfl, p_FS hF (a := 1) (i := 3) (b := 6) (by decide), p_ixS hS (kd := 20) (a := 6) (n := 8) rfl, s_X5_lowestWatcher_J2_33 hS hF]
def h_X5_lowestWatcher (S : v_S) (I : v_I) (F : v_F) (p1 : Int32) (p2 : Int32) : Option (Int32) :=
(v_loop (h_X5_lowestWatcher_B2 S I F p1 p2) FU (0 : Int32)).bind fun q_7 =>
if q_7.1 = 0 then (
some (q_7.2))
else (
some ((-1 : Int32)))
set_option maxHeartbeats 4000000 in
set_option maxRecDepth 100000 in
theorem s_X5_lowestWatcher {S : v_S} {F : v_F} (hS : p_SS S) (hF : p_FF F) (I : v_I) (p1 : Int32) (p2 : Int32) : f_X5_lowestWatcher S I F 1 p1 p2 = h_X5_lowestWatcher S I F p1 p2 := by
  unfold f_X5_lowestWatcher h_X5_lowestWatcher
  simp only [p_bs, p_obS hS (a := 1) (kd := 0) rfl, p_FS hF (a := 1) (i := 3) (b := 6) (by decide), p_ixS hS (kd := 20) (a := 6) (n := 8) rfl, s_X5_lowestWatcher_J2_33 hS hF, s_X5_lowestWatcher_B2 hS hF]

def h_X5_member_B25 (S : v_S) (I : v_I) (F : v_F) (w3 : Int32) (w4 : Int32) (s25 : Int32 × Int32) : Option ((Int32 × Int32) ⊕ (Int32 × Int32)) :=
if w4 < s25.2 then (
some (.inr (s25.1, s25.2)))
else (
(p_in 8 ((w3 - (1 : Int32)) - s25.2)).bind fun j_5 =>
(h_X5_lowestWatcher S I F (I 24 j_5) s25.1).bind fun r_6 =>
p_let (s25.2 + (1 : Int32)) fun x_8 =>
some (.inl (r_6, x_8)))
set_option maxHeartbeats 4000000 in
set_option maxRecDepth 100000 in
theorem s_X5_member_B25 {S : v_S} {F : v_F} (hS : p_SS S) (hF : p_FF F) (I : v_I) (w3 : Int32) (w4 : Int32) : f_X5_member_B25 S I F 23 1 w3 w4 = h_X5_member_B25 S I F w3 w4 := by
  funext s25
  unfold f_X5_member_B25 h_X5_member_B25
  simp only [p_bs, p_obS hS (a := 23) (kd := 5) rfl, p_FS hF (a := 23) (i := 0) (b := 24) (by decide), p_ixS hS (kd := 20) (a := 24) (n := 8) rfl, s_X5_lowestWatcher hS hF]
def h_X5_member (S : v_S) (I : v_I) (F : v_F) (p2 : Int32) (p3 : Int32) (p4 : Int32) : Option (Int32) :=
if p4 < (0 : Int32) then (
some ((-1 : Int32)))
else (
if p3 ≤ p4 then (
some ((-1 : Int32)))
else (
if p3 ≤ (8 : Int32) then (
(v_loop (h_X5_member_B25 S I F p3 p4) FU (p2, (0 : Int32))).bind fun q_10 =>
some (q_10.1))
else (
some ((-1 : Int32)))))
set_option maxHeartbeats 4000000 in
set_option maxRecDepth 100000 in
theorem s_X5_member {S : v_S} {F : v_F} (hS : p_SS S) (hF : p_FF F) (I : v_I) (p2 : Int32) (p3 : Int32) (p4 : Int32) : f_X5_member S I F 23 1 p2 p3 p4 = h_X5_member S I F p2 p3 p4 := by
  unfold f_X5_member h_X5_member
  simp only [p_bs, p_obS hS (a := 23) (kd := 5) rfl, p_FS hF (a := 23) (i := 0) (b := 24) (by decide), p_ixS hS (kd := 20) (a := 24) (n := 8) rfl, s_X5_lowestWatcher hS hF, s_X5_member_B25 hS hF]

def h_X9_chain (S : v_S) (I : v_I) (F : v_F) (p1 : Int32) (p2 : Int32) (p3 : Int32) : Option (Int32 × v_I) :=
(h_X0_has S I p1.toInt64).bind fun r_1 =>
if r_1 = (0 : Int32) then (
some ((-1 : Int32), I))
else (
(h_X0_has S I p2.toInt64).bind fun r_4 =>
if r_4 = (0 : Int32) then (
some ((-1 : Int32), I))
else (
(h_X5_measure S I F p1 p2).bind fun r_7 =>
if p3 = (-1 : Int32) then (
some (r_7.1, r_7.2))
else (
(h_X5_member S r_7.2 F p1 r_7.1 p3).bind fun r_10 =>
some (r_10, r_7.2))))
set_option maxHeartbeats 4000000 in
set_option maxRecDepth 100000 in
theorem s_X9_chain {S : v_S} {F : v_F} (hS : p_SS S) (hF : p_FF F) (I : v_I) (p1 : Int32) (p2 : Int32) (p3 : Int32) : f_X9_chain S I F 0 p1 p2 p3 = h_X9_chain S I F p1 p2 p3 := by
  unfold f_X9_chain h_X9_chain
  simp only [p_bs, p_obS hS (a := 0) (kd := 9) rfl, p_FS hF (a := 0) (i := 0) (b := 1) (by decide), s_X0_has hS hF, p_obS hS (a := 1) (kd := 0) rfl, p_FS hF (a := 0) (i := 4) (b := 23) (by decide), s_X5_measure hS hF, p_obS hS (a := 23) (kd := 5) rfl, s_X5_member hS hF]

def h_J6_lowestOneBit_0f7a4 (p0 : Int32) : Option (Int32) :=
some (p0 &&& (-p0))
set_option maxHeartbeats 4000000 in
set_option maxRecDepth 100000 in
theorem s_J6_lowestOneBit_0f7a4 (p0 : Int32) : f_J6_lowestOneBit_0f7a4 p0 = h_J6_lowestOneBit_0f7a4 p0 := by
  unfold f_J6_lowestOneBit_0f7a4 h_J6_lowestOneBit_0f7a4
  simp only [p_bs]

def h_X5_findSources_B15 (S : v_S) (F : v_F) (I : v_I) (w2 : Int32) (s15 : Int32 × Int32) : Option ((Int32 × Int32) ⊕ (Int32 × Int32)) :=
if (8 : Int32) ≤ s15.2 then (
some (.inr (s15.1, s15.2)))
else (
(h_X5_watchedBy S I F s15.1).bind fun r_5 =>
p_let (s15.1 ||| r_5) fun x_7 =>
p_let (s15.2 + (1 : Int32)) fun x_9 =>
some (.inl (x_7, x_9)))
set_option maxHeartbeats 4000000 in
set_option maxRecDepth 100000 in
theorem s_X5_findSources_B15 {S : v_S} {F : v_F} (hS : p_SS S) (hF : p_FF F) (I : v_I) (w2 : Int32) : f_X5_findSources_B15 S F I 23 1 w2 = h_X5_findSources_B15 S F I w2 := by
  funext s15
  unfold f_X5_findSources_B15 h_X5_findSources_B15
  simp only [p_bs, s_X5_watchedBy hS hF, p_obS hS (a := 23) (kd := 5) rfl, p_FS hF (a := 23) (i := 1) (b := 25) (by decide), p_ixS hS (kd := 20) (a := 25) (n := 8) rfl]
def h_X5_findSources_B2 (S : v_S) (F : v_F) (s2 : Int32 × v_I) : Option ((Int32 × v_I) ⊕ (Int32 × v_I)) :=
if (8 : Int32) ≤ s2.1 then (
some (.inr (s2.1, s2.2)))
else (
p_let ((1 : Int32) <<< (s2.1 &&& 31)) fun x_2 =>
(v_loop (h_X5_findSources_B15 S F s2.2 s2.1) FU (x_2, (0 : Int32))).bind fun q_11 =>
(p_in 8 s2.1).bind fun j_13 =>
p_let (v_up s2.2 25 j_13 q_11.1) fun I_14 =>
p_let (s2.1 + (1 : Int32)) fun x_16 =>
some (.inl (x_16, I_14)))
set_option maxHeartbeats 4000000 in
set_option maxRecDepth 100000 in
theorem s_X5_findSources_B2 {S : v_S} {F : v_F} (hS : p_SS S) (hF : p_FF F)  : f_X5_findSources_B2 S F 23 1 = h_X5_findSources_B2 S F := by
  funext s2
  unfold f_X5_findSources_B2 h_X5_findSources_B2
  simp only [p_bs, s_X5_watchedBy hS hF, p_obS hS (a := 23) (kd := 5) rfl, p_FS hF (a := 23) (i := 1) (b := 25) (by decide), p_ixS hS (kd := 20) (a := 25) (n := 8) rfl, s_X5_findSources_B15 hS hF]
def h_X5_findSources (S : v_S) (I : v_I) (F : v_F) : Option (v_I) :=
(v_loop (h_X5_findSources_B2 S F) FU ((0 : Int32), I)).bind fun q_18 =>
some (q_18.2)
set_option maxHeartbeats 4000000 in
set_option maxRecDepth 100000 in
theorem s_X5_findSources {S : v_S} {F : v_F} (hS : p_SS S) (hF : p_FF F) (I : v_I) : f_X5_findSources S I F 23 1 = h_X5_findSources S I F := by
  unfold f_X5_findSources h_X5_findSources
  simp only [p_bs, s_X5_watchedBy hS hF, p_obS hS (a := 23) (kd := 5) rfl, p_FS hF (a := 23) (i := 1) (b := 25) (by decide), p_ixS hS (kd := 20) (a := 25) (n := 8) rfl, s_X5_findSources_B15 hS hF, s_X5_findSources_B2 hS hF]

def h_X5_knotOf_J4_54 (S : v_S) (I : v_I) (F : v_F) (w1 : Int32) (y2 : Int32) (y3 : Int32) : Option ((Int32 × Int32) ⊕ (Int32 × Int32)) :=
p_let (y3 + (1 : Int32)) fun x_3 =>
some (.inl (y2, x_3))
set_option maxHeartbeats 4000000 in
set_option maxRecDepth 100000 in
theorem s_X5_knotOf_J4_54 {S : v_S} {F : v_F} (hS : p_SS S) (hF : p_FF F) (I : v_I) (w1 : Int32) (y2 : Int32) (y3 : Int32) : f_X5_knotOf_J4_54 S I F 23 w1 y2 y3 = h_X5_knotOf_J4_54 S I F w1 y2 y3 := by
  unfold f_X5_knotOf_J4_54 h_X5_knotOf_J4_54
  simp only [p_bs, p_obS hS (a := 23) (kd := 5) rfl, p_FS hF (a := 23) (i := 1) (b := 25) (by decide), p_ixS hS (kd := 20) (a := 25) (n := 8) rfl]
def h_X5_knotOf_B4 (S : v_S) (I : v_I) (F : v_F) (w1 : Int32) (s4 : Int32 × Int32) : Option ((Int32 × Int32) ⊕ (Int32 × Int32)) :=
if (8 : Int32) ≤ s4.2 then (
some (.inr (s4.1, s4.2)))
else (
if w1 < (0 : Int32) then (
h_X5_knotOf_J4_54 S I F w1 s4.1 s4.2)
else (
if (8 : Int32) ≤ w1 then (
h_X5_knotOf_J4_54 S I F w1 s4.1 s4.2)
else (
(p_in 8 w1).bind fun j_6 =>
if (((I 25 j_6) >>> (s4.2 &&& 31)) &&& (1 : Int32)) = (1 : Int32) then (
(p_in 8 s4.2).bind fun j_8 =>
if (((I 25 j_8) >>> (w1 &&& 31)) &&& (1 : Int32)) = (1 : Int32) then (
p_let (s4.1 ||| ((1 : Int32) <<< (s4.2 &&& 31))) fun x_10 =>
h_X5_knotOf_J4_54 S I F w1 x_10 s4.2)
else (
h_X5_knotOf_J4_54 S I F w1 s4.1 s4.2))
else (
h_X5_knotOf_J4_54 S I F w1 s4.1 s4.2))))
set_option maxHeartbeats 4000000 in
set_option maxRecDepth 100000 in
theorem s_X5_knotOf_B4 {S : v_S} {F : v_F} (hS : p_SS S) (hF : p_FF F) (I : v_I) (w1 : Int32) : f_X5_knotOf_B4 S I F 23 w1 = h_X5_knotOf_B4 S I F w1 := by
  funext s4
  unfold f_X5_knotOf_B4 h_X5_knotOf_B4
  simp only [p_bs, p_obS hS (a := 23) (kd := 5) rfl, p_FS hF (a := 23) (i := 1) (b := 25) (by decide), p_ixS hS (kd := 20) (a := 25) (n := 8) rfl, s_X5_knotOf_J4_54 hS hF]
def h_X5_knotOf (S : v_S) (I : v_I) (F : v_F) (p1 : Int32) : Option (Int32) :=
(v_loop (h_X5_knotOf_B4 S I F p1) FU ((0 : Int32), (0 : Int32))).bind fun q_12 =>
some (q_12.1)
set_option maxHeartbeats 4000000 in
set_option maxRecDepth 100000 in
theorem s_X5_knotOf {S : v_S} {F : v_F} (hS : p_SS S) (hF : p_FF F) (I : v_I) (p1 : Int32) : f_X5_knotOf S I F 23 p1 = h_X5_knotOf S I F p1 := by
  unfold f_X5_knotOf h_X5_knotOf
  simp only [p_bs, p_obS hS (a := 23) (kd := 5) rfl, p_FS hF (a := 23) (i := 1) (b := 25) (by decide), p_ixS hS (kd := 20) (a := 25) (n := 8) rfl, s_X5_knotOf_J4_54 hS hF, s_X5_knotOf_B4 hS hF]

def h_X5_lowestOfKnots_J9_43 (S : v_S) (I : v_I) (F : v_F) (y2 : Int32) (y3 : Int32) : Option ((Int32 × Int32) ⊕ (Int32 × Int32)) :=
p_let (y3 + (1 : Int32)) fun x_10 =>
some (.inl (y2, x_10))
set_option maxHeartbeats 4000000 in
set_option maxRecDepth 100000 in
theorem s_X5_lowestOfKnots_J9_43 {S : v_S} {F : v_F} (hS : p_SS S) (hF : p_FF F) (I : v_I) (y2 : Int32) (y3 : Int32) : f_X5_lowestOfKnots_J9_43 S I F 23 1 y2 y3 = h_X5_lowestOfKnots_J9_43 S I F y2 y3 := by
  unfold f_X5_lowestOfKnots_J9_43 h_X5_lowestOfKnots_J9_43
  simp only [p_bs, s_X5_findSources hS hF, p_obS hS (a := 23) (kd := 5) rfl, p_obS hS (a := 1) (kd := 0) rfl, s_X5_knotOf hS hF, s_J6_lowestOneBit_0f7a4]
def h_X5_lowestOfKnots_B9 (S : v_S) (F : v_F) (I : v_I) (s9 : Int32 × Int32) : Option ((Int32 × Int32) ⊕ (Int32 × Int32)) :=
if (I 1 0) ≤ s9.2 then (
some (.inr (s9.1, s9.2)))
else (
if (8 : Int32) ≤ s9.2 then (
some (.inr (s9.1, s9.2)))
else (
(h_X5_knotOf S I F s9.2).bind fun r_5 =>
(h_J6_lowestOneBit_0f7a4 r_5).bind fun r_7 =>
if r_7 = ((1 : Int32) <<< (s9.2 &&& 31)) then (
p_let (s9.1 ||| ((1 : Int32) <<< (s9.2 &&& 31))) fun x_12 =>
h_X5_lowestOfKnots_J9_43 S I F x_12 s9.2)
else (
h_X5_lowestOfKnots_J9_43 S I F s9.1 s9.2)))
set_option maxHeartbeats 4000000 in
set_option maxRecDepth 100000 in
theorem s_X5_lowestOfKnots_B9 {S : v_S} {F : v_F} (hS : p_SS S) (hF : p_FF F) (I : v_I) : f_X5_lowestOfKnots_B9 S F I 23 1 = h_X5_lowestOfKnots_B9 S F I := by
  funext s9
  unfold f_X5_lowestOfKnots_B9 h_X5_lowestOfKnots_B9
  simp only [p_bs, s_X5_findSources hS hF, p_obS hS (a := 23) (kd := 5) rfl, p_obS hS (a := 1) (kd := 0) rfl, s_X5_knotOf hS hF, s_J6_lowestOneBit_0f7a4, s_X5_lowestOfKnots_J9_43 hS hF]
def h_X5_lowestOfKnots (S : v_S) (I : v_I) (F : v_F) : Option (Int32 × v_I) :=
(h_X5_findSources S I F).bind fun r_1 =>
(v_loop (h_X5_lowestOfKnots_B9 S F r_1) FU ((0 : Int32), (0 : Int32))).bind fun q_14 =>
some (q_14.1, r_1)
set_option maxHeartbeats 4000000 in
set_option maxRecDepth 100000 in
theorem s_X5_lowestOfKnots {S : v_S} {F : v_F} (hS : p_SS S) (hF : p_FF F) (I : v_I) : f_X5_lowestOfKnots S I F 23 1 = h_X5_lowestOfKnots S I F := by
  unfold f_X5_lowestOfKnots h_X5_lowestOfKnots
  simp only [p_bs, s_X5_findSources hS hF, p_obS hS (a := 23) (kd := 5) rfl, p_obS hS (a := 1) (kd := 0) rfl, s_X5_knotOf hS hF, s_J6_lowestOneBit_0f7a4, s_X5_lowestOfKnots_J9_43 hS hF, s_X5_lowestOfKnots_B9 hS hF]

def h_X9_knots (S : v_S) (I : v_I) (F : v_F) : Option (Int32 × v_I) :=
(h_X5_lowestOfKnots S I F).bind fun r_1 =>
(h_J6_bitCount_0f7a4 r_1.1).bind fun r_3 =>
some (r_3, r_1.2)
set_option maxHeartbeats 4000000 in
set_option maxRecDepth 100000 in
theorem s_X9_knots {S : v_S} {F : v_F} (hS : p_SS S) (hF : p_FF F) (I : v_I) : f_X9_knots S I F 0 = h_X9_knots S I F := by
  unfold f_X9_knots h_X9_knots
  simp only [p_bs, p_obS hS (a := 0) (kd := 9) rfl, p_FS hF (a := 0) (i := 4) (b := 23) (by decide), p_FS hF (a := 0) (i := 0) (b := 1) (by decide), s_X5_lowestOfKnots hS hF, p_obS hS (a := 23) (kd := 5) rfl, s_J6_bitCount_0f7a4]

def h_X5_fewestHeads_J11_51 (S : v_S) (I : v_I) (F : v_F) (w2 : Int32) (y3 : Int32) (y4 : Int32) : Option ((Int32 × Int32) ⊕ (Int32 × Int32)) :=
p_let (y4 + (1 : Int32)) fun x_5 =>
some (.inl (y3, x_5))
set_option maxHeartbeats 4000000 in
set_option maxRecDepth 100000 in
theorem s_X5_fewestHeads_J11_51 {S : v_S} {F : v_F} (hS : p_SS S) (hF : p_FF F) (I : v_I) (w2 : Int32) (y3 : Int32) (y4 : Int32) : f_X5_fewestHeads_J11_51 S I F 23 w2 y3 y4 = h_X5_fewestHeads_J11_51 S I F w2 y3 y4 := by
  unfold f_X5_fewestHeads_J11_51 h_X5_fewestHeads_J11_51
  simp only [p_bs, s_X5_lowestOfKnots hS hF, p_obS hS (a := 23) (kd := 5) rfl, p_FS hF (a := 23) (i := 1) (b := 25) (by decide), p_ixS hS (kd := 20) (a := 25) (n := 8) rfl, s_X5_knotOf hS hF]
def h_X5_fewestHeads_B11 (S : v_S) (F : v_F) (I : v_I) (w2 : Int32) (s11 : Int32 × Int32) : Option ((Int32 × Int32) ⊕ (Int32 × Int32)) :=
if (8 : Int32) ≤ s11.2 then (
some (.inr (s11.1, s11.2)))
else (
if ((w2 >>> (s11.2 &&& 31)) &&& (1 : Int32)) = (1 : Int32) then (
(p_in 8 s11.2).bind fun j_7 =>
(h_X5_knotOf S I F s11.2).bind fun r_8 =>
if (I 25 j_7) = r_8 then (
p_let (s11.1 ||| ((1 : Int32) <<< (s11.2 &&& 31))) fun x_11 =>
h_X5_fewestHeads_J11_51 S I F w2 x_11 s11.2)
else (
h_X5_fewestHeads_J11_51 S I F w2 s11.1 s11.2))
else (
h_X5_fewestHeads_J11_51 S I F w2 s11.1 s11.2))
set_option maxHeartbeats 4000000 in
set_option maxRecDepth 100000 in
theorem s_X5_fewestHeads_B11 {S : v_S} {F : v_F} (hS : p_SS S) (hF : p_FF F) (I : v_I) (w2 : Int32) : f_X5_fewestHeads_B11 S F I 23 w2 = h_X5_fewestHeads_B11 S F I w2 := by
  funext s11
  unfold f_X5_fewestHeads_B11 h_X5_fewestHeads_B11
  simp only [p_bs, s_X5_lowestOfKnots hS hF, p_obS hS (a := 23) (kd := 5) rfl, p_FS hF (a := 23) (i := 1) (b := 25) (by decide), p_ixS hS (kd := 20) (a := 25) (n := 8) rfl, s_X5_knotOf hS hF, s_X5_fewestHeads_J11_51 hS hF]
def h_X5_fewestHeads (S : v_S) (I : v_I) (F : v_F) : Option (Int32 × v_I) :=
(h_X5_lowestOfKnots S I F).bind fun r_1 =>
(v_loop (h_X5_fewestHeads_B11 S F r_1.2 r_1.1) FU ((0 : Int32), (0 : Int32))).bind fun q_13 =>
some (q_13.1, r_1.2)
set_option maxHeartbeats 4000000 in
set_option maxRecDepth 100000 in
theorem s_X5_fewestHeads {S : v_S} {F : v_F} (hS : p_SS S) (hF : p_FF F) (I : v_I) : f_X5_fewestHeads S I F 23 1 = h_X5_fewestHeads S I F := by
  unfold f_X5_fewestHeads h_X5_fewestHeads
  simp only [p_bs, s_X5_lowestOfKnots hS hF, p_obS hS (a := 23) (kd := 5) rfl, p_FS hF (a := 23) (i := 1) (b := 25) (by decide), p_ixS hS (kd := 20) (a := 25) (n := 8) rfl, s_X5_knotOf hS hF, s_X5_fewestHeads_J11_51 hS hF, s_X5_fewestHeads_B11 hS hF]

def h_X9_heads (S : v_S) (I : v_I) (F : v_F) (p1 : Int32) : Option (Int32 × v_I) :=
(h_X9_isUpTo p1.toInt64 (1 : Int32)).bind fun r_1 =>
if r_1 = (0 : Int32) then (
some ((-1 : Int32), I))
else (
(h_X5_fewestHeads S I F).bind fun r_4 =>
(h_X9_tellSet r_4.1 p1).bind fun r_6 =>
some (r_6, r_4.2))
set_option maxHeartbeats 4000000 in
set_option maxRecDepth 100000 in
theorem s_X9_heads {S : v_S} {F : v_F} (hS : p_SS S) (hF : p_FF F) (I : v_I) (p1 : Int32) : f_X9_heads S I F 0 p1 = h_X9_heads S I F p1 := by
  unfold f_X9_heads h_X9_heads
  simp only [p_bs, s_X9_isUpTo, p_obS hS (a := 0) (kd := 9) rfl, p_FS hF (a := 0) (i := 4) (b := 23) (by decide), p_FS hF (a := 0) (i := 0) (b := 1) (by decide), s_X5_fewestHeads hS hF, p_obS hS (a := 23) (kd := 5) rfl, s_X9_tellSet]

def h_X0_addSeen (S : v_S) (I : v_I) (F : v_F) (p1 : Int32) (p2 : Int32) : Option (Int32 × v_I) :=
if (6 : Int32) ≤ (I 1 7) then (
some (I 1 7, I))
else (
(p_in 6 (I 1 7)).bind fun j_2 =>
p_let (v_up I 7 j_2 p1) fun I_3 =>
(p_in 6 (I_3 1 7)).bind fun j_5 =>
p_let (v_up I_3 8 j_5 p2) fun I_6 =>
p_let (v_up I_6 1 7 ((I_6 1 7) + (1 : Int32))) fun I_8 =>
some (I_8 1 7, I_8))
set_option maxHeartbeats 4000000 in
set_option maxRecDepth 100000 in
theorem s_X0_addSeen {S : v_S} {F : v_F} (hS : p_SS S) (hF : p_FF F) (I : v_I) (p1 : Int32) (p2 : Int32) : f_X0_addSeen S I F 1 p1 p2 = h_X0_addSeen S I F p1 p2 := by
  unfold f_X0_addSeen h_X0_addSeen
  simp only [p_bs, p_obS hS (a := 1) (kd := 0) rfl, p_FS hF (a := 1) (i := 8) (b := 7) (by decide), p_ixS hS (kd := 20) (a := 7) (n := 6) rfl, p_FS hF (a := 1) (i := 9) (b := 8) (by decide), p_ixS hS (kd := 20) (a := 8) (n := 6) rfl]

def h_X9_seen_J19 (S : v_S) (F : v_F) (I : v_I) : Option (Int32 × v_I) :=
(h_X9_refuse S I F (-1 : Int32)).bind fun r_4 =>
some (r_4.1, r_4.2)
set_option maxHeartbeats 4000000 in
set_option maxRecDepth 100000 in
theorem s_X9_seen_J19 {S : v_S} {F : v_F} (hS : p_SS S) (hF : p_FF F) (I : v_I) : f_X9_seen_J19 S F I 0 = h_X9_seen_J19 S F I := by
  unfold f_X9_seen_J19 h_X9_seen_J19
  simp only [p_bs, s_X9_isUpTo, s_X9_refuse hS hF, p_obS hS (a := 0) (kd := 9) rfl, p_FS hF (a := 0) (i := 0) (b := 1) (by decide), p_obS hS (a := 1) (kd := 0) rfl, s_X0_addSeen hS hF, s_X9_accept hS hF]
def h_X9_seen (S : v_S) (I : v_I) (F : v_F) (p1 : Int32) (p2 : Int32) : Option (Int32 × v_I) :=
(h_X9_isUpTo p1.toInt64 (60 : Int32)).bind fun r_1 =>
if r_1 = (0 : Int32) then (
h_X9_seen_J19 S F I)
else (
(h_X9_isUpTo p2.toInt64 (1 : Int32)).bind fun r_6 =>
if r_6 = (0 : Int32) then (
h_X9_seen_J19 S F I)
else (
if (I 1 7) < (6 : Int32) then (
(h_X0_addSeen S I F p1 p2).bind fun r_10 =>
(h_X9_accept S r_10.2 r_10.1).bind fun r_12 =>
some (r_12.1, r_12.2))
else (
(h_X9_refuse S I F (-5 : Int32)).bind fun r_14 =>
some (r_14.1, r_14.2))))
set_option maxHeartbeats 4000000 in
set_option maxRecDepth 100000 in
theorem s_X9_seen {S : v_S} {F : v_F} (hS : p_SS S) (hF : p_FF F) (I : v_I) (p1 : Int32) (p2 : Int32) : f_X9_seen S I F 0 p1 p2 = h_X9_seen S I F p1 p2 := by
  unfold f_X9_seen h_X9_seen
  simp only [p_bs, s_X9_isUpTo, s_X9_refuse hS hF, p_obS hS (a := 0) (kd := 9) rfl, p_FS hF (a := 0) (i := 0) (b := 1) (by decide), p_obS hS (a := 1) (kd := 0) rfl, s_X0_addSeen hS hF, s_X9_accept hS hF, s_X9_seen_J19 hS hF]

def h_X9_forget (S : v_S) (I : v_I) (F : v_F) : Option (Int32 × v_I) :=
p_let (I 1 7) fun x_1 =>
p_let (v_up I 1 7 (0 : Int32)) fun I_3 =>
some (x_1, I_3)
set_option maxHeartbeats 4000000 in
set_option maxRecDepth 100000 in
theorem s_X9_forget {S : v_S} {F : v_F} (hS : p_SS S) (hF : p_FF F) (I : v_I) : f_X9_forget S I F 0 = h_X9_forget S I F := by
  unfold f_X9_forget h_X9_forget
  simp only [p_bs, p_obS hS (a := 0) (kd := 9) rfl, p_FS hF (a := 0) (i := 0) (b := 1) (by decide), p_obS hS (a := 1) (kd := 0) rfl]

def h_X1_likeSeen_J7_74 (S : v_S) (I : v_I) (F : v_F) (y3 : Int32) (z0 : Int32) (z1 : Int32) : Option ((Int32 × Int32) ⊕ (Int32 × Int32)) :=
p_let (z1 &&& z0) fun x_11 =>
p_let (y3 + (1 : Int32)) fun x_13 =>
some (.inl (x_11, x_13))
set_option maxHeartbeats 4000000 in
set_option maxRecDepth 100000 in
theorem s_X1_likeSeen_J7_74 {S : v_S} {F : v_F} (hS : p_SS S) (hF : p_FF F) (I : v_I) (y3 : Int32) (z0 : Int32) (z1 : Int32) : f_X1_likeSeen_J7_74 S I F 14 1 y3 z0 z1 = h_X1_likeSeen_J7_74 S I F y3 z0 z1 := by
  unfold f_X1_likeSeen_J7_74 h_X1_likeSeen_J7_74
  simp only [p_bs, s_X0_everyone hS hF, p_obS hS (a := 1) (kd := 0) rfl, p_FS hF (a := 1) (i := 8) (b := 7) (by decide), p_ixS hS (kd := 20) (a := 7) (n := 6) rfl, p_FS hF (a := 1) (i := 9) (b := 8) (by decide), p_ixS hS (kd := 20) (a := 8) (n := 6) rfl, p_obS hS (a := 14) (kd := 1) rfl, p_FS hF (a := 14) (i := 3) (b := 22) (by decide), p_ixS hS (kd := 20) (a := 22) (n := 61) rfl]
def h_X1_likeSeen_J7_52 (S : v_S) (I : v_I) (F : v_F) (y2 : Int32) (y3 : Int32) (z0 : Int32) : Option ((Int32 × Int32) ⊕ (Int32 × Int32)) :=
(p_in 6 y3).bind fun j_9 =>
if (I 8 j_9) = (1 : Int32) then (
h_X1_likeSeen_J7_74 S I F y3 z0 y2)
else (
h_X1_likeSeen_J7_74 S I F y3 (z0 ^^^ (-1 : Int32)) y2)
set_option maxHeartbeats 4000000 in
set_option maxRecDepth 100000 in
theorem s_X1_likeSeen_J7_52 {S : v_S} {F : v_F} (hS : p_SS S) (hF : p_FF F) (I : v_I) (y2 : Int32) (y3 : Int32) (z0 : Int32) : f_X1_likeSeen_J7_52 S I F 14 1 y2 y3 z0 = h_X1_likeSeen_J7_52 S I F y2 y3 z0 := by
  unfold f_X1_likeSeen_J7_52 h_X1_likeSeen_J7_52
  simp only [p_bs, s_X0_everyone hS hF, p_obS hS (a := 1) (kd := 0) rfl, p_FS hF (a := 1) (i := 8) (b := 7) (by decide), p_ixS hS (kd := 20) (a := 7) (n := 6) rfl, p_FS hF (a := 1) (i := 9) (b := 8) (by decide), p_ixS hS (kd := 20) (a := 8) (n := 6) rfl, p_obS hS (a := 14) (kd := 1) rfl, p_FS hF (a := 14) (i := 3) (b := 22) (by decide), p_ixS hS (kd := 20) (a := 22) (n := 61) rfl, s_X1_likeSeen_J7_74 hS hF]
def h_X1_likeSeen_J7_51 (S : v_S) (I : v_I) (F : v_F) (y2 : Int32) (y3 : Int32) : Option ((Int32 × Int32) ⊕ (Int32 × Int32)) :=
h_X1_likeSeen_J7_52 S I F y2 y3 (0 : Int32)
set_option maxHeartbeats 4000000 in
set_option maxRecDepth 100000 in
theorem s_X1_likeSeen_J7_51 {S : v_S} {F : v_F} (hS : p_SS S) (hF : p_FF F) (I : v_I) (y2 : Int32) (y3 : Int32) : f_X1_likeSeen_J7_51 S I F 14 1 y2 y3 = h_X1_likeSeen_J7_51 S I F y2 y3 := by
  unfold f_X1_likeSeen_J7_51 h_X1_likeSeen_J7_51
  simp only [p_bs, s_X0_everyone hS hF, p_obS hS (a := 1) (kd := 0) rfl, p_FS hF (a := 1) (i := 8) (b := 7) (by decide), p_ixS hS (kd := 20) (a := 7) (n := 6) rfl, p_FS hF (a := 1) (i := 9) (b := 8) (by decide), p_ixS hS (kd := 20) (a := 8) (n := 6) rfl, p_obS hS (a := 14) (kd := 1) rfl, p_FS hF (a := 14) (i := 3) (b := 22) (by decide), p_ixS hS (kd := 20) (a := 22) (n := 61) rfl, s_X1_likeSeen_J7_74 hS hF, s_X1_likeSeen_J7_52 hS hF]
def h_X1_likeSeen_B7 (S : v_S) (I : v_I) (F : v_F) (s7 : Int32 × Int32) : Option ((Int32 × Int32) ⊕ (Int32 × Int32)) :=
if (I 1 7) ≤ s7.2 then (
some (.inr (s7.1, s7.2)))
else (
if (6 : Int32) ≤ s7.2 then (
some (.inr (s7.1, s7.2)))
else (
(p_in 6 s7.2).bind fun j_5 =>
p_let (I 7 j_5) fun x_6 =>
if x_6 < (0 : Int32) then (
h_X1_likeSeen_J7_51 S I F s7.1 s7.2)
else (
if (60 : Int32) < x_6 then (
h_X1_likeSeen_J7_51 S I F s7.1 s7.2)
else (
(p_in 61 x_6).bind fun j_16 =>
h_X1_likeSeen_J7_52 S I F s7.1 s7.2 (I 22 j_16)))))
set_option maxHeartbeats 4000000 in
set_option maxRecDepth 100000 in
theorem s_X1_likeSeen_B7 {S : v_S} {F : v_F} (hS : p_SS S) (hF : p_FF F) (I : v_I) : f_X1_likeSeen_B7 S I F 14 1 = h_X1_likeSeen_B7 S I F := by
  funext s7
  unfold f_X1_likeSeen_B7 h_X1_likeSeen_B7
  simp only [p_bs, s_X0_everyone hS hF, p_obS hS (a := 1) (kd := 0) rfl, p_FS hF (a := 1) (i := 8) (b := 7) (by decide), p_ixS hS (kd := 20) (a := 7) (n := 6) rfl, p_FS hF (a := 1) (i := 9) (b := 8) (by decide), p_ixS hS (kd := 20) (a := 8) (n := 6) rfl, p_obS hS (a := 14) (kd := 1) rfl, p_FS hF (a := 14) (i := 3) (b := 22) (by decide), p_ixS hS (kd := 20) (a := 22) (n := 61) rfl, s_X1_likeSeen_J7_74 hS hF, s_X1_likeSeen_J7_52 hS hF, s_X1_likeSeen_J7_51 hS hF]
def h_X1_likeSeen (S : v_S) (I : v_I) (F : v_F) : Option (Int32) :=
(h_X0_everyone S I).bind fun r_1 =>
(v_loop (h_X1_likeSeen_B7 S I F) FU (r_1, (0 : Int32))).bind fun q_17 =>
some (q_17.1)
set_option maxHeartbeats 4000000 in
set_option maxRecDepth 100000 in
theorem s_X1_likeSeen {S : v_S} {F : v_F} (hS : p_SS S) (hF : p_FF F) (I : v_I) : f_X1_likeSeen S I F 14 1 = h_X1_likeSeen S I F := by
  unfold f_X1_likeSeen h_X1_likeSeen
  simp only [p_bs, s_X0_everyone hS hF, p_obS hS (a := 1) (kd := 0) rfl, p_FS hF (a := 1) (i := 8) (b := 7) (by decide), p_ixS hS (kd := 20) (a := 7) (n := 6) rfl, p_FS hF (a := 1) (i := 9) (b := 8) (by decide), p_ixS hS (kd := 20) (a := 8) (n := 6) rfl, p_obS hS (a := 14) (kd := 1) rfl, p_FS hF (a := 14) (i := 3) (b := 22) (by decide), p_ixS hS (kd := 20) (a := 22) (n := 61) rfl, s_X1_likeSeen_J7_74 hS hF, s_X1_likeSeen_J7_52 hS hF, s_X1_likeSeen_J7_51 hS hF, s_X1_likeSeen_B7 hS hF]

def h_X9_canBe (S : v_S) (I : v_I) (J : v_J) (F : v_F) : Option (Int32 × v_I × v_J) :=
(h_X1_follow S I J F).bind fun r_1 =>
(h_X1_likeSeen S r_1.1 F).bind fun r_3 =>
some (r_3, r_1.1, r_1.2)
set_option maxHeartbeats 4000000 in
set_option maxRecDepth 100000 in
theorem s_X9_canBe {S : v_S} {F : v_F} (hS : p_SS S) (hF : p_FF F) (I : v_I) (J : v_J) : f_X9_canBe S I J F 0 = h_X9_canBe S I J F := by
  unfold f_X9_canBe h_X9_canBe
  simp only [p_bs, p_obS hS (a := 0) (kd := 9) rfl, p_FS hF (a := 0) (i := 3) (b := 14) (by decide), p_FS hF (a := 0) (i := 0) (b := 1) (by decide), s_X1_follow hS hF, p_obS hS (a := 14) (kd := 1) rfl, s_X1_likeSeen hS hF]

def h_X1_leftAt (S : v_S) (I : v_I) (F : v_F) (p1 : Int32) (p2 : Int32) : Option (Int32) :=
if p2 < (0 : Int32) then (
some ((-1 : Int32)))
else (
if p2 ≤ (60 : Int32) then (
(p_in 61 p2).bind fun j_3 =>
(h_J6_bitCount_0f7a4 (p1 &&& (I 22 j_3))).bind fun r_4 =>
(p_in 61 p2).bind fun j_6 =>
(h_J6_bitCount_0f7a4 (p1 &&& ((I 22 j_6) ^^^ (-1 : Int32)))).bind fun r_7 =>
some (p_max r_4 r_7))
else (
some ((-1 : Int32))))
set_option maxHeartbeats 4000000 in
set_option maxRecDepth 100000 in
theorem s_X1_leftAt {S : v_S} {F : v_F} (hS : p_SS S) (hF : p_FF F) (I : v_I) (p1 : Int32) (p2 : Int32) : f_X1_leftAt S I F 14 p1 p2 = h_X1_leftAt S I F p1 p2 := by
  unfold f_X1_leftAt h_X1_leftAt
  simp only [p_bs, p_obS hS (a := 14) (kd := 1) rfl, p_FS hF (a := 14) (i := 3) (b := 22) (by decide), p_ixS hS (kd := 20) (a := 22) (n := 61) rfl, s_J6_bitCount_0f7a4]

def h_X1_bestLook_J4_27 (S : v_S) (I : v_I) (F : v_F) (w1 : Int32) (y2 : Int32) (y3 : Int32) : Option ((Int32 × Int32) ⊕ (Int32 × Int32)) :=
p_let (y3 + (1 : Int32)) fun x_7 =>
some (.inl (y2, x_7))
set_option maxHeartbeats 4000000 in
set_option maxRecDepth 100000 in
theorem s_X1_bestLook_J4_27 {S : v_S} {F : v_F} (hS : p_SS S) (hF : p_FF F) (I : v_I) (w1 : Int32) (y2 : Int32) (y3 : Int32) : f_X1_bestLook_J4_27 S I F 14 w1 y2 y3 = h_X1_bestLook_J4_27 S I F w1 y2 y3 := by
  unfold f_X1_bestLook_J4_27 h_X1_bestLook_J4_27
  simp only [p_bs, s_X1_leftAt hS hF, p_obS hS (a := 14) (kd := 1) rfl]
def h_X1_bestLook_B4 (S : v_S) (I : v_I) (F : v_F) (w1 : Int32) (s4 : Int32 × Int32) : Option ((Int32 × Int32) ⊕ (Int32 × Int32)) :=
if (60 : Int32) < s4.2 then (
some (.inr (s4.1, s4.2)))
else (
(h_X1_leftAt S I F w1 s4.2).bind fun r_2 =>
(h_X1_leftAt S I F w1 s4.1).bind fun r_4 =>
if r_4 ≤ r_2 then (
h_X1_bestLook_J4_27 S I F w1 s4.1 s4.2)
else (
h_X1_bestLook_J4_27 S I F w1 s4.2 s4.2))
set_option maxHeartbeats 4000000 in
set_option maxRecDepth 100000 in
theorem s_X1_bestLook_B4 {S : v_S} {F : v_F} (hS : p_SS S) (hF : p_FF F) (I : v_I) (w1 : Int32) : f_X1_bestLook_B4 S I F 14 w1 = h_X1_bestLook_B4 S I F w1 := by
  funext s4
  unfold f_X1_bestLook_B4 h_X1_bestLook_B4
  simp only [p_bs, s_X1_leftAt hS hF, p_obS hS (a := 14) (kd := 1) rfl, s_X1_bestLook_J4_27 hS hF]
def h_X1_bestLook (S : v_S) (I : v_I) (F : v_F) (p1 : Int32) : Option (Int32) :=
(v_loop (h_X1_bestLook_B4 S I F p1) FU ((0 : Int32), (1 : Int32))).bind fun q_9 =>
some (q_9.1)
set_option maxHeartbeats 4000000 in
set_option maxRecDepth 100000 in
theorem s_X1_bestLook {S : v_S} {F : v_F} (hS : p_SS S) (hF : p_FF F) (I : v_I) (p1 : Int32) : f_X1_bestLook S I F 14 p1 = h_X1_bestLook S I F p1 := by
  unfold f_X1_bestLook h_X1_bestLook
  simp only [p_bs, s_X1_leftAt hS hF, p_obS hS (a := 14) (kd := 1) rfl, s_X1_bestLook_J4_27 hS hF, s_X1_bestLook_B4 hS hF]

def h_X9_look (S : v_S) (I : v_I) (J : v_J) (F : v_F) (p1 : Int32) : Option (Int32 × v_I × v_J) :=
(h_X9_isUpTo p1.toInt64 (1 : Int32)).bind fun r_1 =>
if r_1 = (0 : Int32) then (
some ((-1 : Int32), I, J))
else (
(h_X1_follow S I J F).bind fun r_4 =>
(h_X1_likeSeen S r_4.1 F).bind fun r_6 =>
if r_6 = (0 : Int32) then (
some ((-1 : Int32), r_4.1, r_4.2))
else (
(h_X1_bestLook S r_4.1 F r_6).bind fun r_9 =>
if p1 = (0 : Int32) then (
some (r_9, r_4.1, r_4.2))
else (
(h_X1_leftAt S r_4.1 F r_6 r_9).bind fun r_12 =>
some (r_12, r_4.1, r_4.2))))
set_option maxHeartbeats 4000000 in
set_option maxRecDepth 100000 in
theorem s_X9_look {S : v_S} {F : v_F} (hS : p_SS S) (hF : p_FF F) (I : v_I) (J : v_J) (p1 : Int32) : f_X9_look S I J F 0 p1 = h_X9_look S I J F p1 := by
  unfold f_X9_look h_X9_look
  simp only [p_bs, s_X9_isUpTo, p_obS hS (a := 0) (kd := 9) rfl, p_FS hF (a := 0) (i := 3) (b := 14) (by decide), p_FS hF (a := 0) (i := 0) (b := 1) (by decide), s_X1_follow hS hF, p_obS hS (a := 14) (kd := 1) rfl, s_X1_likeSeen hS hF, s_X1_bestLook hS hF, s_X1_leftAt hS hF]

def h_J7_fill_d0a16_B6 (S : v_S) (w0 : Nat) (w1 : Int64) (w4 : Int32) (s6 : Int32 × v_J) : Option ((Int32 × v_J) ⊕ (Int32 × v_J)) :=
if w4 ≤ s6.1 then (
some (.inr (s6.1, s6.2)))
else (
(p_ix S 23 w0 s6.1).bind fun j_3 =>
p_let (v_up s6.2 w0 j_3 w1) fun J_4 =>
p_let (s6.1 + (1 : Int32)) fun x_6 =>
some (.inl (x_6, J_4)))
set_option maxHeartbeats 4000000 in
set_option maxRecDepth 100000 in
theorem s_J7_fill_d0a16_B6 {S : v_S} {F : v_F} (hS : p_SS S) (hF : p_FF F) (w0 : Nat) (w1 : Int64) (w4 : Int32) : f_J7_fill_d0a16_B6 S w0 w1 w4 = h_J7_fill_d0a16_B6 S w0 w1 w4 := by
  funext s6
  unfold f_J7_fill_d0a16_B6 h_J7_fill_d0a16_B6
  simp only [p_bs]
def h_J7_fill_d0a16 (S : v_S) (J : v_J) (p0 : Nat) (p1 : Int64) : Option (v_J) :=
(p_len S 23 p0).bind fun x_1 =>
(v_loop (h_J7_fill_d0a16_B6 S p0 p1 x_1) FU ((0 : Int32), J)).bind fun q_8 =>
some (q_8.2)
set_option maxHeartbeats 4000000 in
set_option maxRecDepth 100000 in
theorem s_J7_fill_d0a16 {S : v_S} {F : v_F} (hS : p_SS S) (hF : p_FF F) (J : v_J) (p0 : Nat) (p1 : Int64) : f_J7_fill_d0a16 S J p0 p1 = h_J7_fill_d0a16 S J p0 p1 := by
  unfold f_J7_fill_d0a16 h_J7_fill_d0a16
  simp only [p_bs, s_J7_fill_d0a16_B6 hS hF]

def h_X9_few_J64_94 (S : v_S) (I : v_I) (F : v_F) (w1 : Int32) (w2 : Int32) (w3 : Int32) (w4 : Int32) (J : v_J) (y5 : Int32) (z0 : Int64) : Option ((Int32 × v_J) ⊕ (Int32 × v_J)) :=
(p_in 20 y5).bind fun j_17 =>
(p_in 20 y5).bind fun j_18 =>
p_let (v_up J 47 j_18 ((((J 47 j_17) * (((10 : Int32) - w3).toInt64)) / (10 : Int64)) + z0)) fun J_19 =>
p_let (y5 + (-1 : Int32)) fun x_21 =>
some (.inl (x_21, J_19))
set_option maxHeartbeats 4000000 in
set_option maxRecDepth 100000 in
theorem s_X9_few_J64_94 {S : v_S} {F : v_F} (hS : p_SS S) (hF : p_FF F) (I : v_I) (w1 : Int32) (w2 : Int32) (w3 : Int32) (w4 : Int32) (J : v_J) (y5 : Int32) (z0 : Int64) : f_X9_few_J64_94 S I F 0 w1 w2 w3 w4 J y5 z0 = h_X9_few_J64_94 S I F w1 w2 w3 w4 J y5 z0 := by
  unfold f_X9_few_J64_94 h_X9_few_J64_94
  simp only [p_bs, s_X9_isUpTo, p_obS hS (a := 0) (kd := 9) rfl, p_FS hF (a := 0) (i := 12) (b := 47) (by decide), s_J7_fill_d0a16 hS hF, p_ixS hS (kd := 23) (a := 47) (n := 20) rfl, p_inL (n := 20) (k := 0) (i := (0 : Int32)) (by decide), p_FS hF (a := 0) (i := 0) (b := 1) (by decide), p_obS hS (a := 1) (kd := 0) rfl]
def h_X9_few_B64 (S : v_S) (I : v_I) (F : v_F) (w1 : Int32) (w2 : Int32) (w3 : Int32) (w4 : Int32) (s64 : Int32 × v_J) : Option ((Int32 × v_J) ⊕ (Int32 × v_J)) :=
if s64.1 < (0 : Int32) then (
some (.inr (s64.1, s64.2)))
else (
if s64.1 ≤ (0 : Int32) then (
h_X9_few_J64_94 S I F w1 w2 w3 w4 s64.2 s64.1 (0 : Int64))
else (
(p_in 20 (s64.1 - (1 : Int32))).bind fun j_23 =>
h_X9_few_J64_94 S I F w1 w2 w3 w4 s64.2 s64.1 (((s64.2 47 j_23) * w3.toInt64) / (10 : Int64))))
set_option maxHeartbeats 4000000 in
set_option maxRecDepth 100000 in
theorem s_X9_few_B64 {S : v_S} {F : v_F} (hS : p_SS S) (hF : p_FF F) (I : v_I) (w1 : Int32) (w2 : Int32) (w3 : Int32) (w4 : Int32) : f_X9_few_B64 S I F 0 w1 w2 w3 w4 = h_X9_few_B64 S I F w1 w2 w3 w4 := by
  funext s64
  unfold f_X9_few_B64 h_X9_few_B64
  simp only [p_bs, s_X9_isUpTo, p_obS hS (a := 0) (kd := 9) rfl, p_FS hF (a := 0) (i := 12) (b := 47) (by decide), s_J7_fill_d0a16 hS hF, p_ixS hS (kd := 23) (a := 47) (n := 20) rfl, p_inL (n := 20) (k := 0) (i := (0 : Int32)) (by decide), p_FS hF (a := 0) (i := 0) (b := 1) (by decide), p_obS hS (a := 1) (kd := 0) rfl, s_X9_few_J64_94 hS hF]
def h_X9_few_B53 (S : v_S) (I : v_I) (F : v_F) (w1 : Int32) (w2 : Int32) (w3 : Int32) (s53 : Int32 × v_J) : Option ((Int32 × v_J) ⊕ (Int32 × v_J)) :=
if w2 ≤ s53.1 then (
some (.inr (s53.1, s53.2)))
else (
p_let (w1 - (1 : Int32)) fun x_13 =>
(v_loop (h_X9_few_B64 S I F w1 w2 w3 s53.1) FU (x_13, s53.2)).bind fun q_24 =>
p_let (s53.1 + (1 : Int32)) fun x_26 =>
some (.inl (x_26, q_24.2)))
set_option maxHeartbeats 4000000 in
set_option maxRecDepth 100000 in
theorem s_X9_few_B53 {S : v_S} {F : v_F} (hS : p_SS S) (hF : p_FF F) (I : v_I) (w1 : Int32) (w2 : Int32) (w3 : Int32) : f_X9_few_B53 S I F 0 w1 w2 w3 = h_X9_few_B53 S I F w1 w2 w3 := by
  funext s53
  unfold f_X9_few_B53 h_X9_few_B53
  simp only [p_bs, s_X9_isUpTo, p_obS hS (a := 0) (kd := 9) rfl, p_FS hF (a := 0) (i := 12) (b := 47) (by decide), s_J7_fill_d0a16 hS hF, p_ixS hS (kd := 23) (a := 47) (n := 20) rfl, p_inL (n := 20) (k := 0) (i := (0 : Int32)) (by decide), p_FS hF (a := 0) (i := 0) (b := 1) (by decide), p_obS hS (a := 1) (kd := 0) rfl, s_X9_few_J64_94 hS hF, s_X9_few_B64 hS hF]
def h_X9_few_B141 (S : v_S) (I : v_I) (F : v_F) (J : v_J) (w1 : Int32) (s141 : Int64 × Int32) : Option ((Int64 × Int32) ⊕ (Int64 × Int32)) :=
if w1 ≤ s141.2 then (
some (.inr (s141.1, s141.2)))
else (
(p_in 20 s141.2).bind fun j_31 =>
p_let (s141.1 + (J 47 j_31)) fun x_32 =>
p_let (s141.2 + (1 : Int32)) fun x_34 =>
some (.inl (x_32, x_34)))
set_option maxHeartbeats 4000000 in
set_option maxRecDepth 100000 in
theorem s_X9_few_B141 {S : v_S} {F : v_F} (hS : p_SS S) (hF : p_FF F) (I : v_I) (J : v_J) (w1 : Int32) : f_X9_few_B141 S I F J 0 w1 = h_X9_few_B141 S I F J w1 := by
  funext s141
  unfold f_X9_few_B141 h_X9_few_B141
  simp only [p_bs, s_X9_isUpTo, p_obS hS (a := 0) (kd := 9) rfl, p_FS hF (a := 0) (i := 12) (b := 47) (by decide), s_J7_fill_d0a16 hS hF, p_ixS hS (kd := 23) (a := 47) (n := 20) rfl, p_inL (n := 20) (k := 0) (i := (0 : Int32)) (by decide), p_FS hF (a := 0) (i := 0) (b := 1) (by decide), p_obS hS (a := 1) (kd := 0) rfl, s_X9_few_J64_94 hS hF, s_X9_few_B64 hS hF, s_X9_few_B53 hS hF]
def h_X9_few (S : v_S) (I : v_I) (J : v_J) (F : v_F) (p1 : Int32) (p2 : Int32) : Option (Int64 × v_J) :=
if p1 < (1 : Int32) then (
some ((-1 : Int64), J))
else (
if (20 : Int32) < p1 then (
some ((-1 : Int64), J))
else (
(h_X9_isUpTo p2.toInt64 (99 : Int32)).bind fun r_3 =>
if r_3 = (0 : Int32) then (
some ((-1 : Int64), J))
else (
(h_J7_fill_d0a16 S J 47 (0 : Int64)).bind fun r_6 =>
p_let (v_up r_6 47 0 (1000000000000 : Int64)) fun J_8 =>
p_let (I 1 4) fun x_10 =>
(v_loop (h_X9_few_B53 S I F p1 p2 x_10) FU ((0 : Int32), J_8)).bind fun q_28 =>
(v_loop (h_X9_few_B141 S I F q_28.2 p1) FU ((0 : Int64), (0 : Int32))).bind fun q_36 =>
some (q_36.1, q_28.2))))
set_option maxHeartbeats 4000000 in
set_option maxRecDepth 100000 in
theorem s_X9_few {S : v_S} {F : v_F} (hS : p_SS S) (hF : p_FF F) (I : v_I) (J : v_J) (p1 : Int32) (p2 : Int32) : f_X9_few S I J F 0 p1 p2 = h_X9_few S I J F p1 p2 := by
  unfold f_X9_few h_X9_few
  simp only [p_bs, s_X9_isUpTo, p_obS hS (a := 0) (kd := 9) rfl, p_FS hF (a := 0) (i := 12) (b := 47) (by decide), s_J7_fill_d0a16 hS hF, p_ixS hS (kd := 23) (a := 47) (n := 20) rfl, p_inL (n := 20) (k := 0) (i := (0 : Int32)) (by decide), p_FS hF (a := 0) (i := 0) (b := 1) (by decide), p_obS hS (a := 1) (kd := 0) rfl, s_X9_few_J64_94 hS hF, s_X9_few_B64 hS hF, s_X9_few_B53 hS hF, s_X9_few_B141 hS hF]

def h_X1_openByLaw (S : v_S) (I : v_I) (J : v_J) (F : v_F) (p2 : Option Nat) : Option (Int32 × v_I × v_J) :=
(h_X1_begin S I F (I 2 0)).bind fun r_1 =>
(h_X1_passMinute S r_1 J F 18 19 20 p2 (0 : Int32)).bind fun r_3 =>
(h_X3_openMany S r_3.2.1 18 19 20).bind fun r_5 =>
some (r_5, r_3.2.1, r_3.2.2)
set_option maxHeartbeats 4000000 in
set_option maxRecDepth 100000 in
theorem s_X1_openByLaw {S : v_S} {F : v_F} (hS : p_SS S) (hF : p_FF F) (I : v_I) (J : v_J) (p2 : Option Nat) : f_X1_openByLaw S I J F 14 1 p2 = h_X1_openByLaw S I J F p2 := by
  unfold f_X1_openByLaw h_X1_openByLaw
  simp only [p_bs, p_obS hS (a := 1) (kd := 0) rfl, p_FS hF (a := 1) (i := 1) (b := 2) (by decide), p_obS hS (a := 2) (kd := 3) rfl, s_X1_begin hS hF, p_obS hS (a := 14) (kd := 1) rfl, p_FS hF (a := 14) (i := 1) (b := 18) (by decide), s_X1_passMinute hS hF (p_MoC hS hF 18 19 20 rfl rfl rfl (by decide) (by decide)), s_X3_openMany hS hF (p_MoC hS hF 18 19 20 rfl rfl rfl (by decide) (by decide)), p_obS hS (a := 18) (kd := 3) rfl]

def h_X9_compare_J20 (S : v_S) (F : v_F) (I : v_I) (J : v_J) (y2 : Option Nat) : Option (Int32 × v_I × v_J) :=
(h_X1_openByLaw S I J F y2).bind fun r_4 =>
some (r_4.1, r_4.2.1, r_4.2.2)
set_option maxHeartbeats 4000000 in
set_option maxRecDepth 100000 in
theorem s_X9_compare_J20 {S : v_S} {F : v_F} (hS : p_SS S) (hF : p_FF F) (I : v_I) (J : v_J) (y2 : Option Nat) : f_X9_compare_J20 S F I J 0 y2 = h_X9_compare_J20 S F I J y2 := by
  unfold f_X9_compare_J20 h_X9_compare_J20
  simp only [p_bs, p_obS hS (a := 0) (kd := 9) rfl, p_FS hF (a := 0) (i := 0) (b := 1) (by decide), s_X0_lawAt hS hF, p_obS hS (a := 1) (kd := 0) rfl, p_FS hF (a := 0) (i := 3) (b := 14) (by decide), s_X1_openByLaw hS hF, p_obS hS (a := 14) (kd := 1) rfl]
def h_X9_compare (S : v_S) (I : v_I) (J : v_J) (F : v_F) (p1 : Int32) : Option (Int32 × v_I × v_J) :=
(h_X0_lawAt S I F p1).bind fun r_1 =>
if p1 = (-1 : Int32) then (
h_X9_compare_J20 S F I J r_1)
else (
p_nul r_1 (
some ((-1 : Int32), I, J)) (fun a_6 =>
h_X9_compare_J20 S F I J (some a_6)))
set_option maxHeartbeats 4000000 in
set_option maxRecDepth 100000 in
theorem s_X9_compare {S : v_S} {F : v_F} (hS : p_SS S) (hF : p_FF F) (I : v_I) (J : v_J) (p1 : Int32) : f_X9_compare S I J F 0 p1 = h_X9_compare S I J F p1 := by
  unfold f_X9_compare h_X9_compare
  simp only [p_bs, p_obS hS (a := 0) (kd := 9) rfl, p_FS hF (a := 0) (i := 0) (b := 1) (by decide), s_X0_lawAt hS hF, p_obS hS (a := 1) (kd := 0) rfl, p_FS hF (a := 0) (i := 3) (b := 14) (by decide), s_X1_openByLaw hS hF, p_obS hS (a := 14) (kd := 1) rfl, s_X9_compare_J20 hS hF]

def h_X1_nextDraw (p0 : Int32) : Option (Int32) :=
some ((((p0.toInt64 * (1103 : Int64)) + (12345 : Int64)) - ((p0.toInt64 * (1103 : Int64)) + (12345 : Int64)) / (1000003 : Int64) * (1000003 : Int64)).toInt32)
set_option maxHeartbeats 4000000 in
set_option maxRecDepth 100000 in
theorem s_X1_nextDraw (p0 : Int32) : f_X1_nextDraw p0 = h_X1_nextDraw p0 := by
  unfold f_X1_nextDraw h_X1_nextDraw
  simp only [p_bs]

def h_X1_holdCouncils_J21_135 (m2 : Nat) (mw2 : Nat) (ms2 : Nat) (S : v_S) (F : v_F) (w4 : Int32) (w5 : Option Nat) (I : v_I) (J : v_J) (y6 : Int32) (y7 : Int32) : Option ((Int32 × Int32 × v_I × v_J) ⊕ (Int32 × Int32 × v_I × v_J)) :=
(h_X1_passMinute S I J F m2 mw2 ms2 w5 (0 : Int32)).bind fun r_19 =>
p_let (y7 + (1 : Int32)) fun x_21 =>
some (.inl (y6, x_21, r_19.2.1, r_19.2.2))
set_option maxHeartbeats 4000000 in
set_option maxRecDepth 100000 in
theorem s_X1_holdCouncils_J21_135 {S : v_S} {F : v_F} (hS : p_SS S) (hF : p_FF F) {m2 : Nat} {mw2 : Nat} {ms2 : Nat} (hm2 : p_Mo S F m2 mw2 ms2) (w4 : Int32) (w5 : Option Nat) (I : v_I) (J : v_J) (y6 : Int32) (y7 : Int32) : f_X1_holdCouncils_J21_135 S F 14 1 m2 w4 w5 I J y6 y7 = h_X1_holdCouncils_J21_135 m2 mw2 ms2 S F w4 w5 I J y6 y7 := by
  unfold f_X1_holdCouncils_J21_135 h_X1_holdCouncils_J21_135
  simp only [p_bs, p_obS hS (a := 1) (kd := 0) rfl, s_X0_lawInForce hS hF, p_Mo_ob hm2, p_Mo_w hm2, p_Mo_s hm2, p_Mo_iw hm2, p_Mo_is hm2, s_X1_nextDraw, s_X3_shutOne hS hF hm2, s_X1_passMinute hS hF hm2, p_obS hS (a := 14) (kd := 1) rfl, s_X3_openOne hS hF hm2, s_X3_changeWant hS hF hm2]
def h_X1_holdCouncils_B21 (m2 : Nat) (mw2 : Nat) (ms2 : Nat) (S : v_S) (F : v_F) (w4 : Int32) (w5 : Option Nat) (s21 : Int32 × Int32 × v_I × v_J) : Option ((Int32 × Int32 × v_I × v_J) ⊕ (Int32 × Int32 × v_I × v_J)) :=
if w4 ≤ s21.2.1 then (
some (.inr (s21.1, s21.2.1, s21.2.2.1, s21.2.2.2)))
else (
if (999 : Int32) ≤ (s21.2.2.1 m2 1) then (
some (.inr (s21.1, s21.2.1, s21.2.2.1, s21.2.2.2)))
else (
(h_X1_nextDraw s21.1).bind fun r_6 =>
(p_nz32 (s21.2.2.1 1 0)).bind fun _ =>
p_let (r_6 - r_6 / (s21.2.2.1 1 0) * (s21.2.2.1 1 0)) fun x_9 =>
(h_X1_nextDraw r_6).bind fun r_11 =>
p_let (r_11 - r_11 / (10 : Int32) * (10 : Int32)) fun x_13 =>
(h_X1_nextDraw r_11).bind fun r_15 =>
if (r_15 - r_15 / (4 : Int32) * (4 : Int32)) = (0 : Int32) then (
(h_X3_shutOne S s21.2.2.1 F m2 mw2 ms2 x_9).bind fun r_17 =>
h_X1_holdCouncils_J21_135 m2 mw2 ms2 S F w4 w5 r_17.2 s21.2.2.2 r_15 s21.2.1)
else if (r_15 - r_15 / (4 : Int32) * (4 : Int32)) = (1 : Int32) then (
(h_X3_openOne S s21.2.2.1 m2 mw2 ms2 x_9).bind fun r_23 =>
h_X1_holdCouncils_J21_135 m2 mw2 ms2 S F w4 w5 r_23 s21.2.2.2 r_15 s21.2.1)
else if (r_15 - r_15 / (4 : Int32) * (4 : Int32)) = (2 : Int32) then (
(h_X3_changeWant S s21.2.2.1 F m2 mw2 ms2 x_9 x_13).bind fun r_25 =>
h_X1_holdCouncils_J21_135 m2 mw2 ms2 S F w4 w5 r_25.2 s21.2.2.2 r_15 s21.2.1)
else (
h_X1_holdCouncils_J21_135 m2 mw2 ms2 S F w4 w5 s21.2.2.1 s21.2.2.2 r_15 s21.2.1)))
set_option maxHeartbeats 4000000 in
set_option maxRecDepth 100000 in
theorem s_X1_holdCouncils_B21 {S : v_S} {F : v_F} (hS : p_SS S) (hF : p_FF F) {m2 : Nat} {mw2 : Nat} {ms2 : Nat} (hm2 : p_Mo S F m2 mw2 ms2) (w4 : Int32) (w5 : Option Nat) : f_X1_holdCouncils_B21 S F 14 1 m2 w4 w5 = h_X1_holdCouncils_B21 m2 mw2 ms2 S F w4 w5 := by
  funext s21
  unfold f_X1_holdCouncils_B21 h_X1_holdCouncils_B21
  simp only [p_bs, p_obS hS (a := 1) (kd := 0) rfl, s_X0_lawInForce hS hF, p_Mo_ob hm2, p_Mo_w hm2, p_Mo_s hm2, p_Mo_iw hm2, p_Mo_is hm2, s_X1_nextDraw, s_X3_shutOne hS hF hm2, s_X1_passMinute hS hF hm2, p_obS hS (a := 14) (kd := 1) rfl, s_X3_openOne hS hF hm2, s_X3_changeWant hS hF hm2, s_X1_holdCouncils_J21_135 hS hF hm2]
def h_X1_holdCouncils (S : v_S) (I : v_I) (J : v_J) (F : v_F) (m2 : Nat) (mw2 : Nat) (ms2 : Nat) (p3 : Int32) (p4 : Int32) : Option (v_I × v_J) :=
if (1 : Int32) ≤ (I 1 0) then (
(h_X0_lawInForce S I F).bind fun r_2 =>
(v_loop (h_X1_holdCouncils_B21 m2 mw2 ms2 S F p4 r_2) FU (p3, (0 : Int32), I, J)).bind fun q_30 =>
some (q_30.2.2.1, q_30.2.2.2))
else (
some (I, J))
set_option maxHeartbeats 4000000 in
set_option maxRecDepth 100000 in
theorem s_X1_holdCouncils {S : v_S} {F : v_F} (hS : p_SS S) (hF : p_FF F) {m2 : Nat} {mw2 : Nat} {ms2 : Nat} (hm2 : p_Mo S F m2 mw2 ms2) (I : v_I) (J : v_J) (p3 : Int32) (p4 : Int32) : f_X1_holdCouncils S I J F 14 1 m2 p3 p4 = h_X1_holdCouncils S I J F m2 mw2 ms2 p3 p4 := by
  unfold f_X1_holdCouncils h_X1_holdCouncils
  simp only [p_bs, p_obS hS (a := 1) (kd := 0) rfl, s_X0_lawInForce hS hF, p_Mo_ob hm2, p_Mo_w hm2, p_Mo_s hm2, p_Mo_iw hm2, p_Mo_is hm2, s_X1_nextDraw, s_X3_shutOne hS hF hm2, s_X1_passMinute hS hF hm2, p_obS hS (a := 14) (kd := 1) rfl, s_X3_openOne hS hF hm2, s_X3_changeWant hS hF hm2, s_X1_holdCouncils_J21_135 hS hF hm2, s_X1_holdCouncils_B21 hS hF hm2]

def h_X9_councils_J22 (S : v_S) (F : v_F) (I : v_I) (J : v_J) : Option (Int32 × v_I × v_J) :=
(h_X9_refuse S I F (-1 : Int32)).bind fun r_4 =>
some (r_4.1, r_4.2, J)
set_option maxHeartbeats 4000000 in
set_option maxRecDepth 100000 in
theorem s_X9_councils_J22 {S : v_S} {F : v_F} (hS : p_SS S) (hF : p_FF F) (I : v_I) (J : v_J) : f_X9_councils_J22 S F I J 0 = h_X9_councils_J22 S F I J := by
  unfold f_X9_councils_J22 h_X9_councils_J22
  simp only [p_bs, s_X9_isUpTo, s_X9_refuse hS hF, p_obS hS (a := 0) (kd := 9) rfl, p_FS hF (a := 0) (i := 0) (b := 1) (by decide), p_obS hS (a := 1) (kd := 0) rfl, p_FS hF (a := 0) (i := 5) (b := 26) (by decide), p_FS hF (a := 1) (i := 1) (b := 2) (by decide), s_X3_copyFrom hS hF (p_MoC hS hF 26 27 28 rfl rfl rfl (by decide) (by decide)) (p_MoC hS hF 2 3 4 rfl rfl rfl (by decide) (by decide)), p_obS hS (a := 26) (kd := 3) rfl, p_FS hF (a := 0) (i := 3) (b := 14) (by decide), s_X1_holdCouncils hS hF (p_MoC hS hF 26 27 28 rfl rfl rfl (by decide) (by decide)), p_obS hS (a := 14) (kd := 1) rfl, s_X9_accept hS hF]
def h_X9_councils (S : v_S) (I : v_I) (J : v_J) (F : v_F) (p1 : Int32) (p2 : Int32) : Option (Int32 × v_I × v_J) :=
(h_X9_isUpTo p1.toInt64 (1000000 : Int32)).bind fun r_1 =>
if r_1 = (0 : Int32) then (
h_X9_councils_J22 S F I J)
else (
if p2 < (1 : Int32) then (
h_X9_councils_J22 S F I J)
else (
if p2 ≤ (60 : Int32) then (
if (I 1 0) = (0 : Int32) then (
(h_X9_refuse S I F (-3 : Int32)).bind fun r_17 =>
some (r_17.1, r_17.2, J))
else (
(h_X3_copyFrom S I F 26 27 28 2 3 4).bind fun r_9 =>
p_let (v_up r_9 0 6 (r_9 1 0)) fun I_11 =>
(h_X1_holdCouncils S I_11 J F 26 27 28 p1 p2).bind fun r_13 =>
(h_X9_accept S r_13.1 (r_13.1 26 0)).bind fun r_15 =>
some (r_15.1, r_15.2, r_13.2)))
else (
h_X9_councils_J22 S F I J)))
set_option maxHeartbeats 4000000 in
set_option maxRecDepth 100000 in
theorem s_X9_councils {S : v_S} {F : v_F} (hS : p_SS S) (hF : p_FF F) (I : v_I) (J : v_J) (p1 : Int32) (p2 : Int32) : f_X9_councils S I J F 0 p1 p2 = h_X9_councils S I J F p1 p2 := by
  unfold f_X9_councils h_X9_councils
  simp only [p_bs, s_X9_isUpTo, s_X9_refuse hS hF, p_obS hS (a := 0) (kd := 9) rfl, p_FS hF (a := 0) (i := 0) (b := 1) (by decide), p_obS hS (a := 1) (kd := 0) rfl, p_FS hF (a := 0) (i := 5) (b := 26) (by decide), p_FS hF (a := 1) (i := 1) (b := 2) (by decide), s_X3_copyFrom hS hF (p_MoC hS hF 26 27 28 rfl rfl rfl (by decide) (by decide)) (p_MoC hS hF 2 3 4 rfl rfl rfl (by decide) (by decide)), p_obS hS (a := 26) (kd := 3) rfl, p_FS hF (a := 0) (i := 3) (b := 14) (by decide), s_X1_holdCouncils hS hF (p_MoC hS hF 26 27 28 rfl rfl rfl (by decide) (by decide)), p_obS hS (a := 14) (kd := 1) rfl, s_X9_accept hS hF, s_X9_councils_J22 hS hF]

def h_X9_drawn (S : v_S) (I : v_I) (F : v_F) (p1 : Int32) (p2 : Int32) : Option (Int32) :=
if p1 < (0 : Int32) then (
some ((-1 : Int32)))
else (
if p1 < (I 0 6) then (
if p2 = (0 : Int32) then (
(p_in 8 p1).bind fun j_3 =>
some (I 27 j_3))
else if p2 = (1 : Int32) then (
(h_X3_isOpen S I 26 27 28 p1).bind fun r_4 =>
if r_4 = (0 : Int32) then (
some ((0 : Int32)))
else (
some ((1 : Int32))))
else if p2 = (2 : Int32) then (
(p_in 8 p1).bind fun j_7 =>
some (I 28 j_7))
else (
some ((-1 : Int32))))
else (
some ((-1 : Int32))))
set_option maxHeartbeats 4000000 in
set_option maxRecDepth 100000 in
theorem s_X9_drawn {S : v_S} {F : v_F} (hS : p_SS S) (hF : p_FF F) (I : v_I) (p1 : Int32) (p2 : Int32) : f_X9_drawn S I F 0 p1 p2 = h_X9_drawn S I F p1 p2 := by
  unfold f_X9_drawn h_X9_drawn
  simp only [p_bs, p_obS hS (a := 0) (kd := 9) rfl, p_FS hF (a := 0) (i := 5) (b := 26) (by decide), p_obS hS (a := 26) (kd := 3) rfl, p_FS hF (a := 26) (i := 2) (b := 27) (by decide), p_ixS hS (kd := 20) (a := 27) (n := 8) rfl, s_X3_isOpen hS hF (p_MoC hS hF 26 27 28 rfl rfl rfl (by decide) (by decide)), p_FS hF (a := 26) (i := 3) (b := 28) (by decide), p_ixS hS (kd := 20) (a := 28) (n := 8) rfl]

end sc03
