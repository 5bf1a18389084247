noncomputable section sp04
def h_X10_small (p0 : Int64) : Option (Int32) :=
if (lg_cmp p0 (0 : Int64)) < (0 : Int32) then (
some ((-1 : Int32)))
else (
if (lg_cmp p0 (1000000 : Int64)) ≤ (0 : Int32) then (
some (p0.toInt32))
else (
some ((-1 : Int32))))
set_option maxHeartbeats 4000000 in
set_option maxRecDepth 100000 in
theorem s_X10_small (p0 : Int64) : f_X10_small p0 = h_X10_small p0 := by
  unfold f_X10_small h_X10_small
  simp only [Option.bind_some]

def h_X10_obeys_J88 (J : v_J) (I : v_I) (y1 : Int32) : Option (Int32 × v_I) :=
(h_X10_touchesKept I y1).bind fun r_9 =>
some (r_9.1, r_9.2)
set_option maxHeartbeats 4000000 in
set_option maxRecDepth 100000 in
theorem s_X10_obeys_J88 {S : v_S} {F : v_F} (hS : p_SS S) (hF : p_FF F) (J : v_J) (I : v_I) (y1 : Int32) : f_X10_obeys_J88 S J F I 49 y1 = h_X10_obeys_J88 J I y1 := by
  unfold f_X10_obeys_J88 h_X10_obeys_J88
  simp only [Option.bind_some, p_obS hS (a := 49) (kd := 10) rfl, p_FS hF (a := 49) (i := 44) (b := 70) (by decide), p_ixS hS (kd := 23) (a := 70) (n := 2) rfl, p_inL (n := 2) (k := 0) (i := (0 : Int32)) (by decide), s_X10_small, s_X10_coaxesKept hS hF, p_inL (n := 2) (k := 1) (i := (1 : Int32)) (by decide), s_X10_temptsKept hS hF, s_X10_touchesKept hS hF, s_X10_passesKept hS hF]
def h_X10_obeys_J83 (J : v_J) (I : v_I) (y2 : Int32) (z0 : Int32) : Option (Int32 × v_I) :=
p_let (v_up I 49 28 z0) fun I_14 =>
some (y2, I_14)
set_option maxHeartbeats 4000000 in
set_option maxRecDepth 100000 in
theorem s_X10_obeys_J83 {S : v_S} {F : v_F} (hS : p_SS S) (hF : p_FF F) (J : v_J) (I : v_I) (y2 : Int32) (z0 : Int32) : f_X10_obeys_J83 S J F I y2 z0 49 = h_X10_obeys_J83 J I y2 z0 := by
  unfold f_X10_obeys_J83 h_X10_obeys_J83
  simp only [Option.bind_some, p_obS hS (a := 49) (kd := 10) rfl, p_FS hF (a := 49) (i := 44) (b := 70) (by decide), p_ixS hS (kd := 23) (a := 70) (n := 2) rfl, p_inL (n := 2) (k := 0) (i := (0 : Int32)) (by decide), s_X10_small, s_X10_coaxesKept hS hF, p_inL (n := 2) (k := 1) (i := (1 : Int32)) (by decide), s_X10_temptsKept hS hF, s_X10_touchesKept hS hF, s_X10_passesKept hS hF, s_X10_obeys_J88 hS hF]
def h_X10_obeys (I : v_I) (J : v_J) : Option (Int32 × v_I) :=
(h_X10_small (J 70 0)).bind fun r_1 =>
if (I 49 41) = (21 : Int32) then (
(h_X10_coaxesKept I r_1).bind fun r_3 =>
some (r_3.1, r_3.2))
else if (I 49 41) = (22 : Int32) then (
(h_X10_small (J 70 1)).bind fun r_5 =>
(h_X10_temptsKept I r_1 r_5).bind fun r_7 =>
some (r_7.1, r_7.2))
else if (I 49 41) = (23 : Int32) then (
h_X10_obeys_J88 J I r_1)
else if (I 49 41) = (24 : Int32) then (
(h_X10_passesKept I).bind fun r_11 =>
if (0 : Int32) ≤ r_11.1 then (
h_X10_obeys_J83 J r_11.2 r_11.1 r_11.1)
else (
h_X10_obeys_J83 J r_11.2 r_11.1 (r_11.2 49 28)))
else (
h_X10_obeys_J88 J I r_1)
set_option maxHeartbeats 4000000 in
set_option maxRecDepth 100000 in
theorem s_X10_obeys {S : v_S} {F : v_F} (hS : p_SS S) (hF : p_FF F) (I : v_I) (J : v_J) : f_X10_obeys S I J F 49 = h_X10_obeys I J := by
  unfold f_X10_obeys h_X10_obeys
  simp only [Option.bind_some, p_obS hS (a := 49) (kd := 10) rfl, p_FS hF (a := 49) (i := 44) (b := 70) (by decide), p_ixS hS (kd := 23) (a := 70) (n := 2) rfl, p_inL (n := 2) (k := 0) (i := (0 : Int32)) (by decide), s_X10_small, s_X10_coaxesKept hS hF, p_inL (n := 2) (k := 1) (i := (1 : Int32)) (by decide), s_X10_temptsKept hS hF, s_X10_touchesKept hS hF, s_X10_passesKept hS hF, s_X10_obeys_J88 hS hF, s_X10_obeys_J83 hS hF]

def h_X10_runs_J19_67 (w1 : Int32) (w2 : Int32) (w3 : Int32) (I : v_I) (J : v_J) (y4 : Int32) : Option ((Int32 × v_I × v_J) ⊕ (Nat × (Int32 × v_I × v_J))) :=
p_let (y4 + (1 : Int32)) fun x_17 =>
some (.inl (x_17, I, J))
set_option maxHeartbeats 4000000 in
set_option maxRecDepth 100000 in
theorem s_X10_runs_J19_67 {S : v_S} {F : v_F} (hS : p_SS S) (hF : p_FF F) (w1 : Int32) (w2 : Int32) (w3 : Int32) (I : v_I) (J : v_J) (y4 : Int32) : f_X10_runs_J19_67 S F 49 w1 w2 w3 I J y4 = h_X10_runs_J19_67 w1 w2 w3 I J y4 := by
  unfold f_X10_runs_J19_67 h_X10_runs_J19_67
  simp only [Option.bind_some, s_X10_goesAlong hS hF, p_obS hS (a := 49) (kd := 10) rfl, s_X10_obeys hS hF]
def h_X10_runs_B19 (w1 : Int32) (w2 : Int32) (w3 : Int32) (s19 : Int32 × v_I × v_J) : Option ((Int32 × v_I × v_J) ⊕ (Nat × (Int32 × v_I × v_J))) :=
if w2 ≤ s19.1 then (
some (.inr (1, (s19.1, s19.2.1, s19.2.2))))
else (
(h_X10_goesAlong s19.2.1 s19.2.2 w1 (1 : Int32)).bind fun r_8 =>
if (r_8.1 49 43) = (0 : Int32) then (
h_X10_runs_J19_67 w1 w2 w3 r_8.1 r_8.2 s19.1)
else (
if (r_8.1 49 42) = (0 : Int32) then (
some (.inr (0, (s19.1, r_8.1, r_8.2))))
else (
(h_X10_obeys r_8.1 r_8.2).bind fun r_12 =>
if (0 : Int32) ≤ r_12.1 then (
p_let (v_up r_12.2 49 27 ((r_12.2 49 27) + (1 : Int32))) fun I_15 =>
h_X10_runs_J19_67 w1 w2 w3 I_15 r_8.2 s19.1)
else (
some (.inr (0, (s19.1, r_12.2, r_8.2)))))))
set_option maxHeartbeats 4000000 in
set_option maxRecDepth 100000 in
theorem s_X10_runs_B19 {S : v_S} {F : v_F} (hS : p_SS S) (hF : p_FF F) (w1 : Int32) (w2 : Int32) (w3 : Int32) : f_X10_runs_B19 S F 49 w1 w2 w3 = h_X10_runs_B19 w1 w2 w3 := by
  funext s19
  unfold f_X10_runs_B19 h_X10_runs_B19
  simp only [Option.bind_some, s_X10_goesAlong hS hF, p_obS hS (a := 49) (kd := 10) rfl, s_X10_obeys hS hF, s_X10_runs_J19_67 hS hF]
def h_X10_runs (I : v_I) (J : v_J) (p1 : Int32) : Option (Int32 × v_I × v_J) :=
(h_X10_goesAlong I J p1 (0 : Int32)).bind fun r_1 =>
p_let (r_1.1 49 40) fun x_3 =>
p_let (r_1.1 49 22) fun x_5 =>
(v_loop (h_X10_runs_B19 p1 x_3 x_5) FU ((0 : Int32), r_1.1, r_1.2)).bind fun q_19 =>
if q_19.1 = 0 then (
some ((0 : Int32), q_19.2.2.1, q_19.2.2.2))
else (
p_let (v_up q_19.2.2.1 49 39 x_5) fun I_21 =>
some ((1 : Int32), I_21, q_19.2.2.2))
set_option maxHeartbeats 4000000 in
set_option maxRecDepth 100000 in
theorem s_X10_runs {S : v_S} {F : v_F} (hS : p_SS S) (hF : p_FF F) (I : v_I) (J : v_J) (p1 : Int32) : f_X10_runs S I J F 49 p1 = h_X10_runs I J p1 := by
  unfold f_X10_runs h_X10_runs
  simp only [Option.bind_some, s_X10_goesAlong hS hF, p_obS hS (a := 49) (kd := 10) rfl, s_X10_obeys hS hF, s_X10_runs_J19_67 hS hF, s_X10_runs_B19 hS hF]

def h_X10_orders_B27 (J : v_J) (s27 : Int32 × v_I) : Option ((Int32 × v_I) ⊕ (Int32 × v_I)) :=
if (304 : Int32) ≤ s27.1 then (
some (.inr (s27.1, s27.2)))
else (
(p_in 304 s27.1).bind fun j_9 =>
(p_in 304 s27.1).bind fun j_10 =>
p_let (v_up s27.2 64 j_10 (s27.2 63 j_9)) fun I_11 =>
p_let (s27.1 + (1 : Int32)) fun x_13 =>
some (.inl (x_13, I_11)))
set_option maxHeartbeats 4000000 in
set_option maxRecDepth 100000 in
theorem s_X10_orders_B27 {S : v_S} {F : v_F} (hS : p_SS S) (hF : p_FF F) (J : v_J) : f_X10_orders_B27 S F J 49 = h_X10_orders_B27 J := by
  funext s27
  unfold f_X10_orders_B27 h_X10_orders_B27
  simp only [Option.bind_some, p_obS hS (a := 49) (kd := 10) rfl, s_X10_readsAs hS hF, s_X10_laysAside hS hF, p_FS hF (a := 49) (i := 31) (b := 64) (by decide), p_FS hF (a := 49) (i := 30) (b := 63) (by decide), p_ixS hS (kd := 20) (a := 63) (n := 304) rfl, p_ixS hS (kd := 20) (a := 64) (n := 304) rfl, s_X10_lays hS hF, p_FS hF (a := 49) (i := 2) (b := 51) (by decide), p_ixS hS (kd := 20) (a := 51) (n := 5660) rfl, p_inL (n := 5660) (k := 59) (i := (59 : Int32)) (by decide), s_X10_runs hS hF, s_X10_takesBack hS hF, s_X10_refuses hS hF, s_X10_good hS hF]
def h_X10_orders_B95 (w1 : Int32) (w2 : Int32) (s95 : Int32 × v_I × v_J) : Option ((Int32 × v_I × v_J) ⊕ (Nat × (Int32 × v_I × v_J))) :=
if w2 ≤ (s95.2.1 49 39) then (
some (.inr (1, (s95.1, s95.2.1, s95.2.2))))
else (
(h_X10_runs s95.2.1 s95.2.2 w2).bind fun r_30 =>
if r_30.1 = (0 : Int32) then (
some (.inr (0, (s95.1, r_30.2.1, r_30.2.2))))
else (
p_let (s95.1 + (1 : Int32)) fun x_33 =>
some (.inl (x_33, r_30.2.1, r_30.2.2))))
set_option maxHeartbeats 4000000 in
set_option maxRecDepth 100000 in
theorem s_X10_orders_B95 {S : v_S} {F : v_F} (hS : p_SS S) (hF : p_FF F) (w1 : Int32) (w2 : Int32) : f_X10_orders_B95 S F 49 w1 w2 = h_X10_orders_B95 w1 w2 := by
  funext s95
  unfold f_X10_orders_B95 h_X10_orders_B95
  simp only [Option.bind_some, p_obS hS (a := 49) (kd := 10) rfl, s_X10_readsAs hS hF, s_X10_laysAside hS hF, p_FS hF (a := 49) (i := 31) (b := 64) (by decide), p_FS hF (a := 49) (i := 30) (b := 63) (by decide), p_ixS hS (kd := 20) (a := 63) (n := 304) rfl, p_ixS hS (kd := 20) (a := 64) (n := 304) rfl, s_X10_lays hS hF, p_FS hF (a := 49) (i := 2) (b := 51) (by decide), p_ixS hS (kd := 20) (a := 51) (n := 5660) rfl, p_inL (n := 5660) (k := 59) (i := (59 : Int32)) (by decide), s_X10_runs hS hF, s_X10_takesBack hS hF, s_X10_refuses hS hF, s_X10_good hS hF, s_X10_orders_B27 hS hF]
def h_X10_orders_B122 (J : v_J) (w1 : Int32) (w3 : Int32) (s122 : Int32 × v_I) : Option ((Int32 × v_I) ⊕ (Int32 × v_I)) :=
if (304 : Int32) ≤ s122.1 then (
some (.inr (s122.1, s122.2)))
else (
(p_in 304 s122.1).bind fun j_40 =>
(p_in 304 s122.1).bind fun j_41 =>
p_let (v_up s122.2 63 j_41 (s122.2 64 j_40)) fun I_42 =>
p_let (s122.1 + (1 : Int32)) fun x_44 =>
some (.inl (x_44, I_42)))
set_option maxHeartbeats 4000000 in
set_option maxRecDepth 100000 in
theorem s_X10_orders_B122 {S : v_S} {F : v_F} (hS : p_SS S) (hF : p_FF F) (J : v_J) (w1 : Int32) (w3 : Int32) : f_X10_orders_B122 S F J 49 w1 w3 = h_X10_orders_B122 J w1 w3 := by
  funext s122
  unfold f_X10_orders_B122 h_X10_orders_B122
  simp only [Option.bind_some, p_obS hS (a := 49) (kd := 10) rfl, s_X10_readsAs hS hF, s_X10_laysAside hS hF, p_FS hF (a := 49) (i := 31) (b := 64) (by decide), p_FS hF (a := 49) (i := 30) (b := 63) (by decide), p_ixS hS (kd := 20) (a := 63) (n := 304) rfl, p_ixS hS (kd := 20) (a := 64) (n := 304) rfl, s_X10_lays hS hF, p_FS hF (a := 49) (i := 2) (b := 51) (by decide), p_ixS hS (kd := 20) (a := 51) (n := 5660) rfl, p_inL (n := 5660) (k := 59) (i := (59 : Int32)) (by decide), s_X10_runs hS hF, s_X10_takesBack hS hF, s_X10_refuses hS hF, s_X10_good hS hF, s_X10_orders_B27 hS hF, s_X10_orders_B95 hS hF]
def h_X10_orders (I : v_I) (J : v_J) : Option (Int32 × v_I × v_J) :=
p_let (v_up I 49 38 (-1 : Int32)) fun I_1 =>
(h_X10_readsAs I_1 (1 : Int32)).bind fun r_3 =>
if r_3.1 = (0 : Int32) then (
(h_X10_refuses r_3.2 (-6 : Int32)).bind fun r_57 =>
some (r_57.1, r_57.2, J))
else (
(h_X10_laysAside r_3.2 (1 : Int32)).bind fun r_6 =>
(v_loop (h_X10_orders_B27 J) FU ((0 : Int32), r_6)).bind fun q_15 =>
p_let (q_15.2 49 32) fun x_17 =>
(h_X10_lays q_15.2 (6 : Int32)).bind fun r_19 =>
p_let (v_up r_19 49 27 (0 : Int32)) fun I_21 =>
p_let (v_up I_21 49 28 (-1 : Int32)) fun I_23 =>
p_let (v_up I_23 49 39 (2400 : Int32)) fun I_25 =>
p_let ((I_25 49 39) + (I_25 51 59)) fun x_27 =>
(v_loop (h_X10_orders_B95 x_17 x_27) FU ((0 : Int32), I_25, J)).bind fun q_35 =>
if q_35.1 = 0 then (
(h_X10_takesBack q_35.2.2.1 (1 : Int32)).bind fun r_37 =>
(v_loop (h_X10_orders_B122 q_35.2.2.2 x_17 q_35.2.1) FU ((0 : Int32), r_37)).bind fun q_46 =>
p_let (v_up q_46.2 49 32 x_17) fun I_48 =>
p_let (v_up I_48 49 38 q_35.2.1) fun I_50 =>
(h_X10_refuses I_50 (-3 : Int32)).bind fun r_52 =>
some (r_52.1, r_52.2, q_35.2.2.2))
else (
(h_X10_good q_35.2.2.1 (q_35.2.2.1 49 27)).bind fun r_54 =>
some (r_54.1, r_54.2, q_35.2.2.2)))
set_option maxHeartbeats 4000000 in
set_option maxRecDepth 100000 in
theorem s_X10_orders {S : v_S} {F : v_F} (hS : p_SS S) (hF : p_FF F) (I : v_I) (J : v_J) : f_X10_orders S I J F 49 = h_X10_orders I J := by
  unfold f_X10_orders h_X10_orders
  simp only [Option.bind_some, p_obS hS (a := 49) (kd := 10) rfl, s_X10_readsAs hS hF, s_X10_laysAside hS hF, p_FS hF (a := 49) (i := 31) (b := 64) (by decide), p_FS hF (a := 49) (i := 30) (b := 63) (by decide), p_ixS hS (kd := 20) (a := 63) (n := 304) rfl, p_ixS hS (kd := 20) (a := 64) (n := 304) rfl, s_X10_lays hS hF, p_FS hF (a := 49) (i := 2) (b := 51) (by decide), p_ixS hS (kd := 20) (a := 51) (n := 5660) rfl, p_inL (n := 5660) (k := 59) (i := (59 : Int32)) (by decide), s_X10_runs hS hF, s_X10_takesBack hS hF, s_X10_refuses hS hF, s_X10_good hS hF, s_X10_orders_B27 hS hF, s_X10_orders_B95 hS hF, s_X10_orders_B122 hS hF]

def h_X10_draws (I : v_I) (p1 : Int32) : Option (Int32 × v_I) :=
p_let (v_up I 49 47 (((((1103 : Int64) * ((I 49 47).toInt64)) + (12345 : Int64)) - (((1103 : Int64) * ((I 49 47).toInt64)) + (12345 : Int64)) / (1000003 : Int64) * (1000003 : Int64)).toInt32)) fun I_1 =>
(p_nz32 p1).bind fun _ =>
some ((I_1 49 47) - (I_1 49 47) / p1 * p1, I_1)
set_option maxHeartbeats 4000000 in
set_option maxRecDepth 100000 in
theorem s_X10_draws {S : v_S} {F : v_F} (hS : p_SS S) (hF : p_FF F) (I : v_I) (p1 : Int32) : f_X10_draws S I 49 p1 = h_X10_draws I p1 := by
  unfold f_X10_draws h_X10_draws
  simp only [Option.bind_some, p_obS hS (a := 49) (kd := 10) rfl]

def h_X10_drawnAct (I : v_I) : Option (v_I) :=
(h_X10_many I).bind fun r_1 =>
(h_X10_draws I r_1).bind fun r_3 =>
(h_X10_draws r_3.2 (10 : Int32)).bind fun r_5 =>
(h_X10_draws r_5.2 (4 : Int32)).bind fun r_7 =>
if r_7.1 = (0 : Int32) then (
(h_X10_touches r_7.2 r_3.1).bind fun r_9 =>
some (r_9))
else if r_7.1 = (1 : Int32) then (
p_let (v_up r_7.2 51 0 ((r_7.2 51 0) ||| ((1 : Int32) <<< (r_3.1 &&& 31)))) fun I_11 =>
some (I_11))
else if r_7.1 = (2 : Int32) then (
(p_in 5660 ((1 : Int32) + r_3.1)).bind fun j_13 =>
p_let (v_up r_7.2 51 j_13 r_5.1) fun I_14 =>
some (I_14))
else (
some (r_7.2))
set_option maxHeartbeats 4000000 in
set_option maxRecDepth 100000 in
theorem s_X10_drawnAct {S : v_S} {F : v_F} (hS : p_SS S) (hF : p_FF F) (I : v_I) : f_X10_drawnAct S I F 49 = h_X10_drawnAct I := by
  unfold f_X10_drawnAct h_X10_drawnAct
  simp only [Option.bind_some, s_X10_many hS hF, p_obS hS (a := 49) (kd := 10) rfl, s_X10_draws hS hF, s_X10_touches hS hF, p_FS hF (a := 49) (i := 2) (b := 51) (by decide), p_ixS hS (kd := 20) (a := 51) (n := 5660) rfl, p_inL (n := 5660) (k := 0) (i := (0 : Int32)) (by decide)]

def h_X10_councils_J20 (I : v_I) : Option (Int32 × v_I) :=
(h_X10_refuses I (-1 : Int32)).bind fun r_4 =>
some (r_4.1, r_4.2)
set_option maxHeartbeats 4000000 in
set_option maxRecDepth 100000 in
theorem s_X10_councils_J20 {S : v_S} {F : v_F} (hS : p_SS S) (hF : p_FF F) (I : v_I) : f_X10_councils_J20 S F I 49 = h_X10_councils_J20 I := by
  unfold f_X10_councils_J20 h_X10_councils_J20
  simp only [Option.bind_some, s_X10_lies, s_X10_refuses hS hF, p_obS hS (a := 49) (kd := 10) rfl, s_X10_many hS hF, s_X10_laysAside hS hF, p_FS hF (a := 49) (i := 2) (b := 51) (by decide), p_ixS hS (kd := 20) (a := 51) (n := 5660) rfl, p_inL (n := 5660) (k := 17) (i := (17 : Int32)) (by decide), s_X10_drawnAct hS hF, s_X10_minutePasses hS hF, p_inL (n := 5660) (k := 0) (i := (0 : Int32)) (by decide), p_FS hF (a := 49) (i := 45) (b := 71) (by decide), p_ixS hS (kd := 20) (a := 71) (n := 18) rfl, s_X10_takesBack hS hF, s_X10_good hS hF]
def h_X10_councils_B60 (w2 : Int32) (s60 : Int32 × v_I) : Option ((Int32 × v_I) ⊕ (Int32 × v_I)) :=
if w2 ≤ s60.1 then (
some (.inr (s60.1, s60.2)))
else (
if (999 : Int32) ≤ (s60.2 51 17) then (
some (.inr (s60.1, s60.2)))
else (
(h_X10_drawnAct s60.2).bind fun r_22 =>
(h_X10_minutePasses r_22 (0 : Int32)).bind fun r_24 =>
p_let (s60.1 + (1 : Int32)) fun x_26 =>
some (.inl (x_26, r_24.2))))
set_option maxHeartbeats 4000000 in
set_option maxRecDepth 100000 in
theorem s_X10_councils_B60 {S : v_S} {F : v_F} (hS : p_SS S) (hF : p_FF F) (w2 : Int32) : f_X10_councils_B60 S F 49 w2 = h_X10_councils_B60 w2 := by
  funext s60
  unfold f_X10_councils_B60 h_X10_councils_B60
  simp only [Option.bind_some, s_X10_lies, s_X10_refuses hS hF, p_obS hS (a := 49) (kd := 10) rfl, s_X10_many hS hF, s_X10_laysAside hS hF, p_FS hF (a := 49) (i := 2) (b := 51) (by decide), p_ixS hS (kd := 20) (a := 51) (n := 5660) rfl, p_inL (n := 5660) (k := 17) (i := (17 : Int32)) (by decide), s_X10_drawnAct hS hF, s_X10_minutePasses hS hF, p_inL (n := 5660) (k := 0) (i := (0 : Int32)) (by decide), p_FS hF (a := 49) (i := 45) (b := 71) (by decide), p_ixS hS (kd := 20) (a := 71) (n := 18) rfl, s_X10_takesBack hS hF, s_X10_good hS hF, s_X10_councils_J20 hS hF]
def h_X10_councils_B104 (w3 : Int32) (s104 : Int32 × v_I) : Option ((Int32 × v_I) ⊕ (Int32 × v_I)) :=
if (18 : Int32) ≤ s104.1 then (
some (.inr (s104.1, s104.2)))
else (
(p_in 5660 s104.1).bind fun j_33 =>
(p_in 18 s104.1).bind fun j_34 =>
p_let (v_up s104.2 71 j_34 (s104.2 51 j_33)) fun I_35 =>
p_let (s104.1 + (1 : Int32)) fun x_37 =>
some (.inl (x_37, I_35)))
set_option maxHeartbeats 4000000 in
set_option maxRecDepth 100000 in
theorem s_X10_councils_B104 {S : v_S} {F : v_F} (hS : p_SS S) (hF : p_FF F) (w3 : Int32) : f_X10_councils_B104 S F 49 w3 = h_X10_councils_B104 w3 := by
  funext s104
  unfold f_X10_councils_B104 h_X10_councils_B104
  simp only [Option.bind_some, s_X10_lies, s_X10_refuses hS hF, p_obS hS (a := 49) (kd := 10) rfl, s_X10_many hS hF, s_X10_laysAside hS hF, p_FS hF (a := 49) (i := 2) (b := 51) (by decide), p_ixS hS (kd := 20) (a := 51) (n := 5660) rfl, p_inL (n := 5660) (k := 17) (i := (17 : Int32)) (by decide), s_X10_drawnAct hS hF, s_X10_minutePasses hS hF, p_inL (n := 5660) (k := 0) (i := (0 : Int32)) (by decide), p_FS hF (a := 49) (i := 45) (b := 71) (by decide), p_ixS hS (kd := 20) (a := 71) (n := 18) rfl, s_X10_takesBack hS hF, s_X10_good hS hF, s_X10_councils_J20 hS hF, s_X10_councils_B60 hS hF]
def h_X10_councils_J94 (I : v_I) : Option (Int32 × v_I) :=
p_let (I 51 0) fun x_30 =>
(v_loop (h_X10_councils_B104 x_30) FU ((0 : Int32), I)).bind fun q_39 =>
(h_X10_takesBack q_39.2 (0 : Int32)).bind fun r_41 =>
(h_X10_good r_41 x_30).bind fun r_43 =>
some (r_43.1, r_43.2)
set_option maxHeartbeats 4000000 in
set_option maxRecDepth 100000 in
theorem s_X10_councils_J94 {S : v_S} {F : v_F} (hS : p_SS S) (hF : p_FF F) (I : v_I) : f_X10_councils_J94 S F I 49 = h_X10_councils_J94 I := by
  unfold f_X10_councils_J94 h_X10_councils_J94
  simp only [Option.bind_some, s_X10_lies, s_X10_refuses hS hF, p_obS hS (a := 49) (kd := 10) rfl, s_X10_many hS hF, s_X10_laysAside hS hF, p_FS hF (a := 49) (i := 2) (b := 51) (by decide), p_ixS hS (kd := 20) (a := 51) (n := 5660) rfl, p_inL (n := 5660) (k := 17) (i := (17 : Int32)) (by decide), s_X10_drawnAct hS hF, s_X10_minutePasses hS hF, p_inL (n := 5660) (k := 0) (i := (0 : Int32)) (by decide), p_FS hF (a := 49) (i := 45) (b := 71) (by decide), p_ixS hS (kd := 20) (a := 71) (n := 18) rfl, s_X10_takesBack hS hF, s_X10_good hS hF, s_X10_councils_J20 hS hF, s_X10_councils_B60 hS hF, s_X10_councils_B104 hS hF]
def h_X10_councils (I : v_I) (p1 : Int32) (p2 : Int32) : Option (Int32 × v_I) :=
(h_X10_lies p1 (0 : Int32) (1000000 : Int32)).bind fun r_1 =>
if r_1 = (0 : Int32) then (
h_X10_councils_J20 I)
else (
(h_X10_lies p2 (1 : Int32) (60 : Int32)).bind fun r_6 =>
if r_6 = (0 : Int32) then (
h_X10_councils_J20 I)
else (
(h_X10_many I).bind fun r_9 =>
if r_9 = (0 : Int32) then (
(h_X10_refuses I (-3 : Int32)).bind fun r_45 =>
some (r_45.1, r_45.2))
else (
p_let (v_up I 49 47 p1) fun I_12 =>
(h_X10_many I_12).bind fun r_14 =>
p_let (v_up I_12 49 46 r_14) fun I_16 =>
(h_X10_laysAside I_16 (0 : Int32)).bind fun r_18 =>
(v_loop (h_X10_councils_B60 p2) FU ((0 : Int32), r_18)).bind fun q_28 =>
h_X10_councils_J94 q_28.2)))
set_option maxHeartbeats 4000000 in
set_option maxRecDepth 100000 in
theorem s_X10_councils {S : v_S} {F : v_F} (hS : p_SS S) (hF : p_FF F) (I : v_I) (p1 : Int32) (p2 : Int32) : f_X10_councils S I F 49 p1 p2 = h_X10_councils I p1 p2 := by
  unfold f_X10_councils h_X10_councils
  simp only [Option.bind_some, s_X10_lies, s_X10_refuses hS hF, p_obS hS (a := 49) (kd := 10) rfl, s_X10_many hS hF, s_X10_laysAside hS hF, p_FS hF (a := 49) (i := 2) (b := 51) (by decide), p_ixS hS (kd := 20) (a := 51) (n := 5660) rfl, p_inL (n := 5660) (k := 17) (i := (17 : Int32)) (by decide), s_X10_drawnAct hS hF, s_X10_minutePasses hS hF, p_inL (n := 5660) (k := 0) (i := (0 : Int32)) (by decide), p_FS hF (a := 49) (i := 45) (b := 71) (by decide), p_ixS hS (kd := 20) (a := 71) (n := 18) rfl, s_X10_takesBack hS hF, s_X10_good hS hF, s_X10_councils_J20 hS hF, s_X10_councils_B60 hS hF, s_X10_councils_B104 hS hF, s_X10_councils_J94 hS hF]

def h_X10_drawn (I : v_I) (p1 : Int32) (p2 : Int32) : Option (Int32) :=
(h_X10_lies p1 (0 : Int32) ((I 49 46) - (1 : Int32))).bind fun r_1 =>
if r_1 = (0 : Int32) then (
some ((-1 : Int32)))
else (
if p2 = (0 : Int32) then (
(p_in 18 ((1 : Int32) + p1)).bind fun j_4 =>
some (I 71 j_4))
else if p2 = (1 : Int32) then (
some (((I 71 0) >>> (p1 &&& 31)) &&& (1 : Int32)))
else if p2 = (2 : Int32) then (
(p_in 18 ((9 : Int32) + p1)).bind fun j_5 =>
some (I 71 j_5))
else (
some ((-1 : Int32))))
set_option maxHeartbeats 4000000 in
set_option maxRecDepth 100000 in
theorem s_X10_drawn {S : v_S} {F : v_F} (hS : p_SS S) (hF : p_FF F) (I : v_I) (p1 : Int32) (p2 : Int32) : f_X10_drawn S I F 49 p1 p2 = h_X10_drawn I p1 p2 := by
  unfold f_X10_drawn h_X10_drawn
  simp only [Option.bind_some, p_obS hS (a := 49) (kd := 10) rfl, s_X10_lies, p_FS hF (a := 49) (i := 45) (b := 71) (by decide), p_ixS hS (kd := 20) (a := 71) (n := 18) rfl, p_inL (n := 18) (k := 0) (i := (0 : Int32)) (by decide)]

def h_X10_refusals (I : v_I) (p1 : Int32) : Option (Int32) :=
if (3 : Int32) ≤ p1 then (
(p_in 7 (p1 + (2 : Int32))).bind fun j_2 =>
some (I 50 j_2))
else (
(p_in 7 (p1 + (1 : Int32))).bind fun j_3 =>
some (I 50 j_3))
set_option maxHeartbeats 4000000 in
set_option maxRecDepth 100000 in
theorem s_X10_refusals {S : v_S} {F : v_F} (hS : p_SS S) (hF : p_FF F) (I : v_I) (p1 : Int32) : f_X10_refusals S I F 49 p1 = h_X10_refusals I p1 := by
  unfold f_X10_refusals h_X10_refusals
  simp only [Option.bind_some, p_obS hS (a := 49) (kd := 10) rfl, p_FS hF (a := 49) (i := 1) (b := 50) (by decide), p_ixS hS (kd := 20) (a := 50) (n := 7) rfl]

def h_X10_count (I : v_I) (p1 : Int32) : Option (Int32) :=
(h_X10_lies p1 (6 : Int32) (10 : Int32)).bind fun r_1 =>
if r_1 = (0 : Int32) then (
(h_X10_lies p1 (12 : Int32) (15 : Int32)).bind fun r_4 =>
if r_4 = (0 : Int32) then (
if p1 = (0 : Int32) then (
(h_X10_many I).bind fun r_7 =>
some (r_7))
else if p1 = (1 : Int32) then (
(h_X10_ones (I 51 0)).bind fun r_9 =>
some (r_9))
else if p1 = (2 : Int32) then (
some (I 51 50))
else if p1 = (3 : Int32) then (
some (I 51 51))
else if p1 = (4 : Int32) then (
some (I 49 32))
else if p1 = (5 : Int32) then (
some (I 49 13))
else if p1 = (6 : Int32) then (
some ((-1 : Int32)))
else if p1 = (7 : Int32) then (
some ((-1 : Int32)))
else if p1 = (8 : Int32) then (
some ((-1 : Int32)))
else if p1 = (9 : Int32) then (
some ((-1 : Int32)))
else if p1 = (10 : Int32) then (
some ((-1 : Int32)))
else if p1 = (11 : Int32) then (
some (I 51 52))
else (
some ((-1 : Int32))))
else (
(h_X10_termAt (p1 - (12 : Int32))).bind fun r_23 =>
(p_in 5660 r_23).bind fun j_25 =>
some (I 51 j_25)))
else (
(h_X10_refusals I (p1 - (6 : Int32))).bind fun r_26 =>
some (r_26))
set_option maxHeartbeats 4000000 in
set_option maxRecDepth 100000 in
theorem s_X10_count {S : v_S} {F : v_F} (hS : p_SS S) (hF : p_FF F) (I : v_I) (p1 : Int32) : f_X10_count S I F 49 p1 = h_X10_count I p1 := by
  unfold f_X10_count h_X10_count
  simp only [Option.bind_some, s_X10_lies, s_X10_many hS hF, p_obS hS (a := 49) (kd := 10) rfl, p_FS hF (a := 49) (i := 2) (b := 51) (by decide), p_ixS hS (kd := 20) (a := 51) (n := 5660) rfl, p_inL (n := 5660) (k := 0) (i := (0 : Int32)) (by decide), s_X10_ones, p_inL (n := 5660) (k := 50) (i := (50 : Int32)) (by decide), p_inL (n := 5660) (k := 51) (i := (51 : Int32)) (by decide), p_inL (n := 5660) (k := 52) (i := (52 : Int32)) (by decide), s_X10_termAt, s_X10_refusals hS hF]

def h_X10_status (I : v_I) : Option (Int32) :=
some (I 49 0)
set_option maxHeartbeats 4000000 in
set_option maxRecDepth 100000 in
theorem s_X10_status {S : v_S} {F : v_F} (hS : p_SS S) (hF : p_FF F) (I : v_I) : f_X10_status S I 49 = h_X10_status I := by
  unfold f_X10_status h_X10_status
  simp only [Option.bind_some, p_obS hS (a := 49) (kd := 10) rfl]

end sp04
