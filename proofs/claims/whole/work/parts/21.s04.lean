noncomputable section sp04
def h_X10_draws (I : v_I) (p1 : Int32) : Option (Int32 × v_I) :=
p_let (v_up I 49 47 (((((1103 : Int64) * ((I 49 47).toInt64)) + (12345 : Int64)) - (((1103 : Int64) * ((I 49 47).toInt64)) + (12345 : Int64)) / (1000003 : Int64) * (1000003 : Int64)).toInt32)) fun I_1 =>
(p_nz32 p1).bind fun _ =>
some ((I_1 49 47) - (I_1 49 47) / p1 * p1, I_1)
set_option maxHeartbeats 4000000 in
set_option maxRecDepth 100000 in
theorem s_X10_draws {S : v_S} {F : v_F} (hS : p_SS S) (hF : p_FF F) (I : v_I) (p1 : Int32) : f_X10_draws S I 49 p1 = h_X10_draws I p1 := by
  unfold f_X10_draws h_X10_draws
  simp only [p_bs, p_obS hS (a := 49) (kd := 10) rfl]

def h_X10_drawnAct (I : v_I) : Option (v_I) :=
(h_X10_many I).bind fun r_1 =>
(h_X10_draws I r_1).bind fun r_3 =>
(h_X10_draws r_3.2 (10 : Int32)).bind fun r_5 =>
(h_X10_draws r_5.2 (4 : Int32)).bind fun r_7 =>
if r_7.1 = (0 : Int32) then (
(h_X10_touches r_7.2 r_3.1).bind fun r_9 =>
some (r_9))
else if r_7.1 = (1 : Int32) then (
p_let (v_up r_7.2 51 0 ((r_7.2 51 0) ||| ((1 : Int32) <<< (r_3.1 &&& 31)))) fun I_11 =>
some (I_11))
else if r_7.1 = (2 : Int32) then (
(p_in 5660 ((1 : Int32) + r_3.1)).bind fun j_13 =>
p_let (v_up r_7.2 51 j_13 r_5.1) fun I_14 =>
some (I_14))
else (
some (r_7.2))
set_option maxHeartbeats 4000000 in
set_option maxRecDepth 100000 in
theorem s_X10_drawnAct {S : v_S} {F : v_F} (hS : p_SS S) (hF : p_FF F) (I : v_I) : f_X10_drawnAct S I F 49 = h_X10_drawnAct I := by
  unfold f_X10_drawnAct h_X10_drawnAct
  simp only [p_bs, s_X10_many hS hF, p_obS hS (a := 49) (kd := 10) rfl, s_X10_draws hS hF, s_X10_touches hS hF, p_FS hF (a := 49) (i := 2) (b := 51) (by decide), p_ixS hS (kd := 20) (a := 51) (n := 5660) rfl, p_inL (n := 5660) (k := 0) (i := (0 : Int32)) (by decide)]

def h_X10_councils_J20 (I : v_I) : Option (Int32 × v_I) :=
(h_X10_refuses I (-1 : Int32)).bind fun r_4 =>
some (r_4.1, r_4.2)
set_option maxHeartbeats 4000000 in
set_option maxRecDepth 100000 in
theorem s_X10_councils_J20 {S : v_S} {F : v_F} (hS : p_SS S) (hF : p_FF F) (I : v_I) : f_X10_councils_J20 S F I 49 = h_X10_councils_J20 I := by
  unfold f_X10_councils_J20 h_X10_councils_J20
  simp only [p_bs, s_X10_lies, s_X10_refuses hS hF, p_obS hS (a := 49) (kd := 10) rfl, s_X10_many hS hF, s_X10_laysAside hS hF, p_FS hF (a := 49) (i := 2) (b := 51) (by decide), p_ixS hS (kd := 20) (a := 51) (n := 5660) rfl, p_inL (n := 5660) (k := 17) (i := (17 : Int32)) (by decide), s_X10_drawnAct hS hF, s_X10_minutePasses hS hF, p_inL (n := 5660) (k := 0) (i := (0 : Int32)) (by decide), p_FS hF (a := 49) (i := 45) (b := 71) (by decide), p_ixS hS (kd := 20) (a := 71) (n := 18) rfl, s_X10_takesBack hS hF, s_X10_good hS hF]
def h_X10_councils_B60 (w2 : Int32) (s60 : Int32 × v_I) : Option ((Int32 × v_I) ⊕ (Int32 × v_I)) :=
if w2 ≤ s60.1 then (
some (.inr (s60.1, s60.2)))
else (
if (999 : Int32) ≤ (s60.2 51 17) then (
some (.inr (s60.1, s60.2)))
else (
(h_X10_drawnAct s60.2).bind fun r_22 =>
(h_X10_minutePasses r_22 (0 : Int32)).bind fun r_24 =>
p_let (s60.1 + (1 : Int32)) fun x_26 =>
some (.inl (x_26, r_24.2))))
set_option maxHeartbeats 4000000 in
set_option maxRecDepth 100000 in
theorem s_X10_councils_B60 {S : v_S} {F : v_F} (hS : p_SS S) (hF : p_FF F) (w2 : Int32) : f_X10_councils_B60 S F 49 w2 = h_X10_councils_B60 w2 := by
  funext s60
  unfold f_X10_councils_B60 h_X10_councils_B60
  simp only [p_bs, s_X10_lies, s_X10_refuses hS hF, p_obS hS (a := 49) (kd := 10) rfl, s_X10_many hS hF, s_X10_laysAside hS hF, p_FS hF (a := 49) (i := 2) (b := 51) (by decide), p_ixS hS (kd := 20) (a := 51) (n := 5660) rfl, p_inL (n := 5660) (k := 17) (i := (17 : Int32)) (by decide), s_X10_drawnAct hS hF, s_X10_minutePasses hS hF, p_inL (n := 5660) (k := 0) (i := (0 : Int32)) (by decide), p_FS hF (a := 49) (i := 45) (b := 71) (by decide), p_ixS hS (kd := 20) (a := 71) (n := 18) rfl, s_X10_takesBack hS hF, s_X10_good hS hF, s_X10_councils_J20 hS hF]
def h_X10_councils_B104 (w3 : Int32) (s104 : Int32 × v_I) : Option ((Int32 × v_I) ⊕ (Int32 × v_I)) :=
if (18 : Int32) ≤ s104.1 then (
some (.inr (s104.1, s104.2)))
else (
(p_in 5660 s104.1).bind fun j_33 =>
(p_in 18 s104.1).bind fun j_34 =>
p_let (v_up s104.2 71 j_34 (s104.2 51 j_33)) fun I_35 =>
p_let (s104.1 + (1 : Int32)) fun x_37 =>
some (.inl (x_37, I_35)))
set_option maxHeartbeats 4000000 in
set_option maxRecDepth 100000 in
theorem s_X10_councils_B104 {S : v_S} {F : v_F} (hS : p_SS S) (hF : p_FF F) (w3 : Int32) : f_X10_councils_B104 S F 49 w3 = h_X10_councils_B104 w3 := by
  funext s104
  unfold f_X10_councils_B104 h_X10_councils_B104
  simp only [p_bs, s_X10_lies, s_X10_refuses hS hF, p_obS hS (a := 49) (kd := 10) rfl, s_X10_many hS hF, s_X10_laysAside hS hF, p_FS hF (a := 49) (i := 2) (b := 51) (by decide), p_ixS hS (kd := 20) (a := 51) (n := 5660) rfl, p_inL (n := 5660) (k := 17) (i := (17 : Int32)) (by decide), s_X10_drawnAct hS hF, s_X10_minutePasses hS hF, p_inL (n := 5660) (k := 0) (i := (0 : Int32)) (by decide), p_FS hF (a := 49) (i := 45) (b := 71) (by decide), p_ixS hS (kd := 20) (a := 71) (n := 18) rfl, s_X10_takesBack hS hF, s_X10_good hS hF, s_X10_councils_J20 hS hF, s_X10_councils_B60 hS hF]
def h_X10_councils_J94 (I : v_I) : Option (Int32 × v_I) :=
p_let (I 51 0) fun x_30 =>
(v_loop (h_X10_councils_B104 x_30) FU ((0 : Int32), I)).bind fun q_39 =>
(h_X10_takesBack q_39.2 (0 : Int32)).bind fun r_41 =>
(h_X10_good r_41 x_30).bind fun r_43 =>
some (r_43.1, r_43.2)
set_option maxHeartbeats 4000000 in
set_option maxRecDepth 100000 in
theorem s_X10_councils_J94 {S : v_S} {F : v_F} (hS : p_SS S) (hF : p_FF F) (I : v_I) : f_X10_councils_J94 S F I 49 = h_X10_councils_J94 I := by
  unfold f_X10_councils_J94 h_X10_councils_J94
  simp only [p_bs, s_X10_lies, s_X10_refuses hS hF, p_obS hS (a := 49) (kd := 10) rfl, s_X10_many hS hF, s_X10_laysAside hS hF, p_FS hF (a := 49) (i := 2) (b := 51) (by decide), p_ixS hS (kd := 20) (a := 51) (n := 5660) rfl, p_inL (n := 5660) (k := 17) (i := (17 : Int32)) (by decide), s_X10_drawnAct hS hF, s_X10_minutePasses hS hF, p_inL (n := 5660) (k := 0) (i := (0 : Int32)) (by decide), p_FS hF (a := 49) (i := 45) (b := 71) (by decide), p_ixS hS (kd := 20) (a := 71) (n := 18) rfl, s_X10_takesBack hS hF, s_X10_good hS hF, s_X10_councils_J20 hS hF, s_X10_councils_B60 hS hF, s_X10_councils_B104 hS hF]
def h_X10_councils (I : v_I) (p1 : Int32) (p2 : Int32) : Option (Int32 × v_I) :=
(h_X10_lies p1 (0 : Int32) (1000000 : Int32)).bind fun r_1 =>
if r_1 = (0 : Int32) then (
h_X10_councils_J20 I)
else (
(h_X10_lies p2 (1 : Int32) (60 : Int32)).bind fun r_6 =>
if r_6 = (0 : Int32) then (
h_X10_councils_J20 I)
else (
(h_X10_many I).bind fun r_9 =>
if r_9 = (0 : Int32) then (
(h_X10_refuses I (-3 : Int32)).bind fun r_45 =>
some (r_45.1, r_45.2))
else (
p_let (v_up I 49 47 p1) fun I_12 =>
(h_X10_many I_12).bind fun r_14 =>
p_let (v_up I_12 49 46 r_14) fun I_16 =>
(h_X10_laysAside I_16 (0 : Int32)).bind fun r_18 =>
(v_loop (h_X10_councils_B60 p2) FU ((0 : Int32), r_18)).bind fun q_28 =>
h_X10_councils_J94 q_28.2)))
set_option maxHeartbeats 4000000 in
set_option maxRecDepth 100000 in
theorem s_X10_councils {S : v_S} {F : v_F} (hS : p_SS S) (hF : p_FF F) (I : v_I) (p1 : Int32) (p2 : Int32) : f_X10_councils S I F 49 p1 p2 = h_X10_councils I p1 p2 := by
  unfold f_X10_councils h_X10_councils
  simp only [p_bs, s_X10_lies, s_X10_refuses hS hF, p_obS hS (a := 49) (kd := 10) rfl, s_X10_many hS hF, s_X10_laysAside hS hF, p_FS hF (a := 49) (i := 2) (b := 51) (by decide), p_ixS hS (kd := 20) (a := 51) (n := 5660) rfl, p_inL (n := 5660) (k := 17) (i := (17 : Int32)) (by decide), s_X10_drawnAct hS hF, s_X10_minutePasses hS hF, p_inL (n := 5660) (k := 0) (i := (0 : Int32)) (by decide), p_FS hF (a := 49) (i := 45) (b := 71) (by decide), p_ixS hS (kd := 20) (a := 71) (n := 18) rfl, s_X10_takesBack hS hF, s_X10_good hS hF, s_X10_councils_J20 hS hF, s_X10_councils_B60 hS hF, s_X10_councils_B104 hS hF, s_X10_councils_J94 hS hF]

def h_X10_drawn (I : v_I) (p1 : Int32) (p2 : Int32) : Option (Int32) :=
(h_X10_lies p1 (0 : Int32) ((I 49 46) - (1 : Int32))).bind fun r_1 =>
if r_1 = (0 : Int32) then (
some ((-1 : Int32)))
else (
if p2 = (0 : Int32) then (
(p_in 18 ((1 : Int32) + p1)).bind fun j_4 =>
some (I 71 j_4))
else if p2 = (1 : Int32) then (
some (((I 71 0) >>> (p1 &&& 31)) &&& (1 : Int32)))
else if p2 = (2 : Int32) then (
(p_in 18 ((9 : Int32) + p1)).bind fun j_5 =>
some (I 71 j_5))
else (
some ((-1 : Int32))))
set_option maxHeartbeats 4000000 in
set_option maxRecDepth 100000 in
theorem s_X10_drawn {S : v_S} {F : v_F} (hS : p_SS S) (hF : p_FF F) (I : v_I) (p1 : Int32) (p2 : Int32) : f_X10_drawn S I F 49 p1 p2 = h_X10_drawn I p1 p2 := by
  unfold f_X10_drawn h_X10_drawn
  simp only [p_bs, p_obS hS (a := 49) (kd := 10) rfl, s_X10_lies, p_FS hF (a := 49) (i := 45) (b := 71) (by decide), p_ixS hS (kd := 20) (a := 71) (n := 18) rfl, p_inL (n := 18) (k := 0) (i := (0 : Int32)) (by decide)]

def h_X10_refusals (I : v_I) (p1 : Int32) : Option (Int32) :=
if (3 : Int32) ≤ p1 then (
(p_in 7 (p1 + (2 : Int32))).bind fun j_2 =>
some (I 50 j_2))
else (
(p_in 7 (p1 + (1 : Int32))).bind fun j_3 =>
some (I 50 j_3))
set_option maxHeartbeats 4000000 in
set_option maxRecDepth 100000 in
theorem s_X10_refusals {S : v_S} {F : v_F} (hS : p_SS S) (hF : p_FF F) (I : v_I) (p1 : Int32) : f_X10_refusals S I F 49 p1 = h_X10_refusals I p1 := by
  unfold f_X10_refusals h_X10_refusals
  simp only [p_bs, p_obS hS (a := 49) (kd := 10) rfl, p_FS hF (a := 49) (i := 1) (b := 50) (by decide), p_ixS hS (kd := 20) (a := 50) (n := 7) rfl]

def h_X10_count (I : v_I) (p1 : Int32) : Option (Int32) :=
(h_X10_lies p1 (6 : Int32) (10 : Int32)).bind fun r_1 =>
if r_1 = (0 : Int32) then (
(h_X10_lies p1 (12 : Int32) (15 : Int32)).bind fun r_4 =>
if r_4 = (0 : Int32) then (
if p1 = (0 : Int32) then (
(h_X10_many I).bind fun r_7 =>
some (r_7))
else if p1 = (1 : Int32) then (
(h_X10_ones (I 51 0)).bind fun r_9 =>
some (r_9))
else if p1 = (2 : Int32) then (
some (I 51 50))
else if p1 = (3 : Int32) then (
some (I 51 51))
else if p1 = (4 : Int32) then (
some (I 49 32))
else if p1 = (5 : Int32) then (
some (I 49 13))
else if p1 = (6 : Int32) then (
some ((-1 : Int32)))
else if p1 = (7 : Int32) then (
some ((-1 : Int32)))
else if p1 = (8 : Int32) then (
some ((-1 : Int32)))
else if p1 = (9 : Int32) then (
some ((-1 : Int32)))
else if p1 = (10 : Int32) then (
some ((-1 : Int32)))
else if p1 = (11 : Int32) then (
some (I 51 52))
else (
some ((-1 : Int32))))
else (
(h_X10_termAt (p1 - (12 : Int32))).bind fun r_23 =>
(p_in 5660 r_23).bind fun j_25 =>
some (I 51 j_25)))
else (
(h_X10_refusals I (p1 - (6 : Int32))).bind fun r_26 =>
some (r_26))
set_option maxHeartbeats 4000000 in
set_option maxRecDepth 100000 in
theorem s_X10_count {S : v_S} {F : v_F} (hS : p_SS S) (hF : p_FF F) (I : v_I) (p1 : Int32) : f_X10_count S I F 49 p1 = h_X10_count I p1 := by
  unfold f_X10_count h_X10_count
  simp only [p_bs, s_X10_lies, s_X10_many hS hF, p_obS hS (a := 49) (kd := 10) rfl, p_FS hF (a := 49) (i := 2) (b := 51) (by decide), p_ixS hS (kd := 20) (a := 51) (n := 5660) rfl, p_inL (n := 5660) (k := 0) (i := (0 : Int32)) (by decide), s_X10_ones, p_inL (n := 5660) (k := 50) (i := (50 : Int32)) (by decide), p_inL (n := 5660) (k := 51) (i := (51 : Int32)) (by decide), p_inL (n := 5660) (k := 52) (i := (52 : Int32)) (by decide), s_X10_termAt, s_X10_refusals hS hF]

def h_X10_status (I : v_I) : Option (Int32) :=
some (I 49 0)
set_option maxHeartbeats 4000000 in
set_option maxRecDepth 100000 in
theorem s_X10_status {S : v_S} {F : v_F} (hS : p_SS S) (hF : p_FF F) (I : v_I) : f_X10_status S I 49 = h_X10_status I := by
  unfold f_X10_status h_X10_status
  simp only [p_bs, p_obS hS (a := 49) (kd := 10) rfl]

end sp04
