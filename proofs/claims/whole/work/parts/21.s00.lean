noncomputable section sp00
def h_X10_good (I : v_I) (p1 : Int32) : Option (Int32 × v_I) :=
p_let (v_up I 49 0 (0 : Int32)) fun I_1 =>
some (p1, I_1)
set_option maxHeartbeats 4000000 in
set_option maxRecDepth 100000 in
theorem s_X10_good {S : v_S} {F : v_F} (hS : p_SS S) (hF : p_FF F) (I : v_I) (p1 : Int32) : f_X10_good S I 49 p1 = h_X10_good I p1 := by
  unfold f_X10_good h_X10_good
  simp only [p_bs, p_obS hS (a := 49) (kd := 10) rfl]

def h_X10_lies (p0 : Int32) (p1 : Int32) (p2 : Int32) : Option (Int32) :=
if p0 < p1 then (
some ((0 : Int32)))
else (
if p2 < p0 then (
some ((0 : Int32)))
else (
some ((1 : Int32))))
set_option maxHeartbeats 4000000 in
set_option maxRecDepth 100000 in
theorem s_X10_lies (p0 : Int32) (p1 : Int32) (p2 : Int32) : f_X10_lies p0 p1 p2 = h_X10_lies p0 p1 p2 := by
  unfold f_X10_lies h_X10_lies
  simp only [p_bs]

def h_X10_refuses (I : v_I) (p1 : Int32) : Option (Int32 × v_I) :=
p_let (v_up I 49 0 p1) fun I_1 =>
(p_in 7 (-p1)).bind fun j_3 =>
(p_in 7 (-p1)).bind fun j_4 =>
p_let (v_up I_1 50 j_4 ((I_1 50 j_3) + (1 : Int32))) fun I_5 =>
some (p1, I_5)
set_option maxHeartbeats 4000000 in
set_option maxRecDepth 100000 in
theorem s_X10_refuses {S : v_S} {F : v_F} (hS : p_SS S) (hF : p_FF F) (I : v_I) (p1 : Int32) : f_X10_refuses S I F 49 p1 = h_X10_refuses I p1 := by
  unfold f_X10_refuses h_X10_refuses
  simp only [p_bs, p_obS hS (a := 49) (kd := 10) rfl, p_FS hF (a := 49) (i := 1) (b := 50) (by decide), p_ixS hS (kd := 20) (a := 50) (n := 7) rfl]

def h_X10_image_B17 (w1 : Int32) (s17 : Int32 × v_I) : Option ((Int32 × v_I) ⊕ (Int32 × v_I)) :=
if (5660 : Int32) ≤ s17.1 then (
some (.inr (s17.1, s17.2)))
else (
(p_in 5660 s17.1).bind fun j_5 =>
(p_in 11320 (((5660 : Int32) * w1) + s17.1)).bind fun j_6 =>
p_let (v_up s17.2 52 j_6 (s17.2 51 j_5)) fun I_7 =>
p_let (s17.1 + (1 : Int32)) fun x_9 =>
some (.inl (x_9, I_7)))
set_option maxHeartbeats 4000000 in
set_option maxRecDepth 100000 in
theorem s_X10_image_B17 {S : v_S} {F : v_F} (hS : p_SS S) (hF : p_FF F) (w1 : Int32) : f_X10_image_B17 S F 49 w1 = h_X10_image_B17 w1 := by
  funext s17
  unfold f_X10_image_B17 h_X10_image_B17
  simp only [p_bs, s_X10_lies, p_obS hS (a := 49) (kd := 10) rfl, p_FS hF (a := 49) (i := 3) (b := 52) (by decide), p_FS hF (a := 49) (i := 2) (b := 51) (by decide), p_ixS hS (kd := 20) (a := 51) (n := 5660) rfl, p_ixS hS (kd := 20) (a := 52) (n := 11320) rfl, p_FS hF (a := 49) (i := 4) (b := 53) (by decide), p_ixS hS (kd := 22) (a := 53) (n := 2) rfl, s_X10_good hS hF, s_X10_refuses hS hF]
def h_X10_image (I : v_I) (p1 : Int32) : Option (Int32 × v_I) :=
(h_X10_lies p1 (0 : Int32) (1 : Int32)).bind fun r_1 =>
if r_1 = (0 : Int32) then (
(h_X10_refuses I (-1 : Int32)).bind fun r_18 =>
some (r_18.1, r_18.2))
else (
(v_loop (h_X10_image_B17 p1) FU ((0 : Int32), I)).bind fun q_11 =>
(p_in 2 p1).bind fun j_13 =>
p_let (v_up q_11.2 53 j_13 (vp_nar .boolean (1 : Int32))) fun I_14 =>
(h_X10_good I_14 (0 : Int32)).bind fun r_16 =>
some (r_16.1, r_16.2))
set_option maxHeartbeats 4000000 in
set_option maxRecDepth 100000 in
theorem s_X10_image {S : v_S} {F : v_F} (hS : p_SS S) (hF : p_FF F) (I : v_I) (p1 : Int32) : f_X10_image S I F 49 p1 = h_X10_image I p1 := by
  unfold f_X10_image h_X10_image
  simp only [p_bs, s_X10_lies, p_obS hS (a := 49) (kd := 10) rfl, p_FS hF (a := 49) (i := 3) (b := 52) (by decide), p_FS hF (a := 49) (i := 2) (b := 51) (by decide), p_ixS hS (kd := 20) (a := 51) (n := 5660) rfl, p_ixS hS (kd := 20) (a := 52) (n := 11320) rfl, p_FS hF (a := 49) (i := 4) (b := 53) (by decide), p_ixS hS (kd := 22) (a := 53) (n := 2) rfl, s_X10_good hS hF, s_X10_refuses hS hF, s_X10_image_B17 hS hF]

def h_X10_settled (I : v_I) (p1 : Int32) : Option (Int32 × v_I) :=
p_let (v_up I 49 32 (0 : Int32)) fun I_1 =>
(h_X10_good I_1 p1).bind fun r_3 =>
some (r_3.1, r_3.2)
set_option maxHeartbeats 4000000 in
set_option maxRecDepth 100000 in
theorem s_X10_settled {S : v_S} {F : v_F} (hS : p_SS S) (hF : p_FF F) (I : v_I) (p1 : Int32) : f_X10_settled S I 49 p1 = h_X10_settled I p1 := by
  unfold f_X10_settled h_X10_settled
  simp only [p_bs, p_obS hS (a := 49) (kd := 10) rfl, s_X10_good hS hF]

def h_X10_back_B33 (w1 : Int32) (s33 : Int32 × v_I) : Option ((Int32 × v_I) ⊕ (Int32 × v_I)) :=
if (5660 : Int32) ≤ s33.1 then (
some (.inr (s33.1, s33.2)))
else (
(p_in 11320 (((5660 : Int32) * w1) + s33.1)).bind fun j_7 =>
(p_in 5660 s33.1).bind fun j_8 =>
p_let (v_up s33.2 51 j_8 (s33.2 52 j_7)) fun I_9 =>
p_let (s33.1 + (1 : Int32)) fun x_11 =>
some (.inl (x_11, I_9)))
set_option maxHeartbeats 4000000 in
set_option maxRecDepth 100000 in
theorem s_X10_back_B33 {S : v_S} {F : v_F} (hS : p_SS S) (hF : p_FF F) (w1 : Int32) : f_X10_back_B33 S F 49 w1 = h_X10_back_B33 w1 := by
  funext s33
  unfold f_X10_back_B33 h_X10_back_B33
  simp only [p_bs, s_X10_lies, p_obS hS (a := 49) (kd := 10) rfl, p_FS hF (a := 49) (i := 4) (b := 53) (by decide), p_ixS hS (kd := 22) (a := 53) (n := 2) rfl, p_FS hF (a := 49) (i := 2) (b := 51) (by decide), p_FS hF (a := 49) (i := 3) (b := 52) (by decide), p_ixS hS (kd := 20) (a := 52) (n := 11320) rfl, p_ixS hS (kd := 20) (a := 51) (n := 5660) rfl, s_X10_settled hS hF, s_X10_refuses hS hF]
def h_X10_back (I : v_I) (p1 : Int32) : Option (Int32 × v_I) :=
(h_X10_lies p1 (0 : Int32) (1 : Int32)).bind fun r_1 =>
if r_1 = (0 : Int32) then (
(h_X10_refuses I (-1 : Int32)).bind fun r_19 =>
some (r_19.1, r_19.2))
else (
(p_in 2 p1).bind fun j_4 =>
if (I 53 j_4) = (0 : Int32) then (
(h_X10_refuses I (-2 : Int32)).bind fun r_17 =>
some (r_17.1, r_17.2))
else (
(v_loop (h_X10_back_B33 p1) FU ((0 : Int32), I)).bind fun q_13 =>
(h_X10_settled q_13.2 (0 : Int32)).bind fun r_15 =>
some (r_15.1, r_15.2)))
set_option maxHeartbeats 4000000 in
set_option maxRecDepth 100000 in
theorem s_X10_back {S : v_S} {F : v_F} (hS : p_SS S) (hF : p_FF F) (I : v_I) (p1 : Int32) : f_X10_back S I F 49 p1 = h_X10_back I p1 := by
  unfold f_X10_back h_X10_back
  simp only [p_bs, s_X10_lies, p_obS hS (a := 49) (kd := 10) rfl, p_FS hF (a := 49) (i := 4) (b := 53) (by decide), p_ixS hS (kd := 22) (a := 53) (n := 2) rfl, p_FS hF (a := 49) (i := 2) (b := 51) (by decide), p_FS hF (a := 49) (i := 3) (b := 52) (by decide), p_ixS hS (kd := 20) (a := 52) (n := 11320) rfl, p_ixS hS (kd := 20) (a := 51) (n := 5660) rfl, s_X10_settled hS hF, s_X10_refuses hS hF, s_X10_back_B33 hS hF]

def h_X10_many (I : v_I) : Option (Int32) :=
some (I 51 49)
set_option maxHeartbeats 4000000 in
set_option maxRecDepth 100000 in
theorem s_X10_many {S : v_S} {F : v_F} (hS : p_SS S) (hF : p_FF F) (I : v_I) : f_X10_many S I F 49 = h_X10_many I := by
  unfold f_X10_many h_X10_many
  simp only [p_bs, p_obS hS (a := 49) (kd := 10) rfl, p_FS hF (a := 49) (i := 2) (b := 51) (by decide), p_ixS hS (kd := 20) (a := 51) (n := 5660) rfl, p_inL (n := 5660) (k := 49) (i := (49 : Int32)) (by decide)]

def h_X10_adds (I : v_I) (p1 : Int32) (p2 : Int32) (p3 : Int32) : Option (Int32 × v_I) :=
(h_X10_many I).bind fun r_1 =>
p_let (v_up I 51 0 ((I 51 0) &&& (((1 : Int32) <<< (r_1 &&& 31)) ^^^ (-1 : Int32)))) fun I_3 =>
(p_in 5660 ((1 : Int32) + r_1)).bind fun j_5 =>
p_let (v_up I_3 51 j_5 p1) fun I_6 =>
(p_in 5660 ((9 : Int32) + r_1)).bind fun j_8 =>
p_let (v_up I_6 51 j_8 (0 : Int32)) fun I_9 =>
(p_in 5660 ((18 : Int32) + r_1)).bind fun j_11 =>
p_let (v_up I_9 51 j_11 p2) fun I_12 =>
(p_in 5660 ((26 : Int32) + r_1)).bind fun j_14 =>
p_let (v_up I_12 51 j_14 p3) fun I_15 =>
p_let (v_up I_15 51 49 ((I_15 51 49) + (1 : Int32))) fun I_17 =>
some (r_1, I_17)
set_option maxHeartbeats 4000000 in
set_option maxRecDepth 100000 in
theorem s_X10_adds {S : v_S} {F : v_F} (hS : p_SS S) (hF : p_FF F) (I : v_I) (p1 : Int32) (p2 : Int32) (p3 : Int32) : f_X10_adds S I F 49 p1 p2 p3 = h_X10_adds I p1 p2 p3 := by
  unfold f_X10_adds h_X10_adds
  simp only [p_bs, s_X10_many hS hF, p_obS hS (a := 49) (kd := 10) rfl, p_FS hF (a := 49) (i := 2) (b := 51) (by decide), p_ixS hS (kd := 20) (a := 51) (n := 5660) rfl, p_inL (n := 5660) (k := 0) (i := (0 : Int32)) (by decide), p_inL (n := 5660) (k := 49) (i := (49 : Int32)) (by decide)]

def h_X10_isNine (p0 : Int32) : Option (Int32) :=
(h_X10_lies p0 (0 : Int32) (9 : Int32)).bind fun r_1 =>
(p_bl r_1).bind fun _ =>
some (r_1)
set_option maxHeartbeats 4000000 in
set_option maxRecDepth 100000 in
theorem s_X10_isNine (p0 : Int32) : f_X10_isNine p0 = h_X10_isNine p0 := by
  unfold f_X10_isNine h_X10_isNine
  simp only [p_bs, s_X10_lies]

def h_X10_hedgehog_J14 (I : v_I) : Option (Int32 × v_I) :=
(h_X10_refuses I (-1 : Int32)).bind fun r_4 =>
some (r_4.1, r_4.2)
set_option maxHeartbeats 4000000 in
set_option maxRecDepth 100000 in
theorem s_X10_hedgehog_J14 {S : v_S} {F : v_F} (hS : p_SS S) (hF : p_FF F) (I : v_I) : f_X10_hedgehog_J14 S F I 49 = h_X10_hedgehog_J14 I := by
  unfold f_X10_hedgehog_J14 h_X10_hedgehog_J14
  simp only [p_bs, s_X10_isNine, s_X10_refuses hS hF, p_obS hS (a := 49) (kd := 10) rfl, s_X10_many hS hF, s_X10_adds hS hF, s_X10_settled hS hF]
def h_X10_hedgehog (I : v_I) (p1 : Int32) (p2 : Int32) : Option (Int32 × v_I) :=
(h_X10_isNine p1).bind fun r_1 =>
if r_1 = (0 : Int32) then (
h_X10_hedgehog_J14 I)
else (
(h_X10_isNine p2).bind fun r_6 =>
if r_6 = (0 : Int32) then (
h_X10_hedgehog_J14 I)
else (
(h_X10_many I).bind fun r_9 =>
if r_9 = (8 : Int32) then (
(h_X10_refuses I (-5 : Int32)).bind fun r_16 =>
some (r_16.1, r_16.2))
else (
(h_X10_adds I p1 p2 (0 : Int32)).bind fun r_12 =>
(h_X10_settled r_12.2 r_12.1).bind fun r_14 =>
some (r_14.1, r_14.2))))
set_option maxHeartbeats 4000000 in
set_option maxRecDepth 100000 in
theorem s_X10_hedgehog {S : v_S} {F : v_F} (hS : p_SS S) (hF : p_FF F) (I : v_I) (p1 : Int32) (p2 : Int32) : f_X10_hedgehog S I F 49 p1 p2 = h_X10_hedgehog I p1 p2 := by
  unfold f_X10_hedgehog h_X10_hedgehog
  simp only [p_bs, s_X10_isNine, s_X10_refuses hS hF, p_obS hS (a := 49) (kd := 10) rfl, s_X10_many hS hF, s_X10_adds hS hF, s_X10_settled hS hF, s_X10_hedgehog_J14 hS hF]

def h_X10_isBit (p0 : Int32) : Option (Int32) :=
(h_X10_lies p0 (0 : Int32) (1 : Int32)).bind fun r_1 =>
(p_bl r_1).bind fun _ =>
some (r_1)
set_option maxHeartbeats 4000000 in
set_option maxRecDepth 100000 in
theorem s_X10_isBit (p0 : Int32) : f_X10_isBit p0 = h_X10_isBit p0 := by
  unfold f_X10_isBit h_X10_isBit
  simp only [p_bs, s_X10_lies]

def h_X10_isOne (I : v_I) (p1 : Int32) : Option (Int32) :=
(h_X10_many I).bind fun r_1 =>
(h_X10_lies p1 (0 : Int32) (r_1 - (1 : Int32))).bind fun r_3 =>
(p_bl r_3).bind fun _ =>
some (r_3)
set_option maxHeartbeats 4000000 in
set_option maxRecDepth 100000 in
theorem s_X10_isOne {S : v_S} {F : v_F} (hS : p_SS S) (hF : p_FF F) (I : v_I) (p1 : Int32) : f_X10_isOne S I F 49 p1 = h_X10_isOne I p1 := by
  unfold f_X10_isOne h_X10_isOne
  simp only [p_bs, s_X10_many hS hF, p_obS hS (a := 49) (kd := 10) rfl, s_X10_lies]

def h_X10_watch_J12 (I : v_I) : Option (Int32 × v_I) :=
(h_X10_refuses I (-1 : Int32)).bind fun r_2 =>
some (r_2.1, r_2.2)
set_option maxHeartbeats 4000000 in
set_option maxRecDepth 100000 in
theorem s_X10_watch_J12 {S : v_S} {F : v_F} (hS : p_SS S) (hF : p_FF F) (I : v_I) : f_X10_watch_J12 S F I 49 = h_X10_watch_J12 I := by
  unfold f_X10_watch_J12 h_X10_watch_J12
  simp only [p_bs, s_X10_refuses hS hF, p_obS hS (a := 49) (kd := 10) rfl, s_X10_isBit, s_X10_isOne hS hF, p_FS hF (a := 49) (i := 2) (b := 51) (by decide), p_ixS hS (kd := 20) (a := 51) (n := 5660) rfl, s_X10_good hS hF]
def h_X10_watch_J34 (I : v_I) : Option (Int32 × v_I) :=
(h_X10_refuses I (-2 : Int32)).bind fun r_10 =>
some (r_10.1, r_10.2)
set_option maxHeartbeats 4000000 in
set_option maxRecDepth 100000 in
theorem s_X10_watch_J34 {S : v_S} {F : v_F} (hS : p_SS S) (hF : p_FF F) (I : v_I) : f_X10_watch_J34 S F I 49 = h_X10_watch_J34 I := by
  unfold f_X10_watch_J34 h_X10_watch_J34
  simp only [p_bs, s_X10_refuses hS hF, p_obS hS (a := 49) (kd := 10) rfl, s_X10_isBit, s_X10_isOne hS hF, p_FS hF (a := 49) (i := 2) (b := 51) (by decide), p_ixS hS (kd := 20) (a := 51) (n := 5660) rfl, s_X10_good hS hF, s_X10_watch_J12 hS hF]
def h_X10_watch (I : v_I) (p1 : Int32) (p2 : Int32) (p3 : Int32) : Option (Int32 × v_I) :=
if p1 = p2 then (
h_X10_watch_J12 I)
else (
(h_X10_isBit p3).bind fun r_4 =>
if r_4 = (0 : Int32) then (
h_X10_watch_J12 I)
else (
(h_X10_isOne I p1).bind fun r_7 =>
if r_7 = (0 : Int32) then (
h_X10_watch_J34 I)
else (
(h_X10_isOne I p2).bind fun r_12 =>
if r_12 = (0 : Int32) then (
h_X10_watch_J34 I)
else (
(p_in 5660 ((26 : Int32) + p1)).bind fun j_15 =>
p_let (((I 51 j_15) >>> (p2 &&& 31)) &&& (1 : Int32)) fun x_16 =>
(p_in 5660 ((26 : Int32) + p1)).bind fun j_18 =>
(p_in 5660 ((26 : Int32) + p1)).bind fun j_19 =>
p_let (v_up I 51 j_19 (((I 51 j_18) &&& (((1 : Int32) <<< (p2 &&& 31)) ^^^ (-1 : Int32))) ||| (p3 <<< (p2 &&& 31)))) fun I_20 =>
(h_X10_good I_20 x_16).bind fun r_22 =>
some (r_22.1, r_22.2)))))
set_option maxHeartbeats 4000000 in
set_option maxRecDepth 100000 in
theorem s_X10_watch {S : v_S} {F : v_F} (hS : p_SS S) (hF : p_FF F) (I : v_I) (p1 : Int32) (p2 : Int32) (p3 : Int32) : f_X10_watch S I F 49 p1 p2 p3 = h_X10_watch I p1 p2 p3 := by
  unfold f_X10_watch h_X10_watch
  simp only [p_bs, s_X10_refuses hS hF, p_obS hS (a := 49) (kd := 10) rfl, s_X10_isBit, s_X10_isOne hS hF, p_FS hF (a := 49) (i := 2) (b := 51) (by decide), p_ixS hS (kd := 20) (a := 51) (n := 5660) rfl, s_X10_good hS hF, s_X10_watch_J12 hS hF, s_X10_watch_J34 hS hF]

def h_X10_isIn (p0 : Int32) (p1 : Int32) : Option (Int32) :=
if ((p0 >>> (p1 &&& 31)) &&& (1 : Int32)) = (1 : Int32) then (
some ((1 : Int32)))
else (
some ((0 : Int32)))
set_option maxHeartbeats 4000000 in
set_option maxRecDepth 100000 in
theorem s_X10_isIn (p0 : Int32) (p1 : Int32) : f_X10_isIn p0 p1 = h_X10_isIn p0 p1 := by
  unfold f_X10_isIn h_X10_isIn
  simp only [p_bs]

def h_X10_isOpen (I : v_I) (p1 : Int32) : Option (Int32) :=
(h_X10_isIn (I 51 0) p1).bind fun r_1 =>
(p_bl r_1).bind fun _ =>
some (r_1)
set_option maxHeartbeats 4000000 in
set_option maxRecDepth 100000 in
theorem s_X10_isOpen {S : v_S} {F : v_F} (hS : p_SS S) (hF : p_FF F) (I : v_I) (p1 : Int32) : f_X10_isOpen S I F 49 p1 = h_X10_isOpen I p1 := by
  unfold f_X10_isOpen h_X10_isOpen
  simp only [p_bs, p_obS hS (a := 49) (kd := 10) rfl, p_FS hF (a := 49) (i := 2) (b := 51) (by decide), p_ixS hS (kd := 20) (a := 51) (n := 5660) rfl, p_inL (n := 5660) (k := 0) (i := (0 : Int32)) (by decide), s_X10_isIn]

def h_X10_toldBare (I : v_I) (p1 : Int32) (p2 : Int32) : Option (Int32) :=
if p2 = (0 : Int32) then (
(p_in 5660 ((1 : Int32) + p1)).bind fun j_1 =>
some (I 51 j_1))
else if p2 = (1 : Int32) then (
(p_in 5660 ((18 : Int32) + p1)).bind fun j_2 =>
some (I 51 j_2))
else if p2 = (2 : Int32) then (
(p_in 5660 ((26 : Int32) + p1)).bind fun j_3 =>
some (I 51 j_3))
else if p2 = (3 : Int32) then (
(h_X10_isOpen I p1).bind fun r_4 =>
if r_4 = (0 : Int32) then (
some ((0 : Int32)))
else (
some ((1 : Int32))))
else (
(p_in 5660 ((9 : Int32) + p1)).bind fun j_7 =>
some (I 51 j_7))
set_option maxHeartbeats 4000000 in
set_option maxRecDepth 100000 in
theorem s_X10_toldBare {S : v_S} {F : v_F} (hS : p_SS S) (hF : p_FF F) (I : v_I) (p1 : Int32) (p2 : Int32) : f_X10_toldBare S I F 49 p1 p2 = h_X10_toldBare I p1 p2 := by
  unfold f_X10_toldBare h_X10_toldBare
  simp only [p_bs, p_obS hS (a := 49) (kd := 10) rfl, p_FS hF (a := 49) (i := 2) (b := 51) (by decide), p_ixS hS (kd := 20) (a := 51) (n := 5660) rfl, s_X10_isOpen hS hF]

def h_X10_codeAt (I : v_I) (p1 : Int32) : Option (Int32) :=
if (I 49 23) ≤ p1 then (
some ((0 : Int32)))
else (
(p_in 5660 ((60 : Int32) + p1)).bind fun j_2 =>
some (I 51 j_2))
set_option maxHeartbeats 4000000 in
set_option maxRecDepth 100000 in
theorem s_X10_codeAt {S : v_S} {F : v_F} (hS : p_SS S) (hF : p_FF F) (I : v_I) (p1 : Int32) : f_X10_codeAt S I F 49 p1 = h_X10_codeAt I p1 := by
  unfold f_X10_codeAt h_X10_codeAt
  simp only [p_bs, p_obS hS (a := 49) (kd := 10) rfl, p_FS hF (a := 49) (i := 2) (b := 51) (by decide), p_ixS hS (kd := 20) (a := 51) (n := 5660) rfl]

def h_X10_passes0_J17 (I : v_I) (z0 : Int32) : Option (Int32 × v_I) :=
if z0 = (0 : Int32) then (
(p_bl z0).bind fun _ =>
some (z0, I))
else (
p_let (v_up I 49 22 ((I 49 22) + (1 : Int32))) fun I_6 =>
(p_bl z0).bind fun _ =>
some (z0, I_6))
set_option maxHeartbeats 4000000 in
set_option maxRecDepth 100000 in
theorem s_X10_passes0_J17 {S : v_S} {F : v_F} (hS : p_SS S) (hF : p_FF F) (I : v_I) (z0 : Int32) : f_X10_passes0_J17 S F I 49 z0 = h_X10_passes0_J17 I z0 := by
  unfold f_X10_passes0_J17 h_X10_passes0_J17
  simp only [p_bs, p_obS hS (a := 49) (kd := 10) rfl, s_X10_codeAt hS hF]
def h_X10_passes0 (I : v_I) (p1 : Int32) : Option (Int32 × v_I) :=
(h_X10_codeAt I (I 49 22)).bind fun r_1 =>
if r_1 = p1 then (
h_X10_passes0_J17 I (1 : Int32))
else (
h_X10_passes0_J17 I (0 : Int32))
set_option maxHeartbeats 4000000 in
set_option maxRecDepth 100000 in
theorem s_X10_passes0 {S : v_S} {F : v_F} (hS : p_SS S) (hF : p_FF F) (I : v_I) (p1 : Int32) : f_X10_passes0 S I F 49 p1 = h_X10_passes0 I p1 := by
  unfold f_X10_passes0 h_X10_passes0
  simp only [p_bs, p_obS hS (a := 49) (kd := 10) rfl, s_X10_codeAt hS hF, s_X10_passes0_J17 hS hF]

def h_X10_ones_B4 (w0 : Int32) (s4 : Int32 × Int32) : Option ((Int32 × Int32) ⊕ (Int32 × Int32)) :=
if (8 : Int32) ≤ s4.2 then (
some (.inr (s4.1, s4.2)))
else (
p_let (s4.1 + ((w0 >>> (s4.2 &&& 31)) &&& (1 : Int32))) fun x_2 =>
p_let (s4.2 + (1 : Int32)) fun x_4 =>
some (.inl (x_2, x_4)))
set_option maxHeartbeats 4000000 in
set_option maxRecDepth 100000 in
theorem s_X10_ones_B4 (w0 : Int32) : f_X10_ones_B4 w0 = h_X10_ones_B4 w0 := by
  funext s4
  unfold f_X10_ones_B4 h_X10_ones_B4
  simp only [p_bs]
def h_X10_ones (p0 : Int32) : Option (Int32) :=
(v_loop (h_X10_ones_B4 p0) FU ((0 : Int32), (0 : Int32))).bind fun q_6 =>
some (q_6.1)
set_option maxHeartbeats 4000000 in
set_option maxRecDepth 100000 in
theorem s_X10_ones (p0 : Int32) : f_X10_ones p0 = h_X10_ones p0 := by
  unfold f_X10_ones h_X10_ones
  simp only [p_bs, s_X10_ones_B4]

def h_X10_nearOf (I : v_I) (p1 : Int32) : Option (Int32) :=
(p_in 5660 ((26 : Int32) + p1)).bind fun j_1 =>
(h_X10_ones ((I 51 j_1) &&& (I 51 0))).bind fun r_2 =>
some (r_2)
set_option maxHeartbeats 4000000 in
set_option maxRecDepth 100000 in
theorem s_X10_nearOf {S : v_S} {F : v_F} (hS : p_SS S) (hF : p_FF F) (I : v_I) (p1 : Int32) : f_X10_nearOf S I F 49 p1 = h_X10_nearOf I p1 := by
  unfold f_X10_nearOf h_X10_nearOf
  simp only [p_bs, p_obS hS (a := 49) (kd := 10) rfl, p_FS hF (a := 49) (i := 2) (b := 51) (by decide), p_ixS hS (kd := 20) (a := 51) (n := 5660) rfl, p_inL (n := 5660) (k := 0) (i := (0 : Int32)) (by decide), s_X10_ones]

def h_X10_setsAsked (I : v_I) (p1 : Int32) : Option (v_I) :=
p_let (v_up I 61 0 p1) fun I_1 =>
(p_in 5660 ((18 : Int32) + p1)).bind fun j_3 =>
p_let (v_up I_1 61 1 (I_1 51 j_3)) fun I_4 =>
(h_X10_nearOf I_4 p1).bind fun r_6 =>
p_let (v_up I_4 61 2 r_6) fun I_8 =>
p_let (v_up I_8 61 3 (I_8 51 47)) fun I_10 =>
p_let (v_up I_10 61 4 (I_10 51 48)) fun I_12 =>
(p_in 5660 ((1 : Int32) + p1)).bind fun j_14 =>
p_let (v_up I_12 61 5 (I_12 51 j_14)) fun I_15 =>
(p_in 5660 ((9 : Int32) + p1)).bind fun j_17 =>
p_let (v_up I_15 61 6 (I_15 51 j_17)) fun I_18 =>
(h_X10_ones (I_18 51 0)).bind fun r_20 =>
p_let (v_up I_18 61 7 r_20) fun I_22 =>
p_let (v_up I_22 61 8 (I_22 51 17)) fun I_24 =>
some (I_24)
set_option maxHeartbeats 4000000 in
set_option maxRecDepth 100000 in
theorem s_X10_setsAsked {S : v_S} {F : v_F} (hS : p_SS S) (hF : p_FF F) (I : v_I) (p1 : Int32) : f_X10_setsAsked S I F 49 p1 = h_X10_setsAsked I p1 := by
  unfold f_X10_setsAsked h_X10_setsAsked
  simp only [p_bs, p_obS hS (a := 49) (kd := 10) rfl, p_FS hF (a := 49) (i := 26) (b := 61) (by decide), p_ixS hS (kd := 20) (a := 61) (n := 9) rfl, p_inL (n := 9) (k := 0) (i := (0 : Int32)) (by decide), p_FS hF (a := 49) (i := 2) (b := 51) (by decide), p_ixS hS (kd := 20) (a := 51) (n := 5660) rfl, p_inL (n := 9) (k := 1) (i := (1 : Int32)) (by decide), s_X10_nearOf hS hF, p_inL (n := 9) (k := 2) (i := (2 : Int32)) (by decide), p_inL (n := 5660) (k := 47) (i := (47 : Int32)) (by decide), p_inL (n := 9) (k := 3) (i := (3 : Int32)) (by decide), p_inL (n := 5660) (k := 48) (i := (48 : Int32)) (by decide), p_inL (n := 9) (k := 4) (i := (4 : Int32)) (by decide), p_inL (n := 9) (k := 5) (i := (5 : Int32)) (by decide), p_inL (n := 9) (k := 6) (i := (6 : Int32)) (by decide), p_inL (n := 5660) (k := 0) (i := (0 : Int32)) (by decide), s_X10_ones, p_inL (n := 9) (k := 7) (i := (7 : Int32)) (by decide), p_inL (n := 5660) (k := 17) (i := (17 : Int32)) (by decide), p_inL (n := 9) (k := 8) (i := (8 : Int32)) (by decide)]

def h_X10_bounded_J25 (I : v_I) (y1 : Int64) : Option (Int64 × v_I) :=
if (I 49 24) = (0 : Int32) then (
some (y1, I))
else (
some ((0 : Int64), I))
set_option maxHeartbeats 4000000 in
set_option maxRecDepth 100000 in
theorem s_X10_bounded_J25 {S : v_S} {F : v_F} (hS : p_SS S) (hF : p_FF F) (I : v_I) (y1 : Int64) : f_X10_bounded_J25 S I 49 y1 = h_X10_bounded_J25 I y1 := by
  unfold f_X10_bounded_J25 h_X10_bounded_J25
  simp only [p_bs, p_obS hS (a := 49) (kd := 10) rfl]
def h_X10_bounded_J20 (I : v_I) (y1 : Int64) : Option (Int64 × v_I) :=
p_let (v_up I 49 24 (1 : Int32)) fun I_4 =>
h_X10_bounded_J25 I_4 y1
set_option maxHeartbeats 4000000 in
set_option maxRecDepth 100000 in
theorem s_X10_bounded_J20 {S : v_S} {F : v_F} (hS : p_SS S) (hF : p_FF F) (I : v_I) (y1 : Int64) : f_X10_bounded_J20 S I 49 y1 = h_X10_bounded_J20 I y1 := by
  unfold f_X10_bounded_J20 h_X10_bounded_J20
  simp only [p_bs, p_obS hS (a := 49) (kd := 10) rfl, s_X10_bounded_J25 hS hF]
def h_X10_bounded (I : v_I) (p1 : Int64) (p3 : Int32) : Option (Int64 × v_I) :=
if p3 = (0 : Int32) then (
h_X10_bounded_J25 I p1)
else (
if (0 : Int32) < (lg_cmp p1 (1000000000 : Int64)) then (
h_X10_bounded_J20 I p1)
else (
if (0 : Int32) ≤ (lg_cmp p1 (-1000000000 : Int64)) then (
h_X10_bounded_J25 I p1)
else (
h_X10_bounded_J20 I p1)))
set_option maxHeartbeats 4000000 in
set_option maxRecDepth 100000 in
theorem s_X10_bounded {S : v_S} {F : v_F} (hS : p_SS S) (hF : p_FF F) (I : v_I) (p1 : Int64) (p3 : Int32) : f_X10_bounded S I 49 p1 p3 = h_X10_bounded I p1 p3 := by
  unfold f_X10_bounded h_X10_bounded
  simp only [p_bs, p_obS hS (a := 49) (kd := 10) rfl, s_X10_bounded_J25 hS hF, s_X10_bounded_J20 hS hF]

def h_X10_sign (p0 : Int32) : Option (Int32) :=
some ((100 : Int32) + p0)
set_option maxHeartbeats 4000000 in
set_option maxRecDepth 100000 in
theorem s_X10_sign (p0 : Int32) : f_X10_sign p0 = h_X10_sign p0 := by
  unfold f_X10_sign h_X10_sign
  simp only [p_bs]

def h_X10_orderValue (I : v_I) (p1 : Int32) (p2 : Int32) : Option (Int32) :=
if p1 = (13 : Int32) then (
(h_X10_isOne I p2).bind fun r_1 =>
if r_1 = (0 : Int32) then (
some ((-1 : Int32)))
else (
(p_in 5660 ((1 : Int32) + p2)).bind fun j_4 =>
some (I 51 j_4)))
else if p1 = (14 : Int32) then (
(h_X10_isOne I p2).bind fun r_5 =>
if r_5 = (0 : Int32) then (
some ((-1 : Int32)))
else (
(p_in 5660 ((9 : Int32) + p2)).bind fun j_8 =>
some (I 51 j_8)))
else if p1 = (15 : Int32) then (
(h_X10_ones (I 51 0)).bind fun r_9 =>
some (r_9))
else if p1 = (16 : Int32) then (
some (I 51 17))
else if p1 = (17 : Int32) then (
some (I 49 27))
else if p1 = (18 : Int32) then (
some (I 49 28))
else if p1 = (19 : Int32) then (
(h_X10_isOne I p2).bind fun r_11 =>
if r_11 = (0 : Int32) then (
some ((-1 : Int32)))
else (
(h_X10_isOpen I p2).bind fun r_14 =>
if r_14 = (0 : Int32) then (
some ((0 : Int32)))
else (
some ((1 : Int32)))))
else (
some (I 49 28))
set_option maxHeartbeats 4000000 in
set_option maxRecDepth 100000 in
theorem s_X10_orderValue {S : v_S} {F : v_F} (hS : p_SS S) (hF : p_FF F) (I : v_I) (p1 : Int32) (p2 : Int32) : f_X10_orderValue S I F 49 p1 p2 = h_X10_orderValue I p1 p2 := by
  unfold f_X10_orderValue h_X10_orderValue
  simp only [p_bs, s_X10_isOne hS hF, p_obS hS (a := 49) (kd := 10) rfl, p_FS hF (a := 49) (i := 2) (b := 51) (by decide), p_ixS hS (kd := 20) (a := 51) (n := 5660) rfl, p_inL (n := 5660) (k := 0) (i := (0 : Int32)) (by decide), s_X10_ones, p_inL (n := 5660) (k := 17) (i := (17 : Int32)) (by decide), s_X10_isOpen hS hF]

def h_X10_sumOf_J6_95 (rc : Nat → Int32 → v_I → Option (Int64 × v_I)) (w1 : Int32) (I : v_I) (z0 : Int64) : Option ((Int64 × v_I) ⊕ (Int64 × v_I)) :=
(h_X10_bounded I z0 w1).bind fun r_18 =>
some (.inl (r_18.1, r_18.2))
set_option maxHeartbeats 4000000 in
set_option maxRecDepth 100000 in
theorem s_X10_sumOf_J6_95 {S : v_S} {F : v_F} (hS : p_SS S) (hF : p_FF F) {rc : Nat → Nat → Int32 → v_S → v_I → v_F → Option (Int64 × v_I)} {rh : Nat → Int32 → v_I → Option (Int64 × v_I)} (hrc : ∀ (t : Nat) (b : Int32) (I : v_I), rc t 49 b S I F = rh t b I) (w1 : Int32) (I : v_I) (z0 : Int64) : f_X10_sumOf_J6_95 rc S F 49 w1 I z0 49 = h_X10_sumOf_J6_95 rh w1 I z0 := by
  unfold f_X10_sumOf_J6_95 h_X10_sumOf_J6_95
  simp only [p_bs, p_obS hS (a := 49) (kd := 10) rfl, s_X10_codeAt hS hF, s_X10_sign, s_X10_bounded hS hF, hrc]
def h_X10_sumOf_J6_59 (rc : Nat → Int32 → v_I → Option (Int64 × v_I)) (w1 : Int32) (I : v_I) (y2 : Int64) (z0 : Int32) : Option ((Int64 × v_I) ⊕ (Int64 × v_I)) :=
p_let (v_up I 49 22 ((I 49 22) + (1 : Int32))) fun I_13 =>
(rc 1 w1 I_13).bind fun r_15 =>
if z0 = (0 : Int32) then (
h_X10_sumOf_J6_95 rc w1 r_15.2 (y2 - r_15.1))
else (
h_X10_sumOf_J6_95 rc w1 r_15.2 (y2 + r_15.1))
set_option maxHeartbeats 4000000 in
set_option maxRecDepth 100000 in
theorem s_X10_sumOf_J6_59 {S : v_S} {F : v_F} (hS : p_SS S) (hF : p_FF F) {rc : Nat → Nat → Int32 → v_S → v_I → v_F → Option (Int64 × v_I)} {rh : Nat → Int32 → v_I → Option (Int64 × v_I)} (hrc : ∀ (t : Nat) (b : Int32) (I : v_I), rc t 49 b S I F = rh t b I) (w1 : Int32) (I : v_I) (y2 : Int64) (z0 : Int32) : f_X10_sumOf_J6_59 rc S F 49 w1 I y2 z0 = h_X10_sumOf_J6_59 rh w1 I y2 z0 := by
  unfold f_X10_sumOf_J6_59 h_X10_sumOf_J6_59
  simp only [p_bs, p_obS hS (a := 49) (kd := 10) rfl, s_X10_codeAt hS hF, s_X10_sign, s_X10_bounded hS hF, hrc, s_X10_sumOf_J6_95 hS hF hrc]
def h_X10_sumOf_J6_38 (rc : Nat → Int32 → v_I → Option (Int64 × v_I)) (w1 : Int32) (I : v_I) (y2 : Int64) : Option ((Int64 × v_I) ⊕ (Int64 × v_I)) :=
(h_X10_codeAt I (I 49 22)).bind fun r_8 =>
(h_X10_sign (43 : Int32)).bind fun r_10 =>
if r_8 = r_10 then (
h_X10_sumOf_J6_59 rc w1 I y2 (1 : Int32))
else (
h_X10_sumOf_J6_59 rc w1 I y2 (0 : Int32))
set_option maxHeartbeats 4000000 in
set_option maxRecDepth 100000 in
theorem s_X10_sumOf_J6_38 {S : v_S} {F : v_F} (hS : p_SS S) (hF : p_FF F) {rc : Nat → Nat → Int32 → v_S → v_I → v_F → Option (Int64 × v_I)} {rh : Nat → Int32 → v_I → Option (Int64 × v_I)} (hrc : ∀ (t : Nat) (b : Int32) (I : v_I), rc t 49 b S I F = rh t b I) (w1 : Int32) (I : v_I) (y2 : Int64) : f_X10_sumOf_J6_38 rc S F 49 w1 I y2 = h_X10_sumOf_J6_38 rh w1 I y2 := by
  unfold f_X10_sumOf_J6_38 h_X10_sumOf_J6_38
  simp only [p_bs, p_obS hS (a := 49) (kd := 10) rfl, s_X10_codeAt hS hF, s_X10_sign, s_X10_bounded hS hF, hrc, s_X10_sumOf_J6_95 hS hF hrc, s_X10_sumOf_J6_59 hS hF hrc]
def h_X10_sumOf_B6 (rc : Nat → Int32 → v_I → Option (Int64 × v_I)) (w1 : Int32) (s6 : Int64 × v_I) : Option ((Int64 × v_I) ⊕ (Int64 × v_I)) :=
(h_X10_codeAt s6.2 (s6.2 49 22)).bind fun r_3 =>
(h_X10_sign (43 : Int32)).bind fun r_5 =>
if r_3 = r_5 then (
h_X10_sumOf_J6_38 rc w1 s6.2 s6.1)
else (
(h_X10_codeAt s6.2 (s6.2 49 22)).bind fun r_20 =>
(h_X10_sign (45 : Int32)).bind fun r_22 =>
if r_20 = r_22 then (
h_X10_sumOf_J6_38 rc w1 s6.2 s6.1)
else (
some (.inr (s6.1, s6.2))))
set_option maxHeartbeats 4000000 in
set_option maxRecDepth 100000 in
theorem s_X10_sumOf_B6 {S : v_S} {F : v_F} (hS : p_SS S) (hF : p_FF F) {rc : Nat → Nat → Int32 → v_S → v_I → v_F → Option (Int64 × v_I)} {rh : Nat → Int32 → v_I → Option (Int64 × v_I)} (hrc : ∀ (t : Nat) (b : Int32) (I : v_I), rc t 49 b S I F = rh t b I) (w1 : Int32) : f_X10_sumOf_B6 rc S F 49 w1 = h_X10_sumOf_B6 rh w1 := by
  funext s6
  unfold f_X10_sumOf_B6 h_X10_sumOf_B6
  simp only [p_bs, p_obS hS (a := 49) (kd := 10) rfl, s_X10_codeAt hS hF, s_X10_sign, s_X10_bounded hS hF, hrc, s_X10_sumOf_J6_95 hS hF hrc, s_X10_sumOf_J6_59 hS hF hrc, s_X10_sumOf_J6_38 hS hF hrc]
def h_X10_sumOf (rc : Nat → Int32 → v_I → Option (Int64 × v_I)) (I : v_I) (p1 : Int32) : Option (Int64 × v_I) :=
(rc 1 p1 I).bind fun r_1 =>
(v_loop (h_X10_sumOf_B6 rc p1) FU (r_1.1, r_1.2)).bind fun q_25 =>
some (q_25.1, q_25.2)
set_option maxHeartbeats 4000000 in
set_option maxRecDepth 100000 in
theorem s_X10_sumOf {S : v_S} {F : v_F} (hS : p_SS S) (hF : p_FF F) {rc : Nat → Nat → Int32 → v_S → v_I → v_F → Option (Int64 × v_I)} {rh : Nat → Int32 → v_I → Option (Int64 × v_I)} (hrc : ∀ (t : Nat) (b : Int32) (I : v_I), rc t 49 b S I F = rh t b I) (I : v_I) (p1 : Int32) : f_X10_sumOf rc S I F 49 p1 = h_X10_sumOf rh I p1 := by
  unfold f_X10_sumOf h_X10_sumOf
  simp only [p_bs, p_obS hS (a := 49) (kd := 10) rfl, s_X10_codeAt hS hF, s_X10_sign, s_X10_bounded hS hF, hrc, s_X10_sumOf_J6_95 hS hF hrc, s_X10_sumOf_J6_59 hS hF hrc, s_X10_sumOf_J6_38 hS hF hrc, s_X10_sumOf_B6 hS hF hrc]

def h_X10_termOf_J6_160 (rc : Nat → Int32 → v_I → Option (Int64 × v_I)) (w1 : Int32) (I : v_I) (z0 : Int64) : Option ((Int64 × v_I) ⊕ (Int64 × v_I)) :=
(h_X10_bounded I z0 w1).bind fun r_24 =>
some (.inl (r_24.1, r_24.2))
set_option maxHeartbeats 4000000 in
set_option maxRecDepth 100000 in
theorem s_X10_termOf_J6_160 {S : v_S} {F : v_F} (hS : p_SS S) (hF : p_FF F) {rc : Nat → Nat → Int32 → v_S → v_I → v_F → Option (Int64 × v_I)} {rh : Nat → Int32 → v_I → Option (Int64 × v_I)} (hrc : ∀ (t : Nat) (b : Int32) (I : v_I), rc t 49 b S I F = rh t b I) (w1 : Int32) (I : v_I) (z0 : Int64) : f_X10_termOf_J6_160 rc S F 49 w1 I z0 49 = h_X10_termOf_J6_160 rh w1 I z0 := by
  unfold f_X10_termOf_J6_160 h_X10_termOf_J6_160
  simp only [p_bs, p_obS hS (a := 49) (kd := 10) rfl, s_X10_codeAt hS hF, s_X10_sign, s_X10_bounded hS hF, hrc]
def h_X10_termOf_J6_121 (rc : Nat → Int32 → v_I → Option (Int64 × v_I)) (w1 : Int32) (I : v_I) (y2 : Int64) (y4 : Int32) (y5 : Int64) : Option ((Int64 × v_I) ⊕ (Int64 × v_I)) :=
(h_X10_sign (42 : Int32)).bind fun r_17 =>
if y4 = r_17 then (
h_X10_termOf_J6_160 rc w1 I (y2 * y5))
else (
(h_X10_sign (47 : Int32)).bind fun r_20 =>
if y4 = r_20 then (
(p_nz64 y5).bind fun _ =>
h_X10_termOf_J6_160 rc w1 I (y2 / y5))
else (
(p_nz64 y5).bind fun _ =>
h_X10_termOf_J6_160 rc w1 I (y2 - y2 / y5 * y5)))
set_option maxHeartbeats 4000000 in
set_option maxRecDepth 100000 in
theorem s_X10_termOf_J6_121 {S : v_S} {F : v_F} (hS : p_SS S) (hF : p_FF F) {rc : Nat → Nat → Int32 → v_S → v_I → v_F → Option (Int64 × v_I)} {rh : Nat → Int32 → v_I → Option (Int64 × v_I)} (hrc : ∀ (t : Nat) (b : Int32) (I : v_I), rc t 49 b S I F = rh t b I) (w1 : Int32) (I : v_I) (y2 : Int64) (y4 : Int32) (y5 : Int64) : f_X10_termOf_J6_121 rc S F 49 w1 I y2 y4 y5 = h_X10_termOf_J6_121 rh w1 I y2 y4 y5 := by
  unfold f_X10_termOf_J6_121 h_X10_termOf_J6_121
  simp only [p_bs, p_obS hS (a := 49) (kd := 10) rfl, s_X10_codeAt hS hF, s_X10_sign, s_X10_bounded hS hF, hrc, s_X10_termOf_J6_160 hS hF hrc]
def h_X10_termOf_J6_115 (rc : Nat → Int32 → v_I → Option (Int64 × v_I)) (w1 : Int32) (I : v_I) (y2 : Int64) (y4 : Int32) (z0 : Int32) : Option ((Int64 × v_I) ⊕ (Int64 × v_I)) :=
(p_bl z0).bind fun _ =>
p_let (v_up I 49 24 z0) fun I_30 =>
h_X10_termOf_J6_121 rc w1 I_30 y2 y4 (1 : Int64)
set_option maxHeartbeats 4000000 in
set_option maxRecDepth 100000 in
theorem s_X10_termOf_J6_115 {S : v_S} {F : v_F} (hS : p_SS S) (hF : p_FF F) {rc : Nat → Nat → Int32 → v_S → v_I → v_F → Option (Int64 × v_I)} {rh : Nat → Int32 → v_I → Option (Int64 × v_I)} (hrc : ∀ (t : Nat) (b : Int32) (I : v_I), rc t 49 b S I F = rh t b I) (w1 : Int32) (I : v_I) (y2 : Int64) (y4 : Int32) (z0 : Int32) : f_X10_termOf_J6_115 rc S F 49 w1 I y2 y4 z0 49 = h_X10_termOf_J6_115 rh w1 I y2 y4 z0 := by
  unfold f_X10_termOf_J6_115 h_X10_termOf_J6_115
  simp only [p_bs, p_obS hS (a := 49) (kd := 10) rfl, s_X10_codeAt hS hF, s_X10_sign, s_X10_bounded hS hF, hrc, s_X10_termOf_J6_160 hS hF hrc, s_X10_termOf_J6_121 hS hF hrc]
def h_X10_termOf_J6_110 (rc : Nat → Int32 → v_I → Option (Int64 × v_I)) (w1 : Int32) (I : v_I) (y2 : Int64) (y4 : Int32) : Option ((Int64 × v_I) ⊕ (Int64 × v_I)) :=
h_X10_termOf_J6_115 rc w1 I y2 y4 (1 : Int32)
set_option maxHeartbeats 4000000 in
set_option maxRecDepth 100000 in
theorem s_X10_termOf_J6_110 {S : v_S} {F : v_F} (hS : p_SS S) (hF : p_FF F) {rc : Nat → Nat → Int32 → v_S → v_I → v_F → Option (Int64 × v_I)} {rh : Nat → Int32 → v_I → Option (Int64 × v_I)} (hrc : ∀ (t : Nat) (b : Int32) (I : v_I), rc t 49 b S I F = rh t b I) (w1 : Int32) (I : v_I) (y2 : Int64) (y4 : Int32) : f_X10_termOf_J6_110 rc S F 49 w1 I y2 y4 49 = h_X10_termOf_J6_110 rh w1 I y2 y4 := by
  unfold f_X10_termOf_J6_110 h_X10_termOf_J6_110
  simp only [p_bs, p_obS hS (a := 49) (kd := 10) rfl, s_X10_codeAt hS hF, s_X10_sign, s_X10_bounded hS hF, hrc, s_X10_termOf_J6_160 hS hF hrc, s_X10_termOf_J6_121 hS hF hrc, s_X10_termOf_J6_115 hS hF hrc]
def h_X10_termOf_J6_54 (rc : Nat → Int32 → v_I → Option (Int64 × v_I)) (w1 : Int32) (I : v_I) (y2 : Int64) : Option ((Int64 × v_I) ⊕ (Int64 × v_I)) :=
(h_X10_codeAt I (I 49 22)).bind fun r_8 =>
p_let (v_up I 49 22 ((I 49 22) + (1 : Int32))) fun I_10 =>
(rc 2 w1 I_10).bind fun r_12 =>
(h_X10_sign (42 : Int32)).bind fun r_14 =>
if r_8 = r_14 then (
h_X10_termOf_J6_121 rc w1 r_12.2 y2 r_8 r_12.1)
else (
if (lg_cmp r_12.1 (0 : Int64)) = (0 : Int32) then (
if (r_12.2 49 24) = (0 : Int32) then (
if w1 = (0 : Int32) then (
h_X10_termOf_J6_115 rc w1 r_12.2 y2 r_8 (0 : Int32))
else (
h_X10_termOf_J6_110 rc w1 r_12.2 y2 r_8))
else (
h_X10_termOf_J6_110 rc w1 r_12.2 y2 r_8))
else (
h_X10_termOf_J6_121 rc w1 r_12.2 y2 r_8 r_12.1))
set_option maxHeartbeats 4000000 in
set_option maxRecDepth 100000 in
theorem s_X10_termOf_J6_54 {S : v_S} {F : v_F} (hS : p_SS S) (hF : p_FF F) {rc : Nat → Nat → Int32 → v_S → v_I → v_F → Option (Int64 × v_I)} {rh : Nat → Int32 → v_I → Option (Int64 × v_I)} (hrc : ∀ (t : Nat) (b : Int32) (I : v_I), rc t 49 b S I F = rh t b I) (w1 : Int32) (I : v_I) (y2 : Int64) : f_X10_termOf_J6_54 rc S F 49 w1 I y2 = h_X10_termOf_J6_54 rh w1 I y2 := by
  unfold f_X10_termOf_J6_54 h_X10_termOf_J6_54
  simp only [p_bs, p_obS hS (a := 49) (kd := 10) rfl, s_X10_codeAt hS hF, s_X10_sign, s_X10_bounded hS hF, hrc, s_X10_termOf_J6_160 hS hF hrc, s_X10_termOf_J6_121 hS hF hrc, s_X10_termOf_J6_115 hS hF hrc, s_X10_termOf_J6_110 hS hF hrc]
def h_X10_termOf_B6 (rc : Nat → Int32 → v_I → Option (Int64 × v_I)) (w1 : Int32) (s6 : Int64 × v_I) : Option ((Int64 × v_I) ⊕ (Int64 × v_I)) :=
(h_X10_codeAt s6.2 (s6.2 49 22)).bind fun r_3 =>
(h_X10_sign (42 : Int32)).bind fun r_5 =>
if r_3 = r_5 then (
h_X10_termOf_J6_54 rc w1 s6.2 s6.1)
else (
(h_X10_codeAt s6.2 (s6.2 49 22)).bind fun r_33 =>
(h_X10_sign (47 : Int32)).bind fun r_35 =>
if r_33 = r_35 then (
h_X10_termOf_J6_54 rc w1 s6.2 s6.1)
else (
(h_X10_codeAt s6.2 (s6.2 49 22)).bind fun r_38 =>
(h_X10_sign (37 : Int32)).bind fun r_40 =>
if r_38 = r_40 then (
h_X10_termOf_J6_54 rc w1 s6.2 s6.1)
else (
some (.inr (s6.1, s6.2)))))
set_option maxHeartbeats 4000000 in
set_option maxRecDepth 100000 in
theorem s_X10_termOf_B6 {S : v_S} {F : v_F} (hS : p_SS S) (hF : p_FF F) {rc : Nat → Nat → Int32 → v_S → v_I → v_F → Option (Int64 × v_I)} {rh : Nat → Int32 → v_I → Option (Int64 × v_I)} (hrc : ∀ (t : Nat) (b : Int32) (I : v_I), rc t 49 b S I F = rh t b I) (w1 : Int32) : f_X10_termOf_B6 rc S F 49 w1 = h_X10_termOf_B6 rh w1 := by
  funext s6
  unfold f_X10_termOf_B6 h_X10_termOf_B6
  simp only [p_bs, p_obS hS (a := 49) (kd := 10) rfl, s_X10_codeAt hS hF, s_X10_sign, s_X10_bounded hS hF, hrc, s_X10_termOf_J6_160 hS hF hrc, s_X10_termOf_J6_121 hS hF hrc, s_X10_termOf_J6_115 hS hF hrc, s_X10_termOf_J6_110 hS hF hrc, s_X10_termOf_J6_54 hS hF hrc]
def h_X10_termOf (rc : Nat → Int32 → v_I → Option (Int64 × v_I)) (I : v_I) (p1 : Int32) : Option (Int64 × v_I) :=
(rc 2 p1 I).bind fun r_1 =>
(v_loop (h_X10_termOf_B6 rc p1) FU (r_1.1, r_1.2)).bind fun q_43 =>
some (q_43.1, q_43.2)
set_option maxHeartbeats 4000000 in
set_option maxRecDepth 100000 in
theorem s_X10_termOf {S : v_S} {F : v_F} (hS : p_SS S) (hF : p_FF F) {rc : Nat → Nat → Int32 → v_S → v_I → v_F → Option (Int64 × v_I)} {rh : Nat → Int32 → v_I → Option (Int64 × v_I)} (hrc : ∀ (t : Nat) (b : Int32) (I : v_I), rc t 49 b S I F = rh t b I) (I : v_I) (p1 : Int32) : f_X10_termOf rc S I F 49 p1 = h_X10_termOf rh I p1 := by
  unfold f_X10_termOf h_X10_termOf
  simp only [p_bs, p_obS hS (a := 49) (kd := 10) rfl, s_X10_codeAt hS hF, s_X10_sign, s_X10_bounded hS hF, hrc, s_X10_termOf_J6_160 hS hF hrc, s_X10_termOf_J6_121 hS hF hrc, s_X10_termOf_J6_115 hS hF hrc, s_X10_termOf_J6_110 hS hF hrc, s_X10_termOf_J6_54 hS hF hrc, s_X10_termOf_B6 hS hF hrc]

def h_X10_partOf_J100 (rc : Nat → Int32 → v_I → Option (Int64 × v_I)) (I : v_I) (y1 : Int32) (y2 : Int32) (y3 : Int32) : Option (Int64 × v_I) :=
if y1 = (0 : Int32) then (
some ((0 : Int64), I))
else (
if (I 49 24) = (0 : Int32) then (
if y2 = (50 : Int32) then (
(p_in 5660 (((2860 : Int32) + (I 49 22)) - (1 : Int32))).bind fun j_18 =>
some ((I 51 j_18).toInt64, I))
else (
if (I 49 25) = (0 : Int32) then (
(p_in 9 (y2 - (8 : Int32))).bind fun j_15 =>
some ((I 61 j_15).toInt64, I))
else (
(h_X10_orderValue I y2 y3).bind fun r_16 =>
some (r_16.toInt64, I))))
else (
some ((0 : Int64), I)))
set_option maxHeartbeats 4000000 in
set_option maxRecDepth 100000 in
theorem s_X10_partOf_J100 {S : v_S} {F : v_F} (hS : p_SS S) (hF : p_FF F) {rc : Nat → Nat → Int32 → v_S → v_I → v_F → Option (Int64 × v_I)} {rh : Nat → Int32 → v_I → Option (Int64 × v_I)} (hrc : ∀ (t : Nat) (b : Int32) (I : v_I), rc t 49 b S I F = rh t b I) (I : v_I) (y1 : Int32) (y2 : Int32) (y3 : Int32) : f_X10_partOf_J100 rc S F I 49 y1 y2 y3 = h_X10_partOf_J100 rh I y1 y2 y3 := by
  unfold f_X10_partOf_J100 h_X10_partOf_J100
  simp only [p_bs, s_X10_sign, s_X10_passes0 hS hF, p_obS hS (a := 49) (kd := 10) rfl, s_X10_codeAt hS hF, p_FS hF (a := 49) (i := 26) (b := 61) (by decide), p_ixS hS (kd := 20) (a := 61) (n := 9) rfl, s_X10_orderValue hS hF, p_FS hF (a := 49) (i := 2) (b := 51) (by decide), p_ixS hS (kd := 20) (a := 51) (n := 5660) rfl, hrc]
def h_X10_partOf_J76 (rc : Nat → Int32 → v_I → Option (Int64 × v_I)) (I : v_I) (y1 : Int32) (y2 : Int32) : Option (Int64 × v_I) :=
(p_in 5660 ((2860 : Int32) + (I 49 22))).bind fun j_20 =>
p_let (I 51 j_20) fun x_21 =>
p_let (v_up I 49 22 ((I 49 22) + (1 : Int32))) fun I_23 =>
h_X10_partOf_J100 rc I_23 y1 y2 x_21
set_option maxHeartbeats 4000000 in
set_option maxRecDepth 100000 in
theorem s_X10_partOf_J76 {S : v_S} {F : v_F} (hS : p_SS S) (hF : p_FF F) {rc : Nat → Nat → Int32 → v_S → v_I → v_F → Option (Int64 × v_I)} {rh : Nat → Int32 → v_I → Option (Int64 × v_I)} (hrc : ∀ (t : Nat) (b : Int32) (I : v_I), rc t 49 b S I F = rh t b I) (I : v_I) (y1 : Int32) (y2 : Int32) : f_X10_partOf_J76 rc S F I 49 y1 y2 = h_X10_partOf_J76 rh I y1 y2 := by
  unfold f_X10_partOf_J76 h_X10_partOf_J76
  simp only [p_bs, s_X10_sign, s_X10_passes0 hS hF, p_obS hS (a := 49) (kd := 10) rfl, s_X10_codeAt hS hF, p_FS hF (a := 49) (i := 26) (b := 61) (by decide), p_ixS hS (kd := 20) (a := 61) (n := 9) rfl, s_X10_orderValue hS hF, p_FS hF (a := 49) (i := 2) (b := 51) (by decide), p_ixS hS (kd := 20) (a := 51) (n := 5660) rfl, hrc, s_X10_partOf_J100 hS hF hrc]
def h_X10_partOf (rc : Nat → Int32 → v_I → Option (Int64 × v_I)) (I : v_I) (p1 : Int32) : Option (Int64 × v_I) :=
(h_X10_sign (91 : Int32)).bind fun r_1 =>
(h_X10_passes0 I r_1).bind fun r_3 =>
if r_3.1 = (0 : Int32) then (
(h_X10_codeAt r_3.2 (r_3.2 49 22)).bind fun r_6 =>
p_let (v_up r_3.2 49 22 ((r_3.2 49 22) + (1 : Int32))) fun I_8 =>
if (I_8 49 25) = (0 : Int32) then (
h_X10_partOf_J100 rc I_8 p1 r_6 (0 : Int32))
else (
if r_6 = (13 : Int32) then (
h_X10_partOf_J76 rc I_8 p1 r_6)
else (
if r_6 = (14 : Int32) then (
h_X10_partOf_J76 rc I_8 p1 r_6)
else (
if r_6 = (19 : Int32) then (
h_X10_partOf_J76 rc I_8 p1 r_6)
else (
h_X10_partOf_J100 rc I_8 p1 r_6 (0 : Int32))))))
else (
(rc 0 p1 r_3.2).bind fun r_27 =>
p_let (v_up r_27.2 49 22 ((r_27.2 49 22) + (1 : Int32))) fun I_29 =>
some (r_27.1, I_29))
set_option maxHeartbeats 4000000 in
set_option maxRecDepth 100000 in
theorem s_X10_partOf {S : v_S} {F : v_F} (hS : p_SS S) (hF : p_FF F) {rc : Nat → Nat → Int32 → v_S → v_I → v_F → Option (Int64 × v_I)} {rh : Nat → Int32 → v_I → Option (Int64 × v_I)} (hrc : ∀ (t : Nat) (b : Int32) (I : v_I), rc t 49 b S I F = rh t b I) (I : v_I) (p1 : Int32) : f_X10_partOf rc S I F 49 p1 = h_X10_partOf rh I p1 := by
  unfold f_X10_partOf h_X10_partOf
  simp only [p_bs, s_X10_sign, s_X10_passes0 hS hF, p_obS hS (a := 49) (kd := 10) rfl, s_X10_codeAt hS hF, p_FS hF (a := 49) (i := 26) (b := 61) (by decide), p_ixS hS (kd := 20) (a := 61) (n := 9) rfl, s_X10_orderValue hS hF, p_FS hF (a := 49) (i := 2) (b := 51) (by decide), p_ixS hS (kd := 20) (a := 51) (n := 5660) rfl, hrc, s_X10_partOf_J100 hS hF hrc, s_X10_partOf_J76 hS hF hrc]
def gh_X10_sumOf : Nat → Nat → Int32 → v_I → Option (Int64 × v_I)
  | 0, _, _, _ => none
  | n + 1, 0, b, I => h_X10_sumOf (gh_X10_sumOf n) I b
  | n + 1, 1, b, I => h_X10_termOf (gh_X10_sumOf n) I b
  | n + 1, _, b, I => h_X10_partOf (gh_X10_sumOf n) I b
theorem s_g_X10_sumOf {S : v_S} {F : v_F} (hS : p_SS S) (hF : p_FF F) : ∀ (n t : Nat) (b : Int32) (I : v_I), g_X10_sumOf n t 49 b S I F = gh_X10_sumOf n t b I
  | 0, _, _, _ => rfl
  | n + 1, 0, b, I => s_X10_sumOf hS hF (fun t b I => s_g_X10_sumOf hS hF n t b I) I b
  | n + 1, 1, b, I => s_X10_termOf hS hF (fun t b I => s_g_X10_sumOf hS hF n t b I) I b
  | n + 1, t + 2, b, I => s_X10_partOf hS hF (fun t b I => s_g_X10_sumOf hS hF n t b I) I b

def h_X10_testOf_J6_45 (rc : Nat → Int32 → v_I → Option (Int32 × v_I)) (w1 : Int32) (I : v_I) (z0 : Int32) : Option ((Int32 × v_I) ⊕ (Int32 × v_I)) :=
some (.inl (z0, I))
set_option maxHeartbeats 4000000 in
set_option maxRecDepth 100000 in
theorem s_X10_testOf_J6_45 {S : v_S} {F : v_F} (hS : p_SS S) (hF : p_FF F) {rc : Nat → Nat → Int32 → v_S → v_I → v_F → Option (Int32 × v_I)} {rh : Nat → Int32 → v_I → Option (Int32 × v_I)} (hrc : ∀ (t : Nat) (b : Int32) (I : v_I), rc t 49 b S I F = rh t b I) (w1 : Int32) (I : v_I) (z0 : Int32) : f_X10_testOf_J6_45 rc S F 49 w1 I z0 = h_X10_testOf_J6_45 rh w1 I z0 := by
  unfold f_X10_testOf_J6_45 h_X10_testOf_J6_45
  simp only [p_bs, p_obS hS (a := 49) (kd := 10) rfl, s_X10_passes0 hS hF, hrc]
def h_X10_testOf_J6_40 (rc : Nat → Int32 → v_I → Option (Int32 × v_I)) (w1 : Int32) (I : v_I) : Option ((Int32 × v_I) ⊕ (Int32 × v_I)) :=
h_X10_testOf_J6_45 rc w1 I (1 : Int32)
set_option maxHeartbeats 4000000 in
set_option maxRecDepth 100000 in
theorem s_X10_testOf_J6_40 {S : v_S} {F : v_F} (hS : p_SS S) (hF : p_FF F) {rc : Nat → Nat → Int32 → v_S → v_I → v_F → Option (Int32 × v_I)} {rh : Nat → Int32 → v_I → Option (Int32 × v_I)} (hrc : ∀ (t : Nat) (b : Int32) (I : v_I), rc t 49 b S I F = rh t b I) (w1 : Int32) (I : v_I) : f_X10_testOf_J6_40 rc S F 49 w1 I = h_X10_testOf_J6_40 rh w1 I := by
  unfold f_X10_testOf_J6_40 h_X10_testOf_J6_40
  simp only [p_bs, p_obS hS (a := 49) (kd := 10) rfl, s_X10_passes0 hS hF, hrc, s_X10_testOf_J6_45 hS hF hrc]
def h_X10_testOf_J6_28 (rc : Nat → Int32 → v_I → Option (Int32 × v_I)) (w1 : Int32) (I : v_I) (y2 : Int32) (z0 : Int32) : Option ((Int32 × v_I) ⊕ (Int32 × v_I)) :=
(rc 1 z0 I).bind fun r_7 =>
if y2 = (0 : Int32) then (
if r_7.1 = (0 : Int32) then (
h_X10_testOf_J6_45 rc w1 r_7.2 (0 : Int32))
else (
h_X10_testOf_J6_40 rc w1 r_7.2))
else (
h_X10_testOf_J6_40 rc w1 r_7.2)
set_option maxHeartbeats 4000000 in
set_option maxRecDepth 100000 in
theorem s_X10_testOf_J6_28 {S : v_S} {F : v_F} (hS : p_SS S) (hF : p_FF F) {rc : Nat → Nat → Int32 → v_S → v_I → v_F → Option (Int32 × v_I)} {rh : Nat → Int32 → v_I → Option (Int32 × v_I)} (hrc : ∀ (t : Nat) (b : Int32) (I : v_I), rc t 49 b S I F = rh t b I) (w1 : Int32) (I : v_I) (y2 : Int32) (z0 : Int32) : f_X10_testOf_J6_28 rc S F 49 w1 I y2 z0 49 = h_X10_testOf_J6_28 rh w1 I y2 z0 := by
  unfold f_X10_testOf_J6_28 h_X10_testOf_J6_28
  simp only [p_bs, p_obS hS (a := 49) (kd := 10) rfl, s_X10_passes0 hS hF, hrc, s_X10_testOf_J6_45 hS hF hrc, s_X10_testOf_J6_40 hS hF hrc]
def h_X10_testOf_J6_27 (rc : Nat → Int32 → v_I → Option (Int32 × v_I)) (w1 : Int32) (I : v_I) (y2 : Int32) : Option ((Int32 × v_I) ⊕ (Int32 × v_I)) :=
h_X10_testOf_J6_28 rc w1 I y2 (0 : Int32)
set_option maxHeartbeats 4000000 in
set_option maxRecDepth 100000 in
theorem s_X10_testOf_J6_27 {S : v_S} {F : v_F} (hS : p_SS S) (hF : p_FF F) {rc : Nat → Nat → Int32 → v_S → v_I → v_F → Option (Int32 × v_I)} {rh : Nat → Int32 → v_I → Option (Int32 × v_I)} (hrc : ∀ (t : Nat) (b : Int32) (I : v_I), rc t 49 b S I F = rh t b I) (w1 : Int32) (I : v_I) (y2 : Int32) : f_X10_testOf_J6_27 rc S F 49 w1 I y2 49 = h_X10_testOf_J6_27 rh w1 I y2 := by
  unfold f_X10_testOf_J6_27 h_X10_testOf_J6_27
  simp only [p_bs, p_obS hS (a := 49) (kd := 10) rfl, s_X10_passes0 hS hF, hrc, s_X10_testOf_J6_45 hS hF hrc, s_X10_testOf_J6_40 hS hF hrc, s_X10_testOf_J6_28 hS hF hrc]
def h_X10_testOf_B6 (rc : Nat → Int32 → v_I → Option (Int32 × v_I)) (w1 : Int32) (s6 : Int32 × v_I) : Option ((Int32 × v_I) ⊕ (Int32 × v_I)) :=
(h_X10_passes0 s6.2 (5 : Int32)).bind fun r_3 =>
if r_3.1 = (0 : Int32) then (
some (.inr (s6.1, r_3.2)))
else (
if w1 = (0 : Int32) then (
h_X10_testOf_J6_27 rc w1 r_3.2 s6.1)
else (
if s6.1 = (0 : Int32) then (
h_X10_testOf_J6_28 rc w1 r_3.2 s6.1 (1 : Int32))
else (
h_X10_testOf_J6_27 rc w1 r_3.2 s6.1)))
set_option maxHeartbeats 4000000 in
set_option maxRecDepth 100000 in
theorem s_X10_testOf_B6 {S : v_S} {F : v_F} (hS : p_SS S) (hF : p_FF F) {rc : Nat → Nat → Int32 → v_S → v_I → v_F → Option (Int32 × v_I)} {rh : Nat → Int32 → v_I → Option (Int32 × v_I)} (hrc : ∀ (t : Nat) (b : Int32) (I : v_I), rc t 49 b S I F = rh t b I) (w1 : Int32) : f_X10_testOf_B6 rc S F 49 w1 = h_X10_testOf_B6 rh w1 := by
  funext s6
  unfold f_X10_testOf_B6 h_X10_testOf_B6
  simp only [p_bs, p_obS hS (a := 49) (kd := 10) rfl, s_X10_passes0 hS hF, hrc, s_X10_testOf_J6_45 hS hF hrc, s_X10_testOf_J6_40 hS hF hrc, s_X10_testOf_J6_28 hS hF hrc, s_X10_testOf_J6_27 hS hF hrc]
def h_X10_testOf (rc : Nat → Int32 → v_I → Option (Int32 × v_I)) (I : v_I) (p1 : Int32) : Option (Int32 × v_I) :=
(rc 1 p1 I).bind fun r_1 =>
(v_loop (h_X10_testOf_B6 rc p1) FU (r_1.1, r_1.2)).bind fun q_12 =>
(p_bl q_12.1).bind fun _ =>
some (q_12.1, q_12.2)
set_option maxHeartbeats 4000000 in
set_option maxRecDepth 100000 in
theorem s_X10_testOf {S : v_S} {F : v_F} (hS : p_SS S) (hF : p_FF F) {rc : Nat → Nat → Int32 → v_S → v_I → v_F → Option (Int32 × v_I)} {rh : Nat → Int32 → v_I → Option (Int32 × v_I)} (hrc : ∀ (t : Nat) (b : Int32) (I : v_I), rc t 49 b S I F = rh t b I) (I : v_I) (p1 : Int32) : f_X10_testOf rc S I F 49 p1 = h_X10_testOf rh I p1 := by
  unfold f_X10_testOf h_X10_testOf
  simp only [p_bs, p_obS hS (a := 49) (kd := 10) rfl, s_X10_passes0 hS hF, hrc, s_X10_testOf_J6_45 hS hF hrc, s_X10_testOf_J6_40 hS hF hrc, s_X10_testOf_J6_28 hS hF hrc, s_X10_testOf_J6_27 hS hF hrc, s_X10_testOf_B6 hS hF hrc]

def h_X10_bothOf_J6_46 (rc : Nat → Int32 → v_I → Option (Int32 × v_I)) (w1 : Int32) (I : v_I) (z0 : Int32) : Option ((Int32 × v_I) ⊕ (Int32 × v_I)) :=
some (.inl (z0, I))
set_option maxHeartbeats 4000000 in
set_option maxRecDepth 100000 in
theorem s_X10_bothOf_J6_46 {S : v_S} {F : v_F} (hS : p_SS S) (hF : p_FF F) {rc : Nat → Nat → Int32 → v_S → v_I → v_F → Option (Int32 × v_I)} {rh : Nat → Int32 → v_I → Option (Int32 × v_I)} (hrc : ∀ (t : Nat) (b : Int32) (I : v_I), rc t 49 b S I F = rh t b I) (w1 : Int32) (I : v_I) (z0 : Int32) : f_X10_bothOf_J6_46 rc S F 49 w1 I z0 = h_X10_bothOf_J6_46 rh w1 I z0 := by
  unfold f_X10_bothOf_J6_46 h_X10_bothOf_J6_46
  simp only [p_bs, p_obS hS (a := 49) (kd := 10) rfl, s_X10_passes0 hS hF, hrc]
def h_X10_bothOf_J6_45 (rc : Nat → Int32 → v_I → Option (Int32 × v_I)) (w1 : Int32) (I : v_I) : Option ((Int32 × v_I) ⊕ (Int32 × v_I)) :=
h_X10_bothOf_J6_46 rc w1 I (0 : Int32)
set_option maxHeartbeats 4000000 in
set_option maxRecDepth 100000 in
theorem s_X10_bothOf_J6_45 {S : v_S} {F : v_F} (hS : p_SS S) (hF : p_FF F) {rc : Nat → Nat → Int32 → v_S → v_I → v_F → Option (Int32 × v_I)} {rh : Nat → Int32 → v_I → Option (Int32 × v_I)} (hrc : ∀ (t : Nat) (b : Int32) (I : v_I), rc t 49 b S I F = rh t b I) (w1 : Int32) (I : v_I) : f_X10_bothOf_J6_45 rc S F 49 w1 I = h_X10_bothOf_J6_45 rh w1 I := by
  unfold f_X10_bothOf_J6_45 h_X10_bothOf_J6_45
  simp only [p_bs, p_obS hS (a := 49) (kd := 10) rfl, s_X10_passes0 hS hF, hrc, s_X10_bothOf_J6_46 hS hF hrc]
def h_X10_bothOf_J6_29 (rc : Nat → Int32 → v_I → Option (Int32 × v_I)) (w1 : Int32) (I : v_I) (y2 : Int32) (z0 : Int32) : Option ((Int32 × v_I) ⊕ (Int32 × v_I)) :=
(rc 2 z0 I).bind fun r_7 =>
if y2 = (0 : Int32) then (
h_X10_bothOf_J6_45 rc w1 r_7.2)
else (
if r_7.1 = (0 : Int32) then (
h_X10_bothOf_J6_45 rc w1 r_7.2)
else (
h_X10_bothOf_J6_46 rc w1 r_7.2 (1 : Int32)))
set_option maxHeartbeats 4000000 in
set_option maxRecDepth 100000 in
theorem s_X10_bothOf_J6_29 {S : v_S} {F : v_F} (hS : p_SS S) (hF : p_FF F) {rc : Nat → Nat → Int32 → v_S → v_I → v_F → Option (Int32 × v_I)} {rh : Nat → Int32 → v_I → Option (Int32 × v_I)} (hrc : ∀ (t : Nat) (b : Int32) (I : v_I), rc t 49 b S I F = rh t b I) (w1 : Int32) (I : v_I) (y2 : Int32) (z0 : Int32) : f_X10_bothOf_J6_29 rc S F 49 w1 I y2 z0 49 = h_X10_bothOf_J6_29 rh w1 I y2 z0 := by
  unfold f_X10_bothOf_J6_29 h_X10_bothOf_J6_29
  simp only [p_bs, p_obS hS (a := 49) (kd := 10) rfl, s_X10_passes0 hS hF, hrc, s_X10_bothOf_J6_46 hS hF hrc, s_X10_bothOf_J6_45 hS hF hrc]
def h_X10_bothOf_J6_28 (rc : Nat → Int32 → v_I → Option (Int32 × v_I)) (w1 : Int32) (I : v_I) (y2 : Int32) : Option ((Int32 × v_I) ⊕ (Int32 × v_I)) :=
h_X10_bothOf_J6_29 rc w1 I y2 (0 : Int32)
set_option maxHeartbeats 4000000 in
set_option maxRecDepth 100000 in
theorem s_X10_bothOf_J6_28 {S : v_S} {F : v_F} (hS : p_SS S) (hF : p_FF F) {rc : Nat → Nat → Int32 → v_S → v_I → v_F → Option (Int32 × v_I)} {rh : Nat → Int32 → v_I → Option (Int32 × v_I)} (hrc : ∀ (t : Nat) (b : Int32) (I : v_I), rc t 49 b S I F = rh t b I) (w1 : Int32) (I : v_I) (y2 : Int32) : f_X10_bothOf_J6_28 rc S F 49 w1 I y2 49 = h_X10_bothOf_J6_28 rh w1 I y2 := by
  unfold f_X10_bothOf_J6_28 h_X10_bothOf_J6_28
  simp only [p_bs, p_obS hS (a := 49) (kd := 10) rfl, s_X10_passes0 hS hF, hrc, s_X10_bothOf_J6_46 hS hF hrc, s_X10_bothOf_J6_45 hS hF hrc, s_X10_bothOf_J6_29 hS hF hrc]
def h_X10_bothOf_B6 (rc : Nat → Int32 → v_I → Option (Int32 × v_I)) (w1 : Int32) (s6 : Int32 × v_I) : Option ((Int32 × v_I) ⊕ (Int32 × v_I)) :=
(h_X10_passes0 s6.2 (6 : Int32)).bind fun r_3 =>
if r_3.1 = (0 : Int32) then (
some (.inr (s6.1, r_3.2)))
else (
if w1 = (0 : Int32) then (
h_X10_bothOf_J6_28 rc w1 r_3.2 s6.1)
else (
if s6.1 = (0 : Int32) then (
h_X10_bothOf_J6_28 rc w1 r_3.2 s6.1)
else (
h_X10_bothOf_J6_29 rc w1 r_3.2 s6.1 (1 : Int32))))
set_option maxHeartbeats 4000000 in
set_option maxRecDepth 100000 in
theorem s_X10_bothOf_B6 {S : v_S} {F : v_F} (hS : p_SS S) (hF : p_FF F) {rc : Nat → Nat → Int32 → v_S → v_I → v_F → Option (Int32 × v_I)} {rh : Nat → Int32 → v_I → Option (Int32 × v_I)} (hrc : ∀ (t : Nat) (b : Int32) (I : v_I), rc t 49 b S I F = rh t b I) (w1 : Int32) : f_X10_bothOf_B6 rc S F 49 w1 = h_X10_bothOf_B6 rh w1 := by
  funext s6
  unfold f_X10_bothOf_B6 h_X10_bothOf_B6
  simp only [p_bs, p_obS hS (a := 49) (kd := 10) rfl, s_X10_passes0 hS hF, hrc, s_X10_bothOf_J6_46 hS hF hrc, s_X10_bothOf_J6_45 hS hF hrc, s_X10_bothOf_J6_29 hS hF hrc, s_X10_bothOf_J6_28 hS hF hrc]
def h_X10_bothOf (rc : Nat → Int32 → v_I → Option (Int32 × v_I)) (I : v_I) (p1 : Int32) : Option (Int32 × v_I) :=
(rc 2 p1 I).bind fun r_1 =>
(v_loop (h_X10_bothOf_B6 rc p1) FU (r_1.1, r_1.2)).bind fun q_12 =>
(p_bl q_12.1).bind fun _ =>
some (q_12.1, q_12.2)
set_option maxHeartbeats 4000000 in
set_option maxRecDepth 100000 in
theorem s_X10_bothOf {S : v_S} {F : v_F} (hS : p_SS S) (hF : p_FF F) {rc : Nat → Nat → Int32 → v_S → v_I → v_F → Option (Int32 × v_I)} {rh : Nat → Int32 → v_I → Option (Int32 × v_I)} (hrc : ∀ (t : Nat) (b : Int32) (I : v_I), rc t 49 b S I F = rh t b I) (I : v_I) (p1 : Int32) : f_X10_bothOf rc S I F 49 p1 = h_X10_bothOf rh I p1 := by
  unfold f_X10_bothOf h_X10_bothOf
  simp only [p_bs, p_obS hS (a := 49) (kd := 10) rfl, s_X10_passes0 hS hF, hrc, s_X10_bothOf_J6_46 hS hF hrc, s_X10_bothOf_J6_45 hS hF hrc, s_X10_bothOf_J6_29 hS hF hrc, s_X10_bothOf_J6_28 hS hF hrc, s_X10_bothOf_B6 hS hF hrc]

def h_X10_plainOf_J2_20 (rc : Nat → Int32 → v_I → Option (Int32 × v_I)) (w1 : Int32) (I : v_I) (z0 : Int32) : Option ((Int32 × v_I) ⊕ (Int32 × v_I)) :=
some (.inl (z0, I))
set_option maxHeartbeats 4000000 in
set_option maxRecDepth 100000 in
theorem s_X10_plainOf_J2_20 {S : v_S} {F : v_F} (hS : p_SS S) (hF : p_FF F) {rc : Nat → Nat → Int32 → v_S → v_I → v_F → Option (Int32 × v_I)} {rh : Nat → Int32 → v_I → Option (Int32 × v_I)} (hrc : ∀ (t : Nat) (b : Int32) (I : v_I), rc t 49 b S I F = rh t b I) (w1 : Int32) (I : v_I) (z0 : Int32) : f_X10_plainOf_J2_20 rc S F 49 w1 I z0 = h_X10_plainOf_J2_20 rh w1 I z0 := by
  unfold f_X10_plainOf_J2_20 h_X10_plainOf_J2_20
  simp only [p_bs, s_X10_passes0 hS hF, p_obS hS (a := 49) (kd := 10) rfl, hrc]
def h_X10_plainOf_B2 (rc : Nat → Int32 → v_I → Option (Int32 × v_I)) (w1 : Int32) (s2 : Int32 × v_I) : Option ((Int32 × v_I) ⊕ (Int32 × v_I)) :=
(h_X10_passes0 s2.2 (7 : Int32)).bind fun r_1 =>
if r_1.1 = (0 : Int32) then (
some (.inr (s2.1, r_1.2)))
else (
if s2.1 = (0 : Int32) then (
h_X10_plainOf_J2_20 rc w1 r_1.2 (1 : Int32))
else (
h_X10_plainOf_J2_20 rc w1 r_1.2 (0 : Int32)))
set_option maxHeartbeats 4000000 in
set_option maxRecDepth 100000 in
theorem s_X10_plainOf_B2 {S : v_S} {F : v_F} (hS : p_SS S) (hF : p_FF F) {rc : Nat → Nat → Int32 → v_S → v_I → v_F → Option (Int32 × v_I)} {rh : Nat → Int32 → v_I → Option (Int32 × v_I)} (hrc : ∀ (t : Nat) (b : Int32) (I : v_I), rc t 49 b S I F = rh t b I) (w1 : Int32) : f_X10_plainOf_B2 rc S F 49 w1 = h_X10_plainOf_B2 rh w1 := by
  funext s2
  unfold f_X10_plainOf_B2 h_X10_plainOf_B2
  simp only [p_bs, s_X10_passes0 hS hF, p_obS hS (a := 49) (kd := 10) rfl, hrc, s_X10_plainOf_J2_20 hS hF hrc]
def h_X10_plainOf (rc : Nat → Int32 → v_I → Option (Int32 × v_I)) (I : v_I) (p1 : Int32) : Option (Int32 × v_I) :=
(v_loop (h_X10_plainOf_B2 rc p1) FU ((0 : Int32), I)).bind fun q_5 =>
(rc 3 p1 q_5.2).bind fun r_7 =>
if r_7.1 = q_5.1 then (
some ((0 : Int32), r_7.2))
else (
some ((1 : Int32), r_7.2))
set_option maxHeartbeats 4000000 in
set_option maxRecDepth 100000 in
theorem s_X10_plainOf {S : v_S} {F : v_F} (hS : p_SS S) (hF : p_FF F) {rc : Nat → Nat → Int32 → v_S → v_I → v_F → Option (Int32 × v_I)} {rh : Nat → Int32 → v_I → Option (Int32 × v_I)} (hrc : ∀ (t : Nat) (b : Int32) (I : v_I), rc t 49 b S I F = rh t b I) (I : v_I) (p1 : Int32) : f_X10_plainOf rc S I F 49 p1 = h_X10_plainOf rh I p1 := by
  unfold f_X10_plainOf h_X10_plainOf
  simp only [p_bs, s_X10_passes0 hS hF, p_obS hS (a := 49) (kd := 10) rfl, hrc, s_X10_plainOf_J2_20 hS hF hrc, s_X10_plainOf_B2 hS hF hrc]

def h_X10_positiveOf (rc : Nat → Int32 → v_I → Option (Int32 × v_I)) (I : v_I) (p1 : Int32) : Option (Int32 × v_I) :=
(h_X10_sign (40 : Int32)).bind fun r_1 =>
(h_X10_passes0 I r_1).bind fun r_3 =>
if r_3.1 = (0 : Int32) then (
(gh_X10_sumOf GNN 0 p1 r_3.2).bind fun r_6 =>
(h_X10_codeAt r_6.2 (r_6.2 49 22)).bind fun r_8 =>
p_let (v_up r_6.2 49 22 ((r_6.2 49 22) + (1 : Int32))) fun I_10 =>
(gh_X10_sumOf GNN 0 p1 I_10).bind fun r_12 =>
if p1 = (0 : Int32) then (
some ((0 : Int32), r_12.2))
else (
if (r_12.2 49 24) = (0 : Int32) then (
(h_X10_sign (60 : Int32)).bind fun r_16 =>
if r_8 = r_16 then (
if (0 : Int32) ≤ (lg_cmp r_6.1 r_12.1) then (
some ((0 : Int32), r_12.2))
else (
some ((1 : Int32), r_12.2)))
else (
(h_X10_sign (62 : Int32)).bind fun r_19 =>
if r_8 = r_19 then (
if (lg_cmp r_6.1 r_12.1) ≤ (0 : Int32) then (
some ((0 : Int32), r_12.2))
else (
some ((1 : Int32), r_12.2)))
else (
if (lg_cmp r_6.1 r_12.1) = (0 : Int32) then (
some ((1 : Int32), r_12.2))
else (
some ((0 : Int32), r_12.2)))))
else (
some ((0 : Int32), r_12.2))))
else (
(rc 0 p1 r_3.2).bind fun r_25 =>
p_let (v_up r_25.2 49 22 ((r_25.2 49 22) + (1 : Int32))) fun I_27 =>
(p_bl r_25.1).bind fun _ =>
some (r_25.1, I_27))
set_option maxHeartbeats 4000000 in
set_option maxRecDepth 100000 in
theorem s_X10_positiveOf {S : v_S} {F : v_F} (hS : p_SS S) (hF : p_FF F) {rc : Nat → Nat → Int32 → v_S → v_I → v_F → Option (Int32 × v_I)} {rh : Nat → Int32 → v_I → Option (Int32 × v_I)} (hrc : ∀ (t : Nat) (b : Int32) (I : v_I), rc t 49 b S I F = rh t b I) (I : v_I) (p1 : Int32) : f_X10_positiveOf rc S I F 49 p1 = h_X10_positiveOf rh I p1 := by
  unfold f_X10_positiveOf h_X10_positiveOf
  simp only [p_bs, s_X10_sign, s_X10_passes0 hS hF, p_obS hS (a := 49) (kd := 10) rfl, s_g_X10_sumOf hS hF, s_X10_codeAt hS hF, hrc]
def gh_X10_testOf : Nat → Nat → Int32 → v_I → Option (Int32 × v_I)
  | 0, _, _, _ => none
  | n + 1, 0, b, I => h_X10_testOf (gh_X10_testOf n) I b
  | n + 1, 1, b, I => h_X10_bothOf (gh_X10_testOf n) I b
  | n + 1, 2, b, I => h_X10_plainOf (gh_X10_testOf n) I b
  | n + 1, _, b, I => h_X10_positiveOf (gh_X10_testOf n) I b
theorem s_g_X10_testOf {S : v_S} {F : v_F} (hS : p_SS S) (hF : p_FF F) : ∀ (n t : Nat) (b : Int32) (I : v_I), g_X10_testOf n t 49 b S I F = gh_X10_testOf n t b I
  | 0, _, _, _ => rfl
  | n + 1, 0, b, I => s_X10_testOf hS hF (fun t b I => s_g_X10_testOf hS hF n t b I) I b
  | n + 1, 1, b, I => s_X10_bothOf hS hF (fun t b I => s_g_X10_testOf hS hF n t b I) I b
  | n + 1, 2, b, I => s_X10_plainOf hS hF (fun t b I => s_g_X10_testOf hS hF n t b I) I b
  | n + 1, t + 3, b, I => s_X10_positiveOf hS hF (fun t b I => s_g_X10_testOf hS hF n t b I) I b

def h_X10_tells_J66_206 (w1 : Int32) (I : v_I) (y4 : Int64) : Option ((Int64 × v_I) ⊕ (Int64 × v_I)) :=
p_let (v_up I 49 22 ((I 49 22) + (1 : Int32))) fun I_29 =>
some (.inl (y4, I_29))
set_option maxHeartbeats 4000000 in
set_option maxRecDepth 100000 in
theorem s_X10_tells_J66_206 {S : v_S} {F : v_F} (hS : p_SS S) (hF : p_FF F) (w1 : Int32) (I : v_I) (y4 : Int64) : f_X10_tells_J66_206 S F 49 w1 I y4 = h_X10_tells_J66_206 w1 I y4 := by
  unfold f_X10_tells_J66_206 h_X10_tells_J66_206
  simp only [p_bs, p_obS hS (a := 49) (kd := 10) rfl, p_FS hF (a := 49) (i := 2) (b := 51) (by decide), p_ixS hS (kd := 20) (a := 51) (n := 5660) rfl, p_inL (n := 5660) (k := 52) (i := (52 : Int32)) (by decide), s_X10_setsAsked hS hF, s_X10_codeAt hS hF, s_g_X10_sumOf hS hF, s_X10_passes0 hS hF, s_g_X10_testOf hS hF]
def h_X10_tells_J66_204 (w1 : Int32) (I : v_I) (z0 : Int64) : Option ((Int64 × v_I) ⊕ (Int64 × v_I)) :=
h_X10_tells_J66_206 w1 I z0
set_option maxHeartbeats 4000000 in
set_option maxRecDepth 100000 in
theorem s_X10_tells_J66_204 {S : v_S} {F : v_F} (hS : p_SS S) (hF : p_FF F) (w1 : Int32) (I : v_I) (z0 : Int64) : f_X10_tells_J66_204 S F 49 w1 I z0 = h_X10_tells_J66_204 w1 I z0 := by
  unfold f_X10_tells_J66_204 h_X10_tells_J66_204
  simp only [p_bs, p_obS hS (a := 49) (kd := 10) rfl, p_FS hF (a := 49) (i := 2) (b := 51) (by decide), p_ixS hS (kd := 20) (a := 51) (n := 5660) rfl, p_inL (n := 5660) (k := 52) (i := (52 : Int32)) (by decide), s_X10_setsAsked hS hF, s_X10_codeAt hS hF, s_g_X10_sumOf hS hF, s_X10_passes0 hS hF, s_g_X10_testOf hS hF, s_X10_tells_J66_206 hS hF]
def h_X10_tells_J66_151 (w1 : Int32) (I : v_I) (y4 : Int64) (y6 : Int32) (y7 : Int64) (y9 : Int32) (z0 : Int32) : Option ((Int64 × v_I) ⊕ (Int64 × v_I)) :=
if y6 = w1 then (
if z0 = (0 : Int32) then (
h_X10_tells_J66_206 w1 I y4)
else (
if (I 49 24) = (0 : Int32) then (
if y9 = (0 : Int32) then (
if (0 : Int32) ≤ (lg_cmp y7 (0 : Int64)) then (
if (lg_cmp y7 (9 : Int64)) ≤ (0 : Int32) then (
h_X10_tells_J66_204 w1 I y7)
else (
h_X10_tells_J66_204 w1 I (9 : Int64)))
else (
h_X10_tells_J66_204 w1 I (0 : Int64)))
else (
h_X10_tells_J66_206 w1 I y4))
else (
h_X10_tells_J66_206 w1 I y4)))
else (
h_X10_tells_J66_206 w1 I y4)
set_option maxHeartbeats 4000000 in
set_option maxRecDepth 100000 in
theorem s_X10_tells_J66_151 {S : v_S} {F : v_F} (hS : p_SS S) (hF : p_FF F) (w1 : Int32) (I : v_I) (y4 : Int64) (y6 : Int32) (y7 : Int64) (y9 : Int32) (z0 : Int32) : f_X10_tells_J66_151 S F 49 w1 I y4 y6 y7 y9 z0 = h_X10_tells_J66_151 w1 I y4 y6 y7 y9 z0 := by
  unfold f_X10_tells_J66_151 h_X10_tells_J66_151
  simp only [p_bs, p_obS hS (a := 49) (kd := 10) rfl, p_FS hF (a := 49) (i := 2) (b := 51) (by decide), p_ixS hS (kd := 20) (a := 51) (n := 5660) rfl, p_inL (n := 5660) (k := 52) (i := (52 : Int32)) (by decide), s_X10_setsAsked hS hF, s_X10_codeAt hS hF, s_g_X10_sumOf hS hF, s_X10_passes0 hS hF, s_g_X10_testOf hS hF, s_X10_tells_J66_206 hS hF, s_X10_tells_J66_204 hS hF]
def h_X10_tells_J66_146 (w1 : Int32) (I : v_I) (y4 : Int64) (y6 : Int32) (y7 : Int64) (y9 : Int32) : Option ((Int64 × v_I) ⊕ (Int64 × v_I)) :=
h_X10_tells_J66_151 w1 I y4 y6 y7 y9 (1 : Int32)
set_option maxHeartbeats 4000000 in
set_option maxRecDepth 100000 in
theorem s_X10_tells_J66_146 {S : v_S} {F : v_F} (hS : p_SS S) (hF : p_FF F) (w1 : Int32) (I : v_I) (y4 : Int64) (y6 : Int32) (y7 : Int64) (y9 : Int32) : f_X10_tells_J66_146 S F 49 w1 I y4 y6 y7 y9 = h_X10_tells_J66_146 w1 I y4 y6 y7 y9 := by
  unfold f_X10_tells_J66_146 h_X10_tells_J66_146
  simp only [p_bs, p_obS hS (a := 49) (kd := 10) rfl, p_FS hF (a := 49) (i := 2) (b := 51) (by decide), p_ixS hS (kd := 20) (a := 51) (n := 5660) rfl, p_inL (n := 5660) (k := 52) (i := (52 : Int32)) (by decide), s_X10_setsAsked hS hF, s_X10_codeAt hS hF, s_g_X10_sumOf hS hF, s_X10_passes0 hS hF, s_g_X10_testOf hS hF, s_X10_tells_J66_206 hS hF, s_X10_tells_J66_204 hS hF, s_X10_tells_J66_151 hS hF]
def h_X10_tells_J66_117 (w1 : Int32) (I : v_I) (y4 : Int64) (y6 : Int32) (z0 : Int64) : Option ((Int64 × v_I) ⊕ (Int64 × v_I)) :=
p_let (I 49 24) fun x_21 =>
p_let (v_up I 49 24 (0 : Int32)) fun I_23 =>
(h_X10_passes0 I_23 (4 : Int32)).bind fun r_25 =>
if r_25.1 = (0 : Int32) then (
h_X10_tells_J66_146 w1 r_25.2 y4 y6 z0 x_21)
else (
(gh_X10_testOf GNN 0 (1 : Int32) r_25.2).bind fun r_36 =>
if r_36.1 = (0 : Int32) then (
h_X10_tells_J66_151 w1 r_36.2 y4 y6 z0 x_21 (0 : Int32))
else (
h_X10_tells_J66_146 w1 r_36.2 y4 y6 z0 x_21))
set_option maxHeartbeats 4000000 in
set_option maxRecDepth 100000 in
theorem s_X10_tells_J66_117 {S : v_S} {F : v_F} (hS : p_SS S) (hF : p_FF F) (w1 : Int32) (I : v_I) (y4 : Int64) (y6 : Int32) (z0 : Int64) : f_X10_tells_J66_117 S F 49 w1 I y4 y6 z0 = h_X10_tells_J66_117 w1 I y4 y6 z0 := by
  unfold f_X10_tells_J66_117 h_X10_tells_J66_117
  simp only [p_bs, p_obS hS (a := 49) (kd := 10) rfl, p_FS hF (a := 49) (i := 2) (b := 51) (by decide), p_ixS hS (kd := 20) (a := 51) (n := 5660) rfl, p_inL (n := 5660) (k := 52) (i := (52 : Int32)) (by decide), s_X10_setsAsked hS hF, s_X10_codeAt hS hF, s_g_X10_sumOf hS hF, s_X10_passes0 hS hF, s_g_X10_testOf hS hF, s_X10_tells_J66_206 hS hF, s_X10_tells_J66_204 hS hF, s_X10_tells_J66_151 hS hF, s_X10_tells_J66_146 hS hF]
def h_X10_tells_B66 (w1 : Int32) (s66 : Int64 × v_I) : Option ((Int64 × v_I) ⊕ (Int64 × v_I)) :=
if (s66.2 49 23) ≤ (s66.2 49 22) then (
some (.inr (s66.1, s66.2)))
else (
(h_X10_codeAt s66.2 (s66.2 49 22)).bind fun r_12 =>
p_let (v_up s66.2 49 24 (0 : Int32)) fun I_14 =>
p_let (v_up I_14 49 22 ((I_14 49 22) + (1 : Int32))) fun I_16 =>
if r_12 = (3 : Int32) then (
h_X10_tells_J66_117 w1 I_16 s66.1 r_12 (1 : Int64))
else (
(gh_X10_sumOf GNN 0 (1 : Int32) I_16).bind fun r_19 =>
h_X10_tells_J66_117 w1 r_19.2 s66.1 r_12 r_19.1))
set_option maxHeartbeats 4000000 in
set_option maxRecDepth 100000 in
theorem s_X10_tells_B66 {S : v_S} {F : v_F} (hS : p_SS S) (hF : p_FF F) (w1 : Int32) : f_X10_tells_B66 S F 49 w1 = h_X10_tells_B66 w1 := by
  funext s66
  unfold f_X10_tells_B66 h_X10_tells_B66
  simp only [p_bs, p_obS hS (a := 49) (kd := 10) rfl, p_FS hF (a := 49) (i := 2) (b := 51) (by decide), p_ixS hS (kd := 20) (a := 51) (n := 5660) rfl, p_inL (n := 5660) (k := 52) (i := (52 : Int32)) (by decide), s_X10_setsAsked hS hF, s_X10_codeAt hS hF, s_g_X10_sumOf hS hF, s_X10_passes0 hS hF, s_g_X10_testOf hS hF, s_X10_tells_J66_206 hS hF, s_X10_tells_J66_204 hS hF, s_X10_tells_J66_151 hS hF, s_X10_tells_J66_146 hS hF, s_X10_tells_J66_117 hS hF]
def h_X10_tells (I : v_I) (p1 : Int32) (p2 : Int32) (p3 : Int32) : Option (Int32 × v_I) :=
if (I 51 52) = (-1 : Int32) then (
some (p3, I))
else (
(h_X10_setsAsked I p2).bind fun r_2 =>
p_let (v_up r_2 49 25 (0 : Int32)) fun I_4 =>
p_let (v_up I_4 49 22 ((400 : Int32) * (I_4 51 52))) fun I_6 =>
(p_in 5660 ((53 : Int32) + (I_6 51 52))).bind fun j_8 =>
p_let (v_up I_6 49 23 ((I_6 49 22) + (I_6 51 j_8))) fun I_9 =>
(v_loop (h_X10_tells_B66 p1) FU (p3.toInt64, I_9)).bind fun q_39 =>
some (q_39.1.toInt32, q_39.2))
set_option maxHeartbeats 4000000 in
set_option maxRecDepth 100000 in
theorem s_X10_tells {S : v_S} {F : v_F} (hS : p_SS S) (hF : p_FF F) (I : v_I) (p1 : Int32) (p2 : Int32) (p3 : Int32) : f_X10_tells S I F 49 p1 p2 p3 = h_X10_tells I p1 p2 p3 := by
  unfold f_X10_tells h_X10_tells
  simp only [p_bs, p_obS hS (a := 49) (kd := 10) rfl, p_FS hF (a := 49) (i := 2) (b := 51) (by decide), p_ixS hS (kd := 20) (a := 51) (n := 5660) rfl, p_inL (n := 5660) (k := 52) (i := (52 : Int32)) (by decide), s_X10_setsAsked hS hF, s_X10_codeAt hS hF, s_g_X10_sumOf hS hF, s_X10_passes0 hS hF, s_g_X10_testOf hS hF, s_X10_tells_J66_206 hS hF, s_X10_tells_J66_204 hS hF, s_X10_tells_J66_151 hS hF, s_X10_tells_J66_146 hS hF, s_X10_tells_J66_117 hS hF, s_X10_tells_B66 hS hF]

end sp00
