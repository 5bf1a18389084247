noncomputable section sp01
def h_X10_needsNow (I : v_I) (p1 : Int32) : Option (Int32 × v_I) :=
(p_in 5660 ((1 : Int32) + p1)).bind fun j_1 =>
(h_X10_tells I (1 : Int32) p1 (I 51 j_1)).bind fun r_2 =>
some (r_2.1, r_2.2)
set_option maxHeartbeats 4000000 in
set_option maxRecDepth 100000 in
theorem s_X10_needsNow {S : v_S} {F : v_F} (hS : p_SS S) (hF : p_FF F) (I : v_I) (p1 : Int32) : f_X10_needsNow S I F 49 p1 = h_X10_needsNow I p1 := by
  unfold f_X10_needsNow h_X10_needsNow
  simp only [p_bs, p_obS hS (a := 49) (kd := 10) rfl, p_FS hF (a := 49) (i := 2) (b := 51) (by decide), p_ixS hS (kd := 20) (a := 51) (n := 5660) rfl, s_X10_tells hS hF]

def h_X10_shutsNow (I : v_I) (p1 : Int32) : Option (Int32 × v_I) :=
(h_X10_tells I (3 : Int32) p1 (0 : Int32)).bind fun r_1 =>
if r_1.1 = (1 : Int32) then (
some ((1 : Int32), r_1.2))
else (
some ((0 : Int32), r_1.2))
set_option maxHeartbeats 4000000 in
set_option maxRecDepth 100000 in
theorem s_X10_shutsNow {S : v_S} {F : v_F} (hS : p_SS S) (hF : p_FF F) (I : v_I) (p1 : Int32) : f_X10_shutsNow S I F 49 p1 = h_X10_shutsNow I p1 := by
  unfold f_X10_shutsNow h_X10_shutsNow
  simp only [p_bs, s_X10_tells hS hF, p_obS hS (a := 49) (kd := 10) rfl]

def h_X10_opensNext (I : v_I) (p1 : Int32) : Option (Int32 × v_I) :=
(h_X10_isOpen I p1).bind fun r_1 =>
if r_1 = (0 : Int32) then (
(h_X10_nearOf I p1).bind fun r_4 =>
(h_X10_needsNow I p1).bind fun r_6 =>
if r_4 < r_6.1 then (
some ((0 : Int32), r_6.2))
else (
some ((1 : Int32), r_6.2)))
else (
(h_X10_shutsNow I p1).bind fun r_9 =>
if r_9.1 = (0 : Int32) then (
some ((1 : Int32), r_9.2))
else (
some ((0 : Int32), r_9.2)))
set_option maxHeartbeats 4000000 in
set_option maxRecDepth 100000 in
theorem s_X10_opensNext {S : v_S} {F : v_F} (hS : p_SS S) (hF : p_FF F) (I : v_I) (p1 : Int32) : f_X10_opensNext S I F 49 p1 = h_X10_opensNext I p1 := by
  unfold f_X10_opensNext h_X10_opensNext
  simp only [p_bs, s_X10_isOpen hS hF, p_obS hS (a := 49) (kd := 10) rfl, s_X10_nearOf hS hF, s_X10_needsNow hS hF, s_X10_shutsNow hS hF]

def h_X10_wantsNow (I : v_I) (p1 : Int32) : Option (Int32 × v_I) :=
(p_in 5660 ((1 : Int32) + p1)).bind fun j_1 =>
(h_X10_tells I (2 : Int32) p1 (I 51 j_1)).bind fun r_2 =>
some (r_2.1, r_2.2)
set_option maxHeartbeats 4000000 in
set_option maxRecDepth 100000 in
theorem s_X10_wantsNow {S : v_S} {F : v_F} (hS : p_SS S) (hF : p_FF F) (I : v_I) (p1 : Int32) : f_X10_wantsNow S I F 49 p1 = h_X10_wantsNow I p1 := by
  unfold f_X10_wantsNow h_X10_wantsNow
  simp only [p_bs, p_obS hS (a := 49) (kd := 10) rfl, p_FS hF (a := 49) (i := 2) (b := 51) (by decide), p_ixS hS (kd := 20) (a := 51) (n := 5660) rfl, s_X10_tells hS hF]

def h_X10_toldByLaw (I : v_I) (p1 : Int32) (p2 : Int32) : Option (Int32 × v_I) :=
if p2 = (5 : Int32) then (
(h_X10_needsNow I p1).bind fun r_1 =>
some (r_1.1, r_1.2))
else if p2 = (6 : Int32) then (
(h_X10_wantsNow I p1).bind fun r_3 =>
some (r_3.1, r_3.2))
else if p2 = (7 : Int32) then (
(h_X10_shutsNow I p1).bind fun r_5 =>
if r_5.1 = (0 : Int32) then (
some ((0 : Int32), r_5.2))
else (
some ((1 : Int32), r_5.2)))
else (
(h_X10_opensNext I p1).bind fun r_8 =>
if r_8.1 = (0 : Int32) then (
some ((0 : Int32), r_8.2))
else (
some ((1 : Int32), r_8.2)))
set_option maxHeartbeats 4000000 in
set_option maxRecDepth 100000 in
theorem s_X10_toldByLaw {S : v_S} {F : v_F} (hS : p_SS S) (hF : p_FF F) (I : v_I) (p1 : Int32) (p2 : Int32) : f_X10_toldByLaw S I F 49 p1 p2 = h_X10_toldByLaw I p1 p2 := by
  unfold f_X10_toldByLaw h_X10_toldByLaw
  simp only [p_bs, s_X10_needsNow hS hF, p_obS hS (a := 49) (kd := 10) rfl, s_X10_wantsNow hS hF, s_X10_shutsNow hS hF, s_X10_opensNext hS hF]

def h_X10_of (I : v_I) (p1 : Int32) (p2 : Int32) : Option (Int32 × v_I) :=
(h_X10_isOne I p1).bind fun r_1 =>
if r_1 = (0 : Int32) then (
some ((-1 : Int32), I))
else (
(h_X10_lies p2 (0 : Int32) (8 : Int32)).bind fun r_4 =>
if r_4 = (0 : Int32) then (
some ((-1 : Int32), I))
else (
if (5 : Int32) ≤ p2 then (
(h_X10_toldByLaw I p1 p2).bind fun r_8 =>
some (r_8.1, r_8.2))
else (
(h_X10_toldBare I p1 p2).bind fun r_10 =>
some (r_10, I))))
set_option maxHeartbeats 4000000 in
set_option maxRecDepth 100000 in
theorem s_X10_of {S : v_S} {F : v_F} (hS : p_SS S) (hF : p_FF F) (I : v_I) (p1 : Int32) (p2 : Int32) : f_X10_of S I F 49 p1 p2 = h_X10_of I p1 p2 := by
  unfold f_X10_of h_X10_of
  simp only [p_bs, s_X10_isOne hS hF, p_obS hS (a := 49) (kd := 10) rfl, s_X10_lies, s_X10_toldByLaw hS hF, s_X10_toldBare hS hF]

def h_X10_isTerm (p0 : Int32) (p1 : Int32) : Option (Int32) :=
if p0 = (0 : Int32) then (
(h_X10_lies p1 (0 : Int32) (999 : Int32)).bind fun r_1 =>
(p_bl r_1).bind fun _ =>
some (r_1))
else if p0 = (1 : Int32) then (
(h_X10_lies p1 (0 : Int32) (10 : Int32)).bind fun r_4 =>
(p_bl r_4).bind fun _ =>
some (r_4))
else if p0 = (2 : Int32) then (
(h_X10_isNine p1).bind fun r_7 =>
(p_bl r_7).bind fun _ =>
some (r_7))
else if p0 = (3 : Int32) then (
(h_X10_isNine p1).bind fun r_10 =>
(p_bl r_10).bind fun _ =>
some (r_10))
else (
some ((0 : Int32)))
set_option maxHeartbeats 4000000 in
set_option maxRecDepth 100000 in
theorem s_X10_isTerm (p0 : Int32) (p1 : Int32) : f_X10_isTerm p0 p1 = h_X10_isTerm p0 p1 := by
  unfold f_X10_isTerm h_X10_isTerm
  simp only [p_bs, s_X10_lies, s_X10_isNine]

def h_X10_termAt (p0 : Int32) : Option (Int32) :=
if p0 = (0 : Int32) then (
some ((17 : Int32)))
else if p0 = (1 : Int32) then (
some ((46 : Int32)))
else if p0 = (2 : Int32) then (
some ((47 : Int32)))
else (
some ((48 : Int32)))
set_option maxHeartbeats 4000000 in
set_option maxRecDepth 100000 in
theorem s_X10_termAt (p0 : Int32) : f_X10_termAt p0 = h_X10_termAt p0 := by
  unfold f_X10_termAt h_X10_termAt
  simp only [p_bs]

def h_X10_terms (I : v_I) (p1 : Int32) (p2 : Int32) : Option (Int32 × v_I) :=
(h_X10_isTerm p1 p2).bind fun r_1 =>
if r_1 = (0 : Int32) then (
(h_X10_refuses I (-1 : Int32)).bind fun r_16 =>
some (r_16.1, r_16.2))
else (
(h_X10_termAt p1).bind fun r_4 =>
(p_in 5660 r_4).bind fun j_6 =>
p_let (I 51 j_6) fun x_7 =>
(h_X10_termAt p1).bind fun r_9 =>
(p_in 5660 r_9).bind fun j_11 =>
p_let (v_up I 51 j_11 p2) fun I_12 =>
(h_X10_settled I_12 x_7).bind fun r_14 =>
some (r_14.1, r_14.2))
set_option maxHeartbeats 4000000 in
set_option maxRecDepth 100000 in
theorem s_X10_terms {S : v_S} {F : v_F} (hS : p_SS S) (hF : p_FF F) (I : v_I) (p1 : Int32) (p2 : Int32) : f_X10_terms S I F 49 p1 p2 = h_X10_terms I p1 p2 := by
  unfold f_X10_terms h_X10_terms
  simp only [p_bs, s_X10_isTerm, p_obS hS (a := 49) (kd := 10) rfl, p_FS hF (a := 49) (i := 2) (b := 51) (by decide), s_X10_termAt, p_ixS hS (kd := 20) (a := 51) (n := 5660) rfl, s_X10_settled hS hF, s_X10_refuses hS hF]

def h_X10_everybody (I : v_I) : Option (Int32) :=
(h_X10_many I).bind fun r_1 =>
some (((1 : Int32) <<< (r_1 &&& 31)) - (1 : Int32))
set_option maxHeartbeats 4000000 in
set_option maxRecDepth 100000 in
theorem s_X10_everybody {S : v_S} {F : v_F} (hS : p_SS S) (hF : p_FF F) (I : v_I) : f_X10_everybody S I F 49 = h_X10_everybody I := by
  unfold f_X10_everybody h_X10_everybody
  simp only [p_bs, s_X10_many hS hF, p_obS hS (a := 49) (kd := 10) rfl]

def h_X10_watchAt (I : v_I) (p1 : Int32) : Option (Int32) :=
(p_in 400 (p1 + (2 : Int32))).bind fun j_1 =>
some ((I 56 j_1) &&& (255 : Int32))
set_option maxHeartbeats 4000000 in
set_option maxRecDepth 100000 in
theorem s_X10_watchAt {S : v_S} {F : v_F} (hS : p_SS S) (hF : p_FF F) (I : v_I) (p1 : Int32) : f_X10_watchAt S I F 49 p1 = h_X10_watchAt I p1 := by
  unfold f_X10_watchAt h_X10_watchAt
  simp only [p_bs, p_obS hS (a := 49) (kd := 10) rfl, p_FS hF (a := 49) (i := 11) (b := 56) (by decide), p_ixS hS (kd := 21) (a := 56) (n := 400) rfl]

def h_X10_canRow (I : v_I) (p1 : Int32) : Option (Int32) :=
(h_X10_many I).bind fun r_1 =>
if r_1 = (8 : Int32) then (
some ((0 : Int32)))
else (
(p_in 400 p1).bind fun j_4 =>
(h_X10_isNine (I 56 j_4)).bind fun r_5 =>
if r_5 = (0 : Int32) then (
some ((0 : Int32)))
else (
(p_in 400 (p1 + (1 : Int32))).bind fun j_8 =>
(h_X10_isNine (I 56 j_8)).bind fun r_9 =>
if r_9 = (0 : Int32) then (
some ((0 : Int32)))
else (
(h_X10_watchAt I p1).bind fun r_12 =>
(h_X10_everybody I).bind fun r_14 =>
if r_14 < r_12 then (
some ((0 : Int32)))
else (
some ((1 : Int32))))))
set_option maxHeartbeats 4000000 in
set_option maxRecDepth 100000 in
theorem s_X10_canRow {S : v_S} {F : v_F} (hS : p_SS S) (hF : p_FF F) (I : v_I) (p1 : Int32) : f_X10_canRow S I F 49 p1 = h_X10_canRow I p1 := by
  unfold f_X10_canRow h_X10_canRow
  simp only [p_bs, s_X10_many hS hF, p_obS hS (a := 49) (kd := 10) rfl, p_FS hF (a := 49) (i := 11) (b := 56) (by decide), p_ixS hS (kd := 21) (a := 56) (n := 400) rfl, s_X10_isNine, s_X10_watchAt hS hF, s_X10_everybody hS hF]

def h_X10_row_J32_82 (w1 : Int32) (w3 : Int32) (I : v_I) (y2 : Int32) (y4 : Int32) : Option ((Int32 × Int32 × v_I) ⊕ (Int32 × Int32 × v_I)) :=
p_let (y4 + (3 : Int32)) fun x_20 =>
some (.inl (y2, x_20, I))
set_option maxHeartbeats 4000000 in
set_option maxRecDepth 100000 in
theorem s_X10_row_J32_82 {S : v_S} {F : v_F} (hS : p_SS S) (hF : p_FF F) (w1 : Int32) (w3 : Int32) (I : v_I) (y2 : Int32) (y4 : Int32) : f_X10_row_J32_82 S F 49 w1 w3 I y2 y4 = h_X10_row_J32_82 w1 w3 I y2 y4 := by
  unfold f_X10_row_J32_82 h_X10_row_J32_82
  simp only [p_bs, p_obS hS (a := 49) (kd := 10) rfl, s_X10_canRow hS hF, p_FS hF (a := 49) (i := 11) (b := 56) (by decide), p_ixS hS (kd := 21) (a := 56) (n := 400) rfl, s_X10_watchAt hS hF, s_X10_adds hS hF, s_X10_settled hS hF, s_X10_refuses hS hF]
def h_X10_row_B32 (w1 : Int32) (w3 : Int32) (s32 : Int32 × Int32 × v_I) : Option ((Int32 × Int32 × v_I) ⊕ (Int32 × Int32 × v_I)) :=
if w1 < (s32.2.1 + (3 : Int32)) then (
some (.inr (s32.1, s32.2.1, s32.2.2)))
else (
(h_X10_canRow s32.2.2 s32.2.1).bind fun r_9 =>
if r_9 = (0 : Int32) then (
h_X10_row_J32_82 w1 w3 s32.2.2 s32.1 s32.2.1)
else (
(p_in 400 s32.2.1).bind fun j_12 =>
(p_in 400 (s32.2.1 + (1 : Int32))).bind fun j_13 =>
(h_X10_watchAt s32.2.2 s32.2.1).bind fun r_14 =>
(h_X10_adds s32.2.2 (s32.2.2 56 j_12) (s32.2.2 56 j_13) r_14).bind fun r_16 =>
p_let (s32.1 + (1 : Int32)) fun x_18 =>
h_X10_row_J32_82 w1 w3 r_16.2 x_18 s32.2.1))
set_option maxHeartbeats 4000000 in
set_option maxRecDepth 100000 in
theorem s_X10_row_B32 {S : v_S} {F : v_F} (hS : p_SS S) (hF : p_FF F) (w1 : Int32) (w3 : Int32) : f_X10_row_B32 S F 49 w1 w3 = h_X10_row_B32 w1 w3 := by
  funext s32
  unfold f_X10_row_B32 h_X10_row_B32
  simp only [p_bs, p_obS hS (a := 49) (kd := 10) rfl, s_X10_canRow hS hF, p_FS hF (a := 49) (i := 11) (b := 56) (by decide), p_ixS hS (kd := 21) (a := 56) (n := 400) rfl, s_X10_watchAt hS hF, s_X10_adds hS hF, s_X10_settled hS hF, s_X10_refuses hS hF, s_X10_row_J32_82 hS hF]
def h_X10_row (I : v_I) : Option (Int32 × v_I) :=
p_let (I 49 13) fun x_1 =>
p_let (v_up I 49 13 (0 : Int32)) fun I_3 =>
if x_1 = (0 : Int32) then (
(h_X10_refuses I_3 (-6 : Int32)).bind fun r_28 =>
some (r_28.1, r_28.2))
else (
p_let ((x_1 + (2 : Int32)) / (3 : Int32)) fun x_6 =>
(v_loop (h_X10_row_B32 x_1 x_6) FU ((0 : Int32), (0 : Int32), I_3)).bind fun q_22 =>
p_let (v_up q_22.2.2 49 6 (x_6 - q_22.1)) fun I_24 =>
(h_X10_settled I_24 q_22.1).bind fun r_26 =>
some (r_26.1, r_26.2))
set_option maxHeartbeats 4000000 in
set_option maxRecDepth 100000 in
theorem s_X10_row {S : v_S} {F : v_F} (hS : p_SS S) (hF : p_FF F) (I : v_I) : f_X10_row S I F 49 = h_X10_row I := by
  unfold f_X10_row h_X10_row
  simp only [p_bs, p_obS hS (a := 49) (kd := 10) rfl, s_X10_canRow hS hF, p_FS hF (a := 49) (i := 11) (b := 56) (by decide), p_ixS hS (kd := 21) (a := 56) (n := 400) rfl, s_X10_watchAt hS hF, s_X10_adds hS hF, s_X10_settled hS hF, s_X10_refuses hS hF, s_X10_row_J32_82 hS hF, s_X10_row_B32 hS hF]

def h_X10_burrs (I : v_I) : Option (Int32) :=
some (I 49 6)
set_option maxHeartbeats 4000000 in
set_option maxRecDepth 100000 in
theorem s_X10_burrs {S : v_S} {F : v_F} (hS : p_SS S) (hF : p_FF F) (I : v_I) : f_X10_burrs S I 49 = h_X10_burrs I := by
  unfold f_X10_burrs h_X10_burrs
  simp only [p_bs, p_obS hS (a := 49) (kd := 10) rfl]

def h_X10_feed_B55  (s55 : Int32 × v_I) : Option ((Int32 × v_I) ⊕ (Int32 × v_I)) :=
if (20 : Int32) ≤ s55.1 then (
some (.inr (s55.1, s55.2)))
else (
(p_in 5 (s55.1 / (4 : Int32))).bind fun j_13 =>
(p_in 400 ((s55.2 49 13) + s55.1)).bind fun j_14 =>
p_let (v_up s55.2 56 j_14 (vp_nar .byte (((s55.2 57 j_13) >>> (((24 : Int32) - ((8 : Int32) * (s55.1 - s55.1 / (4 : Int32) * (4 : Int32)))) &&& 31)).toInt8.toInt32))) fun I_15 =>
p_let (s55.1 + (1 : Int32)) fun x_17 =>
some (.inl (x_17, I_15)))
set_option maxHeartbeats 4000000 in
set_option maxRecDepth 100000 in
theorem s_X10_feed_B55 {S : v_S} {F : v_F} (hS : p_SS S) (hF : p_FF F)  : f_X10_feed_B55 S F 49 = h_X10_feed_B55 := by
  funext s55
  unfold f_X10_feed_B55 h_X10_feed_B55
  simp only [p_bs, p_obS hS (a := 49) (kd := 10) rfl, p_FS hF (a := 49) (i := 12) (b := 57) (by decide), p_ixS hS (kd := 20) (a := 57) (n := 5) rfl, p_inL (n := 5) (k := 0) (i := (0 : Int32)) (by decide), p_inL (n := 5) (k := 1) (i := (1 : Int32)) (by decide), p_inL (n := 5) (k := 2) (i := (2 : Int32)) (by decide), p_inL (n := 5) (k := 3) (i := (3 : Int32)) (by decide), p_inL (n := 5) (k := 4) (i := (4 : Int32)) (by decide), p_FS hF (a := 49) (i := 11) (b := 56) (by decide), p_ixS hS (kd := 21) (a := 56) (n := 400) rfl]
def h_X10_feed (I : v_I) (p1 : Int32) (p2 : Int32) (p3 : Int32) (p4 : Int32) (p5 : Int32) : Option (Int32 × v_I) :=
if ((I 49 13) + (20 : Int32)) ≤ (400 : Int32) then (
p_let (v_up I 57 0 p1) fun I_2 =>
p_let (v_up I_2 57 1 p2) fun I_4 =>
p_let (v_up I_4 57 2 p3) fun I_6 =>
p_let (v_up I_6 57 3 p4) fun I_8 =>
p_let (v_up I_8 57 4 p5) fun I_10 =>
(v_loop (h_X10_feed_B55) FU ((0 : Int32), I_10)).bind fun q_19 =>
p_let (v_up q_19.2 49 13 ((q_19.2 49 13) + (20 : Int32))) fun I_21 =>
some (I_21 49 13, I_21))
else (
some ((-1 : Int32), I))
set_option maxHeartbeats 4000000 in
set_option maxRecDepth 100000 in
theorem s_X10_feed {S : v_S} {F : v_F} (hS : p_SS S) (hF : p_FF F) (I : v_I) (p1 : Int32) (p2 : Int32) (p3 : Int32) (p4 : Int32) (p5 : Int32) : f_X10_feed S I F 49 p1 p2 p3 p4 p5 = h_X10_feed I p1 p2 p3 p4 p5 := by
  unfold f_X10_feed h_X10_feed
  simp only [p_bs, p_obS hS (a := 49) (kd := 10) rfl, p_FS hF (a := 49) (i := 12) (b := 57) (by decide), p_ixS hS (kd := 20) (a := 57) (n := 5) rfl, p_inL (n := 5) (k := 0) (i := (0 : Int32)) (by decide), p_inL (n := 5) (k := 1) (i := (1 : Int32)) (by decide), p_inL (n := 5) (k := 2) (i := (2 : Int32)) (by decide), p_inL (n := 5) (k := 3) (i := (3 : Int32)) (by decide), p_inL (n := 5) (k := 4) (i := (4 : Int32)) (by decide), p_FS hF (a := 49) (i := 11) (b := 56) (by decide), p_ixS hS (kd := 21) (a := 56) (n := 400) rfl, s_X10_feed_B55 hS hF]

def h_X10_end (I : v_I) (p1 : Int32) : Option (Int32 × v_I) :=
(h_X10_lies p1 (0 : Int32) (I 49 13)).bind fun r_1 =>
if r_1 = (0 : Int32) then (
some ((-1 : Int32), I))
else (
p_let (v_up I 49 13 p1) fun I_4 =>
some (p1, I_4))
set_option maxHeartbeats 4000000 in
set_option maxRecDepth 100000 in
theorem s_X10_end {S : v_S} {F : v_F} (hS : p_SS S) (hF : p_FF F) (I : v_I) (p1 : Int32) : f_X10_end S I 49 p1 = h_X10_end I p1 := by
  unfold f_X10_end h_X10_end
  simp only [p_bs, p_obS hS (a := 49) (kd := 10) rfl, s_X10_lies]

def h_X10_lays_B15 (w1 : Int32) (s15 : Int32 × v_I) : Option ((Int32 × v_I) ⊕ (Int32 × v_I)) :=
if (s15.2 49 18) ≤ s15.1 then (
some (.inr (s15.1, s15.2)))
else (
(p_in 401 s15.1).bind fun j_5 =>
(p_in 5660 (((60 : Int32) + ((400 : Int32) * w1)) + s15.1)).bind fun j_6 =>
p_let (v_up s15.2 51 j_6 (s15.2 58 j_5)) fun I_7 =>
(p_in 401 s15.1).bind fun j_9 =>
(p_in 5660 (((2860 : Int32) + ((400 : Int32) * w1)) + s15.1)).bind fun j_10 =>
p_let (v_up I_7 51 j_10 (I_7 59 j_9)) fun I_11 =>
p_let (s15.1 + (1 : Int32)) fun x_13 =>
some (.inl (x_13, I_11)))
set_option maxHeartbeats 4000000 in
set_option maxRecDepth 100000 in
theorem s_X10_lays_B15 {S : v_S} {F : v_F} (hS : p_SS S) (hF : p_FF F) (w1 : Int32) : f_X10_lays_B15 S F 49 w1 = h_X10_lays_B15 w1 := by
  funext s15
  unfold f_X10_lays_B15 h_X10_lays_B15
  simp only [p_bs, p_obS hS (a := 49) (kd := 10) rfl, p_FS hF (a := 49) (i := 2) (b := 51) (by decide), p_ixS hS (kd := 20) (a := 51) (n := 5660) rfl, p_FS hF (a := 49) (i := 15) (b := 58) (by decide), p_ixS hS (kd := 20) (a := 58) (n := 401) rfl, p_FS hF (a := 49) (i := 16) (b := 59) (by decide), p_ixS hS (kd := 20) (a := 59) (n := 401) rfl]
def h_X10_lays (I : v_I) (p1 : Int32) : Option (v_I) :=
(p_in 5660 ((53 : Int32) + p1)).bind fun j_1 =>
p_let (v_up I 51 j_1 (I 49 18)) fun I_2 =>
(v_loop (h_X10_lays_B15 p1) FU ((0 : Int32), I_2)).bind fun q_15 =>
some (q_15.2)
set_option maxHeartbeats 4000000 in
set_option maxRecDepth 100000 in
theorem s_X10_lays {S : v_S} {F : v_F} (hS : p_SS S) (hF : p_FF F) (I : v_I) (p1 : Int32) : f_X10_lays S I F 49 p1 = h_X10_lays I p1 := by
  unfold f_X10_lays h_X10_lays
  simp only [p_bs, p_obS hS (a := 49) (kd := 10) rfl, p_FS hF (a := 49) (i := 2) (b := 51) (by decide), p_ixS hS (kd := 20) (a := 51) (n := 5660) rfl, p_FS hF (a := 49) (i := 15) (b := 58) (by decide), p_ixS hS (kd := 20) (a := 58) (n := 401) rfl, p_FS hF (a := 49) (i := 16) (b := 59) (by decide), p_ixS hS (kd := 20) (a := 59) (n := 401) rfl, s_X10_lays_B15 hS hF]

def h_X10_fine (I : v_I) : Option (Int32) :=
if (I 49 21) = (-1 : Int32) then (
some ((1 : Int32)))
else (
some ((0 : Int32)))
set_option maxHeartbeats 4000000 in
set_option maxRecDepth 100000 in
theorem s_X10_fine {S : v_S} {F : v_F} (hS : p_SS S) (hF : p_FF F) (I : v_I) : f_X10_fine S I 49 = h_X10_fine I := by
  unfold f_X10_fine h_X10_fine
  simp only [p_bs, p_obS hS (a := 49) (kd := 10) rfl]

def h_X10_faults (I : v_I) : Option (v_I) :=
(h_X10_fine I).bind fun r_1 =>
if r_1 = (0 : Int32) then (
some (I))
else (
(p_in 401 (I 49 19)).bind fun j_4 =>
p_let (v_up I 49 21 (I 60 j_4)) fun I_5 =>
some (I_5))
set_option maxHeartbeats 4000000 in
set_option maxRecDepth 100000 in
theorem s_X10_faults {S : v_S} {F : v_F} (hS : p_SS S) (hF : p_FF F) (I : v_I) : f_X10_faults S I F 49 = h_X10_faults I := by
  unfold f_X10_faults h_X10_faults
  simp only [p_bs, s_X10_fine hS hF, p_obS hS (a := 49) (kd := 10) rfl, p_FS hF (a := 49) (i := 17) (b := 60) (by decide), p_ixS hS (kd := 20) (a := 60) (n := 401) rfl]

def h_X10_takes0_J25 (I : v_I) (z0 : Int32) : Option (Int32 × v_I) :=
if z0 = (0 : Int32) then (
(p_bl z0).bind fun _ =>
some (z0, I))
else (
p_let (v_up I 49 19 ((I 49 19) + (1 : Int32))) fun I_6 =>
(p_bl z0).bind fun _ =>
some (z0, I_6))
set_option maxHeartbeats 4000000 in
set_option maxRecDepth 100000 in
theorem s_X10_takes0_J25 {S : v_S} {F : v_F} (hS : p_SS S) (hF : p_FF F) (I : v_I) (z0 : Int32) : f_X10_takes0_J25 S F I 49 z0 = h_X10_takes0_J25 I z0 := by
  unfold f_X10_takes0_J25 h_X10_takes0_J25
  simp only [p_bs, s_X10_fine hS hF, p_obS hS (a := 49) (kd := 10) rfl, p_FS hF (a := 49) (i := 15) (b := 58) (by decide), p_ixS hS (kd := 20) (a := 58) (n := 401) rfl]
def h_X10_takes0_J24 (I : v_I) : Option (Int32 × v_I) :=
h_X10_takes0_J25 I (0 : Int32)
set_option maxHeartbeats 4000000 in
set_option maxRecDepth 100000 in
theorem s_X10_takes0_J24 {S : v_S} {F : v_F} (hS : p_SS S) (hF : p_FF F) (I : v_I) : f_X10_takes0_J24 S F I 49 = h_X10_takes0_J24 I := by
  unfold f_X10_takes0_J24 h_X10_takes0_J24
  simp only [p_bs, s_X10_fine hS hF, p_obS hS (a := 49) (kd := 10) rfl, p_FS hF (a := 49) (i := 15) (b := 58) (by decide), p_ixS hS (kd := 20) (a := 58) (n := 401) rfl, s_X10_takes0_J25 hS hF]
def h_X10_takes0 (I : v_I) (p1 : Int32) : Option (Int32 × v_I) :=
(h_X10_fine I).bind fun r_1 =>
if r_1 = (0 : Int32) then (
h_X10_takes0_J24 I)
else (
(p_in 401 (I 49 19)).bind fun j_9 =>
if (I 58 j_9) = p1 then (
h_X10_takes0_J25 I (1 : Int32))
else (
h_X10_takes0_J24 I))
set_option maxHeartbeats 4000000 in
set_option maxRecDepth 100000 in
theorem s_X10_takes0 {S : v_S} {F : v_F} (hS : p_SS S) (hF : p_FF F) (I : v_I) (p1 : Int32) : f_X10_takes0 S I F 49 p1 = h_X10_takes0 I p1 := by
  unfold f_X10_takes0 h_X10_takes0
  simp only [p_bs, s_X10_fine hS hF, p_obS hS (a := 49) (kd := 10) rfl, p_FS hF (a := 49) (i := 15) (b := 58) (by decide), p_ixS hS (kd := 20) (a := 58) (n := 401) rfl, s_X10_takes0_J25 hS hF, s_X10_takes0_J24 hS hF]

def h_X10_must (I : v_I) (p1 : Int32) : Option (v_I) :=
(h_X10_takes0 I p1).bind fun r_1 =>
if r_1.1 = (0 : Int32) then (
(h_X10_faults r_1.2).bind fun r_4 =>
some (r_4))
else (
some (r_1.2))
set_option maxHeartbeats 4000000 in
set_option maxRecDepth 100000 in
theorem s_X10_must {S : v_S} {F : v_F} (hS : p_SS S) (hF : p_FF F) (I : v_I) (p1 : Int32) : f_X10_must S I F 49 p1 = h_X10_must I p1 := by
  unfold f_X10_must h_X10_must
  simp only [p_bs, s_X10_takes0 hS hF, p_obS hS (a := 49) (kd := 10) rfl, s_X10_faults hS hF]

def h_X10_leaf_J13 (I : v_I) : Option (v_I) :=
p_let (v_up I 49 20 ((I 49 20) + (1 : Int32))) fun I_2 =>
(h_X10_fine I_2).bind fun r_4 =>
if r_4 = (0 : Int32) then (
some (I_2))
else (
p_let (v_up I_2 49 19 ((I_2 49 19) + (1 : Int32))) fun I_7 =>
some (I_7))
set_option maxHeartbeats 4000000 in
set_option maxRecDepth 100000 in
theorem s_X10_leaf_J13 {S : v_S} {F : v_F} (hS : p_SS S) (hF : p_FF F) (I : v_I) : f_X10_leaf_J13 S F I 49 = h_X10_leaf_J13 I := by
  unfold f_X10_leaf_J13 h_X10_leaf_J13
  simp only [p_bs, p_obS hS (a := 49) (kd := 10) rfl, s_X10_fine hS hF, s_X10_faults hS hF]
def h_X10_leaf (I : v_I) : Option (v_I) :=
if (I 49 20) = (50 : Int32) then (
(h_X10_faults I).bind fun r_9 =>
h_X10_leaf_J13 r_9)
else (
h_X10_leaf_J13 I)
set_option maxHeartbeats 4000000 in
set_option maxRecDepth 100000 in
theorem s_X10_leaf {S : v_S} {F : v_F} (hS : p_SS S) (hF : p_FF F) (I : v_I) : f_X10_leaf S I F 49 = h_X10_leaf I := by
  unfold f_X10_leaf h_X10_leaf
  simp only [p_bs, p_obS hS (a := 49) (kd := 10) rfl, s_X10_fine hS hF, s_X10_faults hS hF, s_X10_leaf_J13 hS hF]

def h_X10_mustNumber_J42 (I : v_I) : Option (v_I) :=
(h_X10_fine I).bind fun r_4 =>
if r_4 = (0 : Int32) then (
some (I))
else (
p_let (v_up I 49 19 ((I 49 19) + (1 : Int32))) fun I_7 =>
some (I_7))
set_option maxHeartbeats 4000000 in
set_option maxRecDepth 100000 in
theorem s_X10_mustNumber_J42 {S : v_S} {F : v_F} (hS : p_SS S) (hF : p_FF F) (I : v_I) : f_X10_mustNumber_J42 S F I 49 = h_X10_mustNumber_J42 I := by
  unfold f_X10_mustNumber_J42 h_X10_mustNumber_J42
  simp only [p_bs, s_X10_fine hS hF, p_obS hS (a := 49) (kd := 10) rfl, p_FS hF (a := 49) (i := 15) (b := 58) (by decide), p_ixS hS (kd := 20) (a := 58) (n := 401) rfl, s_X10_faults hS hF, p_FS hF (a := 49) (i := 16) (b := 59) (by decide), p_ixS hS (kd := 20) (a := 59) (n := 401) rfl, s_X10_lies]
def h_X10_mustNumber_J38 (I : v_I) : Option (v_I) :=
(h_X10_faults I).bind fun r_11 =>
h_X10_mustNumber_J42 r_11
set_option maxHeartbeats 4000000 in
set_option maxRecDepth 100000 in
theorem s_X10_mustNumber_J38 {S : v_S} {F : v_F} (hS : p_SS S) (hF : p_FF F) (I : v_I) : f_X10_mustNumber_J38 S F I 49 = h_X10_mustNumber_J38 I := by
  unfold f_X10_mustNumber_J38 h_X10_mustNumber_J38
  simp only [p_bs, s_X10_fine hS hF, p_obS hS (a := 49) (kd := 10) rfl, p_FS hF (a := 49) (i := 15) (b := 58) (by decide), p_ixS hS (kd := 20) (a := 58) (n := 401) rfl, s_X10_faults hS hF, p_FS hF (a := 49) (i := 16) (b := 59) (by decide), p_ixS hS (kd := 20) (a := 59) (n := 401) rfl, s_X10_lies, s_X10_mustNumber_J42 hS hF]
def h_X10_mustNumber (I : v_I) (p1 : Int32) (p2 : Int32) : Option (v_I) :=
(h_X10_fine I).bind fun r_1 =>
if r_1 = (0 : Int32) then (
h_X10_mustNumber_J42 I)
else (
(p_in 401 (I 49 19)).bind fun j_9 =>
if (I 58 j_9) = (50 : Int32) then (
(p_in 401 (I 49 19)).bind fun j_13 =>
(h_X10_lies (I 59 j_13) p1 p2).bind fun r_14 =>
if r_14 = (0 : Int32) then (
h_X10_mustNumber_J38 I)
else (
h_X10_mustNumber_J42 I))
else (
h_X10_mustNumber_J38 I))
set_option maxHeartbeats 4000000 in
set_option maxRecDepth 100000 in
theorem s_X10_mustNumber {S : v_S} {F : v_F} (hS : p_SS S) (hF : p_FF F) (I : v_I) (p1 : Int32) (p2 : Int32) : f_X10_mustNumber S I F 49 p1 p2 = h_X10_mustNumber I p1 p2 := by
  unfold f_X10_mustNumber h_X10_mustNumber
  simp only [p_bs, s_X10_fine hS hF, p_obS hS (a := 49) (kd := 10) rfl, p_FS hF (a := 49) (i := 15) (b := 58) (by decide), p_ixS hS (kd := 20) (a := 58) (n := 401) rfl, s_X10_faults hS hF, p_FS hF (a := 49) (i := 16) (b := 59) (by decide), p_ixS hS (kd := 20) (a := 59) (n := 401) rfl, s_X10_lies, s_X10_mustNumber_J42 hS hF, s_X10_mustNumber_J38 hS hF]

def h_X10_readTest_B5 (rc : Nat → Int32 → v_I → Option (v_I)) (w1 : Int32) (s5 : v_I) : Option ((v_I) ⊕ (v_I)) :=
(h_X10_takes0 s5 (5 : Int32)).bind fun r_3 =>
if r_3.1 = (0 : Int32) then (
some (.inr r_3.2))
else (
(rc 1 w1 r_3.2).bind fun r_6 =>
some (.inl r_6))
set_option maxHeartbeats 4000000 in
set_option maxRecDepth 100000 in
theorem s_X10_readTest_B5 {S : v_S} {F : v_F} (hS : p_SS S) (hF : p_FF F) {rc : Nat → Nat → Int32 → v_S → v_I → v_F → Option (v_I)} {rh : Nat → Int32 → v_I → Option (v_I)} (hrc : ∀ (t : Nat) (b : Int32) (I : v_I), rc t 49 b S I F = rh t b I) (w1 : Int32) : f_X10_readTest_B5 rc S F 49 w1 = h_X10_readTest_B5 rh w1 := by
  funext s5
  unfold f_X10_readTest_B5 h_X10_readTest_B5
  simp only [p_bs, p_obS hS (a := 49) (kd := 10) rfl, s_X10_takes0 hS hF, hrc]
def h_X10_readTest (rc : Nat → Int32 → v_I → Option (v_I)) (I : v_I) (p1 : Int32) : Option (v_I) :=
(rc 1 p1 I).bind fun r_1 =>
(v_loop (h_X10_readTest_B5 rc p1) FU r_1).bind fun q_8 =>
some (q_8)
set_option maxHeartbeats 4000000 in
set_option maxRecDepth 100000 in
theorem s_X10_readTest {S : v_S} {F : v_F} (hS : p_SS S) (hF : p_FF F) {rc : Nat → Nat → Int32 → v_S → v_I → v_F → Option (v_I)} {rh : Nat → Int32 → v_I → Option (v_I)} (hrc : ∀ (t : Nat) (b : Int32) (I : v_I), rc t 49 b S I F = rh t b I) (I : v_I) (p1 : Int32) : f_X10_readTest rc S I F 49 p1 = h_X10_readTest rh I p1 := by
  unfold f_X10_readTest h_X10_readTest
  simp only [p_bs, p_obS hS (a := 49) (kd := 10) rfl, s_X10_takes0 hS hF, hrc, s_X10_readTest_B5 hS hF hrc]

def h_X10_readBoth_B5 (rc : Nat → Int32 → v_I → Option (v_I)) (w1 : Int32) (s5 : v_I) : Option ((v_I) ⊕ (v_I)) :=
(h_X10_takes0 s5 (6 : Int32)).bind fun r_3 =>
if r_3.1 = (0 : Int32) then (
some (.inr r_3.2))
else (
(rc 2 w1 r_3.2).bind fun r_6 =>
some (.inl r_6))
set_option maxHeartbeats 4000000 in
set_option maxRecDepth 100000 in
theorem s_X10_readBoth_B5 {S : v_S} {F : v_F} (hS : p_SS S) (hF : p_FF F) {rc : Nat → Nat → Int32 → v_S → v_I → v_F → Option (v_I)} {rh : Nat → Int32 → v_I → Option (v_I)} (hrc : ∀ (t : Nat) (b : Int32) (I : v_I), rc t 49 b S I F = rh t b I) (w1 : Int32) : f_X10_readBoth_B5 rc S F 49 w1 = h_X10_readBoth_B5 rh w1 := by
  funext s5
  unfold f_X10_readBoth_B5 h_X10_readBoth_B5
  simp only [p_bs, p_obS hS (a := 49) (kd := 10) rfl, s_X10_takes0 hS hF, hrc]
def h_X10_readBoth (rc : Nat → Int32 → v_I → Option (v_I)) (I : v_I) (p1 : Int32) : Option (v_I) :=
(rc 2 p1 I).bind fun r_1 =>
(v_loop (h_X10_readBoth_B5 rc p1) FU r_1).bind fun q_8 =>
some (q_8)
set_option maxHeartbeats 4000000 in
set_option maxRecDepth 100000 in
theorem s_X10_readBoth {S : v_S} {F : v_F} (hS : p_SS S) (hF : p_FF F) {rc : Nat → Nat → Int32 → v_S → v_I → v_F → Option (v_I)} {rh : Nat → Int32 → v_I → Option (v_I)} (hrc : ∀ (t : Nat) (b : Int32) (I : v_I), rc t 49 b S I F = rh t b I) (I : v_I) (p1 : Int32) : f_X10_readBoth rc S I F 49 p1 = h_X10_readBoth rh I p1 := by
  unfold f_X10_readBoth h_X10_readBoth
  simp only [p_bs, p_obS hS (a := 49) (kd := 10) rfl, s_X10_takes0 hS hF, hrc, s_X10_readBoth_B5 hS hF hrc]

def h_X10_readPlain_B2 (rc : Nat → Int32 → v_I → Option (v_I)) (w1 : Int32) (s2 : Int32 × v_I) : Option ((Int32 × v_I) ⊕ (Int32 × v_I)) :=
if s2.1 = (0 : Int32) then (
some (.inr (s2.1, s2.2)))
else (
(h_X10_takes0 s2.2 (7 : Int32)).bind fun r_2 =>
some (.inl (r_2.1, r_2.2)))
set_option maxHeartbeats 4000000 in
set_option maxRecDepth 100000 in
theorem s_X10_readPlain_B2 {S : v_S} {F : v_F} (hS : p_SS S) (hF : p_FF F) {rc : Nat → Nat → Int32 → v_S → v_I → v_F → Option (v_I)} {rh : Nat → Int32 → v_I → Option (v_I)} (hrc : ∀ (t : Nat) (b : Int32) (I : v_I), rc t 49 b S I F = rh t b I) (w1 : Int32) : f_X10_readPlain_B2 rc S F 49 w1 = h_X10_readPlain_B2 rh w1 := by
  funext s2
  unfold f_X10_readPlain_B2 h_X10_readPlain_B2
  simp only [p_bs, s_X10_takes0 hS hF, p_obS hS (a := 49) (kd := 10) rfl, s_X10_fine hS hF, p_FS hF (a := 49) (i := 15) (b := 58) (by decide), p_ixS hS (kd := 20) (a := 58) (n := 401) rfl, s_X10_sign, s_X10_must hS hF, s_X10_faults hS hF, hrc]
def h_X10_readPlain_J128 (rc : Nat → Int32 → v_I → Option (v_I)) (I : v_I) (y1 : Int32) : Option (v_I) :=
(rc 3 y1 I).bind fun r_22 =>
some (r_22)
set_option maxHeartbeats 4000000 in
set_option maxRecDepth 100000 in
theorem s_X10_readPlain_J128 {S : v_S} {F : v_F} (hS : p_SS S) (hF : p_FF F) {rc : Nat → Nat → Int32 → v_S → v_I → v_F → Option (v_I)} {rh : Nat → Int32 → v_I → Option (v_I)} (hrc : ∀ (t : Nat) (b : Int32) (I : v_I), rc t 49 b S I F = rh t b I) (I : v_I) (y1 : Int32) : f_X10_readPlain_J128 rc S F I 49 y1 = h_X10_readPlain_J128 rh I y1 := by
  unfold f_X10_readPlain_J128 h_X10_readPlain_J128
  simp only [p_bs, s_X10_takes0 hS hF, p_obS hS (a := 49) (kd := 10) rfl, s_X10_fine hS hF, p_FS hF (a := 49) (i := 15) (b := 58) (by decide), p_ixS hS (kd := 20) (a := 58) (n := 401) rfl, s_X10_sign, s_X10_must hS hF, s_X10_faults hS hF, hrc, s_X10_readPlain_B2 hS hF hrc]
def h_X10_readPlain_J53 (rc : Nat → Int32 → v_I → Option (v_I)) (I : v_I) (y1 : Int32) : Option (v_I) :=
(h_X10_fine I).bind fun r_34 =>
if r_34 = (0 : Int32) then (
some (I))
else (
p_let (v_up I 49 19 ((I 49 19) + (1 : Int32))) fun I_37 =>
(rc 0 (y1 + (1 : Int32)) I_37).bind fun r_39 =>
(h_X10_sign (41 : Int32)).bind fun r_41 =>
(h_X10_must r_39 r_41).bind fun r_43 =>
some (r_43))
set_option maxHeartbeats 4000000 in
set_option maxRecDepth 100000 in
theorem s_X10_readPlain_J53 {S : v_S} {F : v_F} (hS : p_SS S) (hF : p_FF F) {rc : Nat → Nat → Int32 → v_S → v_I → v_F → Option (v_I)} {rh : Nat → Int32 → v_I → Option (v_I)} (hrc : ∀ (t : Nat) (b : Int32) (I : v_I), rc t 49 b S I F = rh t b I) (I : v_I) (y1 : Int32) : f_X10_readPlain_J53 rc S F I 49 y1 = h_X10_readPlain_J53 rh I y1 := by
  unfold f_X10_readPlain_J53 h_X10_readPlain_J53
  simp only [p_bs, s_X10_takes0 hS hF, p_obS hS (a := 49) (kd := 10) rfl, s_X10_fine hS hF, p_FS hF (a := 49) (i := 15) (b := 58) (by decide), p_ixS hS (kd := 20) (a := 58) (n := 401) rfl, s_X10_sign, s_X10_must hS hF, s_X10_faults hS hF, hrc, s_X10_readPlain_B2 hS hF hrc, s_X10_readPlain_J128 hS hF hrc]
def h_X10_readPlain (rc : Nat → Int32 → v_I → Option (v_I)) (I : v_I) (p1 : Int32) : Option (v_I) :=
(v_loop (h_X10_readPlain_B2 rc p1) FU ((1 : Int32), I)).bind fun q_4 =>
(h_X10_fine q_4.2).bind fun r_6 =>
if r_6 = (0 : Int32) then (
some (q_4.2))
else (
(p_in 401 (q_4.2 49 19)).bind fun j_9 =>
p_let (q_4.2 58 j_9) fun x_10 =>
(h_X10_sign (40 : Int32)).bind fun r_12 =>
if x_10 = r_12 then (
if p1 = (8 : Int32) then (
(h_X10_faults q_4.2).bind fun r_45 =>
h_X10_readPlain_J53 rc r_45 p1)
else (
h_X10_readPlain_J53 rc q_4.2 p1))
else (
(rc 3 p1 q_4.2).bind fun r_15 =>
(h_X10_sign (60 : Int32)).bind fun r_17 =>
(h_X10_takes0 r_15 r_17).bind fun r_19 =>
if r_19.1 = (0 : Int32) then (
(h_X10_sign (62 : Int32)).bind fun r_24 =>
(h_X10_takes0 r_19.2 r_24).bind fun r_26 =>
if r_26.1 = (0 : Int32) then (
(h_X10_sign (61 : Int32)).bind fun r_29 =>
(h_X10_must r_26.2 r_29).bind fun r_31 =>
h_X10_readPlain_J128 rc r_31 p1)
else (
h_X10_readPlain_J128 rc r_26.2 p1))
else (
h_X10_readPlain_J128 rc r_19.2 p1)))
set_option maxHeartbeats 4000000 in
set_option maxRecDepth 100000 in
theorem s_X10_readPlain {S : v_S} {F : v_F} (hS : p_SS S) (hF : p_FF F) {rc : Nat → Nat → Int32 → v_S → v_I → v_F → Option (v_I)} {rh : Nat → Int32 → v_I → Option (v_I)} (hrc : ∀ (t : Nat) (b : Int32) (I : v_I), rc t 49 b S I F = rh t b I) (I : v_I) (p1 : Int32) : f_X10_readPlain rc S I F 49 p1 = h_X10_readPlain rh I p1 := by
  unfold f_X10_readPlain h_X10_readPlain
  simp only [p_bs, s_X10_takes0 hS hF, p_obS hS (a := 49) (kd := 10) rfl, s_X10_fine hS hF, p_FS hF (a := 49) (i := 15) (b := 58) (by decide), p_ixS hS (kd := 20) (a := 58) (n := 401) rfl, s_X10_sign, s_X10_must hS hF, s_X10_faults hS hF, hrc, s_X10_readPlain_B2 hS hF hrc, s_X10_readPlain_J128 hS hF hrc, s_X10_readPlain_J53 hS hF hrc]

def h_X10_readSum_J5_29 (rc : Nat → Int32 → v_I → Option (v_I)) (w1 : Int32) (I : v_I) : Option ((v_I) ⊕ (v_I)) :=
(rc 4 w1 I).bind fun r_8 =>
some (.inl r_8)
set_option maxHeartbeats 4000000 in
set_option maxRecDepth 100000 in
theorem s_X10_readSum_J5_29 {S : v_S} {F : v_F} (hS : p_SS S) (hF : p_FF F) {rc : Nat → Nat → Int32 → v_S → v_I → v_F → Option (v_I)} {rh : Nat → Int32 → v_I → Option (v_I)} (hrc : ∀ (t : Nat) (b : Int32) (I : v_I), rc t 49 b S I F = rh t b I) (w1 : Int32) (I : v_I) : f_X10_readSum_J5_29 rc S F 49 w1 I = h_X10_readSum_J5_29 rh w1 I := by
  unfold f_X10_readSum_J5_29 h_X10_readSum_J5_29
  simp only [p_bs, p_obS hS (a := 49) (kd := 10) rfl, s_X10_sign, s_X10_takes0 hS hF, hrc]
def h_X10_readSum_B5 (rc : Nat → Int32 → v_I → Option (v_I)) (w1 : Int32) (s5 : v_I) : Option ((v_I) ⊕ (v_I)) :=
(h_X10_sign (43 : Int32)).bind fun r_3 =>
(h_X10_takes0 s5 r_3).bind fun r_5 =>
if r_5.1 = (0 : Int32) then (
(h_X10_sign (45 : Int32)).bind fun r_10 =>
(h_X10_takes0 r_5.2 r_10).bind fun r_12 =>
if r_12.1 = (0 : Int32) then (
some (.inr r_12.2))
else (
h_X10_readSum_J5_29 rc w1 r_12.2))
else (
h_X10_readSum_J5_29 rc w1 r_5.2)
set_option maxHeartbeats 4000000 in
set_option maxRecDepth 100000 in
theorem s_X10_readSum_B5 {S : v_S} {F : v_F} (hS : p_SS S) (hF : p_FF F) {rc : Nat → Nat → Int32 → v_S → v_I → v_F → Option (v_I)} {rh : Nat → Int32 → v_I → Option (v_I)} (hrc : ∀ (t : Nat) (b : Int32) (I : v_I), rc t 49 b S I F = rh t b I) (w1 : Int32) : f_X10_readSum_B5 rc S F 49 w1 = h_X10_readSum_B5 rh w1 := by
  funext s5
  unfold f_X10_readSum_B5 h_X10_readSum_B5
  simp only [p_bs, p_obS hS (a := 49) (kd := 10) rfl, s_X10_sign, s_X10_takes0 hS hF, hrc, s_X10_readSum_J5_29 hS hF hrc]
def h_X10_readSum (rc : Nat → Int32 → v_I → Option (v_I)) (I : v_I) (p1 : Int32) : Option (v_I) :=
(rc 4 p1 I).bind fun r_1 =>
(v_loop (h_X10_readSum_B5 rc p1) FU r_1).bind fun q_15 =>
some (q_15)
set_option maxHeartbeats 4000000 in
set_option maxRecDepth 100000 in
theorem s_X10_readSum {S : v_S} {F : v_F} (hS : p_SS S) (hF : p_FF F) {rc : Nat → Nat → Int32 → v_S → v_I → v_F → Option (v_I)} {rh : Nat → Int32 → v_I → Option (v_I)} (hrc : ∀ (t : Nat) (b : Int32) (I : v_I), rc t 49 b S I F = rh t b I) (I : v_I) (p1 : Int32) : f_X10_readSum rc S I F 49 p1 = h_X10_readSum rh I p1 := by
  unfold f_X10_readSum h_X10_readSum
  simp only [p_bs, p_obS hS (a := 49) (kd := 10) rfl, s_X10_sign, s_X10_takes0 hS hF, hrc, s_X10_readSum_J5_29 hS hF hrc, s_X10_readSum_B5 hS hF hrc]

def h_X10_readTerm_J5_41 (rc : Nat → Int32 → v_I → Option (v_I)) (w1 : Int32) (I : v_I) : Option ((v_I) ⊕ (v_I)) :=
(rc 5 w1 I).bind fun r_8 =>
some (.inl r_8)
set_option maxHeartbeats 4000000 in
set_option maxRecDepth 100000 in
theorem s_X10_readTerm_J5_41 {S : v_S} {F : v_F} (hS : p_SS S) (hF : p_FF F) {rc : Nat → Nat → Int32 → v_S → v_I → v_F → Option (v_I)} {rh : Nat → Int32 → v_I → Option (v_I)} (hrc : ∀ (t : Nat) (b : Int32) (I : v_I), rc t 49 b S I F = rh t b I) (w1 : Int32) (I : v_I) : f_X10_readTerm_J5_41 rc S F 49 w1 I = h_X10_readTerm_J5_41 rh w1 I := by
  unfold f_X10_readTerm_J5_41 h_X10_readTerm_J5_41
  simp only [p_bs, p_obS hS (a := 49) (kd := 10) rfl, s_X10_sign, s_X10_takes0 hS hF, hrc]
def h_X10_readTerm_B5 (rc : Nat → Int32 → v_I → Option (v_I)) (w1 : Int32) (s5 : v_I) : Option ((v_I) ⊕ (v_I)) :=
(h_X10_sign (42 : Int32)).bind fun r_3 =>
(h_X10_takes0 s5 r_3).bind fun r_5 =>
if r_5.1 = (0 : Int32) then (
(h_X10_sign (47 : Int32)).bind fun r_10 =>
(h_X10_takes0 r_5.2 r_10).bind fun r_12 =>
if r_12.1 = (0 : Int32) then (
(h_X10_sign (37 : Int32)).bind fun r_15 =>
(h_X10_takes0 r_12.2 r_15).bind fun r_17 =>
if r_17.1 = (0 : Int32) then (
some (.inr r_17.2))
else (
h_X10_readTerm_J5_41 rc w1 r_17.2))
else (
h_X10_readTerm_J5_41 rc w1 r_12.2))
else (
h_X10_readTerm_J5_41 rc w1 r_5.2)
set_option maxHeartbeats 4000000 in
set_option maxRecDepth 100000 in
theorem s_X10_readTerm_B5 {S : v_S} {F : v_F} (hS : p_SS S) (hF : p_FF F) {rc : Nat → Nat → Int32 → v_S → v_I → v_F → Option (v_I)} {rh : Nat → Int32 → v_I → Option (v_I)} (hrc : ∀ (t : Nat) (b : Int32) (I : v_I), rc t 49 b S I F = rh t b I) (w1 : Int32) : f_X10_readTerm_B5 rc S F 49 w1 = h_X10_readTerm_B5 rh w1 := by
  funext s5
  unfold f_X10_readTerm_B5 h_X10_readTerm_B5
  simp only [p_bs, p_obS hS (a := 49) (kd := 10) rfl, s_X10_sign, s_X10_takes0 hS hF, hrc, s_X10_readTerm_J5_41 hS hF hrc]
def h_X10_readTerm (rc : Nat → Int32 → v_I → Option (v_I)) (I : v_I) (p1 : Int32) : Option (v_I) :=
(rc 5 p1 I).bind fun r_1 =>
(v_loop (h_X10_readTerm_B5 rc p1) FU r_1).bind fun q_20 =>
some (q_20)
set_option maxHeartbeats 4000000 in
set_option maxRecDepth 100000 in
theorem s_X10_readTerm {S : v_S} {F : v_F} (hS : p_SS S) (hF : p_FF F) {rc : Nat → Nat → Int32 → v_S → v_I → v_F → Option (v_I)} {rh : Nat → Int32 → v_I → Option (v_I)} (hrc : ∀ (t : Nat) (b : Int32) (I : v_I), rc t 49 b S I F = rh t b I) (I : v_I) (p1 : Int32) : f_X10_readTerm rc S I F 49 p1 = h_X10_readTerm rh I p1 := by
  unfold f_X10_readTerm h_X10_readTerm
  simp only [p_bs, p_obS hS (a := 49) (kd := 10) rfl, s_X10_sign, s_X10_takes0 hS hF, hrc, s_X10_readTerm_J5_41 hS hF hrc, s_X10_readTerm_B5 hS hF hrc]

def h_X10_readPart_J150 (rc : Nat → Int32 → v_I → Option (v_I)) (I : v_I) : Option (v_I) :=
(h_X10_faults I).bind fun r_12 =>
some (r_12)
set_option maxHeartbeats 4000000 in
set_option maxRecDepth 100000 in
theorem s_X10_readPart_J150 {S : v_S} {F : v_F} (hS : p_SS S) (hF : p_FF F) {rc : Nat → Nat → Int32 → v_S → v_I → v_F → Option (v_I)} {rh : Nat → Int32 → v_I → Option (v_I)} (hrc : ∀ (t : Nat) (b : Int32) (I : v_I), rc t 49 b S I F = rh t b I) (I : v_I) : f_X10_readPart_J150 rc S F I 49 = h_X10_readPart_J150 rh I := by
  unfold f_X10_readPart_J150 h_X10_readPart_J150
  simp only [p_bs, s_X10_fine hS hF, p_obS hS (a := 49) (kd := 10) rfl, p_FS hF (a := 49) (i := 15) (b := 58) (by decide), p_ixS hS (kd := 20) (a := 58) (n := 401) rfl, s_X10_sign, s_X10_faults hS hF, s_X10_leaf hS hF, s_X10_mustNumber hS hF, p_FS hF (a := 49) (i := 16) (b := 59) (by decide), p_ixS hS (kd := 20) (a := 59) (n := 401) rfl, s_X10_must hS hF, hrc]
def h_X10_readPart_J140 (rc : Nat → Int32 → v_I → Option (v_I)) (I : v_I) : Option (v_I) :=
(h_X10_mustNumber I (0 : Int32) (7 : Int32)).bind fun r_19 =>
some (r_19)
set_option maxHeartbeats 4000000 in
set_option maxRecDepth 100000 in
theorem s_X10_readPart_J140 {S : v_S} {F : v_F} (hS : p_SS S) (hF : p_FF F) {rc : Nat → Nat → Int32 → v_S → v_I → v_F → Option (v_I)} {rh : Nat → Int32 → v_I → Option (v_I)} (hrc : ∀ (t : Nat) (b : Int32) (I : v_I), rc t 49 b S I F = rh t b I) (I : v_I) : f_X10_readPart_J140 rc S F I 49 = h_X10_readPart_J140 rh I := by
  unfold f_X10_readPart_J140 h_X10_readPart_J140
  simp only [p_bs, s_X10_fine hS hF, p_obS hS (a := 49) (kd := 10) rfl, p_FS hF (a := 49) (i := 15) (b := 58) (by decide), p_ixS hS (kd := 20) (a := 58) (n := 401) rfl, s_X10_sign, s_X10_faults hS hF, s_X10_leaf hS hF, s_X10_mustNumber hS hF, p_FS hF (a := 49) (i := 16) (b := 59) (by decide), p_ixS hS (kd := 20) (a := 59) (n := 401) rfl, s_X10_must hS hF, hrc, s_X10_readPart_J150 hS hF hrc]
def h_X10_readPart_J111 (rc : Nat → Int32 → v_I → Option (v_I)) (I : v_I) (y2 : Int32) : Option (v_I) :=
(h_X10_leaf I).bind fun r_15 =>
if (r_15 49 10) = (0 : Int32) then (
some (r_15))
else (
if y2 = (13 : Int32) then (
h_X10_readPart_J140 rc r_15)
else (
if y2 = (14 : Int32) then (
h_X10_readPart_J140 rc r_15)
else (
if y2 = (19 : Int32) then (
h_X10_readPart_J140 rc r_15)
else (
some (r_15)))))
set_option maxHeartbeats 4000000 in
set_option maxRecDepth 100000 in
theorem s_X10_readPart_J111 {S : v_S} {F : v_F} (hS : p_SS S) (hF : p_FF F) {rc : Nat → Nat → Int32 → v_S → v_I → v_F → Option (v_I)} {rh : Nat → Int32 → v_I → Option (v_I)} (hrc : ∀ (t : Nat) (b : Int32) (I : v_I), rc t 49 b S I F = rh t b I) (I : v_I) (y2 : Int32) : f_X10_readPart_J111 rc S F I 49 y2 = h_X10_readPart_J111 rh I y2 := by
  unfold f_X10_readPart_J111 h_X10_readPart_J111
  simp only [p_bs, s_X10_fine hS hF, p_obS hS (a := 49) (kd := 10) rfl, p_FS hF (a := 49) (i := 15) (b := 58) (by decide), p_ixS hS (kd := 20) (a := 58) (n := 401) rfl, s_X10_sign, s_X10_faults hS hF, s_X10_leaf hS hF, s_X10_mustNumber hS hF, p_FS hF (a := 49) (i := 16) (b := 59) (by decide), p_ixS hS (kd := 20) (a := 59) (n := 401) rfl, s_X10_must hS hF, hrc, s_X10_readPart_J150 hS hF hrc, s_X10_readPart_J140 hS hF hrc]
def h_X10_readPart_J95 (rc : Nat → Int32 → v_I → Option (v_I)) (I : v_I) (y2 : Int32) : Option (v_I) :=
if y2 < (I 49 8) then (
h_X10_readPart_J150 rc I)
else (
if (I 49 9) < y2 then (
h_X10_readPart_J150 rc I)
else (
h_X10_readPart_J111 rc I y2))
set_option maxHeartbeats 4000000 in
set_option maxRecDepth 100000 in
theorem s_X10_readPart_J95 {S : v_S} {F : v_F} (hS : p_SS S) (hF : p_FF F) {rc : Nat → Nat → Int32 → v_S → v_I → v_F → Option (v_I)} {rh : Nat → Int32 → v_I → Option (v_I)} (hrc : ∀ (t : Nat) (b : Int32) (I : v_I), rc t 49 b S I F = rh t b I) (I : v_I) (y2 : Int32) : f_X10_readPart_J95 rc S F I 49 y2 = h_X10_readPart_J95 rh I y2 := by
  unfold f_X10_readPart_J95 h_X10_readPart_J95
  simp only [p_bs, s_X10_fine hS hF, p_obS hS (a := 49) (kd := 10) rfl, p_FS hF (a := 49) (i := 15) (b := 58) (by decide), p_ixS hS (kd := 20) (a := 58) (n := 401) rfl, s_X10_sign, s_X10_faults hS hF, s_X10_leaf hS hF, s_X10_mustNumber hS hF, p_FS hF (a := 49) (i := 16) (b := 59) (by decide), p_ixS hS (kd := 20) (a := 59) (n := 401) rfl, s_X10_must hS hF, hrc, s_X10_readPart_J150 hS hF hrc, s_X10_readPart_J140 hS hF hrc, s_X10_readPart_J111 hS hF hrc]
def h_X10_readPart_J37 (rc : Nat → Int32 → v_I → Option (v_I)) (I : v_I) (y1 : Int32) : Option (v_I) :=
(h_X10_fine I).bind fun r_26 =>
if r_26 = (0 : Int32) then (
some (I))
else (
p_let (v_up I 49 19 ((I 49 19) + (1 : Int32))) fun I_29 =>
(rc 3 (y1 + (1 : Int32)) I_29).bind fun r_31 =>
(h_X10_sign (93 : Int32)).bind fun r_33 =>
(h_X10_must r_31 r_33).bind fun r_35 =>
some (r_35))
set_option maxHeartbeats 4000000 in
set_option maxRecDepth 100000 in
theorem s_X10_readPart_J37 {S : v_S} {F : v_F} (hS : p_SS S) (hF : p_FF F) {rc : Nat → Nat → Int32 → v_S → v_I → v_F → Option (v_I)} {rh : Nat → Int32 → v_I → Option (v_I)} (hrc : ∀ (t : Nat) (b : Int32) (I : v_I), rc t 49 b S I F = rh t b I) (I : v_I) (y1 : Int32) : f_X10_readPart_J37 rc S F I 49 y1 = h_X10_readPart_J37 rh I y1 := by
  unfold f_X10_readPart_J37 h_X10_readPart_J37
  simp only [p_bs, s_X10_fine hS hF, p_obS hS (a := 49) (kd := 10) rfl, p_FS hF (a := 49) (i := 15) (b := 58) (by decide), p_ixS hS (kd := 20) (a := 58) (n := 401) rfl, s_X10_sign, s_X10_faults hS hF, s_X10_leaf hS hF, s_X10_mustNumber hS hF, p_FS hF (a := 49) (i := 16) (b := 59) (by decide), p_ixS hS (kd := 20) (a := 59) (n := 401) rfl, s_X10_must hS hF, hrc, s_X10_readPart_J150 hS hF hrc, s_X10_readPart_J140 hS hF hrc, s_X10_readPart_J111 hS hF hrc, s_X10_readPart_J95 hS hF hrc]
def h_X10_readPart (rc : Nat → Int32 → v_I → Option (v_I)) (I : v_I) (p1 : Int32) : Option (v_I) :=
(h_X10_fine I).bind fun r_1 =>
if r_1 = (0 : Int32) then (
some (I))
else (
(p_in 401 (I 49 19)).bind fun j_4 =>
p_let (I 58 j_4) fun x_5 =>
(h_X10_sign (91 : Int32)).bind fun r_7 =>
if x_5 = r_7 then (
if p1 = (8 : Int32) then (
(h_X10_faults I).bind fun r_37 =>
h_X10_readPart_J37 rc r_37 p1)
else (
h_X10_readPart_J37 rc I p1))
else (
if x_5 = (50 : Int32) then (
(p_in 401 (I 49 19)).bind fun j_23 =>
if (I 59 j_23) ≤ (1000 : Int32) then (
h_X10_readPart_J111 rc I x_5)
else (
h_X10_readPart_J95 rc I x_5))
else (
h_X10_readPart_J95 rc I x_5)))
set_option maxHeartbeats 4000000 in
set_option maxRecDepth 100000 in
theorem s_X10_readPart {S : v_S} {F : v_F} (hS : p_SS S) (hF : p_FF F) {rc : Nat → Nat → Int32 → v_S → v_I → v_F → Option (v_I)} {rh : Nat → Int32 → v_I → Option (v_I)} (hrc : ∀ (t : Nat) (b : Int32) (I : v_I), rc t 49 b S I F = rh t b I) (I : v_I) (p1 : Int32) : f_X10_readPart rc S I F 49 p1 = h_X10_readPart rh I p1 := by
  unfold f_X10_readPart h_X10_readPart
  simp only [p_bs, s_X10_fine hS hF, p_obS hS (a := 49) (kd := 10) rfl, p_FS hF (a := 49) (i := 15) (b := 58) (by decide), p_ixS hS (kd := 20) (a := 58) (n := 401) rfl, s_X10_sign, s_X10_faults hS hF, s_X10_leaf hS hF, s_X10_mustNumber hS hF, p_FS hF (a := 49) (i := 16) (b := 59) (by decide), p_ixS hS (kd := 20) (a := 59) (n := 401) rfl, s_X10_must hS hF, hrc, s_X10_readPart_J150 hS hF hrc, s_X10_readPart_J140 hS hF hrc, s_X10_readPart_J111 hS hF hrc, s_X10_readPart_J95 hS hF hrc, s_X10_readPart_J37 hS hF hrc]
def gh_X10_readTest : Nat → Nat → Int32 → v_I → Option (v_I)
  | 0, _, _, _ => none
  | n + 1, 0, b, I => h_X10_readTest (gh_X10_readTest n) I b
  | n + 1, 1, b, I => h_X10_readBoth (gh_X10_readTest n) I b
  | n + 1, 2, b, I => h_X10_readPlain (gh_X10_readTest n) I b
  | n + 1, 3, b, I => h_X10_readSum (gh_X10_readTest n) I b
  | n + 1, 4, b, I => h_X10_readTerm (gh_X10_readTest n) I b
  | n + 1, _, b, I => h_X10_readPart (gh_X10_readTest n) I b
theorem s_g_X10_readTest {S : v_S} {F : v_F} (hS : p_SS S) (hF : p_FF F) : ∀ (n t : Nat) (b : Int32) (I : v_I), g_X10_readTest n t 49 b S I F = gh_X10_readTest n t b I
  | 0, _, _, _ => rfl
  | n + 1, 0, b, I => s_X10_readTest hS hF (fun t b I => s_g_X10_readTest hS hF n t b I) I b
  | n + 1, 1, b, I => s_X10_readBoth hS hF (fun t b I => s_g_X10_readTest hS hF n t b I) I b
  | n + 1, 2, b, I => s_X10_readPlain hS hF (fun t b I => s_g_X10_readTest hS hF n t b I) I b
  | n + 1, 3, b, I => s_X10_readSum hS hF (fun t b I => s_g_X10_readTest hS hF n t b I) I b
  | n + 1, 4, b, I => s_X10_readTerm hS hF (fun t b I => s_g_X10_readTest hS hF n t b I) I b
  | n + 1, t + 5, b, I => s_X10_readPart hS hF (fun t b I => s_g_X10_readTest hS hF n t b I) I b

def h_X10_readClause_J29 (I : v_I) : Option (v_I) :=
(h_X10_takes0 I (4 : Int32)).bind fun r_6 =>
if r_6.1 = (0 : Int32) then (
some (r_6.2))
else (
(gh_X10_readTest GNN 0 (0 : Int32) r_6.2).bind fun r_9 =>
some (r_9))
set_option maxHeartbeats 4000000 in
set_option maxRecDepth 100000 in
theorem s_X10_readClause_J29 {S : v_S} {F : v_F} (hS : p_SS S) (hF : p_FF F) (I : v_I) : f_X10_readClause_J29 S F I 49 = h_X10_readClause_J29 I := by
  unfold f_X10_readClause_J29 h_X10_readClause_J29
  simp only [p_bs, s_X10_takes0 hS hF, p_obS hS (a := 49) (kd := 10) rfl, s_g_X10_readTest hS hF, s_X10_must hS hF]
def h_X10_readClause_J16 (I : v_I) : Option (v_I) :=
(gh_X10_readTest GNN 3 (0 : Int32) I).bind fun r_4 =>
h_X10_readClause_J29 r_4
set_option maxHeartbeats 4000000 in
set_option maxRecDepth 100000 in
theorem s_X10_readClause_J16 {S : v_S} {F : v_F} (hS : p_SS S) (hF : p_FF F) (I : v_I) : f_X10_readClause_J16 S F I 49 = h_X10_readClause_J16 I := by
  unfold f_X10_readClause_J16 h_X10_readClause_J16
  simp only [p_bs, s_X10_takes0 hS hF, p_obS hS (a := 49) (kd := 10) rfl, s_g_X10_readTest hS hF, s_X10_must hS hF, s_X10_readClause_J29 hS hF]
def h_X10_readClause (I : v_I) : Option (v_I) :=
(h_X10_takes0 I (1 : Int32)).bind fun r_1 =>
if r_1.1 = (0 : Int32) then (
(h_X10_takes0 r_1.2 (2 : Int32)).bind fun r_11 =>
if r_11.1 = (0 : Int32) then (
(h_X10_must r_11.2 (3 : Int32)).bind fun r_14 =>
h_X10_readClause_J29 r_14)
else (
h_X10_readClause_J16 r_11.2))
else (
h_X10_readClause_J16 r_1.2)
set_option maxHeartbeats 4000000 in
set_option maxRecDepth 100000 in
theorem s_X10_readClause {S : v_S} {F : v_F} (hS : p_SS S) (hF : p_FF F) (I : v_I) : f_X10_readClause S I F 49 = h_X10_readClause I := by
  unfold f_X10_readClause h_X10_readClause
  simp only [p_bs, s_X10_takes0 hS hF, p_obS hS (a := 49) (kd := 10) rfl, s_g_X10_readTest hS hF, s_X10_must hS hF, s_X10_readClause_J29 hS hF, s_X10_readClause_J16 hS hF]

def h_X10_readOrder_J76 (I : v_I) : Option (v_I) :=
(h_X10_takes0 I (4 : Int32)).bind fun r_12 =>
if r_12.1 = (0 : Int32) then (
some (r_12.2))
else (
(gh_X10_readTest GNN 0 (0 : Int32) r_12.2).bind fun r_15 =>
some (r_15))
set_option maxHeartbeats 4000000 in
set_option maxRecDepth 100000 in
theorem s_X10_readOrder_J76 {S : v_S} {F : v_F} (hS : p_SS S) (hF : p_FF F) (I : v_I) : f_X10_readOrder_J76 S F I 49 = h_X10_readOrder_J76 I := by
  unfold f_X10_readOrder_J76 h_X10_readOrder_J76
  simp only [p_bs, s_X10_takes0 hS hF, p_obS hS (a := 49) (kd := 10) rfl, s_g_X10_readTest hS hF, s_X10_mustNumber hS hF, s_X10_must hS hF]
def h_X10_readOrder_J60 (I : v_I) : Option (v_I) :=
(h_X10_takes0 I (25 : Int32)).bind fun r_9 =>
if r_9.1 = (0 : Int32) then (
h_X10_readOrder_J76 r_9.2)
else (
(h_X10_mustNumber r_9.2 (1 : Int32) (20 : Int32)).bind fun r_17 =>
h_X10_readOrder_J76 r_17)
set_option maxHeartbeats 4000000 in
set_option maxRecDepth 100000 in
theorem s_X10_readOrder_J60 {S : v_S} {F : v_F} (hS : p_SS S) (hF : p_FF F) (I : v_I) : f_X10_readOrder_J60 S F I 49 = h_X10_readOrder_J60 I := by
  unfold f_X10_readOrder_J60 h_X10_readOrder_J60
  simp only [p_bs, s_X10_takes0 hS hF, p_obS hS (a := 49) (kd := 10) rfl, s_g_X10_readTest hS hF, s_X10_mustNumber hS hF, s_X10_must hS hF, s_X10_readOrder_J76 hS hF]
def h_X10_readOrder_J46 (I : v_I) : Option (v_I) :=
(gh_X10_readTest GNN 3 (0 : Int32) I).bind fun r_7 =>
h_X10_readOrder_J60 r_7
set_option maxHeartbeats 4000000 in
set_option maxRecDepth 100000 in
theorem s_X10_readOrder_J46 {S : v_S} {F : v_F} (hS : p_SS S) (hF : p_FF F) (I : v_I) : f_X10_readOrder_J46 S F I 49 = h_X10_readOrder_J46 I := by
  unfold f_X10_readOrder_J46 h_X10_readOrder_J46
  simp only [p_bs, s_X10_takes0 hS hF, p_obS hS (a := 49) (kd := 10) rfl, s_g_X10_readTest hS hF, s_X10_mustNumber hS hF, s_X10_must hS hF, s_X10_readOrder_J76 hS hF, s_X10_readOrder_J60 hS hF]
def h_X10_readOrder (I : v_I) : Option (v_I) :=
(h_X10_takes0 I (22 : Int32)).bind fun r_1 =>
if r_1.1 = (0 : Int32) then (
(h_X10_takes0 r_1.2 (20 : Int32)).bind fun r_4 =>
if r_4.1 = (0 : Int32) then (
(h_X10_takes0 r_4.2 (21 : Int32)).bind fun r_19 =>
if r_19.1 = (0 : Int32) then (
(h_X10_must r_19.2 (24 : Int32)).bind fun r_22 =>
h_X10_readOrder_J60 r_22)
else (
h_X10_readOrder_J46 r_19.2))
else (
h_X10_readOrder_J46 r_4.2))
else (
(gh_X10_readTest GNN 3 (0 : Int32) r_1.2).bind fun r_24 =>
(h_X10_must r_24 (23 : Int32)).bind fun r_26 =>
(gh_X10_readTest GNN 3 (0 : Int32) r_26).bind fun r_28 =>
h_X10_readOrder_J60 r_28)
set_option maxHeartbeats 4000000 in
set_option maxRecDepth 100000 in
theorem s_X10_readOrder {S : v_S} {F : v_F} (hS : p_SS S) (hF : p_FF F) (I : v_I) : f_X10_readOrder S I F 49 = h_X10_readOrder I := by
  unfold f_X10_readOrder h_X10_readOrder
  simp only [p_bs, s_X10_takes0 hS hF, p_obS hS (a := 49) (kd := 10) rfl, s_g_X10_readTest hS hF, s_X10_mustNumber hS hF, s_X10_must hS hF, s_X10_readOrder_J76 hS hF, s_X10_readOrder_J60 hS hF, s_X10_readOrder_J46 hS hF]

def h_X10_readOne (I : v_I) : Option (v_I) :=
if (I 49 10) = (0 : Int32) then (
(h_X10_readClause I).bind fun r_2 =>
some (r_2))
else (
(h_X10_readOrder I).bind fun r_4 =>
some (r_4))
set_option maxHeartbeats 4000000 in
set_option maxRecDepth 100000 in
theorem s_X10_readOne {S : v_S} {F : v_F} (hS : p_SS S) (hF : p_FF F) (I : v_I) : f_X10_readOne S I F 49 = h_X10_readOne I := by
  unfold f_X10_readOne h_X10_readOne
  simp only [p_bs, p_obS hS (a := 49) (kd := 10) rfl, s_X10_readClause hS hF, s_X10_readOrder hS hF]

def h_X10_isDigit (p0 : Int32) : Option (Int32) :=
if p0 < (48 : Int32) then (
some ((0 : Int32)))
else (
if (57 : Int32) < p0 then (
some ((0 : Int32)))
else (
some ((1 : Int32))))
set_option maxHeartbeats 4000000 in
set_option maxRecDepth 100000 in
theorem s_X10_isDigit (p0 : Int32) : f_X10_isDigit p0 = h_X10_isDigit p0 := by
  unfold f_X10_isDigit h_X10_isDigit
  simp only [p_bs]

def h_X10_isSmall (p0 : Int32) : Option (Int32) :=
if p0 < (97 : Int32) then (
some ((0 : Int32)))
else (
if (122 : Int32) < p0 then (
some ((0 : Int32)))
else (
some ((1 : Int32))))
set_option maxHeartbeats 4000000 in
set_option maxRecDepth 100000 in
theorem s_X10_isSmall (p0 : Int32) : f_X10_isSmall p0 = h_X10_isSmall p0 := by
  unfold f_X10_isSmall h_X10_isSmall
  simp only [p_bs]

def h_X10_wordOf_B18 (I : v_I) (w1 : Int32) (w2 : Int32) (w3 : Int32) (w4 : Int32) (s18 : Int32) : Option ((Int32) ⊕ (Int32)) :=
(p_in 123 (w4 + s18)).bind fun j_2 =>
if (I 55 j_2) = (32 : Int32) then (
some (.inr s18))
else (
p_let (s18 + (1 : Int32)) fun x_4 =>
some (.inl x_4))
set_option maxHeartbeats 4000000 in
set_option maxRecDepth 100000 in
theorem s_X10_wordOf_B18 {S : v_S} {F : v_F} (hS : p_SS S) (hF : p_FF F) (I : v_I) (w1 : Int32) (w2 : Int32) (w3 : Int32) (w4 : Int32) : f_X10_wordOf_B18 S I F 49 w1 w2 w3 w4 = h_X10_wordOf_B18 I w1 w2 w3 w4 := by
  funext s18
  unfold f_X10_wordOf_B18 h_X10_wordOf_B18
  simp only [p_bs, p_obS hS (a := 49) (kd := 10) rfl, p_FS hF (a := 49) (i := 7) (b := 55) (by decide), p_lenS hS (kd := 21) (a := 55) (n := 123) (x := (123 : Int32)) rfl (by decide), p_ixS hS (kd := 21) (a := 55) (n := 123) rfl, p_FS hF (a := 49) (i := 11) (b := 56) (by decide), p_ixS hS (kd := 21) (a := 56) (n := 400) rfl]
def h_X10_wordOf_J57_96 (I : v_I) (w1 : Int32) (w2 : Int32) (w3 : Int32) (w4 : Int32) (w5 : Int32) (y7 : Int32) (z0 : Int32) : Option ((Int32 × Int32) ⊕ (Int32 × Int32)) :=
p_let (y7 + (1 : Int32)) fun x_14 =>
some (.inl (z0, x_14))
set_option maxHeartbeats 4000000 in
set_option maxRecDepth 100000 in
theorem s_X10_wordOf_J57_96 {S : v_S} {F : v_F} (hS : p_SS S) (hF : p_FF F) (I : v_I) (w1 : Int32) (w2 : Int32) (w3 : Int32) (w4 : Int32) (w5 : Int32) (y7 : Int32) (z0 : Int32) : f_X10_wordOf_J57_96 S I F 49 w1 w2 w3 w4 w5 y7 z0 = h_X10_wordOf_J57_96 I w1 w2 w3 w4 w5 y7 z0 := by
  unfold f_X10_wordOf_J57_96 h_X10_wordOf_J57_96
  simp only [p_bs, p_obS hS (a := 49) (kd := 10) rfl, p_FS hF (a := 49) (i := 7) (b := 55) (by decide), p_lenS hS (kd := 21) (a := 55) (n := 123) (x := (123 : Int32)) rfl (by decide), p_ixS hS (kd := 21) (a := 55) (n := 123) rfl, p_FS hF (a := 49) (i := 11) (b := 56) (by decide), p_ixS hS (kd := 21) (a := 56) (n := 400) rfl, s_X10_wordOf_B18 hS hF]
def h_X10_wordOf_B57 (I : v_I) (w1 : Int32) (w2 : Int32) (w3 : Int32) (w4 : Int32) (w5 : Int32) (s57 : Int32 × Int32) : Option ((Int32 × Int32) ⊕ (Int32 × Int32)) :=
if w5 ≤ s57.2 then (
some (.inr (s57.1, s57.2)))
else (
if s57.1 = (0 : Int32) then (
some (.inr (s57.1, s57.2)))
else (
(p_in 123 (w4 + s57.2)).bind fun j_11 =>
(p_in 400 (w1 + s57.2)).bind fun j_12 =>
if (I 55 j_11) = (I 56 j_12) then (
h_X10_wordOf_J57_96 I w1 w2 w3 w4 w5 s57.2 (1 : Int32))
else (
h_X10_wordOf_J57_96 I w1 w2 w3 w4 w5 s57.2 (0 : Int32))))
set_option maxHeartbeats 4000000 in
set_option maxRecDepth 100000 in
theorem s_X10_wordOf_B57 {S : v_S} {F : v_F} (hS : p_SS S) (hF : p_FF F) (I : v_I) (w1 : Int32) (w2 : Int32) (w3 : Int32) (w4 : Int32) (w5 : Int32) : f_X10_wordOf_B57 S I F 49 w1 w2 w3 w4 w5 = h_X10_wordOf_B57 I w1 w2 w3 w4 w5 := by
  funext s57
  unfold f_X10_wordOf_B57 h_X10_wordOf_B57
  simp only [p_bs, p_obS hS (a := 49) (kd := 10) rfl, p_FS hF (a := 49) (i := 7) (b := 55) (by decide), p_lenS hS (kd := 21) (a := 55) (n := 123) (x := (123 : Int32)) rfl (by decide), p_ixS hS (kd := 21) (a := 55) (n := 123) rfl, p_FS hF (a := 49) (i := 11) (b := 56) (by decide), p_ixS hS (kd := 21) (a := 56) (n := 400) rfl, s_X10_wordOf_B18 hS hF, s_X10_wordOf_J57_96 hS hF]
def h_X10_wordOf_J5_104 (I : v_I) (w1 : Int32) (w2 : Int32) (y3 : Int32) (y4 : Int32) (y5 : Int32) (y6 : Int32) : Option ((Int32 × Int32) ⊕ (Nat × (Int32 × Int32))) :=
if y6 = (0 : Int32) then (
p_let (y4 + (y5 + (1 : Int32))) fun x_19 =>
p_let (y3 + (1 : Int32)) fun x_21 =>
some (.inl (x_21, x_19)))
else (
some (.inr (0, (y3, y4))))
set_option maxHeartbeats 4000000 in
set_option maxRecDepth 100000 in
theorem s_X10_wordOf_J5_104 {S : v_S} {F : v_F} (hS : p_SS S) (hF : p_FF F) (I : v_I) (w1 : Int32) (w2 : Int32) (y3 : Int32) (y4 : Int32) (y5 : Int32) (y6 : Int32) : f_X10_wordOf_J5_104 S I F 49 w1 w2 y3 y4 y5 y6 = h_X10_wordOf_J5_104 I w1 w2 y3 y4 y5 y6 := by
  unfold f_X10_wordOf_J5_104 h_X10_wordOf_J5_104
  simp only [p_bs, p_obS hS (a := 49) (kd := 10) rfl, p_FS hF (a := 49) (i := 7) (b := 55) (by decide), p_lenS hS (kd := 21) (a := 55) (n := 123) (x := (123 : Int32)) rfl (by decide), p_ixS hS (kd := 21) (a := 55) (n := 123) rfl, p_FS hF (a := 49) (i := 11) (b := 56) (by decide), p_ixS hS (kd := 21) (a := 56) (n := 400) rfl, s_X10_wordOf_B18 hS hF, s_X10_wordOf_J57_96 hS hF, s_X10_wordOf_B57 hS hF]
def h_X10_wordOf_J5_52 (I : v_I) (w1 : Int32) (w2 : Int32) (y3 : Int32) (y4 : Int32) (y5 : Int32) (z0 : Int32) : Option ((Int32 × Int32) ⊕ (Nat × (Int32 × Int32))) :=
(v_loop (h_X10_wordOf_B57 I w1 w2 y3 y4 y5) FU (z0, (0 : Int32))).bind fun q_16 =>
h_X10_wordOf_J5_104 I w1 w2 y3 y4 y5 q_16.1
set_option maxHeartbeats 4000000 in
set_option maxRecDepth 100000 in
theorem s_X10_wordOf_J5_52 {S : v_S} {F : v_F} (hS : p_SS S) (hF : p_FF F) (I : v_I) (w1 : Int32) (w2 : Int32) (y3 : Int32) (y4 : Int32) (y5 : Int32) (z0 : Int32) : f_X10_wordOf_J5_52 S I F 49 w1 w2 y3 y4 y5 z0 = h_X10_wordOf_J5_52 I w1 w2 y3 y4 y5 z0 := by
  unfold f_X10_wordOf_J5_52 h_X10_wordOf_J5_52
  simp only [p_bs, p_obS hS (a := 49) (kd := 10) rfl, p_FS hF (a := 49) (i := 7) (b := 55) (by decide), p_lenS hS (kd := 21) (a := 55) (n := 123) (x := (123 : Int32)) rfl (by decide), p_ixS hS (kd := 21) (a := 55) (n := 123) rfl, p_FS hF (a := 49) (i := 11) (b := 56) (by decide), p_ixS hS (kd := 21) (a := 56) (n := 400) rfl, s_X10_wordOf_B18 hS hF, s_X10_wordOf_J57_96 hS hF, s_X10_wordOf_B57 hS hF, s_X10_wordOf_J5_104 hS hF]
def h_X10_wordOf_B5 (I : v_I) (w1 : Int32) (w2 : Int32) (s5 : Int32 × Int32) : Option ((Int32 × Int32) ⊕ (Nat × (Int32 × Int32))) :=
if (123 : Int32) ≤ s5.2 then (
some (.inr (1, (s5.1, s5.2))))
else (
(v_loop (h_X10_wordOf_B18 I w1 w2 s5.1 s5.2) FU (0 : Int32)).bind fun q_6 =>
if q_6 = (w2 - w1) then (
h_X10_wordOf_J5_52 I w1 w2 s5.1 s5.2 q_6 (1 : Int32))
else (
h_X10_wordOf_J5_52 I w1 w2 s5.1 s5.2 q_6 (0 : Int32)))
set_option maxHeartbeats 4000000 in
set_option maxRecDepth 100000 in
theorem s_X10_wordOf_B5 {S : v_S} {F : v_F} (hS : p_SS S) (hF : p_FF F) (I : v_I) (w1 : Int32) (w2 : Int32) : f_X10_wordOf_B5 S I F 49 w1 w2 = h_X10_wordOf_B5 I w1 w2 := by
  funext s5
  unfold f_X10_wordOf_B5 h_X10_wordOf_B5
  simp only [p_bs, p_obS hS (a := 49) (kd := 10) rfl, p_FS hF (a := 49) (i := 7) (b := 55) (by decide), p_lenS hS (kd := 21) (a := 55) (n := 123) (x := (123 : Int32)) rfl (by decide), p_ixS hS (kd := 21) (a := 55) (n := 123) rfl, p_FS hF (a := 49) (i := 11) (b := 56) (by decide), p_ixS hS (kd := 21) (a := 56) (n := 400) rfl, s_X10_wordOf_B18 hS hF, s_X10_wordOf_J57_96 hS hF, s_X10_wordOf_B57 hS hF, s_X10_wordOf_J5_104 hS hF, s_X10_wordOf_J5_52 hS hF]
def h_X10_wordOf (I : v_I) (p1 : Int32) (p2 : Int32) : Option (Int32) :=
(v_loop (h_X10_wordOf_B5 I p1 p2) FU ((1 : Int32), (0 : Int32))).bind fun q_23 =>
if q_23.1 = 0 then (
some (q_23.2.1))
else (
some ((0 : Int32)))
set_option maxHeartbeats 4000000 in
set_option maxRecDepth 100000 in
theorem s_X10_wordOf {S : v_S} {F : v_F} (hS : p_SS S) (hF : p_FF F) (I : v_I) (p1 : Int32) (p2 : Int32) : f_X10_wordOf S I F 49 p1 p2 = h_X10_wordOf I p1 p2 := by
  unfold f_X10_wordOf h_X10_wordOf
  simp only [p_bs, p_obS hS (a := 49) (kd := 10) rfl, p_FS hF (a := 49) (i := 7) (b := 55) (by decide), p_lenS hS (kd := 21) (a := 55) (n := 123) (x := (123 : Int32)) rfl (by decide), p_ixS hS (kd := 21) (a := 55) (n := 123) rfl, p_FS hF (a := 49) (i := 11) (b := 56) (by decide), p_ixS hS (kd := 21) (a := 56) (n := 400) rfl, s_X10_wordOf_B18 hS hF, s_X10_wordOf_J57_96 hS hF, s_X10_wordOf_B57 hS hF, s_X10_wordOf_J5_104 hS hF, s_X10_wordOf_J5_52 hS hF, s_X10_wordOf_B5 hS hF]

def h_X10_splits_J169_240 (w1 : Int32) (w3 : Int32) (w4 : Int32) (I : v_I) (y5 : Int32) (z0 : Int32) (z1 : Int32) : Option ((Int32 × v_I) ⊕ (Int32 × v_I)) :=
(p_in 401 z1).bind fun j_39 =>
p_let (v_up I 59 j_39 z0) fun I_40 =>
p_let (y5 + (1 : Int32)) fun x_42 =>
some (.inl (x_42, I_40))
set_option maxHeartbeats 4000000 in
set_option maxRecDepth 100000 in
theorem s_X10_splits_J169_240 {S : v_S} {F : v_F} (hS : p_SS S) (hF : p_FF F) (w1 : Int32) (w3 : Int32) (w4 : Int32) (I : v_I) (y5 : Int32) (z0 : Int32) (z1 : Int32) : f_X10_splits_J169_240 S F 49 w1 w3 w4 I y5 z0 z1 59 = h_X10_splits_J169_240 w1 w3 w4 I y5 z0 z1 := by
  unfold f_X10_splits_J169_240 h_X10_splits_J169_240
  simp only [p_bs, p_obS hS (a := 49) (kd := 10) rfl, p_FS hF (a := 49) (i := 11) (b := 56) (by decide), p_ixS hS (kd := 21) (a := 56) (n := 400) rfl, s_X10_isSmall, s_X10_isDigit, p_FS hF (a := 49) (i := 17) (b := 60) (by decide), p_ixS hS (kd := 20) (a := 60) (n := 401) rfl, p_FS hF (a := 49) (i := 16) (b := 59) (by decide), p_ixS hS (kd := 20) (a := 59) (n := 401) rfl, p_FS hF (a := 49) (i := 15) (b := 58) (by decide), p_ixS hS (kd := 20) (a := 58) (n := 401) rfl, s_X10_wordOf hS hF]
def h_X10_splits_B169 (w1 : Int32) (w3 : Int32) (w4 : Int32) (s169 : Int32 × v_I) : Option ((Int32 × v_I) ⊕ (Int32 × v_I)) :=
if w4 ≤ s169.1 then (
some (.inr (s169.1, s169.2)))
else (
(h_X10_isDigit w3).bind fun r_32 =>
if r_32 = (0 : Int32) then (
some (.inr (s169.1, s169.2)))
else (
(p_in 401 (s169.2 49 18)).bind fun j_35 =>
if (s169.2 59 j_35) ≤ (1000000 : Int32) then (
(p_in 401 (s169.2 49 18)).bind fun j_37 =>
(p_in 400 s169.1).bind fun j_38 =>
h_X10_splits_J169_240 w1 w3 w4 s169.2 s169.1 ((((10 : Int32) * (s169.2 59 j_37)) + (s169.2 56 j_38)) - (48 : Int32)) (s169.2 49 18))
else (
(p_in 401 (s169.2 49 18)).bind fun j_44 =>
h_X10_splits_J169_240 w1 w3 w4 s169.2 s169.1 (s169.2 59 j_44) (s169.2 49 18))))
set_option maxHeartbeats 4000000 in
set_option maxRecDepth 100000 in
theorem s_X10_splits_B169 {S : v_S} {F : v_F} (hS : p_SS S) (hF : p_FF F) (w1 : Int32) (w3 : Int32) (w4 : Int32) : f_X10_splits_B169 S F 49 w1 w3 w4 = h_X10_splits_B169 w1 w3 w4 := by
  funext s169
  unfold f_X10_splits_B169 h_X10_splits_B169
  simp only [p_bs, p_obS hS (a := 49) (kd := 10) rfl, p_FS hF (a := 49) (i := 11) (b := 56) (by decide), p_ixS hS (kd := 21) (a := 56) (n := 400) rfl, s_X10_isSmall, s_X10_isDigit, p_FS hF (a := 49) (i := 17) (b := 60) (by decide), p_ixS hS (kd := 20) (a := 60) (n := 401) rfl, p_FS hF (a := 49) (i := 16) (b := 59) (by decide), p_ixS hS (kd := 20) (a := 59) (n := 401) rfl, p_FS hF (a := 49) (i := 15) (b := 58) (by decide), p_ixS hS (kd := 20) (a := 58) (n := 401) rfl, s_X10_wordOf hS hF, s_X10_splits_J169_240 hS hF]
def h_X10_splits_J7_247 (w1 : Int32) (I : v_I) (y4 : Int32) : Option ((Int32 × v_I) ⊕ (Int32 × v_I)) :=
p_let (v_up I 49 18 ((I 49 18) + (1 : Int32))) fun I_47 =>
some (.inl (y4, I_47))
set_option maxHeartbeats 4000000 in
set_option maxRecDepth 100000 in
theorem s_X10_splits_J7_247 {S : v_S} {F : v_F} (hS : p_SS S) (hF : p_FF F) (w1 : Int32) (I : v_I) (y4 : Int32) : f_X10_splits_J7_247 S F 49 w1 I y4 = h_X10_splits_J7_247 w1 I y4 := by
  unfold f_X10_splits_J7_247 h_X10_splits_J7_247
  simp only [p_bs, p_obS hS (a := 49) (kd := 10) rfl, p_FS hF (a := 49) (i := 11) (b := 56) (by decide), p_ixS hS (kd := 21) (a := 56) (n := 400) rfl, s_X10_isSmall, s_X10_isDigit, p_FS hF (a := 49) (i := 17) (b := 60) (by decide), p_ixS hS (kd := 20) (a := 60) (n := 401) rfl, p_FS hF (a := 49) (i := 16) (b := 59) (by decide), p_ixS hS (kd := 20) (a := 59) (n := 401) rfl, p_FS hF (a := 49) (i := 15) (b := 58) (by decide), p_ixS hS (kd := 20) (a := 58) (n := 401) rfl, s_X10_wordOf hS hF, s_X10_splits_J169_240 hS hF, s_X10_splits_B169 hS hF]
def h_X10_splits_J7_165 (w1 : Int32) (I : v_I) (y2 : Int32) (y3 : Int32) (y4 : Int32) (z0 : Int32) (z1 : Int32) : Option ((Int32 × v_I) ⊕ (Int32 × v_I)) :=
(p_in 401 z1).bind fun j_28 =>
p_let (v_up I 58 j_28 z0) fun I_29 =>
(v_loop (h_X10_splits_B169 w1 y3 y4) FU (y2, I_29)).bind fun q_45 =>
h_X10_splits_J7_247 w1 q_45.2 y4
set_option maxHeartbeats 4000000 in
set_option maxRecDepth 100000 in
theorem s_X10_splits_J7_165 {S : v_S} {F : v_F} (hS : p_SS S) (hF : p_FF F) (w1 : Int32) (I : v_I) (y2 : Int32) (y3 : Int32) (y4 : Int32) (z0 : Int32) (z1 : Int32) : f_X10_splits_J7_165 S F 49 w1 I y2 y3 y4 z0 z1 58 = h_X10_splits_J7_165 w1 I y2 y3 y4 z0 z1 := by
  unfold f_X10_splits_J7_165 h_X10_splits_J7_165
  simp only [p_bs, p_obS hS (a := 49) (kd := 10) rfl, p_FS hF (a := 49) (i := 11) (b := 56) (by decide), p_ixS hS (kd := 21) (a := 56) (n := 400) rfl, s_X10_isSmall, s_X10_isDigit, p_FS hF (a := 49) (i := 17) (b := 60) (by decide), p_ixS hS (kd := 20) (a := 60) (n := 401) rfl, p_FS hF (a := 49) (i := 16) (b := 59) (by decide), p_ixS hS (kd := 20) (a := 59) (n := 401) rfl, p_FS hF (a := 49) (i := 15) (b := 58) (by decide), p_ixS hS (kd := 20) (a := 58) (n := 401) rfl, s_X10_wordOf hS hF, s_X10_splits_J169_240 hS hF, s_X10_splits_B169 hS hF, s_X10_splits_J7_247 hS hF]
def h_X10_splits_J7_100 (w1 : Int32) (I : v_I) (y2 : Int32) (y3 : Int32) (y4 : Int32) : Option ((Int32 × v_I) ⊕ (Int32 × v_I)) :=
(p_in 401 (I 49 18)).bind fun j_16 =>
p_let (v_up I 60 j_16 y2) fun I_17 =>
(p_in 401 (I_17 49 18)).bind fun j_19 =>
p_let (v_up I_17 59 j_19 (0 : Int32)) fun I_20 =>
(h_X10_isSmall y3).bind fun r_22 =>
if r_22 = (0 : Int32) then (
(h_X10_isDigit y3).bind fun r_25 =>
if r_25 = (0 : Int32) then (
h_X10_splits_J7_165 w1 I_20 y2 y3 y4 ((100 : Int32) + (y3 &&& (255 : Int32))) (I_20 49 18))
else (
h_X10_splits_J7_165 w1 I_20 y2 y3 y4 (50 : Int32) (I_20 49 18)))
else (
(h_X10_wordOf I_20 y2 y4).bind fun r_49 =>
h_X10_splits_J7_165 w1 I_20 y2 y3 y4 r_49 (I_20 49 18))
set_option maxHeartbeats 4000000 in
set_option maxRecDepth 100000 in
theorem s_X10_splits_J7_100 {S : v_S} {F : v_F} (hS : p_SS S) (hF : p_FF F) (w1 : Int32) (I : v_I) (y2 : Int32) (y3 : Int32) (y4 : Int32) : f_X10_splits_J7_100 S F 49 w1 I y2 y3 y4 = h_X10_splits_J7_100 w1 I y2 y3 y4 := by
  unfold f_X10_splits_J7_100 h_X10_splits_J7_100
  simp only [p_bs, p_obS hS (a := 49) (kd := 10) rfl, p_FS hF (a := 49) (i := 11) (b := 56) (by decide), p_ixS hS (kd := 21) (a := 56) (n := 400) rfl, s_X10_isSmall, s_X10_isDigit, p_FS hF (a := 49) (i := 17) (b := 60) (by decide), p_ixS hS (kd := 20) (a := 60) (n := 401) rfl, p_FS hF (a := 49) (i := 16) (b := 59) (by decide), p_ixS hS (kd := 20) (a := 59) (n := 401) rfl, p_FS hF (a := 49) (i := 15) (b := 58) (by decide), p_ixS hS (kd := 20) (a := 58) (n := 401) rfl, s_X10_wordOf hS hF, s_X10_splits_J169_240 hS hF, s_X10_splits_B169 hS hF, s_X10_splits_J7_247 hS hF, s_X10_splits_J7_165 hS hF]
def h_X10_splits_B75 (I : v_I) (w1 : Int32) (w2 : Int32) (w3 : Int32) (s75 : Int32) : Option ((Int32) ⊕ (Int32)) :=
if w1 ≤ s75 then (
some (.inr s75))
else (
(p_in 400 s75).bind fun j_52 =>
(h_X10_isDigit (I 56 j_52)).bind fun r_53 =>
if r_53 = (0 : Int32) then (
some (.inr s75))
else (
p_let (s75 + (1 : Int32)) fun x_56 =>
some (.inl x_56)))
set_option maxHeartbeats 4000000 in
set_option maxRecDepth 100000 in
theorem s_X10_splits_B75 {S : v_S} {F : v_F} (hS : p_SS S) (hF : p_FF F) (I : v_I) (w1 : Int32) (w2 : Int32) (w3 : Int32) : f_X10_splits_B75 S F I 49 w1 w2 w3 = h_X10_splits_B75 I w1 w2 w3 := by
  funext s75
  unfold f_X10_splits_B75 h_X10_splits_B75
  simp only [p_bs, p_obS hS (a := 49) (kd := 10) rfl, p_FS hF (a := 49) (i := 11) (b := 56) (by decide), p_ixS hS (kd := 21) (a := 56) (n := 400) rfl, s_X10_isSmall, s_X10_isDigit, p_FS hF (a := 49) (i := 17) (b := 60) (by decide), p_ixS hS (kd := 20) (a := 60) (n := 401) rfl, p_FS hF (a := 49) (i := 16) (b := 59) (by decide), p_ixS hS (kd := 20) (a := 59) (n := 401) rfl, p_FS hF (a := 49) (i := 15) (b := 58) (by decide), p_ixS hS (kd := 20) (a := 58) (n := 401) rfl, s_X10_wordOf hS hF, s_X10_splits_J169_240 hS hF, s_X10_splits_B169 hS hF, s_X10_splits_J7_247 hS hF, s_X10_splits_J7_165 hS hF, s_X10_splits_J7_100 hS hF]
def h_X10_splits_J7_68 (w1 : Int32) (I : v_I) (y2 : Int32) (y3 : Int32) (y4 : Int32) : Option ((Int32 × v_I) ⊕ (Int32 × v_I)) :=
(h_X10_isDigit y3).bind fun r_13 =>
if r_13 = (0 : Int32) then (
h_X10_splits_J7_100 w1 I y2 y3 y4)
else (
(v_loop (h_X10_splits_B75 I w1 y2 y3) FU y4).bind fun q_58 =>
h_X10_splits_J7_100 w1 I y2 y3 q_58)
set_option maxHeartbeats 4000000 in
set_option maxRecDepth 100000 in
theorem s_X10_splits_J7_68 {S : v_S} {F : v_F} (hS : p_SS S) (hF : p_FF F) (w1 : Int32) (I : v_I) (y2 : Int32) (y3 : Int32) (y4 : Int32) : f_X10_splits_J7_68 S F 49 w1 I y2 y3 y4 = h_X10_splits_J7_68 w1 I y2 y3 y4 := by
  unfold f_X10_splits_J7_68 h_X10_splits_J7_68
  simp only [p_bs, p_obS hS (a := 49) (kd := 10) rfl, p_FS hF (a := 49) (i := 11) (b := 56) (by decide), p_ixS hS (kd := 21) (a := 56) (n := 400) rfl, s_X10_isSmall, s_X10_isDigit, p_FS hF (a := 49) (i := 17) (b := 60) (by decide), p_ixS hS (kd := 20) (a := 60) (n := 401) rfl, p_FS hF (a := 49) (i := 16) (b := 59) (by decide), p_ixS hS (kd := 20) (a := 59) (n := 401) rfl, p_FS hF (a := 49) (i := 15) (b := 58) (by decide), p_ixS hS (kd := 20) (a := 58) (n := 401) rfl, s_X10_wordOf hS hF, s_X10_splits_J169_240 hS hF, s_X10_splits_B169 hS hF, s_X10_splits_J7_247 hS hF, s_X10_splits_J7_165 hS hF, s_X10_splits_J7_100 hS hF, s_X10_splits_B75 hS hF]
def h_X10_splits_B43 (I : v_I) (w1 : Int32) (w2 : Int32) (w3 : Int32) (s43 : Int32) : Option ((Int32) ⊕ (Int32)) :=
if w1 ≤ s43 then (
some (.inr s43))
else (
(p_in 400 s43).bind fun j_61 =>
(h_X10_isSmall (I 56 j_61)).bind fun r_62 =>
if r_62 = (0 : Int32) then (
some (.inr s43))
else (
p_let (s43 + (1 : Int32)) fun x_65 =>
some (.inl x_65)))
set_option maxHeartbeats 4000000 in
set_option maxRecDepth 100000 in
theorem s_X10_splits_B43 {S : v_S} {F : v_F} (hS : p_SS S) (hF : p_FF F) (I : v_I) (w1 : Int32) (w2 : Int32) (w3 : Int32) : f_X10_splits_B43 S F I 49 w1 w2 w3 = h_X10_splits_B43 I w1 w2 w3 := by
  funext s43
  unfold f_X10_splits_B43 h_X10_splits_B43
  simp only [p_bs, p_obS hS (a := 49) (kd := 10) rfl, p_FS hF (a := 49) (i := 11) (b := 56) (by decide), p_ixS hS (kd := 21) (a := 56) (n := 400) rfl, s_X10_isSmall, s_X10_isDigit, p_FS hF (a := 49) (i := 17) (b := 60) (by decide), p_ixS hS (kd := 20) (a := 60) (n := 401) rfl, p_FS hF (a := 49) (i := 16) (b := 59) (by decide), p_ixS hS (kd := 20) (a := 59) (n := 401) rfl, p_FS hF (a := 49) (i := 15) (b := 58) (by decide), p_ixS hS (kd := 20) (a := 58) (n := 401) rfl, s_X10_wordOf hS hF, s_X10_splits_J169_240 hS hF, s_X10_splits_B169 hS hF, s_X10_splits_J7_247 hS hF, s_X10_splits_J7_165 hS hF, s_X10_splits_J7_100 hS hF, s_X10_splits_B75 hS hF, s_X10_splits_J7_68 hS hF]
def h_X10_splits_B7 (w1 : Int32) (s7 : Int32 × v_I) : Option ((Int32 × v_I) ⊕ (Int32 × v_I)) :=
if w1 ≤ s7.1 then (
some (.inr (s7.1, s7.2)))
else (
(p_in 400 s7.1).bind fun j_4 =>
p_let (s7.2 56 j_4) fun x_5 =>
if x_5 = (32 : Int32) then (
p_let (s7.1 + (1 : Int32)) fun x_69 =>
some (.inl (x_69, s7.2)))
else (
p_let (s7.1 + (1 : Int32)) fun x_8 =>
(h_X10_isSmall x_5).bind fun r_10 =>
if r_10 = (0 : Int32) then (
h_X10_splits_J7_68 w1 s7.2 s7.1 x_5 x_8)
else (
(v_loop (h_X10_splits_B43 s7.2 w1 s7.1 x_5) FU x_8).bind fun q_67 =>
h_X10_splits_J7_68 w1 s7.2 s7.1 x_5 q_67)))
set_option maxHeartbeats 4000000 in
set_option maxRecDepth 100000 in
theorem s_X10_splits_B7 {S : v_S} {F : v_F} (hS : p_SS S) (hF : p_FF F) (w1 : Int32) : f_X10_splits_B7 S F 49 w1 = h_X10_splits_B7 w1 := by
  funext s7
  unfold f_X10_splits_B7 h_X10_splits_B7
  simp only [p_bs, p_obS hS (a := 49) (kd := 10) rfl, p_FS hF (a := 49) (i := 11) (b := 56) (by decide), p_ixS hS (kd := 21) (a := 56) (n := 400) rfl, s_X10_isSmall, s_X10_isDigit, p_FS hF (a := 49) (i := 17) (b := 60) (by decide), p_ixS hS (kd := 20) (a := 60) (n := 401) rfl, p_FS hF (a := 49) (i := 16) (b := 59) (by decide), p_ixS hS (kd := 20) (a := 59) (n := 401) rfl, p_FS hF (a := 49) (i := 15) (b := 58) (by decide), p_ixS hS (kd := 20) (a := 58) (n := 401) rfl, s_X10_wordOf hS hF, s_X10_splits_J169_240 hS hF, s_X10_splits_B169 hS hF, s_X10_splits_J7_247 hS hF, s_X10_splits_J7_165 hS hF, s_X10_splits_J7_100 hS hF, s_X10_splits_B75 hS hF, s_X10_splits_J7_68 hS hF, s_X10_splits_B43 hS hF]
def h_X10_splits (I : v_I) (p1 : Int32) : Option (v_I) :=
p_let (v_up I 49 18 (0 : Int32)) fun I_1 =>
(v_loop (h_X10_splits_B7 p1) FU ((0 : Int32), I_1)).bind fun q_71 =>
(p_in 401 (q_71.2 49 18)).bind fun j_73 =>
p_let (v_up q_71.2 60 j_73 p1) fun I_74 =>
(p_in 401 (I_74 49 18)).bind fun j_76 =>
p_let (v_up I_74 58 j_76 (0 : Int32)) fun I_77 =>
(p_in 401 (I_77 49 18)).bind fun j_79 =>
p_let (v_up I_77 59 j_79 (0 : Int32)) fun I_80 =>
some (I_80)
set_option maxHeartbeats 4000000 in
set_option maxRecDepth 100000 in
theorem s_X10_splits {S : v_S} {F : v_F} (hS : p_SS S) (hF : p_FF F) (I : v_I) (p1 : Int32) : f_X10_splits S I F 49 p1 = h_X10_splits I p1 := by
  unfold f_X10_splits h_X10_splits
  simp only [p_bs, p_obS hS (a := 49) (kd := 10) rfl, p_FS hF (a := 49) (i := 11) (b := 56) (by decide), p_ixS hS (kd := 21) (a := 56) (n := 400) rfl, s_X10_isSmall, s_X10_isDigit, p_FS hF (a := 49) (i := 17) (b := 60) (by decide), p_ixS hS (kd := 20) (a := 60) (n := 401) rfl, p_FS hF (a := 49) (i := 16) (b := 59) (by decide), p_ixS hS (kd := 20) (a := 59) (n := 401) rfl, p_FS hF (a := 49) (i := 15) (b := 58) (by decide), p_ixS hS (kd := 20) (a := 58) (n := 401) rfl, s_X10_wordOf hS hF, s_X10_splits_J169_240 hS hF, s_X10_splits_B169 hS hF, s_X10_splits_J7_247 hS hF, s_X10_splits_J7_165 hS hF, s_X10_splits_J7_100 hS hF, s_X10_splits_B75 hS hF, s_X10_splits_J7_68 hS hF, s_X10_splits_B43 hS hF, s_X10_splits_B7 hS hF]

end sp01
