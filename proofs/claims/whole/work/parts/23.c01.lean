noncomputable section sc01
def h_X0_setTerm (S : v_S) (I : v_I) (F : v_F) (p1 : Int32) (p2 : Int32) : Option (v_I) :=
if p1 = (0 : Int32) then (
p_let (v_up I 2 1 p2) fun I_1 =>
some (I_1))
else if p1 = (1 : Int32) then (
p_let (v_up I 1 4 p2) fun I_3 =>
some (I_3))
else if p1 = (2 : Int32) then (
p_let (v_up I 1 5 p2) fun I_5 =>
some (I_5))
else if p1 = (3 : Int32) then (
p_let (v_up I 1 6 p2) fun I_7 =>
some (I_7))
else (
some (I))
set_option maxHeartbeats 4000000 in
set_option maxRecDepth 100000 in
theorem s_X0_setTerm {S : v_S} {F : v_F} (hS : p_SS S) (hF : p_FF F) (I : v_I) (p1 : Int32) (p2 : Int32) : f_X0_setTerm S I F 1 p1 p2 = h_X0_setTerm S I F p1 p2 := by
  unfold f_X0_setTerm h_X0_setTerm
  simp only [p_bs, p_obS hS (a := 1) (kd := 0) rfl, p_FS hF (a := 1) (i := 1) (b := 2) (by decide), p_obS hS (a := 2) (kd := 3) rfl]

def h_X0_term (S : v_S) (I : v_I) (F : v_F) (p1 : Int32) : Option (Int32) :=
if p1 = (0 : Int32) then (
some (I 2 1))
else if p1 = (1 : Int32) then (
some (I 1 4))
else if p1 = (2 : Int32) then (
some (I 1 5))
else if p1 = (3 : Int32) then (
some (I 1 6))
else (
some ((-1 : Int32)))
set_option maxHeartbeats 4000000 in
set_option maxRecDepth 100000 in
theorem s_X0_term {S : v_S} {F : v_F} (hS : p_SS S) (hF : p_FF F) (I : v_I) (p1 : Int32) : f_X0_term S I F 1 p1 = h_X0_term S I F p1 := by
  unfold f_X0_term h_X0_term
  simp only [p_bs, p_obS hS (a := 1) (kd := 0) rfl, p_FS hF (a := 1) (i := 1) (b := 2) (by decide), p_obS hS (a := 2) (kd := 3) rfl]

def h_X9_terms_J22 (S : v_S) (F : v_F) (I : v_I) : Option (Int32 × v_I) :=
(h_X9_refuse S I F (-1 : Int32)).bind fun r_4 =>
some (r_4.1, r_4.2)
set_option maxHeartbeats 4000000 in
set_option maxRecDepth 100000 in
theorem s_X9_terms_J22 {S : v_S} {F : v_F} (hS : p_SS S) (hF : p_FF F) (I : v_I) : f_X9_terms_J22 S F I 0 = h_X9_terms_J22 S F I := by
  unfold f_X9_terms_J22 h_X9_terms_J22
  simp only [p_bs, s_X9_isUpTo, s_X9_refuse hS hF, p_obS hS (a := 0) (kd := 9) rfl, p_FS hF (a := 0) (i := 0) (b := 1) (by decide), s_X0_term hS hF, p_obS hS (a := 1) (kd := 0) rfl, s_X0_setTerm hS hF, p_FS hF (a := 0) (i := 2) (b := 11) (by decide), s_X4_clear hS hF, p_obS hS (a := 11) (kd := 4) rfl, s_X9_accept hS hF]
def h_X9_terms (S : v_S) (I : v_I) (F : v_F) (p1 : Int32) (p2 : Int32) : Option (Int32 × v_I) :=
(h_X9_isUpTo p1.toInt64 (3 : Int32)).bind fun r_1 =>
if r_1 = (0 : Int32) then (
h_X9_terms_J22 S F I)
else (
(p_mt p1).bind fun x_6 =>
(h_X9_isUpTo p2.toInt64 x_6).bind fun r_8 =>
if r_8 = (0 : Int32) then (
h_X9_terms_J22 S F I)
else (
(h_X0_term S I F p1).bind fun r_11 =>
(h_X0_setTerm S I F p1 p2).bind fun r_13 =>
(h_X4_clear S r_13).bind fun r_15 =>
(h_X9_accept S r_15 r_11).bind fun r_17 =>
some (r_17.1, r_17.2)))
set_option maxHeartbeats 4000000 in
set_option maxRecDepth 100000 in
theorem s_X9_terms {S : v_S} {F : v_F} (hS : p_SS S) (hF : p_FF F) (I : v_I) (p1 : Int32) (p2 : Int32) : f_X9_terms S I F 0 p1 p2 = h_X9_terms S I F p1 p2 := by
  unfold f_X9_terms h_X9_terms
  simp only [p_bs, s_X9_isUpTo, s_X9_refuse hS hF, p_obS hS (a := 0) (kd := 9) rfl, p_FS hF (a := 0) (i := 0) (b := 1) (by decide), s_X0_term hS hF, p_obS hS (a := 1) (kd := 0) rfl, s_X0_setTerm hS hF, p_FS hF (a := 0) (i := 2) (b := 11) (by decide), s_X4_clear hS hF, p_obS hS (a := 11) (kd := 4) rfl, s_X9_accept hS hF, s_X9_terms_J22 hS hF]

def h_X9_putFour_B3 (S : v_S) (F : v_F) (w1 : Int32) (s3 : Int32 × v_I) : Option ((Int32 × v_I) ⊕ (Int32 × v_I)) :=
if s3.1 < (0 : Int32) then (
some (.inr (s3.1, s3.2)))
else (
if (400 : Int32) ≤ (s3.2 0 8) then (
some (.inr (s3.1, s3.2)))
else (
(p_in 400 (s3.2 0 8)).bind fun j_3 =>
p_let (v_up s3.2 29 j_3 ((w1 >>> (s3.1 &&& 31)) &&& (255 : Int32))) fun I_4 =>
p_let (v_up I_4 0 8 ((I_4 0 8) + (1 : Int32))) fun I_6 =>
p_let (s3.1 + (-8 : Int32)) fun x_8 =>
some (.inl (x_8, I_6))))
set_option maxHeartbeats 4000000 in
set_option maxRecDepth 100000 in
theorem s_X9_putFour_B3 {S : v_S} {F : v_F} (hS : p_SS S) (hF : p_FF F) (w1 : Int32) : f_X9_putFour_B3 S F 0 w1 = h_X9_putFour_B3 S F w1 := by
  funext s3
  unfold f_X9_putFour_B3 h_X9_putFour_B3
  simp only [p_bs, p_obS hS (a := 0) (kd := 9) rfl, p_FS hF (a := 0) (i := 7) (b := 29) (by decide), p_ixS hS (kd := 20) (a := 29) (n := 400) rfl]
def h_X9_putFour (S : v_S) (I : v_I) (F : v_F) (p1 : Int32) : Option (v_I) :=
(v_loop (h_X9_putFour_B3 S F p1) FU ((24 : Int32), I)).bind fun q_10 =>
some (q_10.2)
set_option maxHeartbeats 4000000 in
set_option maxRecDepth 100000 in
theorem s_X9_putFour {S : v_S} {F : v_F} (hS : p_SS S) (hF : p_FF F) (I : v_I) (p1 : Int32) : f_X9_putFour S I F 0 p1 = h_X9_putFour S I F p1 := by
  unfold f_X9_putFour h_X9_putFour
  simp only [p_bs, p_obS hS (a := 0) (kd := 9) rfl, p_FS hF (a := 0) (i := 7) (b := 29) (by decide), p_ixS hS (kd := 20) (a := 29) (n := 400) rfl, s_X9_putFour_B3 hS hF]

def h_X9_feed (S : v_S) (I : v_I) (F : v_F) (p1 : Int32) (p2 : Int32) (p3 : Int32) (p4 : Int32) (p5 : Int32) : Option (Int32 × v_I) :=
if ((I 0 8) + (20 : Int32)) ≤ (400 : Int32) then (
(h_X9_putFour S I F p1).bind fun r_2 =>
(h_X9_putFour S r_2 F p2).bind fun r_4 =>
(h_X9_putFour S r_4 F p3).bind fun r_6 =>
(h_X9_putFour S r_6 F p4).bind fun r_8 =>
(h_X9_putFour S r_8 F p5).bind fun r_10 =>
some (r_10 0 8, r_10))
else (
some ((-1 : Int32), I))
set_option maxHeartbeats 4000000 in
set_option maxRecDepth 100000 in
theorem s_X9_feed {S : v_S} {F : v_F} (hS : p_SS S) (hF : p_FF F) (I : v_I) (p1 : Int32) (p2 : Int32) (p3 : Int32) (p4 : Int32) (p5 : Int32) : f_X9_feed S I F 0 p1 p2 p3 p4 p5 = h_X9_feed S I F p1 p2 p3 p4 p5 := by
  unfold f_X9_feed h_X9_feed
  simp only [p_bs, p_obS hS (a := 0) (kd := 9) rfl, s_X9_putFour hS hF]

def h_X9_end (S : v_S) (I : v_I) (p1 : Int32) : Option (Int32 × v_I) :=
(h_X9_isUpTo p1.toInt64 (I 0 8)).bind fun r_1 =>
if r_1 = (0 : Int32) then (
some ((-1 : Int32), I))
else (
p_let (v_up I 0 8 p1) fun I_4 =>
some (p1, I_4))
set_option maxHeartbeats 4000000 in
set_option maxRecDepth 100000 in
theorem s_X9_end {S : v_S} {F : v_F} (hS : p_SS S) (hF : p_FF F) (I : v_I) (p1 : Int32) : f_X9_end S I 0 p1 = h_X9_end S I p1 := by
  unfold f_X9_end h_X9_end
  simp only [p_bs, p_obS hS (a := 0) (kd := 9) rfl, s_X9_isUpTo]

def h_X0_everyone (S : v_S) (I : v_I) : Option (Int32) :=
some (((1 : Int32) <<< ((I 1 0) &&& 31)) - (1 : Int32))
set_option maxHeartbeats 4000000 in
set_option maxRecDepth 100000 in
theorem s_X0_everyone {S : v_S} {F : v_F} (hS : p_SS S) (hF : p_FF F) (I : v_I) : f_X0_everyone S I 1 = h_X0_everyone S I := by
  unfold f_X0_everyone h_X0_everyone
  simp only [p_bs, p_obS hS (a := 1) (kd := 0) rfl]

def h_X9_addFromTape (S : v_S) (I : v_I) (F : v_F) (p1 : Int32) : Option (Int32 × v_I) :=
if p1 < (0 : Int32) then (
some ((0 : Int32), I))
else (
if (I 0 8) < (p1 + (3 : Int32)) then (
some ((0 : Int32), I))
else (
if (400 : Int32) < (p1 + (3 : Int32)) then (
some ((0 : Int32), I))
else (
if (I 1 0) < (8 : Int32) then (
(p_in 400 p1).bind fun j_5 =>
p_let (I 29 j_5) fun x_6 =>
(p_in 400 (p1 + (1 : Int32))).bind fun j_8 =>
p_let (I 29 j_8) fun x_9 =>
(p_in 400 (p1 + (2 : Int32))).bind fun j_11 =>
p_let (I 29 j_11) fun x_12 =>
(h_X9_isUpTo x_6.toInt64 (9 : Int32)).bind fun r_14 =>
if r_14 = (0 : Int32) then (
some ((0 : Int32), I))
else (
(h_X9_isUpTo x_9.toInt64 (9 : Int32)).bind fun r_17 =>
if r_17 = (0 : Int32) then (
some ((0 : Int32), I))
else (
(h_X0_everyone S I).bind fun r_20 =>
(h_X9_isUpTo x_12.toInt64 r_20).bind fun r_22 =>
if r_22 = (0 : Int32) then (
some ((0 : Int32), I))
else (
(h_X0_add S I F x_6 x_9 x_12).bind fun r_25 =>
some ((1 : Int32), r_25.2)))))
else (
some ((0 : Int32), I)))))
set_option maxHeartbeats 4000000 in
set_option maxRecDepth 100000 in
theorem s_X9_addFromTape {S : v_S} {F : v_F} (hS : p_SS S) (hF : p_FF F) (I : v_I) (p1 : Int32) : f_X9_addFromTape S I F 0 p1 = h_X9_addFromTape S I F p1 := by
  unfold f_X9_addFromTape h_X9_addFromTape
  simp only [p_bs, p_obS hS (a := 0) (kd := 9) rfl, p_FS hF (a := 0) (i := 0) (b := 1) (by decide), p_obS hS (a := 1) (kd := 0) rfl, p_FS hF (a := 0) (i := 7) (b := 29) (by decide), p_ixS hS (kd := 20) (a := 29) (n := 400) rfl, s_X9_isUpTo, s_X0_everyone hS hF, s_X0_add hS hF]

def h_X9_row_J20_45 (S : v_S) (F : v_F) (I : v_I) (y1 : Int32) (y2 : Int32) (y3 : Int32) : Option ((Int32 × Int32 × Int32 × v_I) ⊕ (Int32 × Int32 × Int32 × v_I)) :=
p_let (y3 + (3 : Int32)) fun x_8 =>
some (.inl (y1, y2, x_8, I))
set_option maxHeartbeats 4000000 in
set_option maxRecDepth 100000 in
theorem s_X9_row_J20_45 {S : v_S} {F : v_F} (hS : p_SS S) (hF : p_FF F) (I : v_I) (y1 : Int32) (y2 : Int32) (y3 : Int32) : f_X9_row_J20_45 S F 0 I y1 y2 y3 = h_X9_row_J20_45 S F I y1 y2 y3 := by
  unfold f_X9_row_J20_45 h_X9_row_J20_45
  simp only [p_bs, p_obS hS (a := 0) (kd := 9) rfl, s_X9_addFromTape hS hF, p_FS hF (a := 0) (i := 2) (b := 11) (by decide), s_X4_clear hS hF, p_obS hS (a := 11) (kd := 4) rfl, s_X9_accept hS hF, s_X9_refuse hS hF]
def h_X9_row_B20 (S : v_S) (F : v_F) (s20 : Int32 × Int32 × Int32 × v_I) : Option ((Int32 × Int32 × Int32 × v_I) ⊕ (Int32 × Int32 × Int32 × v_I)) :=
if (s20.2.2.2 0 8) ≤ s20.2.2.1 then (
some (.inr (s20.1, s20.2.1, s20.2.2.1, s20.2.2.2)))
else (
(h_X9_addFromTape S s20.2.2.2 F s20.2.2.1).bind fun r_3 =>
if r_3.1 = (0 : Int32) then (
p_let (s20.2.1 + (1 : Int32)) fun x_6 =>
h_X9_row_J20_45 S F r_3.2 s20.1 x_6 s20.2.2.1)
else (
p_let (s20.1 + (1 : Int32)) fun x_10 =>
h_X9_row_J20_45 S F r_3.2 x_10 s20.2.1 s20.2.2.1))
set_option maxHeartbeats 4000000 in
set_option maxRecDepth 100000 in
theorem s_X9_row_B20 {S : v_S} {F : v_F} (hS : p_SS S) (hF : p_FF F)  : f_X9_row_B20 S F 0 = h_X9_row_B20 S F := by
  funext s20
  unfold f_X9_row_B20 h_X9_row_B20
  simp only [p_bs, p_obS hS (a := 0) (kd := 9) rfl, s_X9_addFromTape hS hF, p_FS hF (a := 0) (i := 2) (b := 11) (by decide), s_X4_clear hS hF, p_obS hS (a := 11) (kd := 4) rfl, s_X9_accept hS hF, s_X9_refuse hS hF, s_X9_row_J20_45 hS hF]
def h_X9_row (S : v_S) (I : v_I) (F : v_F) : Option (Int32 × v_I) :=
if (I 0 8) = (0 : Int32) then (
(h_X9_refuse S I F (-6 : Int32)).bind fun r_22 =>
some (r_22.1, r_22.2))
else (
(v_loop (h_X9_row_B20 S F) FU ((0 : Int32), (0 : Int32), (0 : Int32), I)).bind fun q_12 =>
p_let (v_up q_12.2.2.2 0 8 (0 : Int32)) fun I_14 =>
p_let (v_up I_14 0 15 q_12.2.1) fun I_16 =>
(h_X4_clear S I_16).bind fun r_18 =>
(h_X9_accept S r_18 q_12.1).bind fun r_20 =>
some (r_20.1, r_20.2))
set_option maxHeartbeats 4000000 in
set_option maxRecDepth 100000 in
theorem s_X9_row {S : v_S} {F : v_F} (hS : p_SS S) (hF : p_FF F) (I : v_I) : f_X9_row S I F 0 = h_X9_row S I F := by
  unfold f_X9_row h_X9_row
  simp only [p_bs, p_obS hS (a := 0) (kd := 9) rfl, s_X9_addFromTape hS hF, p_FS hF (a := 0) (i := 2) (b := 11) (by decide), s_X4_clear hS hF, p_obS hS (a := 11) (kd := 4) rfl, s_X9_accept hS hF, s_X9_refuse hS hF, s_X9_row_J20_45 hS hF, s_X9_row_B20 hS hF]

def h_X9_burrs (S : v_S) (I : v_I) : Option (Int32) :=
some (I 0 15)
set_option maxHeartbeats 4000000 in
set_option maxRecDepth 100000 in
theorem s_X9_burrs {S : v_S} {F : v_F} (hS : p_SS S) (hF : p_FF F) (I : v_I) : f_X9_burrs S I 0 = h_X9_burrs S I := by
  unfold f_X9_burrs h_X9_burrs
  simp only [p_bs, p_obS hS (a := 0) (kd := 9) rfl]

def h_X0_addLaw (S : v_S) (I : v_I) (F : v_F) (p1 : Nat) : Option (Int32 × v_I × v_F) :=
p_let (I 1 10) fun x_1 =>
if x_1 < (6 : Int32) then (
(p_in 6 x_1).bind fun j_4 =>
(p_oq S 8 (some p1)).bind fun _ =>
p_let (v_up F 9 j_4 (some p1)) fun F_6 =>
p_let (v_up I 1 10 ((I 1 10) + (1 : Int32))) fun I_8 =>
some (x_1, I_8, F_6))
else (
some ((-1 : Int32), I, F))
set_option maxHeartbeats 4000000 in
set_option maxRecDepth 100000 in
theorem s_X0_addLaw {S : v_S} {F : v_F} (hS : p_SS S) (hF : p_FF F) (I : v_I) (p1 : Nat) : f_X0_addLaw S I F 1 p1 = h_X0_addLaw S I F p1 := by
  unfold f_X0_addLaw h_X0_addLaw
  simp only [p_bs, p_obS hS (a := 1) (kd := 0) rfl, p_FS hF (a := 1) (i := 11) (b := 9) (by decide), p_ixS hS (kd := 24) (a := 9) (n := 6) rfl]

def h_X6_faultHere (S : v_S) (I : v_I) (F : v_F) : Option (Int32 × v_I) :=
(p_in 401 (I 30 4)).bind fun j_1 =>
p_let (v_up I 30 9 (I 39 j_1)) fun I_2 =>
some ((0 : Int32), I_2)
set_option maxHeartbeats 4000000 in
set_option maxRecDepth 100000 in
theorem s_X6_faultHere {S : v_S} {F : v_F} (hS : p_SS S) (hF : p_FF F) (I : v_I) : f_X6_faultHere S I F 30 = h_X6_faultHere S I F := by
  unfold f_X6_faultHere h_X6_faultHere
  simp only [p_bs, p_obS hS (a := 30) (kd := 6) rfl, p_FS hF (a := 30) (i := 2) (b := 39) (by decide), p_ixS hS (kd := 20) (a := 39) (n := 401) rfl]

def h_X6_nextToken_J21 (S : v_S) (F : v_F) (I : v_I) : Option (v_I) :=
(p_in 401 (I 30 4)).bind fun j_2 =>
p_let (v_up I 30 5 (I 38 j_2)) fun I_3 =>
some (I_3)
set_option maxHeartbeats 4000000 in
set_option maxRecDepth 100000 in
theorem s_X6_nextToken_J21 {S : v_S} {F : v_F} (hS : p_SS S) (hF : p_FF F) (I : v_I) : f_X6_nextToken_J21 S F I 30 = h_X6_nextToken_J21 S F I := by
  unfold f_X6_nextToken_J21 h_X6_nextToken_J21
  simp only [p_bs, p_obS hS (a := 30) (kd := 6) rfl, p_FS hF (a := 30) (i := 1) (b := 38) (by decide), p_ixS hS (kd := 20) (a := 38) (n := 401) rfl]
def h_X6_nextToken (S : v_S) (I : v_I) (F : v_F) : Option (v_I) :=
if (I 30 3) ≤ (I 30 4) then (
h_X6_nextToken_J21 S F I)
else (
p_let (v_up I 30 4 ((I 30 4) + (1 : Int32))) fun I_5 =>
h_X6_nextToken_J21 S F I_5)
set_option maxHeartbeats 4000000 in
set_option maxRecDepth 100000 in
theorem s_X6_nextToken {S : v_S} {F : v_F} (hS : p_SS S) (hF : p_FF F) (I : v_I) : f_X6_nextToken S I F 30 = h_X6_nextToken S I F := by
  unfold f_X6_nextToken h_X6_nextToken
  simp only [p_bs, p_obS hS (a := 30) (kd := 6) rfl, p_FS hF (a := 30) (i := 1) (b := 38) (by decide), p_ixS hS (kd := 20) (a := 38) (n := 401) rfl, s_X6_nextToken_J21 hS hF]

def h_X6_firstOf (p0 : Int32) : Option (Int32) :=
if p0 = (1 : Int32) then (
some ((12 : Int32)))
else if p0 = (5 : Int32) then (
some ((20 : Int32)))
else if p0 = (11 : Int32) then (
some ((28 : Int32)))
else (
some ((-1 : Int32)))
set_option maxHeartbeats 4000000 in
set_option maxRecDepth 100000 in
theorem s_X6_firstOf (p0 : Int32) : f_X6_firstOf p0 = h_X6_firstOf p0 := by
  unfold f_X6_firstOf h_X6_firstOf
  simp only [p_bs]

def h_X6_isOrderWord (p0 : Int32) : Option (Int32) :=
if p0 = (6 : Int32) then (
some ((1 : Int32)))
else (
if p0 = (9 : Int32) then (
some ((1 : Int32)))
else (
if p0 = (10 : Int32) then (
some ((1 : Int32)))
else (
if p0 = (4 : Int32) then (
some ((1 : Int32)))
else (
(h_X6_firstOf p0).bind fun r_5 =>
if r_5 = (-1 : Int32) then (
some ((0 : Int32)))
else (
some ((1 : Int32)))))))
set_option maxHeartbeats 4000000 in
set_option maxRecDepth 100000 in
theorem s_X6_isOrderWord (p0 : Int32) : f_X6_isOrderWord p0 = h_X6_isOrderWord p0 := by
  unfold f_X6_isOrderWord h_X6_isOrderWord
  simp only [p_bs, s_X6_firstOf]

def h_X6_numberAtHand (S : v_S) (I : v_I) (p1 : Int32) : Option (Int32) :=
if (I 30 5) < (1024 : Int32) then (
some ((-1 : Int32)))
else (
if ((1024 : Int32) + p1) < (I 30 5) then (
some ((-1 : Int32)))
else (
some ((I 30 5) - (1024 : Int32))))
set_option maxHeartbeats 4000000 in
set_option maxRecDepth 100000 in
theorem s_X6_numberAtHand {S : v_S} {F : v_F} (hS : p_SS S) (hF : p_FF F) (I : v_I) (p1 : Int32) : f_X6_numberAtHand S I 30 p1 = h_X6_numberAtHand S I p1 := by
  unfold f_X6_numberAtHand h_X6_numberAtHand
  simp only [p_bs, p_obS hS (a := 30) (kd := 6) rfl]

def h_X6_take (S : v_S) (I : v_I) (F : v_F) (p1 : Int32) : Option (Int32 × v_I) :=
if (I 30 5) = p1 then (
(h_X6_nextToken S I F).bind fun r_2 =>
some ((1 : Int32), r_2))
else (
some ((0 : Int32), I))
set_option maxHeartbeats 4000000 in
set_option maxRecDepth 100000 in
theorem s_X6_take {S : v_S} {F : v_F} (hS : p_SS S) (hF : p_FF F) (I : v_I) (p1 : Int32) : f_X6_take S I F 30 p1 = h_X6_take S I F p1 := by
  unfold f_X6_take h_X6_take
  simp only [p_bs, p_obS hS (a := 30) (kd := 6) rfl, s_X6_nextToken hS hF]

def h_X6_readOne (S : v_S) (I : v_I) (F : v_F) (p1 : Int32) : Option (Int32 × v_I) :=
(h_X6_numberAtHand S I (7 : Int32)).bind fun r_1 =>
if r_1 = (-1 : Int32) then (
(h_X6_faultHere S I F).bind fun r_8 =>
(p_bl r_8.1).bind fun _ =>
some (r_8.1, r_8.2))
else (
(f_X8_addStep S I F 31 (2 : Int32) (p1 + r_1)).bind fun r_4 =>
(h_X6_nextToken S r_4.2 F).bind fun r_6 =>
some ((1 : Int32), r_6))
set_option maxHeartbeats 4000000 in
set_option maxRecDepth 100000 in
theorem s_X6_readOne {S : v_S} {F : v_F} (hS : p_SS S) (hF : p_FF F) (I : v_I) (p1 : Int32) : f_X6_readOne S I F 30 p1 = h_X6_readOne S I F p1 := by
  unfold f_X6_readOne h_X6_readOne
  simp only [p_bs, s_X6_numberAtHand hS hF, p_obS hS (a := 30) (kd := 6) rfl, p_FS hF (a := 30) (i := 0) (b := 31) (by decide), p_obS hS (a := 31) (kd := 8) rfl, s_X6_nextToken hS hF, s_X6_faultHere hS hF]

def h_X6_readTest_B7 (rc : Nat → Int32 → v_S → v_I → v_F → Option (Int32 × v_I)) (S : v_S) (F : v_F) (s7 : Int32 × Int32 × v_I) : Option ((Int32 × Int32 × v_I) ⊕ (Int32 × Int32 × v_I)) :=
if (400 : Int32) ≤ s7.2.1 then (
some (.inr (s7.1, s7.2.1, s7.2.2)))
else (
if s7.1 = (0 : Int32) then (
some (.inr (s7.1, s7.2.1, s7.2.2)))
else (
(h_X6_take S s7.2.2 F (266 : Int32)).bind fun r_5 =>
if r_5.1 = (0 : Int32) then (
some (.inr (s7.1, s7.2.1, r_5.2)))
else (
(f_X8_addStep S r_5.2 F 31 (5 : Int32) (0 : Int32)).bind fun r_8 =>
(rc 1 0 S r_8.2 F).bind fun r_10 =>
(f_X8_aimHere S r_10.2 F 31 r_8.1).bind fun r_12 =>
p_let (s7.2.1 + (1 : Int32)) fun x_14 =>
some (.inl (r_10.1, x_14, r_12)))))
set_option maxHeartbeats 4000000 in
set_option maxRecDepth 100000 in
theorem s_X6_readTest_B7 {S : v_S} {F : v_F} (hS : p_SS S) (hF : p_FF F) {rc : Nat → Nat → Int32 → v_S → v_I → v_F → Option (Int32 × v_I)} {rh : Nat → Int32 → v_S → v_I → v_F → Option (Int32 × v_I)} (hrc : ∀ (t : Nat) (b : Int32) (I : v_I), rc t 30 b S I F = rh t b S I F)  : f_X6_readTest_B7 rc S F 30 = h_X6_readTest_B7 rh S F := by
  funext s7
  unfold f_X6_readTest_B7 h_X6_readTest_B7
  simp only [p_bs, p_obS hS (a := 30) (kd := 6) rfl, s_X6_take hS hF, p_FS hF (a := 30) (i := 0) (b := 31) (by decide), p_obS hS (a := 31) (kd := 8) rfl, hrc]
def h_X6_readTest (rc : Nat → Int32 → v_S → v_I → v_F → Option (Int32 × v_I)) (S : v_S) (I : v_I) (F : v_F) : Option (Int32 × v_I) :=
(rc 1 0 S I F).bind fun r_1 =>
(v_loop (h_X6_readTest_B7 rc S F) FU (r_1.1, (0 : Int32), r_1.2)).bind fun q_16 =>
(p_bl q_16.1).bind fun _ =>
some (q_16.1, q_16.2.2)
set_option maxHeartbeats 4000000 in
set_option maxRecDepth 100000 in
theorem s_X6_readTest {S : v_S} {F : v_F} (hS : p_SS S) (hF : p_FF F) {rc : Nat → Nat → Int32 → v_S → v_I → v_F → Option (Int32 × v_I)} {rh : Nat → Int32 → v_S → v_I → v_F → Option (Int32 × v_I)} (hrc : ∀ (t : Nat) (b : Int32) (I : v_I), rc t 30 b S I F = rh t b S I F) (I : v_I) : f_X6_readTest rc S I F 30 = h_X6_readTest rh S I F := by
  unfold f_X6_readTest h_X6_readTest
  simp only [p_bs, p_obS hS (a := 30) (kd := 6) rfl, s_X6_take hS hF, p_FS hF (a := 30) (i := 0) (b := 31) (by decide), p_obS hS (a := 31) (kd := 8) rfl, hrc, s_X6_readTest_B7 hS hF hrc]

def h_X6_readBoth_B7 (rc : Nat → Int32 → v_S → v_I → v_F → Option (Int32 × v_I)) (S : v_S) (F : v_F) (s7 : Int32 × Int32 × v_I) : Option ((Int32 × Int32 × v_I) ⊕ (Int32 × Int32 × v_I)) :=
if (400 : Int32) ≤ s7.2.1 then (
some (.inr (s7.1, s7.2.1, s7.2.2)))
else (
if s7.1 = (0 : Int32) then (
some (.inr (s7.1, s7.2.1, s7.2.2)))
else (
(h_X6_take S s7.2.2 F (267 : Int32)).bind fun r_5 =>
if r_5.1 = (0 : Int32) then (
some (.inr (s7.1, s7.2.1, r_5.2)))
else (
(f_X8_addStep S r_5.2 F 31 (4 : Int32) (0 : Int32)).bind fun r_8 =>
(rc 2 0 S r_8.2 F).bind fun r_10 =>
(f_X8_aimHere S r_10.2 F 31 r_8.1).bind fun r_12 =>
p_let (s7.2.1 + (1 : Int32)) fun x_14 =>
some (.inl (r_10.1, x_14, r_12)))))
set_option maxHeartbeats 4000000 in
set_option maxRecDepth 100000 in
theorem s_X6_readBoth_B7 {S : v_S} {F : v_F} (hS : p_SS S) (hF : p_FF F) {rc : Nat → Nat → Int32 → v_S → v_I → v_F → Option (Int32 × v_I)} {rh : Nat → Int32 → v_S → v_I → v_F → Option (Int32 × v_I)} (hrc : ∀ (t : Nat) (b : Int32) (I : v_I), rc t 30 b S I F = rh t b S I F)  : f_X6_readBoth_B7 rc S F 30 = h_X6_readBoth_B7 rh S F := by
  funext s7
  unfold f_X6_readBoth_B7 h_X6_readBoth_B7
  simp only [p_bs, p_obS hS (a := 30) (kd := 6) rfl, s_X6_take hS hF, p_FS hF (a := 30) (i := 0) (b := 31) (by decide), p_obS hS (a := 31) (kd := 8) rfl, hrc]
def h_X6_readBoth (rc : Nat → Int32 → v_S → v_I → v_F → Option (Int32 × v_I)) (S : v_S) (I : v_I) (F : v_F) : Option (Int32 × v_I) :=
(rc 2 0 S I F).bind fun r_1 =>
(v_loop (h_X6_readBoth_B7 rc S F) FU (r_1.1, (0 : Int32), r_1.2)).bind fun q_16 =>
(p_bl q_16.1).bind fun _ =>
some (q_16.1, q_16.2.2)
set_option maxHeartbeats 4000000 in
set_option maxRecDepth 100000 in
theorem s_X6_readBoth {S : v_S} {F : v_F} (hS : p_SS S) (hF : p_FF F) {rc : Nat → Nat → Int32 → v_S → v_I → v_F → Option (Int32 × v_I)} {rh : Nat → Int32 → v_S → v_I → v_F → Option (Int32 × v_I)} (hrc : ∀ (t : Nat) (b : Int32) (I : v_I), rc t 30 b S I F = rh t b S I F) (I : v_I) : f_X6_readBoth rc S I F 30 = h_X6_readBoth rh S I F := by
  unfold f_X6_readBoth h_X6_readBoth
  simp only [p_bs, p_obS hS (a := 30) (kd := 6) rfl, s_X6_take hS hF, p_FS hF (a := 30) (i := 0) (b := 31) (by decide), p_obS hS (a := 31) (kd := 8) rfl, hrc, s_X6_readBoth_B7 hS hF hrc]

def h_X6_readPlain_J4_30 (rc : Nat → Int32 → v_S → v_I → v_F → Option (Int32 × v_I)) (S : v_S) (F : v_F) (I : v_I) (y2 : Int32) (z0 : Int32) : Option ((Int32 × Int32 × v_I) ⊕ (Int32 × Int32 × v_I)) :=
p_let (y2 + (1 : Int32)) fun x_6 =>
some (.inl (z0, x_6, I))
set_option maxHeartbeats 4000000 in
set_option maxRecDepth 100000 in
theorem s_X6_readPlain_J4_30 {S : v_S} {F : v_F} (hS : p_SS S) (hF : p_FF F) {rc : Nat → Nat → Int32 → v_S → v_I → v_F → Option (Int32 × v_I)} {rh : Nat → Int32 → v_S → v_I → v_F → Option (Int32 × v_I)} (hrc : ∀ (t : Nat) (b : Int32) (I : v_I), rc t 30 b S I F = rh t b S I F) (I : v_I) (y2 : Int32) (z0 : Int32) : f_X6_readPlain_J4_30 rc S F 30 I y2 z0 = h_X6_readPlain_J4_30 rh S F I y2 z0 := by
  unfold f_X6_readPlain_J4_30 h_X6_readPlain_J4_30
  simp only [p_bs, s_X6_take hS hF, p_obS hS (a := 30) (kd := 6) rfl, p_FS hF (a := 30) (i := 0) (b := 31) (by decide), p_obS hS (a := 31) (kd := 8) rfl, hrc]
def h_X6_readPlain_B4 (rc : Nat → Int32 → v_S → v_I → v_F → Option (Int32 × v_I)) (S : v_S) (F : v_F) (s4 : Int32 × Int32 × v_I) : Option ((Int32 × Int32 × v_I) ⊕ (Int32 × Int32 × v_I)) :=
if (400 : Int32) ≤ s4.2.1 then (
some (.inr (s4.1, s4.2.1, s4.2.2)))
else (
(h_X6_take S s4.2.2 F (268 : Int32)).bind fun r_2 =>
if r_2.1 = (0 : Int32) then (
some (.inr (s4.1, s4.2.1, r_2.2)))
else (
if s4.1 = (0 : Int32) then (
h_X6_readPlain_J4_30 rc S F r_2.2 s4.2.1 (1 : Int32))
else (
h_X6_readPlain_J4_30 rc S F r_2.2 s4.2.1 (0 : Int32))))
set_option maxHeartbeats 4000000 in
set_option maxRecDepth 100000 in
theorem s_X6_readPlain_B4 {S : v_S} {F : v_F} (hS : p_SS S) (hF : p_FF F) {rc : Nat → Nat → Int32 → v_S → v_I → v_F → Option (Int32 × v_I)} {rh : Nat → Int32 → v_S → v_I → v_F → Option (Int32 × v_I)} (hrc : ∀ (t : Nat) (b : Int32) (I : v_I), rc t 30 b S I F = rh t b S I F)  : f_X6_readPlain_B4 rc S F 30 = h_X6_readPlain_B4 rh S F := by
  funext s4
  unfold f_X6_readPlain_B4 h_X6_readPlain_B4
  simp only [p_bs, s_X6_take hS hF, p_obS hS (a := 30) (kd := 6) rfl, p_FS hF (a := 30) (i := 0) (b := 31) (by decide), p_obS hS (a := 31) (kd := 8) rfl, hrc, s_X6_readPlain_J4_30 hS hF hrc]
def h_X6_readPlain_J58 (rc : Nat → Int32 → v_S → v_I → v_F → Option (Int32 × v_I)) (S : v_S) (F : v_F) (I : v_I) (y1 : Int32) (z0 : Int32) : Option (Int32 × v_I) :=
if z0 = (0 : Int32) then (
(p_bl z0).bind fun _ =>
some (z0, I))
else (
if y1 = (0 : Int32) then (
(p_bl z0).bind fun _ =>
some (z0, I))
else (
(f_X8_addStep S I F 31 (3 : Int32) (0 : Int32)).bind fun r_17 =>
(p_bl z0).bind fun _ =>
some (z0, r_17.2)))
set_option maxHeartbeats 4000000 in
set_option maxRecDepth 100000 in
theorem s_X6_readPlain_J58 {S : v_S} {F : v_F} (hS : p_SS S) (hF : p_FF F) {rc : Nat → Nat → Int32 → v_S → v_I → v_F → Option (Int32 × v_I)} {rh : Nat → Int32 → v_S → v_I → v_F → Option (Int32 × v_I)} (hrc : ∀ (t : Nat) (b : Int32) (I : v_I), rc t 30 b S I F = rh t b S I F) (I : v_I) (y1 : Int32) (z0 : Int32) : f_X6_readPlain_J58 rc S F I 30 y1 z0 = h_X6_readPlain_J58 rh S F I y1 z0 := by
  unfold f_X6_readPlain_J58 h_X6_readPlain_J58
  simp only [p_bs, s_X6_take hS hF, p_obS hS (a := 30) (kd := 6) rfl, p_FS hF (a := 30) (i := 0) (b := 31) (by decide), p_obS hS (a := 31) (kd := 8) rfl, hrc, s_X6_readPlain_J4_30 hS hF hrc, s_X6_readPlain_B4 hS hF hrc]
def h_X6_readPlain_J37 (rc : Nat → Int32 → v_S → v_I → v_F → Option (Int32 × v_I)) (S : v_S) (F : v_F) (I : v_I) (y1 : Int32) : Option (Int32 × v_I) :=
if (I 30 5) = (40 : Int32) then (
(rc 7 (1 : Int32) S I F).bind fun r_20 =>
h_X6_readPlain_J58 rc S F r_20.2 y1 r_20.1)
else (
(rc 3 0 S I F).bind fun r_11 =>
h_X6_readPlain_J58 rc S F r_11.2 y1 r_11.1)
set_option maxHeartbeats 4000000 in
set_option maxRecDepth 100000 in
theorem s_X6_readPlain_J37 {S : v_S} {F : v_F} (hS : p_SS S) (hF : p_FF F) {rc : Nat → Nat → Int32 → v_S → v_I → v_F → Option (Int32 × v_I)} {rh : Nat → Int32 → v_S → v_I → v_F → Option (Int32 × v_I)} (hrc : ∀ (t : Nat) (b : Int32) (I : v_I), rc t 30 b S I F = rh t b S I F) (I : v_I) (y1 : Int32) : f_X6_readPlain_J37 rc S F I 30 y1 = h_X6_readPlain_J37 rh S F I y1 := by
  unfold f_X6_readPlain_J37 h_X6_readPlain_J37
  simp only [p_bs, s_X6_take hS hF, p_obS hS (a := 30) (kd := 6) rfl, p_FS hF (a := 30) (i := 0) (b := 31) (by decide), p_obS hS (a := 31) (kd := 8) rfl, hrc, s_X6_readPlain_J4_30 hS hF hrc, s_X6_readPlain_B4 hS hF hrc, s_X6_readPlain_J58 hS hF hrc]
def h_X6_readPlain (rc : Nat → Int32 → v_S → v_I → v_F → Option (Int32 × v_I)) (S : v_S) (I : v_I) (F : v_F) : Option (Int32 × v_I) :=
(v_loop (h_X6_readPlain_B4 rc S F) FU ((0 : Int32), (0 : Int32), I)).bind fun q_8 =>
h_X6_readPlain_J37 rc S F q_8.2.2 q_8.1
set_option maxHeartbeats 4000000 in
set_option maxRecDepth 100000 in
theorem s_X6_readPlain {S : v_S} {F : v_F} (hS : p_SS S) (hF : p_FF F) {rc : Nat → Nat → Int32 → v_S → v_I → v_F → Option (Int32 × v_I)} {rh : Nat → Int32 → v_S → v_I → v_F → Option (Int32 × v_I)} (hrc : ∀ (t : Nat) (b : Int32) (I : v_I), rc t 30 b S I F = rh t b S I F) (I : v_I) : f_X6_readPlain rc S I F 30 = h_X6_readPlain rh S I F := by
  unfold f_X6_readPlain h_X6_readPlain
  simp only [p_bs, s_X6_take hS hF, p_obS hS (a := 30) (kd := 6) rfl, p_FS hF (a := 30) (i := 0) (b := 31) (by decide), p_obS hS (a := 31) (kd := 8) rfl, hrc, s_X6_readPlain_J4_30 hS hF hrc, s_X6_readPlain_B4 hS hF hrc, s_X6_readPlain_J58 hS hF hrc, s_X6_readPlain_J37 hS hF hrc]

def h_X6_readComparison_J60 (rc : Nat → Int32 → v_S → v_I → v_F → Option (Int32 × v_I)) (S : v_S) (F : v_F) (I : v_I) (y1 : Int32) : Option (Int32 × v_I) :=
(h_X6_nextToken S I F).bind fun r_7 =>
(rc 4 0 S r_7 F).bind fun r_9 =>
(f_X8_addStep S r_9.2 F 31 y1 (0 : Int32)).bind fun r_11 =>
(p_bl r_9.1).bind fun _ =>
some (r_9.1, r_11.2)
set_option maxHeartbeats 4000000 in
set_option maxRecDepth 100000 in
theorem s_X6_readComparison_J60 {S : v_S} {F : v_F} (hS : p_SS S) (hF : p_FF F) {rc : Nat → Nat → Int32 → v_S → v_I → v_F → Option (Int32 × v_I)} {rh : Nat → Int32 → v_S → v_I → v_F → Option (Int32 × v_I)} (hrc : ∀ (t : Nat) (b : Int32) (I : v_I), rc t 30 b S I F = rh t b S I F) (I : v_I) (y1 : Int32) : f_X6_readComparison_J60 rc S F I 30 y1 = h_X6_readComparison_J60 rh S F I y1 := by
  unfold f_X6_readComparison_J60 h_X6_readComparison_J60
  simp only [p_bs, p_obS hS (a := 30) (kd := 6) rfl, s_X6_nextToken hS hF, p_FS hF (a := 30) (i := 0) (b := 31) (by decide), p_obS hS (a := 31) (kd := 8) rfl, s_X6_faultHere hS hF, hrc]
def h_X6_readComparison_J39 (rc : Nat → Int32 → v_S → v_I → v_F → Option (Int32 × v_I)) (S : v_S) (F : v_F) (I : v_I) (z0 : Int32) : Option (Int32 × v_I) :=
if z0 = (8 : Int32) then (
if (I 30 5) = (61 : Int32) then (
h_X6_readComparison_J60 rc S F I z0)
else (
(h_X6_faultHere S I F).bind fun r_15 =>
(p_bl r_15.1).bind fun _ =>
some (r_15.1, r_15.2)))
else (
h_X6_readComparison_J60 rc S F I z0)
set_option maxHeartbeats 4000000 in
set_option maxRecDepth 100000 in
theorem s_X6_readComparison_J39 {S : v_S} {F : v_F} (hS : p_SS S) (hF : p_FF F) {rc : Nat → Nat → Int32 → v_S → v_I → v_F → Option (Int32 × v_I)} {rh : Nat → Int32 → v_S → v_I → v_F → Option (Int32 × v_I)} (hrc : ∀ (t : Nat) (b : Int32) (I : v_I), rc t 30 b S I F = rh t b S I F) (I : v_I) (z0 : Int32) : f_X6_readComparison_J39 rc S F I 30 z0 = h_X6_readComparison_J39 rh S F I z0 := by
  unfold f_X6_readComparison_J39 h_X6_readComparison_J39
  simp only [p_bs, p_obS hS (a := 30) (kd := 6) rfl, s_X6_nextToken hS hF, p_FS hF (a := 30) (i := 0) (b := 31) (by decide), p_obS hS (a := 31) (kd := 8) rfl, s_X6_faultHere hS hF, hrc, s_X6_readComparison_J60 hS hF hrc]
def h_X6_readComparison (rc : Nat → Int32 → v_S → v_I → v_F → Option (Int32 × v_I)) (S : v_S) (I : v_I) (F : v_F) : Option (Int32 × v_I) :=
(rc 4 0 S I F).bind fun r_1 =>
if r_1.1 = (0 : Int32) then (
some ((0 : Int32), r_1.2))
else (
if (r_1.2 30 5) = (60 : Int32) then (
h_X6_readComparison_J39 rc S F r_1.2 (6 : Int32))
else (
if (r_1.2 30 5) = (62 : Int32) then (
h_X6_readComparison_J39 rc S F r_1.2 (7 : Int32))
else (
h_X6_readComparison_J39 rc S F r_1.2 (8 : Int32))))
set_option maxHeartbeats 4000000 in
set_option maxRecDepth 100000 in
theorem s_X6_readComparison {S : v_S} {F : v_F} (hS : p_SS S) (hF : p_FF F) {rc : Nat → Nat → Int32 → v_S → v_I → v_F → Option (Int32 × v_I)} {rh : Nat → Int32 → v_S → v_I → v_F → Option (Int32 × v_I)} (hrc : ∀ (t : Nat) (b : Int32) (I : v_I), rc t 30 b S I F = rh t b S I F) (I : v_I) : f_X6_readComparison rc S I F 30 = h_X6_readComparison rh S I F := by
  unfold f_X6_readComparison h_X6_readComparison
  simp only [p_bs, p_obS hS (a := 30) (kd := 6) rfl, s_X6_nextToken hS hF, p_FS hF (a := 30) (i := 0) (b := 31) (by decide), p_obS hS (a := 31) (kd := 8) rfl, s_X6_faultHere hS hF, hrc, s_X6_readComparison_J60 hS hF hrc, s_X6_readComparison_J39 hS hF hrc]

def h_X6_readSum_J7_52 (rc : Nat → Int32 → v_S → v_I → v_F → Option (Int32 × v_I)) (S : v_S) (F : v_F) (I : v_I) (y2 : Int32) (z0 : Int32) : Option ((Int32 × Int32 × v_I) ⊕ (Int32 × Int32 × v_I)) :=
(h_X6_nextToken S I F).bind fun r_7 =>
(rc 5 0 S r_7 F).bind fun r_9 =>
(f_X8_addStep S r_9.2 F 31 z0 (0 : Int32)).bind fun r_11 =>
p_let (y2 + (1 : Int32)) fun x_13 =>
some (.inl (r_9.1, x_13, r_11.2))
set_option maxHeartbeats 4000000 in
set_option maxRecDepth 100000 in
theorem s_X6_readSum_J7_52 {S : v_S} {F : v_F} (hS : p_SS S) (hF : p_FF F) {rc : Nat → Nat → Int32 → v_S → v_I → v_F → Option (Int32 × v_I)} {rh : Nat → Int32 → v_S → v_I → v_F → Option (Int32 × v_I)} (hrc : ∀ (t : Nat) (b : Int32) (I : v_I), rc t 30 b S I F = rh t b S I F) (I : v_I) (y2 : Int32) (z0 : Int32) : f_X6_readSum_J7_52 rc S F 30 I y2 z0 = h_X6_readSum_J7_52 rh S F I y2 z0 := by
  unfold f_X6_readSum_J7_52 h_X6_readSum_J7_52
  simp only [p_bs, p_obS hS (a := 30) (kd := 6) rfl, s_X6_nextToken hS hF, p_FS hF (a := 30) (i := 0) (b := 31) (by decide), p_obS hS (a := 31) (kd := 8) rfl, hrc]
def h_X6_readSum_J7_36 (rc : Nat → Int32 → v_S → v_I → v_F → Option (Int32 × v_I)) (S : v_S) (F : v_F) (I : v_I) (y2 : Int32) : Option ((Int32 × Int32 × v_I) ⊕ (Int32 × Int32 × v_I)) :=
if (I 30 5) = (43 : Int32) then (
h_X6_readSum_J7_52 rc S F I y2 (9 : Int32))
else (
h_X6_readSum_J7_52 rc S F I y2 (10 : Int32))
set_option maxHeartbeats 4000000 in
set_option maxRecDepth 100000 in
theorem s_X6_readSum_J7_36 {S : v_S} {F : v_F} (hS : p_SS S) (hF : p_FF F) {rc : Nat → Nat → Int32 → v_S → v_I → v_F → Option (Int32 × v_I)} {rh : Nat → Int32 → v_S → v_I → v_F → Option (Int32 × v_I)} (hrc : ∀ (t : Nat) (b : Int32) (I : v_I), rc t 30 b S I F = rh t b S I F) (I : v_I) (y2 : Int32) : f_X6_readSum_J7_36 rc S F 30 I y2 = h_X6_readSum_J7_36 rh S F I y2 := by
  unfold f_X6_readSum_J7_36 h_X6_readSum_J7_36
  simp only [p_bs, p_obS hS (a := 30) (kd := 6) rfl, s_X6_nextToken hS hF, p_FS hF (a := 30) (i := 0) (b := 31) (by decide), p_obS hS (a := 31) (kd := 8) rfl, hrc, s_X6_readSum_J7_52 hS hF hrc]
def h_X6_readSum_B7 (rc : Nat → Int32 → v_S → v_I → v_F → Option (Int32 × v_I)) (S : v_S) (F : v_F) (s7 : Int32 × Int32 × v_I) : Option ((Int32 × Int32 × v_I) ⊕ (Int32 × Int32 × v_I)) :=
if (400 : Int32) ≤ s7.2.1 then (
some (.inr (s7.1, s7.2.1, s7.2.2)))
else (
if s7.1 = (0 : Int32) then (
some (.inr (s7.1, s7.2.1, s7.2.2)))
else (
if (s7.2.2 30 5) = (43 : Int32) then (
h_X6_readSum_J7_36 rc S F s7.2.2 s7.2.1)
else (
if (s7.2.2 30 5) = (45 : Int32) then (
h_X6_readSum_J7_36 rc S F s7.2.2 s7.2.1)
else (
some (.inr (s7.1, s7.2.1, s7.2.2))))))
set_option maxHeartbeats 4000000 in
set_option maxRecDepth 100000 in
theorem s_X6_readSum_B7 {S : v_S} {F : v_F} (hS : p_SS S) (hF : p_FF F) {rc : Nat → Nat → Int32 → v_S → v_I → v_F → Option (Int32 × v_I)} {rh : Nat → Int32 → v_S → v_I → v_F → Option (Int32 × v_I)} (hrc : ∀ (t : Nat) (b : Int32) (I : v_I), rc t 30 b S I F = rh t b S I F)  : f_X6_readSum_B7 rc S F 30 = h_X6_readSum_B7 rh S F := by
  funext s7
  unfold f_X6_readSum_B7 h_X6_readSum_B7
  simp only [p_bs, p_obS hS (a := 30) (kd := 6) rfl, s_X6_nextToken hS hF, p_FS hF (a := 30) (i := 0) (b := 31) (by decide), p_obS hS (a := 31) (kd := 8) rfl, hrc, s_X6_readSum_J7_52 hS hF hrc, s_X6_readSum_J7_36 hS hF hrc]
def h_X6_readSum (rc : Nat → Int32 → v_S → v_I → v_F → Option (Int32 × v_I)) (S : v_S) (I : v_I) (F : v_F) : Option (Int32 × v_I) :=
(rc 5 0 S I F).bind fun r_1 =>
(v_loop (h_X6_readSum_B7 rc S F) FU (r_1.1, (0 : Int32), r_1.2)).bind fun q_16 =>
(p_bl q_16.1).bind fun _ =>
some (q_16.1, q_16.2.2)
set_option maxHeartbeats 4000000 in
set_option maxRecDepth 100000 in
theorem s_X6_readSum {S : v_S} {F : v_F} (hS : p_SS S) (hF : p_FF F) {rc : Nat → Nat → Int32 → v_S → v_I → v_F → Option (Int32 × v_I)} {rh : Nat → Int32 → v_S → v_I → v_F → Option (Int32 × v_I)} (hrc : ∀ (t : Nat) (b : Int32) (I : v_I), rc t 30 b S I F = rh t b S I F) (I : v_I) : f_X6_readSum rc S I F 30 = h_X6_readSum rh S I F := by
  unfold f_X6_readSum h_X6_readSum
  simp only [p_bs, p_obS hS (a := 30) (kd := 6) rfl, s_X6_nextToken hS hF, p_FS hF (a := 30) (i := 0) (b := 31) (by decide), p_obS hS (a := 31) (kd := 8) rfl, hrc, s_X6_readSum_J7_52 hS hF hrc, s_X6_readSum_J7_36 hS hF hrc, s_X6_readSum_B7 hS hF hrc]

def h_X6_readTerm_J7_75 (rc : Nat → Int32 → v_S → v_I → v_F → Option (Int32 × v_I)) (S : v_S) (F : v_F) (I : v_I) (y2 : Int32) (z0 : Int32) : Option ((Int32 × Int32 × v_I) ⊕ (Int32 × Int32 × v_I)) :=
(h_X6_nextToken S I F).bind fun r_8 =>
(rc 6 0 S r_8 F).bind fun r_10 =>
(f_X8_addStep S r_10.2 F 31 z0 (0 : Int32)).bind fun r_12 =>
p_let (y2 + (1 : Int32)) fun x_14 =>
some (.inl (r_10.1, x_14, r_12.2))
set_option maxHeartbeats 4000000 in
set_option maxRecDepth 100000 in
theorem s_X6_readTerm_J7_75 {S : v_S} {F : v_F} (hS : p_SS S) (hF : p_FF F) {rc : Nat → Nat → Int32 → v_S → v_I → v_F → Option (Int32 × v_I)} {rh : Nat → Int32 → v_S → v_I → v_F → Option (Int32 × v_I)} (hrc : ∀ (t : Nat) (b : Int32) (I : v_I), rc t 30 b S I F = rh t b S I F) (I : v_I) (y2 : Int32) (z0 : Int32) : f_X6_readTerm_J7_75 rc S F 30 I y2 z0 = h_X6_readTerm_J7_75 rh S F I y2 z0 := by
  unfold f_X6_readTerm_J7_75 h_X6_readTerm_J7_75
  simp only [p_bs, p_obS hS (a := 30) (kd := 6) rfl, s_X6_nextToken hS hF, p_FS hF (a := 30) (i := 0) (b := 31) (by decide), p_obS hS (a := 31) (kd := 8) rfl, hrc]
def h_X6_readTerm_J7_45 (rc : Nat → Int32 → v_S → v_I → v_F → Option (Int32 × v_I)) (S : v_S) (F : v_F) (I : v_I) (y2 : Int32) : Option ((Int32 × Int32 × v_I) ⊕ (Int32 × Int32 × v_I)) :=
if (I 30 5) = (42 : Int32) then (
h_X6_readTerm_J7_75 rc S F I y2 (11 : Int32))
else (
if (I 30 5) = (47 : Int32) then (
h_X6_readTerm_J7_75 rc S F I y2 (12 : Int32))
else (
h_X6_readTerm_J7_75 rc S F I y2 (13 : Int32)))
set_option maxHeartbeats 4000000 in
set_option maxRecDepth 100000 in
theorem s_X6_readTerm_J7_45 {S : v_S} {F : v_F} (hS : p_SS S) (hF : p_FF F) {rc : Nat → Nat → Int32 → v_S → v_I → v_F → Option (Int32 × v_I)} {rh : Nat → Int32 → v_S → v_I → v_F → Option (Int32 × v_I)} (hrc : ∀ (t : Nat) (b : Int32) (I : v_I), rc t 30 b S I F = rh t b S I F) (I : v_I) (y2 : Int32) : f_X6_readTerm_J7_45 rc S F 30 I y2 = h_X6_readTerm_J7_45 rh S F I y2 := by
  unfold f_X6_readTerm_J7_45 h_X6_readTerm_J7_45
  simp only [p_bs, p_obS hS (a := 30) (kd := 6) rfl, s_X6_nextToken hS hF, p_FS hF (a := 30) (i := 0) (b := 31) (by decide), p_obS hS (a := 31) (kd := 8) rfl, hrc, s_X6_readTerm_J7_75 hS hF hrc]
def h_X6_readTerm_B7 (rc : Nat → Int32 → v_S → v_I → v_F → Option (Int32 × v_I)) (S : v_S) (F : v_F) (s7 : Int32 × Int32 × v_I) : Option ((Int32 × Int32 × v_I) ⊕ (Int32 × Int32 × v_I)) :=
if (400 : Int32) ≤ s7.2.1 then (
some (.inr (s7.1, s7.2.1, s7.2.2)))
else (
if s7.1 = (0 : Int32) then (
some (.inr (s7.1, s7.2.1, s7.2.2)))
else (
if (s7.2.2 30 5) = (42 : Int32) then (
h_X6_readTerm_J7_45 rc S F s7.2.2 s7.2.1)
else (
if (s7.2.2 30 5) = (47 : Int32) then (
h_X6_readTerm_J7_45 rc S F s7.2.2 s7.2.1)
else (
if (s7.2.2 30 5) = (37 : Int32) then (
h_X6_readTerm_J7_45 rc S F s7.2.2 s7.2.1)
else (
some (.inr (s7.1, s7.2.1, s7.2.2)))))))
set_option maxHeartbeats 4000000 in
set_option maxRecDepth 100000 in
theorem s_X6_readTerm_B7 {S : v_S} {F : v_F} (hS : p_SS S) (hF : p_FF F) {rc : Nat → Nat → Int32 → v_S → v_I → v_F → Option (Int32 × v_I)} {rh : Nat → Int32 → v_S → v_I → v_F → Option (Int32 × v_I)} (hrc : ∀ (t : Nat) (b : Int32) (I : v_I), rc t 30 b S I F = rh t b S I F)  : f_X6_readTerm_B7 rc S F 30 = h_X6_readTerm_B7 rh S F := by
  funext s7
  unfold f_X6_readTerm_B7 h_X6_readTerm_B7
  simp only [p_bs, p_obS hS (a := 30) (kd := 6) rfl, s_X6_nextToken hS hF, p_FS hF (a := 30) (i := 0) (b := 31) (by decide), p_obS hS (a := 31) (kd := 8) rfl, hrc, s_X6_readTerm_J7_75 hS hF hrc, s_X6_readTerm_J7_45 hS hF hrc]
def h_X6_readTerm (rc : Nat → Int32 → v_S → v_I → v_F → Option (Int32 × v_I)) (S : v_S) (I : v_I) (F : v_F) : Option (Int32 × v_I) :=
(rc 6 0 S I F).bind fun r_1 =>
(v_loop (h_X6_readTerm_B7 rc S F) FU (r_1.1, (0 : Int32), r_1.2)).bind fun q_18 =>
(p_bl q_18.1).bind fun _ =>
some (q_18.1, q_18.2.2)
set_option maxHeartbeats 4000000 in
set_option maxRecDepth 100000 in
theorem s_X6_readTerm {S : v_S} {F : v_F} (hS : p_SS S) (hF : p_FF F) {rc : Nat → Nat → Int32 → v_S → v_I → v_F → Option (Int32 × v_I)} {rh : Nat → Int32 → v_S → v_I → v_F → Option (Int32 × v_I)} (hrc : ∀ (t : Nat) (b : Int32) (I : v_I), rc t 30 b S I F = rh t b S I F) (I : v_I) : f_X6_readTerm rc S I F 30 = h_X6_readTerm rh S I F := by
  unfold f_X6_readTerm h_X6_readTerm
  simp only [p_bs, p_obS hS (a := 30) (kd := 6) rfl, s_X6_nextToken hS hF, p_FS hF (a := 30) (i := 0) (b := 31) (by decide), p_obS hS (a := 31) (kd := 8) rfl, hrc, s_X6_readTerm_J7_75 hS hF hrc, s_X6_readTerm_J7_45 hS hF hrc, s_X6_readTerm_B7 hS hF hrc]

def h_X6_readPart_J184 (rc : Nat → Int32 → v_S → v_I → v_F → Option (Int32 × v_I)) (S : v_S) (F : v_F) (I : v_I) (z0 : Int32) (z1 : Int32) : Option (Int32 × v_I) :=
(p_bl (z1 ||| z0)).bind fun _ =>
p_let (v_up I 31 2 (z1 ||| z0)) fun I_20 =>
some ((1 : Int32), I_20)
set_option maxHeartbeats 4000000 in
set_option maxRecDepth 100000 in
theorem s_X6_readPart_J184 {S : v_S} {F : v_F} (hS : p_SS S) (hF : p_FF F) {rc : Nat → Nat → Int32 → v_S → v_I → v_F → Option (Int32 × v_I)} {rh : Nat → Int32 → v_S → v_I → v_F → Option (Int32 × v_I)} (hrc : ∀ (t : Nat) (b : Int32) (I : v_I), rc t 30 b S I F = rh t b S I F) (I : v_I) (z0 : Int32) (z1 : Int32) : f_X6_readPart_J184 rc S F I z0 z1 31 = h_X6_readPart_J184 rh S F I z0 z1 := by
  unfold f_X6_readPart_J184 h_X6_readPart_J184
  simp only [p_bs, p_obS hS (a := 30) (kd := 6) rfl, s_X6_numberAtHand hS hF, s_X6_nextToken hS hF, p_FS hF (a := 30) (i := 0) (b := 31) (by decide), p_obS hS (a := 31) (kd := 8) rfl, s_X6_firstOf, s_X6_readOne hS hF, s_X6_faultHere hS hF, s_X6_isOrderWord, hrc]
def h_X6_readPart_J179 (rc : Nat → Int32 → v_S → v_I → v_F → Option (Int32 × v_I)) (S : v_S) (F : v_F) (I : v_I) (z0 : Int32) : Option (Int32 × v_I) :=
h_X6_readPart_J184 rc S F I (1 : Int32) z0
set_option maxHeartbeats 4000000 in
set_option maxRecDepth 100000 in
theorem s_X6_readPart_J179 {S : v_S} {F : v_F} (hS : p_SS S) (hF : p_FF F) {rc : Nat → Nat → Int32 → v_S → v_I → v_F → Option (Int32 × v_I)} {rh : Nat → Int32 → v_S → v_I → v_F → Option (Int32 × v_I)} (hrc : ∀ (t : Nat) (b : Int32) (I : v_I), rc t 30 b S I F = rh t b S I F) (I : v_I) (z0 : Int32) : f_X6_readPart_J179 rc S F I z0 31 = h_X6_readPart_J179 rh S F I z0 := by
  unfold f_X6_readPart_J179 h_X6_readPart_J179
  simp only [p_bs, p_obS hS (a := 30) (kd := 6) rfl, s_X6_numberAtHand hS hF, s_X6_nextToken hS hF, p_FS hF (a := 30) (i := 0) (b := 31) (by decide), p_obS hS (a := 31) (kd := 8) rfl, s_X6_firstOf, s_X6_readOne hS hF, s_X6_faultHere hS hF, s_X6_isOrderWord, hrc, s_X6_readPart_J184 hS hF hrc]
def h_X6_readPart_J150 (rc : Nat → Int32 → v_S → v_I → v_F → Option (Int32 × v_I)) (S : v_S) (F : v_F) (I : v_I) (y2 : Int32) : Option (Int32 × v_I) :=
(f_X8_addStep S I F 31 (2 : Int32) y2).bind fun r_16 =>
if y2 = (5 : Int32) then (
h_X6_readPart_J179 rc S F r_16.2 (r_16.2 31 2))
else (
if y2 = (6 : Int32) then (
h_X6_readPart_J179 rc S F r_16.2 (r_16.2 31 2))
else (
h_X6_readPart_J184 rc S F r_16.2 (0 : Int32) (r_16.2 31 2)))
set_option maxHeartbeats 4000000 in
set_option maxRecDepth 100000 in
theorem s_X6_readPart_J150 {S : v_S} {F : v_F} (hS : p_SS S) (hF : p_FF F) {rc : Nat → Nat → Int32 → v_S → v_I → v_F → Option (Int32 × v_I)} {rh : Nat → Int32 → v_S → v_I → v_F → Option (Int32 × v_I)} (hrc : ∀ (t : Nat) (b : Int32) (I : v_I), rc t 30 b S I F = rh t b S I F) (I : v_I) (y2 : Int32) : f_X6_readPart_J150 rc S F I 30 y2 = h_X6_readPart_J150 rh S F I y2 := by
  unfold f_X6_readPart_J150 h_X6_readPart_J150
  simp only [p_bs, p_obS hS (a := 30) (kd := 6) rfl, s_X6_numberAtHand hS hF, s_X6_nextToken hS hF, p_FS hF (a := 30) (i := 0) (b := 31) (by decide), p_obS hS (a := 31) (kd := 8) rfl, s_X6_firstOf, s_X6_readOne hS hF, s_X6_faultHere hS hF, s_X6_isOrderWord, hrc, s_X6_readPart_J184 hS hF hrc, s_X6_readPart_J179 hS hF hrc]
def h_X6_readPart_J90 (rc : Nat → Int32 → v_S → v_I → v_F → Option (Int32 × v_I)) (S : v_S) (F : v_F) (I : v_I) : Option (Int32 × v_I) :=
(h_X6_faultHere S I F).bind fun r_33 =>
(p_bl r_33.1).bind fun _ =>
some (r_33.1, r_33.2)
set_option maxHeartbeats 4000000 in
set_option maxRecDepth 100000 in
theorem s_X6_readPart_J90 {S : v_S} {F : v_F} (hS : p_SS S) (hF : p_FF F) {rc : Nat → Nat → Int32 → v_S → v_I → v_F → Option (Int32 × v_I)} {rh : Nat → Int32 → v_S → v_I → v_F → Option (Int32 × v_I)} (hrc : ∀ (t : Nat) (b : Int32) (I : v_I), rc t 30 b S I F = rh t b S I F) (I : v_I) : f_X6_readPart_J90 rc S F I 30 = h_X6_readPart_J90 rh S F I := by
  unfold f_X6_readPart_J90 h_X6_readPart_J90
  simp only [p_bs, p_obS hS (a := 30) (kd := 6) rfl, s_X6_numberAtHand hS hF, s_X6_nextToken hS hF, p_FS hF (a := 30) (i := 0) (b := 31) (by decide), p_obS hS (a := 31) (kd := 8) rfl, s_X6_firstOf, s_X6_readOne hS hF, s_X6_faultHere hS hF, s_X6_isOrderWord, hrc, s_X6_readPart_J184 hS hF hrc, s_X6_readPart_J179 hS hF hrc, s_X6_readPart_J150 hS hF hrc]
def h_X6_readPart_J81 (rc : Nat → Int32 → v_S → v_I → v_F → Option (Int32 × v_I)) (S : v_S) (F : v_F) (I : v_I) (y1 : Int32) (y2 : Int32) : Option (Int32 × v_I) :=
if (I 30 7) < (50 : Int32) then (
p_let (v_up I 30 7 ((I 30 7) + (1 : Int32))) fun I_10 =>
(h_X6_nextToken S I_10 F).bind fun r_12 =>
if y1 = (-1 : Int32) then (
if (r_12 30 6) = (0 : Int32) then (
h_X6_readPart_J150 rc S F r_12 y2)
else (
(h_X6_firstOf y2).bind fun r_23 =>
if r_23 = (-1 : Int32) then (
h_X6_readPart_J150 rc S F r_12 y2)
else (
(h_X6_firstOf y2).bind fun r_26 =>
(h_X6_readOne S r_12 F r_26).bind fun r_28 =>
(p_bl r_28.1).bind fun _ =>
some (r_28.1, r_28.2))))
else (
(f_X8_addStep S r_12 F 31 (1 : Int32) y1).bind fun r_31 =>
some ((1 : Int32), r_31.2)))
else (
h_X6_readPart_J90 rc S F I)
set_option maxHeartbeats 4000000 in
set_option maxRecDepth 100000 in
theorem s_X6_readPart_J81 {S : v_S} {F : v_F} (hS : p_SS S) (hF : p_FF F) {rc : Nat → Nat → Int32 → v_S → v_I → v_F → Option (Int32 × v_I)} {rh : Nat → Int32 → v_S → v_I → v_F → Option (Int32 × v_I)} (hrc : ∀ (t : Nat) (b : Int32) (I : v_I), rc t 30 b S I F = rh t b S I F) (I : v_I) (y1 : Int32) (y2 : Int32) : f_X6_readPart_J81 rc S F I 30 y1 y2 = h_X6_readPart_J81 rh S F I y1 y2 := by
  unfold f_X6_readPart_J81 h_X6_readPart_J81
  simp only [p_bs, p_obS hS (a := 30) (kd := 6) rfl, s_X6_numberAtHand hS hF, s_X6_nextToken hS hF, p_FS hF (a := 30) (i := 0) (b := 31) (by decide), p_obS hS (a := 31) (kd := 8) rfl, s_X6_firstOf, s_X6_readOne hS hF, s_X6_faultHere hS hF, s_X6_isOrderWord, hrc, s_X6_readPart_J184 hS hF hrc, s_X6_readPart_J179 hS hF hrc, s_X6_readPart_J150 hS hF hrc, s_X6_readPart_J90 hS hF hrc]
def h_X6_readPart_J71 (rc : Nat → Int32 → v_S → v_I → v_F → Option (Int32 × v_I)) (S : v_S) (F : v_F) (I : v_I) (y1 : Int32) (y2 : Int32) (z0 : Int32) : Option (Int32 × v_I) :=
if y1 = (-1 : Int32) then (
if z0 = (0 : Int32) then (
h_X6_readPart_J90 rc S F I)
else (
h_X6_readPart_J81 rc S F I y1 y2))
else (
h_X6_readPart_J81 rc S F I y1 y2)
set_option maxHeartbeats 4000000 in
set_option maxRecDepth 100000 in
theorem s_X6_readPart_J71 {S : v_S} {F : v_F} (hS : p_SS S) (hF : p_FF F) {rc : Nat → Nat → Int32 → v_S → v_I → v_F → Option (Int32 × v_I)} {rh : Nat → Int32 → v_S → v_I → v_F → Option (Int32 × v_I)} (hrc : ∀ (t : Nat) (b : Int32) (I : v_I), rc t 30 b S I F = rh t b S I F) (I : v_I) (y1 : Int32) (y2 : Int32) (z0 : Int32) : f_X6_readPart_J71 rc S F I 30 y1 y2 z0 = h_X6_readPart_J71 rh S F I y1 y2 z0 := by
  unfold f_X6_readPart_J71 h_X6_readPart_J71
  simp only [p_bs, p_obS hS (a := 30) (kd := 6) rfl, s_X6_numberAtHand hS hF, s_X6_nextToken hS hF, p_FS hF (a := 30) (i := 0) (b := 31) (by decide), p_obS hS (a := 31) (kd := 8) rfl, s_X6_firstOf, s_X6_readOne hS hF, s_X6_faultHere hS hF, s_X6_isOrderWord, hrc, s_X6_readPart_J184 hS hF hrc, s_X6_readPart_J179 hS hF hrc, s_X6_readPart_J150 hS hF hrc, s_X6_readPart_J90 hS hF hrc, s_X6_readPart_J81 hS hF hrc]
def h_X6_readPart_J70 (rc : Nat → Int32 → v_S → v_I → v_F → Option (Int32 × v_I)) (S : v_S) (F : v_F) (I : v_I) (y1 : Int32) (y2 : Int32) : Option (Int32 × v_I) :=
h_X6_readPart_J71 rc S F I y1 y2 (0 : Int32)
set_option maxHeartbeats 4000000 in
set_option maxRecDepth 100000 in
theorem s_X6_readPart_J70 {S : v_S} {F : v_F} (hS : p_SS S) (hF : p_FF F) {rc : Nat → Nat → Int32 → v_S → v_I → v_F → Option (Int32 × v_I)} {rh : Nat → Int32 → v_S → v_I → v_F → Option (Int32 × v_I)} (hrc : ∀ (t : Nat) (b : Int32) (I : v_I), rc t 30 b S I F = rh t b S I F) (I : v_I) (y1 : Int32) (y2 : Int32) : f_X6_readPart_J70 rc S F I 30 y1 y2 = h_X6_readPart_J70 rh S F I y1 y2 := by
  unfold f_X6_readPart_J70 h_X6_readPart_J70
  simp only [p_bs, p_obS hS (a := 30) (kd := 6) rfl, s_X6_numberAtHand hS hF, s_X6_nextToken hS hF, p_FS hF (a := 30) (i := 0) (b := 31) (by decide), p_obS hS (a := 31) (kd := 8) rfl, s_X6_firstOf, s_X6_readOne hS hF, s_X6_faultHere hS hF, s_X6_isOrderWord, hrc, s_X6_readPart_J184 hS hF hrc, s_X6_readPart_J179 hS hF hrc, s_X6_readPart_J150 hS hF hrc, s_X6_readPart_J90 hS hF hrc, s_X6_readPart_J81 hS hF hrc, s_X6_readPart_J71 hS hF hrc]
def h_X6_readPart (rc : Nat → Int32 → v_S → v_I → v_F → Option (Int32 × v_I)) (S : v_S) (I : v_I) (F : v_F) : Option (Int32 × v_I) :=
if (I 30 5) = (91 : Int32) then (
(rc 7 (0 : Int32) S I F).bind fun r_40 =>
(p_bl r_40.1).bind fun _ =>
some (r_40.1, r_40.2))
else (
(h_X6_numberAtHand S I (1000 : Int32)).bind fun r_2 =>
p_let ((I 30 5) - (269 : Int32)) fun x_4 =>
if (I 30 6) = (0 : Int32) then (
if (I 30 5) < (269 : Int32) then (
h_X6_readPart_J70 rc S F I r_2 x_4)
else (
if (277 : Int32) < (I 30 5) then (
h_X6_readPart_J70 rc S F I r_2 x_4)
else (
h_X6_readPart_J71 rc S F I r_2 x_4 (1 : Int32))))
else (
(h_X6_isOrderWord x_4).bind fun r_38 =>
h_X6_readPart_J71 rc S F I r_2 x_4 r_38))
set_option maxHeartbeats 4000000 in
set_option maxRecDepth 100000 in
theorem s_X6_readPart {S : v_S} {F : v_F} (hS : p_SS S) (hF : p_FF F) {rc : Nat → Nat → Int32 → v_S → v_I → v_F → Option (Int32 × v_I)} {rh : Nat → Int32 → v_S → v_I → v_F → Option (Int32 × v_I)} (hrc : ∀ (t : Nat) (b : Int32) (I : v_I), rc t 30 b S I F = rh t b S I F) (I : v_I) : f_X6_readPart rc S I F 30 = h_X6_readPart rh S I F := by
  unfold f_X6_readPart h_X6_readPart
  simp only [p_bs, p_obS hS (a := 30) (kd := 6) rfl, s_X6_numberAtHand hS hF, s_X6_nextToken hS hF, p_FS hF (a := 30) (i := 0) (b := 31) (by decide), p_obS hS (a := 31) (kd := 8) rfl, s_X6_firstOf, s_X6_readOne hS hF, s_X6_faultHere hS hF, s_X6_isOrderWord, hrc, s_X6_readPart_J184 hS hF hrc, s_X6_readPart_J179 hS hF hrc, s_X6_readPart_J150 hS hF hrc, s_X6_readPart_J90 hS hF hrc, s_X6_readPart_J81 hS hF hrc, s_X6_readPart_J71 hS hF hrc, s_X6_readPart_J70 hS hF hrc]

def h_X6_readBrackets_J73 (rc : Nat → Int32 → v_S → v_I → v_F → Option (Int32 × v_I)) (S : v_S) (F : v_F) (I : v_I) (z0 : Int32) : Option (Int32 × v_I) :=
(h_X6_take S I F z0).bind fun r_13 =>
if r_13.1 = (0 : Int32) then (
(h_X6_faultHere S r_13.2 F).bind fun r_16 =>
if r_16.1 = (0 : Int32) then (
some ((0 : Int32), r_16.2))
else (
some ((1 : Int32), r_16.2)))
else (
some ((1 : Int32), r_13.2))
set_option maxHeartbeats 4000000 in
set_option maxRecDepth 100000 in
theorem s_X6_readBrackets_J73 {S : v_S} {F : v_F} (hS : p_SS S) (hF : p_FF F) {rc : Nat → Nat → Int32 → v_S → v_I → v_F → Option (Int32 × v_I)} {rh : Nat → Int32 → v_S → v_I → v_F → Option (Int32 × v_I)} (hrc : ∀ (t : Nat) (b : Int32) (I : v_I), rc t 30 b S I F = rh t b S I F) (I : v_I) (z0 : Int32) : f_X6_readBrackets_J73 rc S F I 30 z0 30 = h_X6_readBrackets_J73 rh S F I z0 := by
  unfold f_X6_readBrackets_J73 h_X6_readBrackets_J73
  simp only [p_bs, p_obS hS (a := 30) (kd := 6) rfl, s_X6_nextToken hS hF, s_X6_take hS hF, s_X6_faultHere hS hF, hrc]
def h_X6_readBrackets_J51 (rc : Nat → Int32 → v_S → v_I → v_F → Option (Int32 × v_I)) (S : v_S) (F : v_F) (I : v_I) (y1 : Int32) : Option (Int32 × v_I) :=
p_let (v_up I 30 8 ((I 30 8) - (1 : Int32))) fun I_10 =>
if y1 = (0 : Int32) then (
h_X6_readBrackets_J73 rc S F I_10 (93 : Int32))
else (
h_X6_readBrackets_J73 rc S F I_10 (41 : Int32))
set_option maxHeartbeats 4000000 in
set_option maxRecDepth 100000 in
theorem s_X6_readBrackets_J51 {S : v_S} {F : v_F} (hS : p_SS S) (hF : p_FF F) {rc : Nat → Nat → Int32 → v_S → v_I → v_F → Option (Int32 × v_I)} {rh : Nat → Int32 → v_S → v_I → v_F → Option (Int32 × v_I)} (hrc : ∀ (t : Nat) (b : Int32) (I : v_I), rc t 30 b S I F = rh t b S I F) (I : v_I) (y1 : Int32) : f_X6_readBrackets_J51 rc S F I 30 y1 = h_X6_readBrackets_J51 rh S F I y1 := by
  unfold f_X6_readBrackets_J51 h_X6_readBrackets_J51
  simp only [p_bs, p_obS hS (a := 30) (kd := 6) rfl, s_X6_nextToken hS hF, s_X6_take hS hF, s_X6_faultHere hS hF, hrc, s_X6_readBrackets_J73 hS hF hrc]
def h_X6_readBrackets (rc : Nat → Int32 → v_S → v_I → v_F → Option (Int32 × v_I)) (S : v_S) (I : v_I) (F : v_F) (p1 : Int32) : Option (Int32 × v_I) :=
if (I 30 8) < (8 : Int32) then (
p_let (v_up I 30 8 ((I 30 8) + (1 : Int32))) fun I_2 =>
(h_X6_nextToken S I_2 F).bind fun r_4 =>
if p1 = (0 : Int32) then (
(rc 4 0 S r_4 F).bind fun r_7 =>
if r_7.1 = (0 : Int32) then (
some ((0 : Int32), r_7.2))
else (
h_X6_readBrackets_J51 rc S F r_7.2 p1))
else (
(rc 0 0 S r_4 F).bind fun r_19 =>
if r_19.1 = (0 : Int32) then (
some ((0 : Int32), r_19.2))
else (
h_X6_readBrackets_J51 rc S F r_19.2 p1)))
else (
(h_X6_faultHere S I F).bind fun r_22 =>
(p_bl r_22.1).bind fun _ =>
some (r_22.1, r_22.2))
set_option maxHeartbeats 4000000 in
set_option maxRecDepth 100000 in
theorem s_X6_readBrackets {S : v_S} {F : v_F} (hS : p_SS S) (hF : p_FF F) {rc : Nat → Nat → Int32 → v_S → v_I → v_F → Option (Int32 × v_I)} {rh : Nat → Int32 → v_S → v_I → v_F → Option (Int32 × v_I)} (hrc : ∀ (t : Nat) (b : Int32) (I : v_I), rc t 30 b S I F = rh t b S I F) (I : v_I) (p1 : Int32) : f_X6_readBrackets rc S I F 30 p1 = h_X6_readBrackets rh S I F p1 := by
  unfold f_X6_readBrackets h_X6_readBrackets
  simp only [p_bs, p_obS hS (a := 30) (kd := 6) rfl, s_X6_nextToken hS hF, s_X6_take hS hF, s_X6_faultHere hS hF, hrc, s_X6_readBrackets_J73 hS hF hrc, s_X6_readBrackets_J51 hS hF hrc]
def gh_X6_readTest : Nat → Nat → Int32 → v_S → v_I → v_F → Option (Int32 × v_I)
  | 0, _, _, _, _, _ => none
  | n + 1, 0, _, S, I, F => h_X6_readTest (gh_X6_readTest n) S I F
  | n + 1, 1, _, S, I, F => h_X6_readBoth (gh_X6_readTest n) S I F
  | n + 1, 2, _, S, I, F => h_X6_readPlain (gh_X6_readTest n) S I F
  | n + 1, 3, _, S, I, F => h_X6_readComparison (gh_X6_readTest n) S I F
  | n + 1, 4, _, S, I, F => h_X6_readSum (gh_X6_readTest n) S I F
  | n + 1, 5, _, S, I, F => h_X6_readTerm (gh_X6_readTest n) S I F
  | n + 1, 6, _, S, I, F => h_X6_readPart (gh_X6_readTest n) S I F
  | n + 1, _, b, S, I, F => h_X6_readBrackets (gh_X6_readTest n) S I F b
theorem s_g_X6_readTest {S : v_S} {F : v_F} (hS : p_SS S) (hF : p_FF F) : ∀ (n t : Nat) (b : Int32) (I : v_I), g_X6_readTest n t 30 b S I F = gh_X6_readTest n t b S I F
  | 0, _, _, _ => rfl
  | n + 1, 0, b, I => s_X6_readTest hS hF (fun t b I => s_g_X6_readTest hS hF n t b I) I
  | n + 1, 1, b, I => s_X6_readBoth hS hF (fun t b I => s_g_X6_readTest hS hF n t b I) I
  | n + 1, 2, b, I => s_X6_readPlain hS hF (fun t b I => s_g_X6_readTest hS hF n t b I) I
  | n + 1, 3, b, I => s_X6_readComparison hS hF (fun t b I => s_g_X6_readTest hS hF n t b I) I
  | n + 1, 4, b, I => s_X6_readSum hS hF (fun t b I => s_g_X6_readTest hS hF n t b I) I
  | n + 1, 5, b, I => s_X6_readTerm hS hF (fun t b I => s_g_X6_readTest hS hF n t b I) I
  | n + 1, 6, b, I => s_X6_readPart hS hF (fun t b I => s_g_X6_readTest hS hF n t b I) I
  | n + 1, t + 7, b, I => s_X6_readBrackets hS hF (fun t b I => s_g_X6_readTest hS hF n t b I) I b

def h_X6_readLaw (S : v_S) (I : v_I) (F : v_F) (p1 : Int32) (p2 : Int32) : Option (Int32 × v_I) :=
if p2 = (2 : Int32) then (
some ((1 : Int32), I))
else (
(p_in 12 p1).bind fun j_2 =>
p_let (v_up I 33 j_2 (I 31 1)) fun I_3 =>
(gh_X6_readTest GNN 4 0 S I_3 F).bind fun r_5 =>
(f_X8_addStep S r_5.2 F 31 (0 : Int32) (0 : Int32)).bind fun r_7 =>
(p_bl r_5.1).bind fun _ =>
some (r_5.1, r_7.2))
set_option maxHeartbeats 4000000 in
set_option maxRecDepth 100000 in
theorem s_X6_readLaw {S : v_S} {F : v_F} (hS : p_SS S) (hF : p_FF F) (I : v_I) (p1 : Int32) (p2 : Int32) : f_X6_readLaw S I F 30 p1 p2 = h_X6_readLaw S I F p1 p2 := by
  unfold f_X6_readLaw h_X6_readLaw
  simp only [p_bs, p_obS hS (a := 30) (kd := 6) rfl, p_FS hF (a := 30) (i := 0) (b := 31) (by decide), p_obS hS (a := 31) (kd := 8) rfl, p_FS hF (a := 31) (i := 4) (b := 33) (by decide), p_ixS hS (kd := 20) (a := 33) (n := 12) rfl, s_g_X6_readTest hS hF]

def h_X6_readOrder_J93 (S : v_S) (F : v_F) (I : v_I) (y1 : Int32) (y3 : Int32) : Option (Int32 × v_I) :=
if y3 = (0 : Int32) then (
(p_bl y3).bind fun _ =>
some (y3, I))
else (
(h_X6_take S I F (265 : Int32)).bind fun r_5 =>
if r_5.1 = (0 : Int32) then (
(p_bl y3).bind fun _ =>
some (y3, r_5.2))
else (
(h_X6_numberAtHand S r_5.2 (20 : Int32)).bind fun r_9 =>
if (1 : Int32) ≤ r_9 then (
(p_in 12 y1).bind fun j_12 =>
p_let (v_up r_5.2 36 j_12 r_9) fun I_13 =>
(h_X6_nextToken S I_13 F).bind fun r_15 =>
(p_bl y3).bind fun _ =>
some (y3, r_15))
else (
(h_X6_faultHere S r_5.2 F).bind fun r_18 =>
(p_bl r_18.1).bind fun _ =>
some (r_18.1, r_18.2))))
set_option maxHeartbeats 4000000 in
set_option maxRecDepth 100000 in
theorem s_X6_readOrder_J93 {S : v_S} {F : v_F} (hS : p_SS S) (hF : p_FF F) (I : v_I) (y1 : Int32) (y3 : Int32) : f_X6_readOrder_J93 S F I 30 y1 y3 = h_X6_readOrder_J93 S F I y1 y3 := by
  unfold f_X6_readOrder_J93 h_X6_readOrder_J93
  simp only [p_bs, s_X6_take hS hF, p_obS hS (a := 30) (kd := 6) rfl, s_X6_numberAtHand hS hF, p_FS hF (a := 30) (i := 0) (b := 31) (by decide), p_obS hS (a := 31) (kd := 8) rfl, p_FS hF (a := 31) (i := 7) (b := 36) (by decide), p_ixS hS (kd := 20) (a := 36) (n := 12) rfl, s_X6_nextToken hS hF, s_X6_faultHere hS hF, p_FS hF (a := 31) (i := 5) (b := 34) (by decide), p_ixS hS (kd := 20) (a := 34) (n := 12) rfl, s_g_X6_readTest hS hF, p_FS hF (a := 31) (i := 4) (b := 33) (by decide), p_ixS hS (kd := 20) (a := 33) (n := 12) rfl]
def h_X6_readOrder_J38 (S : v_S) (F : v_F) (I : v_I) (y1 : Int32) (y2 : Int32) (y3 : Int32) : Option (Int32 × v_I) :=
if y3 = (0 : Int32) then (
h_X6_readOrder_J93 S F I y1 y3)
else (
if y2 = (2 : Int32) then (
(h_X6_take S I F (264 : Int32)).bind fun r_22 =>
if r_22.1 = (0 : Int32) then (
(h_X6_faultHere S r_22.2 F).bind fun r_32 =>
(p_bl r_32.1).bind fun _ =>
some (r_32.1, r_32.2))
else (
(p_in 12 y1).bind fun j_25 =>
p_let (v_up r_22.2 34 j_25 (r_22.2 31 1)) fun I_26 =>
(gh_X6_readTest GNN 4 0 S I_26 F).bind fun r_28 =>
(f_X8_addStep S r_28.2 F 31 (0 : Int32) (0 : Int32)).bind fun r_30 =>
h_X6_readOrder_J93 S F r_30.2 y1 r_28.1))
else (
h_X6_readOrder_J93 S F I y1 y3))
set_option maxHeartbeats 4000000 in
set_option maxRecDepth 100000 in
theorem s_X6_readOrder_J38 {S : v_S} {F : v_F} (hS : p_SS S) (hF : p_FF F) (I : v_I) (y1 : Int32) (y2 : Int32) (y3 : Int32) : f_X6_readOrder_J38 S F I 30 y1 y2 y3 = h_X6_readOrder_J38 S F I y1 y2 y3 := by
  unfold f_X6_readOrder_J38 h_X6_readOrder_J38
  simp only [p_bs, s_X6_take hS hF, p_obS hS (a := 30) (kd := 6) rfl, s_X6_numberAtHand hS hF, p_FS hF (a := 30) (i := 0) (b := 31) (by decide), p_obS hS (a := 31) (kd := 8) rfl, p_FS hF (a := 31) (i := 7) (b := 36) (by decide), p_ixS hS (kd := 20) (a := 36) (n := 12) rfl, s_X6_nextToken hS hF, s_X6_faultHere hS hF, p_FS hF (a := 31) (i := 5) (b := 34) (by decide), p_ixS hS (kd := 20) (a := 34) (n := 12) rfl, s_g_X6_readTest hS hF, p_FS hF (a := 31) (i := 4) (b := 33) (by decide), p_ixS hS (kd := 20) (a := 33) (n := 12) rfl, s_X6_readOrder_J93 hS hF]
def h_X6_readOrder (S : v_S) (I : v_I) (F : v_F) (p1 : Int32) (p2 : Int32) : Option (Int32 × v_I) :=
if p2 = (3 : Int32) then (
h_X6_readOrder_J38 S F I p1 p2 (1 : Int32))
else (
(p_in 12 p1).bind fun j_35 =>
p_let (v_up I 33 j_35 (I 31 1)) fun I_36 =>
(gh_X6_readTest GNN 4 0 S I_36 F).bind fun r_38 =>
(f_X8_addStep S r_38.2 F 31 (0 : Int32) (0 : Int32)).bind fun r_40 =>
h_X6_readOrder_J38 S F r_40.2 p1 p2 r_38.1)
set_option maxHeartbeats 4000000 in
set_option maxRecDepth 100000 in
theorem s_X6_readOrder {S : v_S} {F : v_F} (hS : p_SS S) (hF : p_FF F) (I : v_I) (p1 : Int32) (p2 : Int32) : f_X6_readOrder S I F 30 p1 p2 = h_X6_readOrder S I F p1 p2 := by
  unfold f_X6_readOrder h_X6_readOrder
  simp only [p_bs, s_X6_take hS hF, p_obS hS (a := 30) (kd := 6) rfl, s_X6_numberAtHand hS hF, p_FS hF (a := 30) (i := 0) (b := 31) (by decide), p_obS hS (a := 31) (kd := 8) rfl, p_FS hF (a := 31) (i := 7) (b := 36) (by decide), p_ixS hS (kd := 20) (a := 36) (n := 12) rfl, s_X6_nextToken hS hF, s_X6_faultHere hS hF, p_FS hF (a := 31) (i := 5) (b := 34) (by decide), p_ixS hS (kd := 20) (a := 34) (n := 12) rfl, s_g_X6_readTest hS hF, p_FS hF (a := 31) (i := 4) (b := 33) (by decide), p_ixS hS (kd := 20) (a := 33) (n := 12) rfl, s_X6_readOrder_J93 hS hF, s_X6_readOrder_J38 hS hF]

def h_X6_readClause_J68 (S : v_S) (F : v_F) (I : v_I) : Option (Int32 × v_I) :=
(h_X6_faultHere S I F).bind fun r_6 =>
(p_bl r_6.1).bind fun _ =>
some (r_6.1, r_6.2)
set_option maxHeartbeats 4000000 in
set_option maxRecDepth 100000 in
theorem s_X6_readClause_J68 {S : v_S} {F : v_F} (hS : p_SS S) (hF : p_FF F) (I : v_I) : f_X6_readClause_J68 S F I 30 = h_X6_readClause_J68 S F I := by
  unfold f_X6_readClause_J68 h_X6_readClause_J68
  simp only [p_bs, p_obS hS (a := 30) (kd := 6) rfl, s_X6_faultHere hS hF, p_FS hF (a := 30) (i := 0) (b := 31) (by decide), p_obS hS (a := 31) (kd := 8) rfl, s_X6_nextToken hS hF, s_X6_readLaw hS hF, s_X6_take hS hF, p_FS hF (a := 31) (i := 6) (b := 35) (by decide), p_ixS hS (kd := 20) (a := 35) (n := 12) rfl, s_g_X6_readTest hS hF, s_X6_readOrder hS hF]
def h_X6_readClause_J112 (S : v_S) (F : v_F) (I : v_I) (y4 : Int32) (z0 : Int32) : Option (Int32 × v_I) :=
if z0 = (0 : Int32) then (
(p_bl z0).bind fun _ =>
some (z0, I))
else (
(h_X6_take S I F (263 : Int32)).bind fun r_22 =>
if r_22.1 = (0 : Int32) then (
(p_bl z0).bind fun _ =>
some (z0, r_22.2))
else (
(p_in 12 y4).bind fun j_26 =>
p_let (v_up r_22.2 35 j_26 (r_22.2 31 1)) fun I_27 =>
(gh_X6_readTest GNN 0 0 S I_27 F).bind fun r_29 =>
(f_X8_addStep S r_29.2 F 31 (0 : Int32) (0 : Int32)).bind fun r_31 =>
(p_bl r_29.1).bind fun _ =>
some (r_29.1, r_31.2)))
set_option maxHeartbeats 4000000 in
set_option maxRecDepth 100000 in
theorem s_X6_readClause_J112 {S : v_S} {F : v_F} (hS : p_SS S) (hF : p_FF F) (I : v_I) (y4 : Int32) (z0 : Int32) : f_X6_readClause_J112 S F I 30 y4 z0 = h_X6_readClause_J112 S F I y4 z0 := by
  unfold f_X6_readClause_J112 h_X6_readClause_J112
  simp only [p_bs, p_obS hS (a := 30) (kd := 6) rfl, s_X6_faultHere hS hF, p_FS hF (a := 30) (i := 0) (b := 31) (by decide), p_obS hS (a := 31) (kd := 8) rfl, s_X6_nextToken hS hF, s_X6_readLaw hS hF, s_X6_take hS hF, p_FS hF (a := 31) (i := 6) (b := 35) (by decide), p_ixS hS (kd := 20) (a := 35) (n := 12) rfl, s_g_X6_readTest hS hF, s_X6_readOrder hS hF, s_X6_readClause_J68 hS hF]
def h_X6_readClause_J33 (S : v_S) (F : v_F) (I : v_I) (y1 : Int32) (z0 : Int32) : Option (Int32 × v_I) :=
p_let ((I 30 5) - y1) fun x_3 =>
if (I 30 5) < y1 then (
h_X6_readClause_J68 S F I)
else (
if z0 < (I 30 5) then (
h_X6_readClause_J68 S F I)
else (
(f_X8_addClause S I F 31 x_3).bind fun r_10 =>
if r_10.1 = (0 : Int32) then (
h_X6_readClause_J68 S F r_10.2)
else (
(h_X6_nextToken S r_10.2 F).bind fun r_13 =>
p_let ((r_13 31 0) - (1 : Int32)) fun x_15 =>
if (r_13 30 6) = (0 : Int32) then (
(h_X6_readLaw S r_13 F x_15 x_3).bind fun r_18 =>
h_X6_readClause_J112 S F r_18.2 x_15 r_18.1)
else (
(h_X6_readOrder S r_13 F x_15 x_3).bind fun r_34 =>
h_X6_readClause_J112 S F r_34.2 x_15 r_34.1))))
set_option maxHeartbeats 4000000 in
set_option maxRecDepth 100000 in
theorem s_X6_readClause_J33 {S : v_S} {F : v_F} (hS : p_SS S) (hF : p_FF F) (I : v_I) (y1 : Int32) (z0 : Int32) : f_X6_readClause_J33 S F I 30 y1 z0 = h_X6_readClause_J33 S F I y1 z0 := by
  unfold f_X6_readClause_J33 h_X6_readClause_J33
  simp only [p_bs, p_obS hS (a := 30) (kd := 6) rfl, s_X6_faultHere hS hF, p_FS hF (a := 30) (i := 0) (b := 31) (by decide), p_obS hS (a := 31) (kd := 8) rfl, s_X6_nextToken hS hF, s_X6_readLaw hS hF, s_X6_take hS hF, p_FS hF (a := 31) (i := 6) (b := 35) (by decide), p_ixS hS (kd := 20) (a := 35) (n := 12) rfl, s_g_X6_readTest hS hF, s_X6_readOrder hS hF, s_X6_readClause_J68 hS hF, s_X6_readClause_J112 hS hF]
def h_X6_readClause_J16 (S : v_S) (F : v_F) (I : v_I) (z0 : Int32) : Option (Int32 × v_I) :=
if (I 30 6) = (0 : Int32) then (
h_X6_readClause_J33 S F I z0 (258 : Int32))
else (
h_X6_readClause_J33 S F I z0 (262 : Int32))
set_option maxHeartbeats 4000000 in
set_option maxRecDepth 100000 in
theorem s_X6_readClause_J16 {S : v_S} {F : v_F} (hS : p_SS S) (hF : p_FF F) (I : v_I) (z0 : Int32) : f_X6_readClause_J16 S F I 30 z0 = h_X6_readClause_J16 S F I z0 := by
  unfold f_X6_readClause_J16 h_X6_readClause_J16
  simp only [p_bs, p_obS hS (a := 30) (kd := 6) rfl, s_X6_faultHere hS hF, p_FS hF (a := 30) (i := 0) (b := 31) (by decide), p_obS hS (a := 31) (kd := 8) rfl, s_X6_nextToken hS hF, s_X6_readLaw hS hF, s_X6_take hS hF, p_FS hF (a := 31) (i := 6) (b := 35) (by decide), p_ixS hS (kd := 20) (a := 35) (n := 12) rfl, s_g_X6_readTest hS hF, s_X6_readOrder hS hF, s_X6_readClause_J68 hS hF, s_X6_readClause_J112 hS hF, s_X6_readClause_J33 hS hF]
def h_X6_readClause (S : v_S) (I : v_I) (F : v_F) : Option (Int32 × v_I) :=
if (I 30 6) = (0 : Int32) then (
h_X6_readClause_J16 S F I (256 : Int32))
else (
h_X6_readClause_J16 S F I (259 : Int32))
set_option maxHeartbeats 4000000 in
set_option maxRecDepth 100000 in
theorem s_X6_readClause {S : v_S} {F : v_F} (hS : p_SS S) (hF : p_FF F) (I : v_I) : f_X6_readClause S I F 30 = h_X6_readClause S I F := by
  unfold f_X6_readClause h_X6_readClause
  simp only [p_bs, p_obS hS (a := 30) (kd := 6) rfl, s_X6_faultHere hS hF, p_FS hF (a := 30) (i := 0) (b := 31) (by decide), p_obS hS (a := 31) (kd := 8) rfl, s_X6_nextToken hS hF, s_X6_readLaw hS hF, s_X6_take hS hF, p_FS hF (a := 31) (i := 6) (b := 35) (by decide), p_ixS hS (kd := 20) (a := 35) (n := 12) rfl, s_g_X6_readTest hS hF, s_X6_readOrder hS hF, s_X6_readClause_J68 hS hF, s_X6_readClause_J112 hS hF, s_X6_readClause_J33 hS hF, s_X6_readClause_J16 hS hF]

end sc01
