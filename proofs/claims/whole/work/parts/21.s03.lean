noncomputable section sp03
def h_X10_nextInChain_J2_28 (I : v_I) (w1 : Int32) (y2 : Int32) : Option ((Int32) ⊕ (Int32)) :=
p_let (y2 + (1 : Int32)) fun x_4 =>
some (.inl x_4)
set_option maxHeartbeats 4000000 in
set_option maxRecDepth 100000 in
theorem s_X10_nextInChain_J2_28 {S : v_S} {F : v_F} (hS : p_SS S) (hF : p_FF F) (I : v_I) (w1 : Int32) (y2 : Int32) : f_X10_nextInChain_J2_28 S I F 49 w1 y2 = h_X10_nextInChain_J2_28 I w1 y2 := by
  unfold f_X10_nextInChain_J2_28 h_X10_nextInChain_J2_28
  simp only [p_bs, s_X10_watches hS hF, p_obS hS (a := 49) (kd := 10) rfl, p_FS hF (a := 49) (i := 34) (b := 66) (by decide), p_ixS hS (kd := 20) (a := 66) (n := 8) rfl]
def h_X10_nextInChain_B2 (I : v_I) (w1 : Int32) (s2 : Int32) : Option ((Int32) ⊕ (Int32)) :=
(h_X10_watches I s2 w1).bind fun r_1 =>
if r_1 = (0 : Int32) then (
h_X10_nextInChain_J2_28 I w1 s2)
else (
(p_in 8 s2).bind fun j_6 =>
(p_in 8 w1).bind fun j_7 =>
if (I 66 j_6) = ((I 66 j_7) - (1 : Int32)) then (
some (.inr s2))
else (
h_X10_nextInChain_J2_28 I w1 s2))
set_option maxHeartbeats 4000000 in
set_option maxRecDepth 100000 in
theorem s_X10_nextInChain_B2 {S : v_S} {F : v_F} (hS : p_SS S) (hF : p_FF F) (I : v_I) (w1 : Int32) : f_X10_nextInChain_B2 S I F 49 w1 = h_X10_nextInChain_B2 I w1 := by
  funext s2
  unfold f_X10_nextInChain_B2 h_X10_nextInChain_B2
  simp only [p_bs, s_X10_watches hS hF, p_obS hS (a := 49) (kd := 10) rfl, p_FS hF (a := 49) (i := 34) (b := 66) (by decide), p_ixS hS (kd := 20) (a := 66) (n := 8) rfl, s_X10_nextInChain_J2_28 hS hF]
def h_X10_nextInChain (I : v_I) (p1 : Int32) : Option (Int32) :=
(v_loop (h_X10_nextInChain_B2 I p1) FU (0 : Int32)).bind fun q_9 =>
some (q_9)
set_option maxHeartbeats 4000000 in
set_option maxRecDepth 100000 in
theorem s_X10_nextInChain {S : v_S} {F : v_F} (hS : p_SS S) (hF : p_FF F) (I : v_I) (p1 : Int32) : f_X10_nextInChain S I F 49 p1 = h_X10_nextInChain I p1 := by
  unfold f_X10_nextInChain h_X10_nextInChain
  simp only [p_bs, s_X10_watches hS hF, p_obS hS (a := 49) (kd := 10) rfl, p_FS hF (a := 49) (i := 34) (b := 66) (by decide), p_ixS hS (kd := 20) (a := 66) (n := 8) rfl, s_X10_nextInChain_J2_28 hS hF, s_X10_nextInChain_B2 hS hF]

def h_X10_chain_J44 (I : v_I) (y1 : Int32) : Option (Int32 × v_I) :=
(p_in 8 y1).bind fun j_12 =>
if (I 66 j_12) < (1000000 : Int32) then (
(p_in 8 y1).bind fun j_14 =>
some (I 66 j_14, I))
else (
some ((-1 : Int32), I))
set_option maxHeartbeats 4000000 in
set_option maxRecDepth 100000 in
theorem s_X10_chain_J44 {S : v_S} {F : v_F} (hS : p_SS S) (hF : p_FF F) (I : v_I) (y1 : Int32) : f_X10_chain_J44 S F I 49 y1 = h_X10_chain_J44 I y1 := by
  unfold f_X10_chain_J44 h_X10_chain_J44
  simp only [p_bs, s_X10_isOne hS hF, p_obS hS (a := 49) (kd := 10) rfl, s_X10_laysLeft hS hF, p_FS hF (a := 49) (i := 34) (b := 66) (by decide), p_ixS hS (kd := 20) (a := 66) (n := 8) rfl, s_X10_nextInChain hS hF]
def h_X10_chain_B72 (I : v_I) (w2 : Int32) (w3 : Int32) (s72 : Int32 × Int32) : Option ((Int32 × Int32) ⊕ (Nat × (Int32 × Int32))) :=
if w3 < s72.2 then (
some (.inr (1, (s72.1, s72.2))))
else (
if s72.1 = w2 then (
some (.inr (0, (s72.1, s72.2))))
else (
(h_X10_nextInChain I s72.1).bind fun r_18 =>
p_let (s72.2 + (1 : Int32)) fun x_20 =>
some (.inl (r_18, x_20))))
set_option maxHeartbeats 4000000 in
set_option maxRecDepth 100000 in
theorem s_X10_chain_B72 {S : v_S} {F : v_F} (hS : p_SS S) (hF : p_FF F) (I : v_I) (w2 : Int32) (w3 : Int32) : f_X10_chain_B72 S F I 49 w2 w3 = h_X10_chain_B72 I w2 w3 := by
  funext s72
  unfold f_X10_chain_B72 h_X10_chain_B72
  simp only [p_bs, s_X10_isOne hS hF, p_obS hS (a := 49) (kd := 10) rfl, s_X10_laysLeft hS hF, p_FS hF (a := 49) (i := 34) (b := 66) (by decide), p_ixS hS (kd := 20) (a := 66) (n := 8) rfl, s_X10_nextInChain hS hF, s_X10_chain_J44 hS hF]
def h_X10_chain (I : v_I) (p1 : Int32) (p2 : Int32) (p3 : Int32) : Option (Int32 × v_I) :=
(h_X10_isOne I p1).bind fun r_1 =>
if r_1 = (0 : Int32) then (
some ((-1 : Int32), I))
else (
(h_X10_isOne I p2).bind fun r_4 =>
if r_4 = (0 : Int32) then (
some ((-1 : Int32), I))
else (
if (-1 : Int32) ≤ p3 then (
(h_X10_laysLeft I p2).bind fun r_8 =>
(p_in 8 p1).bind fun j_10 =>
if (1000000 : Int32) ≤ (r_8 66 j_10) then (
h_X10_chain_J44 r_8 p1)
else (
if p3 = (-1 : Int32) then (
h_X10_chain_J44 r_8 p1)
else (
(v_loop (h_X10_chain_B72 r_8 p2 p3) FU (p1, (0 : Int32))).bind fun q_22 =>
if q_22.1 = 0 then (
some ((-1 : Int32), r_8))
else (
some (q_22.2.1, r_8)))))
else (
some ((-1 : Int32), I))))
set_option maxHeartbeats 4000000 in
set_option maxRecDepth 100000 in
theorem s_X10_chain {S : v_S} {F : v_F} (hS : p_SS S) (hF : p_FF F) (I : v_I) (p1 : Int32) (p2 : Int32) (p3 : Int32) : f_X10_chain S I F 49 p1 p2 p3 = h_X10_chain I p1 p2 p3 := by
  unfold f_X10_chain h_X10_chain
  simp only [p_bs, s_X10_isOne hS hF, p_obS hS (a := 49) (kd := 10) rfl, s_X10_laysLeft hS hF, p_FS hF (a := 49) (i := 34) (b := 66) (by decide), p_ixS hS (kd := 20) (a := 66) (n := 8) rfl, s_X10_nextInChain hS hF, s_X10_chain_J44 hS hF, s_X10_chain_B72 hS hF]

def h_X10_isLowest (I : v_I) (p1 : Int32) : Option (Int32) :=
(p_in 8 p1).bind fun j_1 =>
if ((I 68 j_1) &&& (((1 : Int32) <<< (p1 &&& 31)) - (1 : Int32))) = (0 : Int32) then (
some ((1 : Int32)))
else (
some ((0 : Int32)))
set_option maxHeartbeats 4000000 in
set_option maxRecDepth 100000 in
theorem s_X10_isLowest {S : v_S} {F : v_F} (hS : p_SS S) (hF : p_FF F) (I : v_I) (p1 : Int32) : f_X10_isLowest S I F 49 p1 = h_X10_isLowest I p1 := by
  unfold f_X10_isLowest h_X10_isLowest
  simp only [p_bs, p_obS hS (a := 49) (kd := 10) rfl, p_FS hF (a := 49) (i := 36) (b := 68) (by decide), p_ixS hS (kd := 20) (a := 68) (n := 8) rfl]

def h_X10_reached_J16_49 (I : v_I) (w3 : Int32) (y4 : Int32) (z0 : Int32) (z1 : Int32) : Option ((Int32 × Int32) ⊕ (Int32 × Int32)) :=
p_let (z1 ||| z0) fun x_9 =>
p_let (y4 + (1 : Int32)) fun x_11 =>
some (.inl (x_9, x_11))
set_option maxHeartbeats 4000000 in
set_option maxRecDepth 100000 in
theorem s_X10_reached_J16_49 {S : v_S} {F : v_F} (hS : p_SS S) (hF : p_FF F) (I : v_I) (w3 : Int32) (y4 : Int32) (z0 : Int32) (z1 : Int32) : f_X10_reached_J16_49 S I F 49 w3 y4 z0 z1 = h_X10_reached_J16_49 I w3 y4 z0 z1 := by
  unfold f_X10_reached_J16_49 h_X10_reached_J16_49
  simp only [p_bs, s_X10_many hS hF, p_obS hS (a := 49) (kd := 10) rfl, p_FS hF (a := 49) (i := 2) (b := 51) (by decide), p_ixS hS (kd := 20) (a := 51) (n := 5660) rfl]
def h_X10_reached_B16 (I : v_I) (w3 : Int32) (s16 : Int32 × Int32) : Option ((Int32 × Int32) ⊕ (Int32 × Int32)) :=
(h_X10_many I).bind fun r_4 =>
if r_4 ≤ s16.2 then (
some (.inr (s16.1, s16.2)))
else (
(p_in 5660 ((26 : Int32) + s16.2)).bind fun j_7 =>
if ((I 51 j_7) &&& w3) = (0 : Int32) then (
h_X10_reached_J16_49 I w3 s16.2 (0 : Int32) s16.1)
else (
h_X10_reached_J16_49 I w3 s16.2 ((1 : Int32) <<< (s16.2 &&& 31)) s16.1))
set_option maxHeartbeats 4000000 in
set_option maxRecDepth 100000 in
theorem s_X10_reached_B16 {S : v_S} {F : v_F} (hS : p_SS S) (hF : p_FF F) (I : v_I) (w3 : Int32) : f_X10_reached_B16 S I F 49 w3 = h_X10_reached_B16 I w3 := by
  funext s16
  unfold f_X10_reached_B16 h_X10_reached_B16
  simp only [p_bs, s_X10_many hS hF, p_obS hS (a := 49) (kd := 10) rfl, p_FS hF (a := 49) (i := 2) (b := 51) (by decide), p_ixS hS (kd := 20) (a := 51) (n := 5660) rfl, s_X10_reached_J16_49 hS hF]
def h_X10_reached_B6 (I : v_I) (s6 : Int32 × Int32) : Option ((Int32 × Int32) ⊕ (Int32 × Int32)) :=
if s6.1 = s6.2 then (
some (.inr (s6.1, s6.2)))
else (
(v_loop (h_X10_reached_B16 I s6.1) FU (s6.1, (0 : Int32))).bind fun q_13 =>
some (.inl (q_13.1, s6.1)))
set_option maxHeartbeats 4000000 in
set_option maxRecDepth 100000 in
theorem s_X10_reached_B6 {S : v_S} {F : v_F} (hS : p_SS S) (hF : p_FF F) (I : v_I) : f_X10_reached_B6 S I F 49 = h_X10_reached_B6 I := by
  funext s6
  unfold f_X10_reached_B6 h_X10_reached_B6
  simp only [p_bs, s_X10_many hS hF, p_obS hS (a := 49) (kd := 10) rfl, p_FS hF (a := 49) (i := 2) (b := 51) (by decide), p_ixS hS (kd := 20) (a := 51) (n := 5660) rfl, s_X10_reached_J16_49 hS hF, s_X10_reached_B16 hS hF]
def h_X10_reached (I : v_I) (p1 : Int32) : Option (Int32) :=
p_let ((1 : Int32) <<< (p1 &&& 31)) fun x_1 =>
(v_loop (h_X10_reached_B6 I) FU (x_1, (-1 : Int32))).bind fun q_15 =>
some (q_15.1)
set_option maxHeartbeats 4000000 in
set_option maxRecDepth 100000 in
theorem s_X10_reached {S : v_S} {F : v_F} (hS : p_SS S) (hF : p_FF F) (I : v_I) (p1 : Int32) : f_X10_reached S I F 49 p1 = h_X10_reached I p1 := by
  unfold f_X10_reached h_X10_reached
  simp only [p_bs, s_X10_many hS hF, p_obS hS (a := 49) (kd := 10) rfl, p_FS hF (a := 49) (i := 2) (b := 51) (by decide), p_ixS hS (kd := 20) (a := 51) (n := 5660) rfl, s_X10_reached_J16_49 hS hF, s_X10_reached_B16 hS hF, s_X10_reached_B6 hS hF]

def h_X10_laysKnots_B2  (s2 : Int32 × v_I) : Option ((Int32 × v_I) ⊕ (Int32 × v_I)) :=
(h_X10_many s2.2).bind fun r_1 =>
if r_1 ≤ s2.1 then (
some (.inr (s2.1, s2.2)))
else (
(h_X10_reached s2.2 s2.1).bind fun r_4 =>
(p_in 8 s2.1).bind fun j_6 =>
p_let (v_up s2.2 67 j_6 r_4) fun I_7 =>
p_let (s2.1 + (1 : Int32)) fun x_9 =>
some (.inl (x_9, I_7)))
set_option maxHeartbeats 4000000 in
set_option maxRecDepth 100000 in
theorem s_X10_laysKnots_B2 {S : v_S} {F : v_F} (hS : p_SS S) (hF : p_FF F)  : f_X10_laysKnots_B2 S F 49 = h_X10_laysKnots_B2 := by
  funext s2
  unfold f_X10_laysKnots_B2 h_X10_laysKnots_B2
  simp only [p_bs, s_X10_many hS hF, p_obS hS (a := 49) (kd := 10) rfl, p_FS hF (a := 49) (i := 35) (b := 67) (by decide), s_X10_reached hS hF, p_ixS hS (kd := 20) (a := 67) (n := 8) rfl, p_FS hF (a := 49) (i := 36) (b := 68) (by decide), p_ixS hS (kd := 20) (a := 68) (n := 8) rfl, s_X10_isIn]
def h_X10_laysKnots_J46_94 (w1 : Int32) (I : v_I) (y2 : Int32) (z0 : Int32) (z1 : Int32) (z2 : Int32) : Option ((Int32 × v_I) ⊕ (Int32 × v_I)) :=
(p_in 8 z2).bind fun j_27 =>
p_let (v_up I 68 j_27 (z1 ||| z0)) fun I_28 =>
p_let (y2 + (1 : Int32)) fun x_30 =>
some (.inl (x_30, I_28))
set_option maxHeartbeats 4000000 in
set_option maxRecDepth 100000 in
theorem s_X10_laysKnots_J46_94 {S : v_S} {F : v_F} (hS : p_SS S) (hF : p_FF F) (w1 : Int32) (I : v_I) (y2 : Int32) (z0 : Int32) (z1 : Int32) (z2 : Int32) : f_X10_laysKnots_J46_94 S F 49 w1 I y2 z0 z1 z2 68 = h_X10_laysKnots_J46_94 w1 I y2 z0 z1 z2 := by
  unfold f_X10_laysKnots_J46_94 h_X10_laysKnots_J46_94
  simp only [p_bs, s_X10_many hS hF, p_obS hS (a := 49) (kd := 10) rfl, p_FS hF (a := 49) (i := 35) (b := 67) (by decide), s_X10_reached hS hF, p_ixS hS (kd := 20) (a := 67) (n := 8) rfl, p_FS hF (a := 49) (i := 36) (b := 68) (by decide), p_ixS hS (kd := 20) (a := 68) (n := 8) rfl, s_X10_isIn, s_X10_laysKnots_B2 hS hF]
def h_X10_laysKnots_J46_93 (w1 : Int32) (I : v_I) (y2 : Int32) (z0 : Int32) (z1 : Int32) : Option ((Int32 × v_I) ⊕ (Int32 × v_I)) :=
h_X10_laysKnots_J46_94 w1 I y2 (0 : Int32) z0 z1
set_option maxHeartbeats 4000000 in
set_option maxRecDepth 100000 in
theorem s_X10_laysKnots_J46_93 {S : v_S} {F : v_F} (hS : p_SS S) (hF : p_FF F) (w1 : Int32) (I : v_I) (y2 : Int32) (z0 : Int32) (z1 : Int32) : f_X10_laysKnots_J46_93 S F 49 w1 I y2 z0 z1 68 = h_X10_laysKnots_J46_93 w1 I y2 z0 z1 := by
  unfold f_X10_laysKnots_J46_93 h_X10_laysKnots_J46_93
  simp only [p_bs, s_X10_many hS hF, p_obS hS (a := 49) (kd := 10) rfl, p_FS hF (a := 49) (i := 35) (b := 67) (by decide), s_X10_reached hS hF, p_ixS hS (kd := 20) (a := 67) (n := 8) rfl, p_FS hF (a := 49) (i := 36) (b := 68) (by decide), p_ixS hS (kd := 20) (a := 68) (n := 8) rfl, s_X10_isIn, s_X10_laysKnots_B2 hS hF, s_X10_laysKnots_J46_94 hS hF]
def h_X10_laysKnots_B46 (w1 : Int32) (s46 : Int32 × v_I) : Option ((Int32 × v_I) ⊕ (Int32 × v_I)) :=
(h_X10_many s46.2).bind fun r_19 =>
if r_19 ≤ s46.1 then (
some (.inr (s46.1, s46.2)))
else (
(p_in 8 w1).bind fun j_22 =>
(p_in 8 w1).bind fun j_23 =>
(h_X10_isIn (s46.2 67 j_23) s46.1).bind fun r_24 =>
if r_24 = (0 : Int32) then (
h_X10_laysKnots_J46_93 w1 s46.2 s46.1 (s46.2 68 j_22) w1)
else (
(p_in 8 s46.1).bind fun j_32 =>
(h_X10_isIn (s46.2 67 j_32) w1).bind fun r_33 =>
if r_33 = (0 : Int32) then (
h_X10_laysKnots_J46_93 w1 s46.2 s46.1 (s46.2 68 j_22) w1)
else (
h_X10_laysKnots_J46_94 w1 s46.2 s46.1 ((1 : Int32) <<< (s46.1 &&& 31)) (s46.2 68 j_22) w1)))
set_option maxHeartbeats 4000000 in
set_option maxRecDepth 100000 in
theorem s_X10_laysKnots_B46 {S : v_S} {F : v_F} (hS : p_SS S) (hF : p_FF F) (w1 : Int32) : f_X10_laysKnots_B46 S F 49 w1 = h_X10_laysKnots_B46 w1 := by
  funext s46
  unfold f_X10_laysKnots_B46 h_X10_laysKnots_B46
  simp only [p_bs, s_X10_many hS hF, p_obS hS (a := 49) (kd := 10) rfl, p_FS hF (a := 49) (i := 35) (b := 67) (by decide), s_X10_reached hS hF, p_ixS hS (kd := 20) (a := 67) (n := 8) rfl, p_FS hF (a := 49) (i := 36) (b := 68) (by decide), p_ixS hS (kd := 20) (a := 68) (n := 8) rfl, s_X10_isIn, s_X10_laysKnots_B2 hS hF, s_X10_laysKnots_J46_94 hS hF, s_X10_laysKnots_J46_93 hS hF]
def h_X10_laysKnots_B29  (s29 : Int32 × v_I) : Option ((Int32 × v_I) ⊕ (Int32 × v_I)) :=
(h_X10_many s29.2).bind fun r_13 =>
if r_13 ≤ s29.1 then (
some (.inr (s29.1, s29.2)))
else (
(p_in 8 s29.1).bind fun j_16 =>
p_let (v_up s29.2 68 j_16 (0 : Int32)) fun I_17 =>
(v_loop (h_X10_laysKnots_B46 s29.1) FU ((0 : Int32), I_17)).bind fun q_36 =>
p_let (s29.1 + (1 : Int32)) fun x_38 =>
some (.inl (x_38, q_36.2)))
set_option maxHeartbeats 4000000 in
set_option maxRecDepth 100000 in
theorem s_X10_laysKnots_B29 {S : v_S} {F : v_F} (hS : p_SS S) (hF : p_FF F)  : f_X10_laysKnots_B29 S F 49 = h_X10_laysKnots_B29 := by
  funext s29
  unfold f_X10_laysKnots_B29 h_X10_laysKnots_B29
  simp only [p_bs, s_X10_many hS hF, p_obS hS (a := 49) (kd := 10) rfl, p_FS hF (a := 49) (i := 35) (b := 67) (by decide), s_X10_reached hS hF, p_ixS hS (kd := 20) (a := 67) (n := 8) rfl, p_FS hF (a := 49) (i := 36) (b := 68) (by decide), p_ixS hS (kd := 20) (a := 68) (n := 8) rfl, s_X10_isIn, s_X10_laysKnots_B2 hS hF, s_X10_laysKnots_J46_94 hS hF, s_X10_laysKnots_J46_93 hS hF, s_X10_laysKnots_B46 hS hF]
def h_X10_laysKnots (I : v_I) : Option (v_I) :=
(v_loop (h_X10_laysKnots_B2) FU ((0 : Int32), I)).bind fun q_11 =>
(v_loop (h_X10_laysKnots_B29) FU ((0 : Int32), q_11.2)).bind fun q_40 =>
some (q_40.2)
set_option maxHeartbeats 4000000 in
set_option maxRecDepth 100000 in
theorem s_X10_laysKnots {S : v_S} {F : v_F} (hS : p_SS S) (hF : p_FF F) (I : v_I) : f_X10_laysKnots S I F 49 = h_X10_laysKnots I := by
  unfold f_X10_laysKnots h_X10_laysKnots
  simp only [p_bs, s_X10_many hS hF, p_obS hS (a := 49) (kd := 10) rfl, p_FS hF (a := 49) (i := 35) (b := 67) (by decide), s_X10_reached hS hF, p_ixS hS (kd := 20) (a := 67) (n := 8) rfl, p_FS hF (a := 49) (i := 36) (b := 68) (by decide), p_ixS hS (kd := 20) (a := 68) (n := 8) rfl, s_X10_isIn, s_X10_laysKnots_B2 hS hF, s_X10_laysKnots_J46_94 hS hF, s_X10_laysKnots_J46_93 hS hF, s_X10_laysKnots_B46 hS hF, s_X10_laysKnots_B29 hS hF]

def h_X10_knots_J8_30 (I : v_I) (y2 : Int32) (z0 : Int32) (z1 : Int32) : Option ((Int32 × Int32) ⊕ (Int32 × Int32)) :=
p_let (z1 + z0) fun x_9 =>
p_let (y2 + (1 : Int32)) fun x_11 =>
some (.inl (x_9, x_11))
set_option maxHeartbeats 4000000 in
set_option maxRecDepth 100000 in
theorem s_X10_knots_J8_30 {S : v_S} {F : v_F} (hS : p_SS S) (hF : p_FF F) (I : v_I) (y2 : Int32) (z0 : Int32) (z1 : Int32) : f_X10_knots_J8_30 S I F 49 y2 z0 z1 = h_X10_knots_J8_30 I y2 z0 z1 := by
  unfold f_X10_knots_J8_30 h_X10_knots_J8_30
  simp only [p_bs, s_X10_laysKnots hS hF, p_obS hS (a := 49) (kd := 10) rfl, s_X10_many hS hF, s_X10_isLowest hS hF]
def h_X10_knots_B8 (I : v_I) (s8 : Int32 × Int32) : Option ((Int32 × Int32) ⊕ (Int32 × Int32)) :=
(h_X10_many I).bind fun r_3 =>
if r_3 ≤ s8.2 then (
some (.inr (s8.1, s8.2)))
else (
(h_X10_isLowest I s8.2).bind fun r_6 =>
if r_6 = (0 : Int32) then (
h_X10_knots_J8_30 I s8.2 (0 : Int32) s8.1)
else (
h_X10_knots_J8_30 I s8.2 (1 : Int32) s8.1))
set_option maxHeartbeats 4000000 in
set_option maxRecDepth 100000 in
theorem s_X10_knots_B8 {S : v_S} {F : v_F} (hS : p_SS S) (hF : p_FF F) (I : v_I) : f_X10_knots_B8 S F I 49 = h_X10_knots_B8 I := by
  funext s8
  unfold f_X10_knots_B8 h_X10_knots_B8
  simp only [p_bs, s_X10_laysKnots hS hF, p_obS hS (a := 49) (kd := 10) rfl, s_X10_many hS hF, s_X10_isLowest hS hF, s_X10_knots_J8_30 hS hF]
def h_X10_knots (I : v_I) : Option (Int32 × v_I) :=
(h_X10_laysKnots I).bind fun r_1 =>
(v_loop (h_X10_knots_B8 r_1) FU ((0 : Int32), (0 : Int32))).bind fun q_13 =>
some (q_13.1, r_1)
set_option maxHeartbeats 4000000 in
set_option maxRecDepth 100000 in
theorem s_X10_knots {S : v_S} {F : v_F} (hS : p_SS S) (hF : p_FF F) (I : v_I) : f_X10_knots S I F 49 = h_X10_knots I := by
  unfold f_X10_knots h_X10_knots
  simp only [p_bs, s_X10_laysKnots hS hF, p_obS hS (a := 49) (kd := 10) rfl, s_X10_many hS hF, s_X10_isLowest hS hF, s_X10_knots_J8_30 hS hF, s_X10_knots_B8 hS hF]

def h_X10_isReached_J4_47 (I : v_I) (w1 : Int32) (y3 : Int32) (z0 : Int32) : Option ((Int32 × Int32) ⊕ (Int32 × Int32)) :=
p_let (y3 + (1 : Int32)) fun x_5 =>
some (.inl (z0, x_5))
set_option maxHeartbeats 4000000 in
set_option maxRecDepth 100000 in
theorem s_X10_isReached_J4_47 {S : v_S} {F : v_F} (hS : p_SS S) (hF : p_FF F) (I : v_I) (w1 : Int32) (y3 : Int32) (z0 : Int32) : f_X10_isReached_J4_47 S I F 49 w1 y3 z0 = h_X10_isReached_J4_47 I w1 y3 z0 := by
  unfold f_X10_isReached_J4_47 h_X10_isReached_J4_47
  simp only [p_bs, s_X10_many hS hF, p_obS hS (a := 49) (kd := 10) rfl, p_FS hF (a := 49) (i := 36) (b := 68) (by decide), p_ixS hS (kd := 20) (a := 68) (n := 8) rfl, s_X10_isIn, p_FS hF (a := 49) (i := 35) (b := 67) (by decide), p_ixS hS (kd := 20) (a := 67) (n := 8) rfl]
def h_X10_isReached_J4_42 (I : v_I) (w1 : Int32) (y3 : Int32) : Option ((Int32 × Int32) ⊕ (Int32 × Int32)) :=
h_X10_isReached_J4_47 I w1 y3 (1 : Int32)
set_option maxHeartbeats 4000000 in
set_option maxRecDepth 100000 in
theorem s_X10_isReached_J4_42 {S : v_S} {F : v_F} (hS : p_SS S) (hF : p_FF F) (I : v_I) (w1 : Int32) (y3 : Int32) : f_X10_isReached_J4_42 S I F 49 w1 y3 = h_X10_isReached_J4_42 I w1 y3 := by
  unfold f_X10_isReached_J4_42 h_X10_isReached_J4_42
  simp only [p_bs, s_X10_many hS hF, p_obS hS (a := 49) (kd := 10) rfl, p_FS hF (a := 49) (i := 36) (b := 68) (by decide), p_ixS hS (kd := 20) (a := 68) (n := 8) rfl, s_X10_isIn, p_FS hF (a := 49) (i := 35) (b := 67) (by decide), p_ixS hS (kd := 20) (a := 67) (n := 8) rfl, s_X10_isReached_J4_47 hS hF]
def h_X10_isReached_J4_46 (I : v_I) (w1 : Int32) (y3 : Int32) : Option ((Int32 × Int32) ⊕ (Int32 × Int32)) :=
h_X10_isReached_J4_47 I w1 y3 (0 : Int32)
set_option maxHeartbeats 4000000 in
set_option maxRecDepth 100000 in
theorem s_X10_isReached_J4_46 {S : v_S} {F : v_F} (hS : p_SS S) (hF : p_FF F) (I : v_I) (w1 : Int32) (y3 : Int32) : f_X10_isReached_J4_46 S I F 49 w1 y3 = h_X10_isReached_J4_46 I w1 y3 := by
  unfold f_X10_isReached_J4_46 h_X10_isReached_J4_46
  simp only [p_bs, s_X10_many hS hF, p_obS hS (a := 49) (kd := 10) rfl, p_FS hF (a := 49) (i := 36) (b := 68) (by decide), p_ixS hS (kd := 20) (a := 68) (n := 8) rfl, s_X10_isIn, p_FS hF (a := 49) (i := 35) (b := 67) (by decide), p_ixS hS (kd := 20) (a := 67) (n := 8) rfl, s_X10_isReached_J4_47 hS hF, s_X10_isReached_J4_42 hS hF]
def h_X10_isReached_B4 (I : v_I) (w1 : Int32) (s4 : Int32 × Int32) : Option ((Int32 × Int32) ⊕ (Int32 × Int32)) :=
(h_X10_many I).bind fun r_1 =>
if r_1 ≤ s4.2 then (
some (.inr (s4.1, s4.2)))
else (
if s4.1 = (0 : Int32) then (
(p_in 8 w1).bind fun j_7 =>
(h_X10_isIn (I 68 j_7) s4.2).bind fun r_8 =>
if r_8 = (0 : Int32) then (
(p_in 8 s4.2).bind fun j_11 =>
(h_X10_isIn (I 67 j_11) w1).bind fun r_12 =>
if r_12 = (0 : Int32) then (
h_X10_isReached_J4_46 I w1 s4.2)
else (
h_X10_isReached_J4_42 I w1 s4.2))
else (
h_X10_isReached_J4_46 I w1 s4.2))
else (
h_X10_isReached_J4_42 I w1 s4.2))
set_option maxHeartbeats 4000000 in
set_option maxRecDepth 100000 in
theorem s_X10_isReached_B4 {S : v_S} {F : v_F} (hS : p_SS S) (hF : p_FF F) (I : v_I) (w1 : Int32) : f_X10_isReached_B4 S I F 49 w1 = h_X10_isReached_B4 I w1 := by
  funext s4
  unfold f_X10_isReached_B4 h_X10_isReached_B4
  simp only [p_bs, s_X10_many hS hF, p_obS hS (a := 49) (kd := 10) rfl, p_FS hF (a := 49) (i := 36) (b := 68) (by decide), p_ixS hS (kd := 20) (a := 68) (n := 8) rfl, s_X10_isIn, p_FS hF (a := 49) (i := 35) (b := 67) (by decide), p_ixS hS (kd := 20) (a := 67) (n := 8) rfl, s_X10_isReached_J4_47 hS hF, s_X10_isReached_J4_42 hS hF, s_X10_isReached_J4_46 hS hF]
def h_X10_isReached (I : v_I) (p1 : Int32) : Option (Int32) :=
(v_loop (h_X10_isReached_B4 I p1) FU ((0 : Int32), (0 : Int32))).bind fun q_15 =>
(p_bl q_15.1).bind fun _ =>
some (q_15.1)
set_option maxHeartbeats 4000000 in
set_option maxRecDepth 100000 in
theorem s_X10_isReached {S : v_S} {F : v_F} (hS : p_SS S) (hF : p_FF F) (I : v_I) (p1 : Int32) : f_X10_isReached S I F 49 p1 = h_X10_isReached I p1 := by
  unfold f_X10_isReached h_X10_isReached
  simp only [p_bs, s_X10_many hS hF, p_obS hS (a := 49) (kd := 10) rfl, p_FS hF (a := 49) (i := 36) (b := 68) (by decide), p_ixS hS (kd := 20) (a := 68) (n := 8) rfl, s_X10_isIn, p_FS hF (a := 49) (i := 35) (b := 67) (by decide), p_ixS hS (kd := 20) (a := 67) (n := 8) rfl, s_X10_isReached_J4_47 hS hF, s_X10_isReached_J4_42 hS hF, s_X10_isReached_J4_46 hS hF, s_X10_isReached_B4 hS hF]

def h_X10_heads_J17_49 (I : v_I) (w1 : Int32) (y3 : Int32) (z0 : Int32) (z1 : Int32) : Option ((Int32 × Int32) ⊕ (Int32 × Int32)) :=
p_let (z1 ||| z0) fun x_12 =>
p_let (y3 + (1 : Int32)) fun x_14 =>
some (.inl (x_12, x_14))
set_option maxHeartbeats 4000000 in
set_option maxRecDepth 100000 in
theorem s_X10_heads_J17_49 {S : v_S} {F : v_F} (hS : p_SS S) (hF : p_FF F) (I : v_I) (w1 : Int32) (y3 : Int32) (z0 : Int32) (z1 : Int32) : f_X10_heads_J17_49 S I F 49 w1 y3 z0 z1 = h_X10_heads_J17_49 I w1 y3 z0 z1 := by
  unfold f_X10_heads_J17_49 h_X10_heads_J17_49
  simp only [p_bs, s_X10_isBit, s_X10_laysKnots hS hF, p_obS hS (a := 49) (kd := 10) rfl, s_X10_many hS hF, s_X10_isLowest hS hF, s_X10_isReached hS hF, s_X10_toldOf]
def h_X10_heads_J17_48 (I : v_I) (w1 : Int32) (y3 : Int32) (z0 : Int32) : Option ((Int32 × Int32) ⊕ (Int32 × Int32)) :=
h_X10_heads_J17_49 I w1 y3 (0 : Int32) z0
set_option maxHeartbeats 4000000 in
set_option maxRecDepth 100000 in
theorem s_X10_heads_J17_48 {S : v_S} {F : v_F} (hS : p_SS S) (hF : p_FF F) (I : v_I) (w1 : Int32) (y3 : Int32) (z0 : Int32) : f_X10_heads_J17_48 S I F 49 w1 y3 z0 = h_X10_heads_J17_48 I w1 y3 z0 := by
  unfold f_X10_heads_J17_48 h_X10_heads_J17_48
  simp only [p_bs, s_X10_isBit, s_X10_laysKnots hS hF, p_obS hS (a := 49) (kd := 10) rfl, s_X10_many hS hF, s_X10_isLowest hS hF, s_X10_isReached hS hF, s_X10_toldOf, s_X10_heads_J17_49 hS hF]
def h_X10_heads_B17 (I : v_I) (w1 : Int32) (s17 : Int32 × Int32) : Option ((Int32 × Int32) ⊕ (Int32 × Int32)) :=
(h_X10_many I).bind fun r_6 =>
if r_6 ≤ s17.2 then (
some (.inr (s17.1, s17.2)))
else (
(h_X10_isLowest I s17.2).bind fun r_9 =>
if r_9 = (0 : Int32) then (
h_X10_heads_J17_48 I w1 s17.2 s17.1)
else (
(h_X10_isReached I s17.2).bind fun r_16 =>
if r_16 = (0 : Int32) then (
h_X10_heads_J17_49 I w1 s17.2 ((1 : Int32) <<< (s17.2 &&& 31)) s17.1)
else (
h_X10_heads_J17_48 I w1 s17.2 s17.1)))
set_option maxHeartbeats 4000000 in
set_option maxRecDepth 100000 in
theorem s_X10_heads_B17 {S : v_S} {F : v_F} (hS : p_SS S) (hF : p_FF F) (I : v_I) (w1 : Int32) : f_X10_heads_B17 S F I 49 w1 = h_X10_heads_B17 I w1 := by
  funext s17
  unfold f_X10_heads_B17 h_X10_heads_B17
  simp only [p_bs, s_X10_isBit, s_X10_laysKnots hS hF, p_obS hS (a := 49) (kd := 10) rfl, s_X10_many hS hF, s_X10_isLowest hS hF, s_X10_isReached hS hF, s_X10_toldOf, s_X10_heads_J17_49 hS hF, s_X10_heads_J17_48 hS hF]
def h_X10_heads (I : v_I) (p1 : Int32) : Option (Int32 × v_I) :=
(h_X10_isBit p1).bind fun r_1 =>
if r_1 = (0 : Int32) then (
some ((-1 : Int32), I))
else (
(h_X10_laysKnots I).bind fun r_4 =>
(v_loop (h_X10_heads_B17 r_4 p1) FU ((0 : Int32), (0 : Int32))).bind fun q_19 =>
(h_X10_toldOf q_19.1 p1).bind fun r_21 =>
some (r_21, r_4))
set_option maxHeartbeats 4000000 in
set_option maxRecDepth 100000 in
theorem s_X10_heads {S : v_S} {F : v_F} (hS : p_SS S) (hF : p_FF F) (I : v_I) (p1 : Int32) : f_X10_heads S I F 49 p1 = h_X10_heads I p1 := by
  unfold f_X10_heads h_X10_heads
  simp only [p_bs, s_X10_isBit, s_X10_laysKnots hS hF, p_obS hS (a := 49) (kd := 10) rfl, s_X10_many hS hF, s_X10_isLowest hS hF, s_X10_isReached hS hF, s_X10_toldOf, s_X10_heads_J17_49 hS hF, s_X10_heads_J17_48 hS hF, s_X10_heads_B17 hS hF]

def h_X10_seen_J17 (I : v_I) : Option (Int32 × v_I) :=
(h_X10_refuses I (-1 : Int32)).bind fun r_4 =>
some (r_4.1, r_4.2)
set_option maxHeartbeats 4000000 in
set_option maxRecDepth 100000 in
theorem s_X10_seen_J17 {S : v_S} {F : v_F} (hS : p_SS S) (hF : p_FF F) (I : v_I) : f_X10_seen_J17 S F I 49 = h_X10_seen_J17 I := by
  unfold f_X10_seen_J17 h_X10_seen_J17
  simp only [p_bs, s_X10_lies, s_X10_refuses hS hF, p_obS hS (a := 49) (kd := 10) rfl, s_X10_isBit, p_FS hF (a := 49) (i := 2) (b := 51) (by decide), p_ixS hS (kd := 20) (a := 51) (n := 5660) rfl, p_inL (n := 5660) (k := 50) (i := (50 : Int32)) (by decide), s_X10_good hS hF]
def h_X10_seen (I : v_I) (p1 : Int32) (p2 : Int32) : Option (Int32 × v_I) :=
(h_X10_lies p1 (0 : Int32) (60 : Int32)).bind fun r_1 =>
if r_1 = (0 : Int32) then (
h_X10_seen_J17 I)
else (
(h_X10_isBit p2).bind fun r_6 =>
if r_6 = (0 : Int32) then (
h_X10_seen_J17 I)
else (
p_let ((34 : Int32) + ((2 : Int32) * (I 51 50))) fun x_9 =>
if (I 51 50) = (6 : Int32) then (
(h_X10_refuses I (-5 : Int32)).bind fun r_22 =>
some (r_22.1, r_22.2))
else (
(p_in 5660 x_9).bind fun j_12 =>
p_let (v_up I 51 j_12 p1) fun I_13 =>
(p_in 5660 (x_9 + (1 : Int32))).bind fun j_15 =>
p_let (v_up I_13 51 j_15 p2) fun I_16 =>
p_let (v_up I_16 51 50 ((I_16 51 50) + (1 : Int32))) fun I_18 =>
(h_X10_good I_18 (I_18 51 50)).bind fun r_20 =>
some (r_20.1, r_20.2))))
set_option maxHeartbeats 4000000 in
set_option maxRecDepth 100000 in
theorem s_X10_seen {S : v_S} {F : v_F} (hS : p_SS S) (hF : p_FF F) (I : v_I) (p1 : Int32) (p2 : Int32) : f_X10_seen S I F 49 p1 p2 = h_X10_seen I p1 p2 := by
  unfold f_X10_seen h_X10_seen
  simp only [p_bs, s_X10_lies, s_X10_refuses hS hF, p_obS hS (a := 49) (kd := 10) rfl, s_X10_isBit, p_FS hF (a := 49) (i := 2) (b := 51) (by decide), p_ixS hS (kd := 20) (a := 51) (n := 5660) rfl, p_inL (n := 5660) (k := 50) (i := (50 : Int32)) (by decide), s_X10_good hS hF, s_X10_seen_J17 hS hF]

def h_X10_forget (I : v_I) : Option (Int32 × v_I) :=
p_let (I 51 50) fun x_1 =>
p_let (v_up I 51 50 (0 : Int32)) fun I_3 =>
some (x_1, I_3)
set_option maxHeartbeats 4000000 in
set_option maxRecDepth 100000 in
theorem s_X10_forget {S : v_S} {F : v_F} (hS : p_SS S) (hF : p_FF F) (I : v_I) : f_X10_forget S I F 49 = h_X10_forget I := by
  unfold f_X10_forget h_X10_forget
  simp only [p_bs, p_obS hS (a := 49) (kd := 10) rfl, p_FS hF (a := 49) (i := 2) (b := 51) (by decide), p_ixS hS (kd := 20) (a := 51) (n := 5660) rfl, p_inL (n := 5660) (k := 50) (i := (50 : Int32)) (by decide)]

def h_X10_asSeen (I : v_I) (p1 : Int32) : Option (Int32) :=
(p_in 5660 ((34 : Int32) + ((2 : Int32) * p1))).bind fun j_1 =>
(p_in 61 (I 51 j_1)).bind fun j_2 =>
p_let (I 65 j_2) fun x_3 =>
(p_in 5660 (((34 : Int32) + ((2 : Int32) * p1)) + (1 : Int32))).bind fun j_5 =>
if (I 51 j_5) = (1 : Int32) then (
some (x_3))
else (
(h_X10_everybody I).bind fun r_7 =>
some (r_7 &&& (x_3 ^^^ (-1 : Int32))))
set_option maxHeartbeats 4000000 in
set_option maxRecDepth 100000 in
theorem s_X10_asSeen {S : v_S} {F : v_F} (hS : p_SS S) (hF : p_FF F) (I : v_I) (p1 : Int32) : f_X10_asSeen S I F 49 p1 = h_X10_asSeen I p1 := by
  unfold f_X10_asSeen h_X10_asSeen
  simp only [p_bs, p_obS hS (a := 49) (kd := 10) rfl, p_FS hF (a := 49) (i := 33) (b := 65) (by decide), p_FS hF (a := 49) (i := 2) (b := 51) (by decide), p_ixS hS (kd := 20) (a := 51) (n := 5660) rfl, p_ixS hS (kd := 20) (a := 65) (n := 61) rfl, s_X10_everybody hS hF]

def h_X10_canBe_B14 (I : v_I) (s14 : Int32 × Int32) : Option ((Int32 × Int32) ⊕ (Int32 × Int32)) :=
if (I 51 50) ≤ s14.2 then (
some (.inr (s14.1, s14.2)))
else (
(h_X10_asSeen I s14.2).bind fun r_6 =>
p_let (s14.1 &&& r_6) fun x_8 =>
p_let (s14.2 + (1 : Int32)) fun x_10 =>
some (.inl (x_8, x_10)))
set_option maxHeartbeats 4000000 in
set_option maxRecDepth 100000 in
theorem s_X10_canBe_B14 {S : v_S} {F : v_F} (hS : p_SS S) (hF : p_FF F) (I : v_I) : f_X10_canBe_B14 S F I 49 = h_X10_canBe_B14 I := by
  funext s14
  unfold f_X10_canBe_B14 h_X10_canBe_B14
  simp only [p_bs, s_X10_laysAllMinutes hS hF, p_obS hS (a := 49) (kd := 10) rfl, s_X10_everybody hS hF, p_FS hF (a := 49) (i := 2) (b := 51) (by decide), p_ixS hS (kd := 20) (a := 51) (n := 5660) rfl, p_inL (n := 5660) (k := 50) (i := (50 : Int32)) (by decide), s_X10_asSeen hS hF]
def h_X10_canBe (I : v_I) : Option (Int32 × v_I) :=
(h_X10_laysAllMinutes I (0 : Int32) (0 : Int32) (0 : Int32)).bind fun r_1 =>
(h_X10_everybody r_1).bind fun r_3 =>
(v_loop (h_X10_canBe_B14 r_1) FU (r_3, (0 : Int32))).bind fun q_12 =>
some (q_12.1, r_1)
set_option maxHeartbeats 4000000 in
set_option maxRecDepth 100000 in
theorem s_X10_canBe {S : v_S} {F : v_F} (hS : p_SS S) (hF : p_FF F) (I : v_I) : f_X10_canBe S I F 49 = h_X10_canBe I := by
  unfold f_X10_canBe h_X10_canBe
  simp only [p_bs, s_X10_laysAllMinutes hS hF, p_obS hS (a := 49) (kd := 10) rfl, s_X10_everybody hS hF, p_FS hF (a := 49) (i := 2) (b := 51) (by decide), p_ixS hS (kd := 20) (a := 51) (n := 5660) rfl, p_inL (n := 5660) (k := 50) (i := (50 : Int32)) (by decide), s_X10_asSeen hS hF, s_X10_canBe_B14 hS hF]

def h_X10_greater (p0 : Int32) (p1 : Int32) : Option (Int32) :=
if p0 ≤ p1 then (
some (p1))
else (
some (p0))
set_option maxHeartbeats 4000000 in
set_option maxRecDepth 100000 in
theorem s_X10_greater (p0 : Int32) (p1 : Int32) : f_X10_greater p0 p1 = h_X10_greater p0 p1 := by
  unfold f_X10_greater h_X10_greater
  simp only [p_bs]

def h_X10_look_J23_82 (I : v_I) (w1 : Int32) (w2 : Int32) (y3 : Int32) (y4 : Int32) (y5 : Int32) : Option ((Int32 × Int32 × Int32) ⊕ (Int32 × Int32 × Int32)) :=
p_let (y5 + (1 : Int32)) fun x_17 =>
some (.inl (y3, y4, x_17))
set_option maxHeartbeats 4000000 in
set_option maxRecDepth 100000 in
theorem s_X10_look_J23_82 {S : v_S} {F : v_F} (hS : p_SS S) (hF : p_FF F) (I : v_I) (w1 : Int32) (w2 : Int32) (y3 : Int32) (y4 : Int32) (y5 : Int32) : f_X10_look_J23_82 S I F 49 w1 w2 y3 y4 y5 = h_X10_look_J23_82 I w1 w2 y3 y4 y5 := by
  unfold f_X10_look_J23_82 h_X10_look_J23_82
  simp only [p_bs, s_X10_isBit, s_X10_canBe hS hF, p_obS hS (a := 49) (kd := 10) rfl, p_FS hF (a := 49) (i := 33) (b := 65) (by decide), p_ixS hS (kd := 20) (a := 65) (n := 61) rfl, s_X10_ones, s_X10_greater]
def h_X10_look_B23 (I : v_I) (w1 : Int32) (w2 : Int32) (s23 : Int32 × Int32 × Int32) : Option ((Int32 × Int32 × Int32) ⊕ (Int32 × Int32 × Int32)) :=
if (60 : Int32) < s23.2.2 then (
some (.inr (s23.1, s23.2.1, s23.2.2)))
else (
if w2 = (0 : Int32) then (
some (.inr (s23.1, s23.2.1, s23.2.2)))
else (
(p_in 61 s23.2.2).bind fun j_8 =>
(h_X10_ones (w2 &&& (I 65 j_8))).bind fun r_9 =>
(p_in 61 s23.2.2).bind fun j_11 =>
(h_X10_ones (w2 &&& ((I 65 j_11) ^^^ (-1 : Int32)))).bind fun r_12 =>
(h_X10_greater r_9 r_12).bind fun r_14 =>
if r_14 < s23.2.1 then (
h_X10_look_J23_82 I w1 w2 s23.2.2 r_14 s23.2.2)
else (
h_X10_look_J23_82 I w1 w2 s23.1 s23.2.1 s23.2.2)))
set_option maxHeartbeats 4000000 in
set_option maxRecDepth 100000 in
theorem s_X10_look_B23 {S : v_S} {F : v_F} (hS : p_SS S) (hF : p_FF F) (I : v_I) (w1 : Int32) (w2 : Int32) : f_X10_look_B23 S F I 49 w1 w2 = h_X10_look_B23 I w1 w2 := by
  funext s23
  unfold f_X10_look_B23 h_X10_look_B23
  simp only [p_bs, s_X10_isBit, s_X10_canBe hS hF, p_obS hS (a := 49) (kd := 10) rfl, p_FS hF (a := 49) (i := 33) (b := 65) (by decide), p_ixS hS (kd := 20) (a := 65) (n := 61) rfl, s_X10_ones, s_X10_greater, s_X10_look_J23_82 hS hF]
def h_X10_look_J88 (I : v_I) (y1 : Int32) (y3 : Int32) (y4 : Int32) : Option (Int32 × v_I) :=
if y3 = (-1 : Int32) then (
some (y3, I))
else (
if y1 = (0 : Int32) then (
some (y3, I))
else (
some (y4, I)))
set_option maxHeartbeats 4000000 in
set_option maxRecDepth 100000 in
theorem s_X10_look_J88 {S : v_S} {F : v_F} (hS : p_SS S) (hF : p_FF F) (I : v_I) (y1 : Int32) (y3 : Int32) (y4 : Int32) : f_X10_look_J88 S F I y1 y3 y4 = h_X10_look_J88 I y1 y3 y4 := by
  unfold f_X10_look_J88 h_X10_look_J88
  simp only [p_bs, s_X10_isBit, s_X10_canBe hS hF, p_obS hS (a := 49) (kd := 10) rfl, p_FS hF (a := 49) (i := 33) (b := 65) (by decide), p_ixS hS (kd := 20) (a := 65) (n := 61) rfl, s_X10_ones, s_X10_greater, s_X10_look_J23_82 hS hF, s_X10_look_B23 hS hF]
def h_X10_look (I : v_I) (p1 : Int32) : Option (Int32 × v_I) :=
(h_X10_isBit p1).bind fun r_1 =>
if r_1 = (0 : Int32) then (
some ((-1 : Int32), I))
else (
(h_X10_canBe I).bind fun r_4 =>
(v_loop (h_X10_look_B23 r_4.2 p1 r_4.1) FU ((-1 : Int32), (1000000 : Int32), (0 : Int32))).bind fun q_19 =>
h_X10_look_J88 r_4.2 p1 q_19.1 q_19.2.1)
set_option maxHeartbeats 4000000 in
set_option maxRecDepth 100000 in
theorem s_X10_look {S : v_S} {F : v_F} (hS : p_SS S) (hF : p_FF F) (I : v_I) (p1 : Int32) : f_X10_look S I F 49 p1 = h_X10_look I p1 := by
  unfold f_X10_look h_X10_look
  simp only [p_bs, s_X10_isBit, s_X10_canBe hS hF, p_obS hS (a := 49) (kd := 10) rfl, p_FS hF (a := 49) (i := 33) (b := 65) (by decide), p_ixS hS (kd := 20) (a := 65) (n := 61) rfl, s_X10_ones, s_X10_greater, s_X10_look_J23_82 hS hF, s_X10_look_B23 hS hF, s_X10_look_J88 hS hF]

def h_X10_few_J26_48 (I : v_I) (w1 : Int32) (w2 : Int32) (J : v_J) (y3 : Int32) (z0 : Int64) (z1 : Int32) : Option ((Int32 × v_J) ⊕ (Int32 × v_J)) :=
(p_in 21 z1).bind fun j_9 =>
p_let (v_up J 69 j_9 z0) fun J_10 =>
p_let (y3 + (1 : Int32)) fun x_12 =>
some (.inl (x_12, J_10))
set_option maxHeartbeats 4000000 in
set_option maxRecDepth 100000 in
theorem s_X10_few_J26_48 {S : v_S} {F : v_F} (hS : p_SS S) (hF : p_FF F) (I : v_I) (w1 : Int32) (w2 : Int32) (J : v_J) (y3 : Int32) (z0 : Int64) (z1 : Int32) : f_X10_few_J26_48 S I F 49 w1 w2 J y3 z0 z1 69 = h_X10_few_J26_48 I w1 w2 J y3 z0 z1 := by
  unfold f_X10_few_J26_48 h_X10_few_J26_48
  simp only [p_bs, s_X10_lies, p_obS hS (a := 49) (kd := 10) rfl, p_FS hF (a := 49) (i := 37) (b := 69) (by decide), p_ixS hS (kd := 23) (a := 69) (n := 21) rfl, p_FS hF (a := 49) (i := 2) (b := 51) (by decide), p_ixS hS (kd := 20) (a := 51) (n := 5660) rfl, p_inL (n := 5660) (k := 46) (i := (46 : Int32)) (by decide)]
def h_X10_few_B26 (I : v_I) (w1 : Int32) (w2 : Int32) (s26 : Int32 × v_J) : Option ((Int32 × v_J) ⊕ (Int32 × v_J)) :=
if (20 : Int32) < s26.1 then (
some (.inr (s26.1, s26.2)))
else (
if s26.1 = (0 : Int32) then (
h_X10_few_J26_48 I w1 w2 s26.2 s26.1 (1000000000000 : Int64) s26.1)
else (
h_X10_few_J26_48 I w1 w2 s26.2 s26.1 (0 : Int64) s26.1))
set_option maxHeartbeats 4000000 in
set_option maxRecDepth 100000 in
theorem s_X10_few_B26 {S : v_S} {F : v_F} (hS : p_SS S) (hF : p_FF F) (I : v_I) (w1 : Int32) (w2 : Int32) : f_X10_few_B26 S I F 49 w1 w2 = h_X10_few_B26 I w1 w2 := by
  funext s26
  unfold f_X10_few_B26 h_X10_few_B26
  simp only [p_bs, s_X10_lies, p_obS hS (a := 49) (kd := 10) rfl, p_FS hF (a := 49) (i := 37) (b := 69) (by decide), p_ixS hS (kd := 23) (a := 69) (n := 21) rfl, p_FS hF (a := 49) (i := 2) (b := 51) (by decide), p_ixS hS (kd := 20) (a := 51) (n := 5660) rfl, p_inL (n := 5660) (k := 46) (i := (46 : Int32)) (by decide), s_X10_few_J26_48 hS hF]
def h_X10_few_B67 (I : v_I) (w1 : Int32) (w2 : Int32) (w3 : Int32) (s67 : Int32 × v_J) : Option ((Int32 × v_J) ⊕ (Int32 × v_J)) :=
if s67.1 < (0 : Int32) then (
some (.inr (s67.1, s67.2)))
else (
(p_in 21 (s67.1 + (1 : Int32))).bind fun j_20 =>
(p_in 21 s67.1).bind fun j_21 =>
(p_in 21 (s67.1 + (1 : Int32))).bind fun j_22 =>
p_let (v_up s67.2 69 j_22 ((s67.2 69 j_20) + (((s67.2 69 j_21) * ((I 51 46).toInt64)) / (10 : Int64)))) fun J_23 =>
(p_in 21 s67.1).bind fun j_25 =>
(p_in 21 s67.1).bind fun j_26 =>
p_let (v_up J_23 69 j_26 (((J_23 69 j_25) * (((10 : Int32) - (I 51 46)).toInt64)) / (10 : Int64))) fun J_27 =>
p_let (s67.1 + (-1 : Int32)) fun x_29 =>
some (.inl (x_29, J_27)))
set_option maxHeartbeats 4000000 in
set_option maxRecDepth 100000 in
theorem s_X10_few_B67 {S : v_S} {F : v_F} (hS : p_SS S) (hF : p_FF F) (I : v_I) (w1 : Int32) (w2 : Int32) (w3 : Int32) : f_X10_few_B67 S I F 49 w1 w2 w3 = h_X10_few_B67 I w1 w2 w3 := by
  funext s67
  unfold f_X10_few_B67 h_X10_few_B67
  simp only [p_bs, s_X10_lies, p_obS hS (a := 49) (kd := 10) rfl, p_FS hF (a := 49) (i := 37) (b := 69) (by decide), p_ixS hS (kd := 23) (a := 69) (n := 21) rfl, p_FS hF (a := 49) (i := 2) (b := 51) (by decide), p_ixS hS (kd := 20) (a := 51) (n := 5660) rfl, p_inL (n := 5660) (k := 46) (i := (46 : Int32)) (by decide), s_X10_few_J26_48 hS hF, s_X10_few_B26 hS hF]
def h_X10_few_B57 (I : v_I) (w1 : Int32) (w2 : Int32) (s57 : Int32 × v_J) : Option ((Int32 × v_J) ⊕ (Int32 × v_J)) :=
if w2 ≤ s57.1 then (
some (.inr (s57.1, s57.2)))
else (
p_let (w1 - (1 : Int32)) fun x_17 =>
(v_loop (h_X10_few_B67 I w1 w2 s57.1) FU (x_17, s57.2)).bind fun q_31 =>
p_let (s57.1 + (1 : Int32)) fun x_33 =>
some (.inl (x_33, q_31.2)))
set_option maxHeartbeats 4000000 in
set_option maxRecDepth 100000 in
theorem s_X10_few_B57 {S : v_S} {F : v_F} (hS : p_SS S) (hF : p_FF F) (I : v_I) (w1 : Int32) (w2 : Int32) : f_X10_few_B57 S I F 49 w1 w2 = h_X10_few_B57 I w1 w2 := by
  funext s57
  unfold f_X10_few_B57 h_X10_few_B57
  simp only [p_bs, s_X10_lies, p_obS hS (a := 49) (kd := 10) rfl, p_FS hF (a := 49) (i := 37) (b := 69) (by decide), p_ixS hS (kd := 23) (a := 69) (n := 21) rfl, p_FS hF (a := 49) (i := 2) (b := 51) (by decide), p_ixS hS (kd := 20) (a := 51) (n := 5660) rfl, p_inL (n := 5660) (k := 46) (i := (46 : Int32)) (by decide), s_X10_few_J26_48 hS hF, s_X10_few_B26 hS hF, s_X10_few_B67 hS hF]
def h_X10_few_B151 (I : v_I) (J : v_J) (w1 : Int32) (s151 : Int64 × Int32) : Option ((Int64 × Int32) ⊕ (Int64 × Int32)) :=
if w1 ≤ s151.2 then (
some (.inr (s151.1, s151.2)))
else (
(p_in 21 s151.2).bind fun j_38 =>
p_let (s151.1 + (J 69 j_38)) fun x_39 =>
p_let (s151.2 + (1 : Int32)) fun x_41 =>
some (.inl (x_39, x_41)))
set_option maxHeartbeats 4000000 in
set_option maxRecDepth 100000 in
theorem s_X10_few_B151 {S : v_S} {F : v_F} (hS : p_SS S) (hF : p_FF F) (I : v_I) (J : v_J) (w1 : Int32) : f_X10_few_B151 S I F J 49 w1 = h_X10_few_B151 I J w1 := by
  funext s151
  unfold f_X10_few_B151 h_X10_few_B151
  simp only [p_bs, s_X10_lies, p_obS hS (a := 49) (kd := 10) rfl, p_FS hF (a := 49) (i := 37) (b := 69) (by decide), p_ixS hS (kd := 23) (a := 69) (n := 21) rfl, p_FS hF (a := 49) (i := 2) (b := 51) (by decide), p_ixS hS (kd := 20) (a := 51) (n := 5660) rfl, p_inL (n := 5660) (k := 46) (i := (46 : Int32)) (by decide), s_X10_few_J26_48 hS hF, s_X10_few_B26 hS hF, s_X10_few_B67 hS hF, s_X10_few_B57 hS hF]
def h_X10_few (I : v_I) (J : v_J) (p1 : Int32) (p2 : Int32) : Option (Int64 × v_J) :=
(h_X10_lies p1 (1 : Int32) (20 : Int32)).bind fun r_1 =>
if r_1 = (0 : Int32) then (
some ((-1 : Int64), J))
else (
(h_X10_lies p2 (0 : Int32) (99 : Int32)).bind fun r_4 =>
if r_4 = (0 : Int32) then (
some ((-1 : Int64), J))
else (
(v_loop (h_X10_few_B26 I p1 p2) FU ((0 : Int32), J)).bind fun q_14 =>
(v_loop (h_X10_few_B57 I p1 p2) FU ((0 : Int32), q_14.2)).bind fun q_35 =>
(v_loop (h_X10_few_B151 I q_35.2 p1) FU ((0 : Int64), (0 : Int32))).bind fun q_43 =>
some (q_43.1, q_35.2)))
set_option maxHeartbeats 4000000 in
set_option maxRecDepth 100000 in
theorem s_X10_few {S : v_S} {F : v_F} (hS : p_SS S) (hF : p_FF F) (I : v_I) (J : v_J) (p1 : Int32) (p2 : Int32) : f_X10_few S I J F 49 p1 p2 = h_X10_few I J p1 p2 := by
  unfold f_X10_few h_X10_few
  simp only [p_bs, s_X10_lies, p_obS hS (a := 49) (kd := 10) rfl, p_FS hF (a := 49) (i := 37) (b := 69) (by decide), p_ixS hS (kd := 23) (a := 69) (n := 21) rfl, p_FS hF (a := 49) (i := 2) (b := 51) (by decide), p_ixS hS (kd := 20) (a := 51) (n := 5660) rfl, p_inL (n := 5660) (k := 46) (i := (46 : Int32)) (by decide), s_X10_few_J26_48 hS hF, s_X10_few_B26 hS hF, s_X10_few_B67 hS hF, s_X10_few_B57 hS hF, s_X10_few_B151 hS hF]

def h_X10_stopped (I : v_I) : Option (Int32) :=
some (I 49 38)
set_option maxHeartbeats 4000000 in
set_option maxRecDepth 100000 in
theorem s_X10_stopped {S : v_S} {F : v_F} (hS : p_SS S) (hF : p_FF F) (I : v_I) : f_X10_stopped S I 49 = h_X10_stopped I := by
  unfold f_X10_stopped h_X10_stopped
  simp only [p_bs, p_obS hS (a := 49) (kd := 10) rfl]

def h_X10_goesAlong_J76_134 (w2 : Int32) (w3 : Int32) (I : v_I) (J : v_J) (y4 : Int32) (z0 : Int32) : Option ((Int32 × v_I × v_J) ⊕ (Int32 × v_I × v_J)) :=
(p_bl z0).bind fun _ =>
p_let (v_up I 49 42 z0) fun I_28 =>
p_let (y4 + (1 : Int32)) fun x_30 =>
some (.inl (x_30, I_28, J))
set_option maxHeartbeats 4000000 in
set_option maxRecDepth 100000 in
theorem s_X10_goesAlong_J76_134 {S : v_S} {F : v_F} (hS : p_SS S) (hF : p_FF F) (w2 : Int32) (w3 : Int32) (I : v_I) (J : v_J) (y4 : Int32) (z0 : Int32) : f_X10_goesAlong_J76_134 S F 49 w2 w3 I J y4 z0 49 = h_X10_goesAlong_J76_134 w2 w3 I J y4 z0 := by
  unfold f_X10_goesAlong_J76_134 h_X10_goesAlong_J76_134
  simp only [p_bs, p_obS hS (a := 49) (kd := 10) rfl, s_X10_codeAt hS hF, p_FS hF (a := 49) (i := 44) (b := 70) (by decide), s_g_X10_sumOf hS hF, p_ixS hS (kd := 23) (a := 70) (n := 2) rfl, s_X10_passes0 hS hF, s_g_X10_testOf hS hF, p_FS hF (a := 49) (i := 2) (b := 51) (by decide), p_ixS hS (kd := 20) (a := 51) (n := 5660) rfl]
def h_X10_goesAlong_J76_133 (w2 : Int32) (w3 : Int32) (I : v_I) (J : v_J) (y4 : Int32) : Option ((Int32 × v_I × v_J) ⊕ (Int32 × v_I × v_J)) :=
h_X10_goesAlong_J76_134 w2 w3 I J y4 (0 : Int32)
set_option maxHeartbeats 4000000 in
set_option maxRecDepth 100000 in
theorem s_X10_goesAlong_J76_133 {S : v_S} {F : v_F} (hS : p_SS S) (hF : p_FF F) (w2 : Int32) (w3 : Int32) (I : v_I) (J : v_J) (y4 : Int32) : f_X10_goesAlong_J76_133 S F 49 w2 w3 I J y4 49 = h_X10_goesAlong_J76_133 w2 w3 I J y4 := by
  unfold f_X10_goesAlong_J76_133 h_X10_goesAlong_J76_133
  simp only [p_bs, p_obS hS (a := 49) (kd := 10) rfl, s_X10_codeAt hS hF, p_FS hF (a := 49) (i := 44) (b := 70) (by decide), s_g_X10_sumOf hS hF, p_ixS hS (kd := 23) (a := 70) (n := 2) rfl, s_X10_passes0 hS hF, s_g_X10_testOf hS hF, p_FS hF (a := 49) (i := 2) (b := 51) (by decide), p_ixS hS (kd := 20) (a := 51) (n := 5660) rfl, s_X10_goesAlong_J76_134 hS hF]
def h_X10_goesAlong_J76_97 (w2 : Int32) (w3 : Int32) (I : v_I) (J : v_J) (y4 : Int32) : Option ((Int32 × v_I × v_J) ⊕ (Int32 × v_I × v_J)) :=
p_let (v_up I 49 24 (0 : Int32)) fun I_19 =>
(gh_X10_sumOf GNN 0 w2 I_19).bind fun r_21 =>
(p_in 2 y4).bind fun j_23 =>
p_let (v_up J 70 j_23 r_21.1) fun J_24 =>
if (r_21.2 49 42) = (0 : Int32) then (
h_X10_goesAlong_J76_133 w2 w3 r_21.2 J_24 y4)
else (
if (r_21.2 49 24) = (0 : Int32) then (
h_X10_goesAlong_J76_134 w2 w3 r_21.2 J_24 y4 (1 : Int32))
else (
h_X10_goesAlong_J76_133 w2 w3 r_21.2 J_24 y4))
set_option maxHeartbeats 4000000 in
set_option maxRecDepth 100000 in
theorem s_X10_goesAlong_J76_97 {S : v_S} {F : v_F} (hS : p_SS S) (hF : p_FF F) (w2 : Int32) (w3 : Int32) (I : v_I) (J : v_J) (y4 : Int32) : f_X10_goesAlong_J76_97 S F 49 w2 w3 I J y4 = h_X10_goesAlong_J76_97 w2 w3 I J y4 := by
  unfold f_X10_goesAlong_J76_97 h_X10_goesAlong_J76_97
  simp only [p_bs, p_obS hS (a := 49) (kd := 10) rfl, s_X10_codeAt hS hF, p_FS hF (a := 49) (i := 44) (b := 70) (by decide), s_g_X10_sumOf hS hF, p_ixS hS (kd := 23) (a := 70) (n := 2) rfl, s_X10_passes0 hS hF, s_g_X10_testOf hS hF, p_FS hF (a := 49) (i := 2) (b := 51) (by decide), p_ixS hS (kd := 20) (a := 51) (n := 5660) rfl, s_X10_goesAlong_J76_134 hS hF, s_X10_goesAlong_J76_133 hS hF]
def h_X10_goesAlong_B76 (w2 : Int32) (w3 : Int32) (s76 : Int32 × v_I × v_J) : Option ((Int32 × v_I × v_J) ⊕ (Int32 × v_I × v_J)) :=
if w3 ≤ s76.1 then (
some (.inr (s76.1, s76.2.1, s76.2.2)))
else (
if s76.1 ≤ (0 : Int32) then (
h_X10_goesAlong_J76_97 w2 w3 s76.2.1 s76.2.2 s76.1)
else (
p_let (v_up s76.2.1 49 22 ((s76.2.1 49 22) + (1 : Int32))) fun I_33 =>
h_X10_goesAlong_J76_97 w2 w3 I_33 s76.2.2 s76.1))
set_option maxHeartbeats 4000000 in
set_option maxRecDepth 100000 in
theorem s_X10_goesAlong_B76 {S : v_S} {F : v_F} (hS : p_SS S) (hF : p_FF F) (w2 : Int32) (w3 : Int32) : f_X10_goesAlong_B76 S F 49 w2 w3 = h_X10_goesAlong_B76 w2 w3 := by
  funext s76
  unfold f_X10_goesAlong_B76 h_X10_goesAlong_B76
  simp only [p_bs, p_obS hS (a := 49) (kd := 10) rfl, s_X10_codeAt hS hF, p_FS hF (a := 49) (i := 44) (b := 70) (by decide), s_g_X10_sumOf hS hF, p_ixS hS (kd := 23) (a := 70) (n := 2) rfl, s_X10_passes0 hS hF, s_g_X10_testOf hS hF, p_FS hF (a := 49) (i := 2) (b := 51) (by decide), p_ixS hS (kd := 20) (a := 51) (n := 5660) rfl, s_X10_goesAlong_J76_134 hS hF, s_X10_goesAlong_J76_133 hS hF, s_X10_goesAlong_J76_97 hS hF]
def h_X10_goesAlong_J234 (I : v_I) (J : v_J) (z0 : Int32) : Option (v_I × v_J) :=
(p_bl z0).bind fun _ =>
p_let (v_up I 49 43 z0) fun I_52 =>
p_let (v_up I_52 49 22 ((I_52 49 22) + (1 : Int32))) fun I_54 =>
some (I_54, J)
set_option maxHeartbeats 4000000 in
set_option maxRecDepth 100000 in
theorem s_X10_goesAlong_J234 {S : v_S} {F : v_F} (hS : p_SS S) (hF : p_FF F) (I : v_I) (J : v_J) (z0 : Int32) : f_X10_goesAlong_J234 S F I J 49 z0 49 = h_X10_goesAlong_J234 I J z0 := by
  unfold f_X10_goesAlong_J234 h_X10_goesAlong_J234
  simp only [p_bs, p_obS hS (a := 49) (kd := 10) rfl, s_X10_codeAt hS hF, p_FS hF (a := 49) (i := 44) (b := 70) (by decide), s_g_X10_sumOf hS hF, p_ixS hS (kd := 23) (a := 70) (n := 2) rfl, s_X10_passes0 hS hF, s_g_X10_testOf hS hF, p_FS hF (a := 49) (i := 2) (b := 51) (by decide), p_ixS hS (kd := 20) (a := 51) (n := 5660) rfl, s_X10_goesAlong_J76_134 hS hF, s_X10_goesAlong_J76_133 hS hF, s_X10_goesAlong_J76_97 hS hF, s_X10_goesAlong_B76 hS hF]
def h_X10_goesAlong_J233 (I : v_I) (J : v_J) : Option (v_I × v_J) :=
h_X10_goesAlong_J234 I J (0 : Int32)
set_option maxHeartbeats 4000000 in
set_option maxRecDepth 100000 in
theorem s_X10_goesAlong_J233 {S : v_S} {F : v_F} (hS : p_SS S) (hF : p_FF F) (I : v_I) (J : v_J) : f_X10_goesAlong_J233 S F I J 49 49 = h_X10_goesAlong_J233 I J := by
  unfold f_X10_goesAlong_J233 h_X10_goesAlong_J233
  simp only [p_bs, p_obS hS (a := 49) (kd := 10) rfl, s_X10_codeAt hS hF, p_FS hF (a := 49) (i := 44) (b := 70) (by decide), s_g_X10_sumOf hS hF, p_ixS hS (kd := 23) (a := 70) (n := 2) rfl, s_X10_passes0 hS hF, s_g_X10_testOf hS hF, p_FS hF (a := 49) (i := 2) (b := 51) (by decide), p_ixS hS (kd := 20) (a := 51) (n := 5660) rfl, s_X10_goesAlong_J76_134 hS hF, s_X10_goesAlong_J76_133 hS hF, s_X10_goesAlong_J76_97 hS hF, s_X10_goesAlong_B76 hS hF, s_X10_goesAlong_J234 hS hF]
def h_X10_goesAlong_J211 (I : v_I) (J : v_J) (z0 : Int32) : Option (v_I × v_J) :=
(p_bl z0).bind fun _ =>
p_let (v_up I 49 43 z0) fun I_48 =>
if (I_48 49 43) = (0 : Int32) then (
h_X10_goesAlong_J233 I_48 J)
else (
if (I_48 49 24) = (0 : Int32) then (
h_X10_goesAlong_J234 I_48 J (1 : Int32))
else (
h_X10_goesAlong_J233 I_48 J))
set_option maxHeartbeats 4000000 in
set_option maxRecDepth 100000 in
theorem s_X10_goesAlong_J211 {S : v_S} {F : v_F} (hS : p_SS S) (hF : p_FF F) (I : v_I) (J : v_J) (z0 : Int32) : f_X10_goesAlong_J211 S F I J 49 z0 49 = h_X10_goesAlong_J211 I J z0 := by
  unfold f_X10_goesAlong_J211 h_X10_goesAlong_J211
  simp only [p_bs, p_obS hS (a := 49) (kd := 10) rfl, s_X10_codeAt hS hF, p_FS hF (a := 49) (i := 44) (b := 70) (by decide), s_g_X10_sumOf hS hF, p_ixS hS (kd := 23) (a := 70) (n := 2) rfl, s_X10_passes0 hS hF, s_g_X10_testOf hS hF, p_FS hF (a := 49) (i := 2) (b := 51) (by decide), p_ixS hS (kd := 20) (a := 51) (n := 5660) rfl, s_X10_goesAlong_J76_134 hS hF, s_X10_goesAlong_J76_133 hS hF, s_X10_goesAlong_J76_97 hS hF, s_X10_goesAlong_B76 hS hF, s_X10_goesAlong_J234 hS hF, s_X10_goesAlong_J233 hS hF]
def h_X10_goesAlong_J206 (I : v_I) (J : v_J) : Option (v_I × v_J) :=
h_X10_goesAlong_J211 I J (1 : Int32)
set_option maxHeartbeats 4000000 in
set_option maxRecDepth 100000 in
theorem s_X10_goesAlong_J206 {S : v_S} {F : v_F} (hS : p_SS S) (hF : p_FF F) (I : v_I) (J : v_J) : f_X10_goesAlong_J206 S F I J 49 49 = h_X10_goesAlong_J206 I J := by
  unfold f_X10_goesAlong_J206 h_X10_goesAlong_J206
  simp only [p_bs, p_obS hS (a := 49) (kd := 10) rfl, s_X10_codeAt hS hF, p_FS hF (a := 49) (i := 44) (b := 70) (by decide), s_g_X10_sumOf hS hF, p_ixS hS (kd := 23) (a := 70) (n := 2) rfl, s_X10_passes0 hS hF, s_g_X10_testOf hS hF, p_FS hF (a := 49) (i := 2) (b := 51) (by decide), p_ixS hS (kd := 20) (a := 51) (n := 5660) rfl, s_X10_goesAlong_J76_134 hS hF, s_X10_goesAlong_J76_133 hS hF, s_X10_goesAlong_J76_97 hS hF, s_X10_goesAlong_B76 hS hF, s_X10_goesAlong_J234 hS hF, s_X10_goesAlong_J233 hS hF, s_X10_goesAlong_J211 hS hF]
def h_X10_goesAlong_J184 (I : v_I) (J : v_J) (y2 : Int32) : Option (v_I × v_J) :=
p_let (v_up I 49 24 (0 : Int32)) fun I_42 =>
(h_X10_passes0 I_42 (4 : Int32)).bind fun r_44 =>
if r_44.1 = (0 : Int32) then (
h_X10_goesAlong_J206 r_44.2 J)
else (
(gh_X10_testOf GNN 0 y2 r_44.2).bind fun r_57 =>
if r_57.1 = (0 : Int32) then (
h_X10_goesAlong_J211 r_57.2 J (0 : Int32))
else (
h_X10_goesAlong_J206 r_57.2 J))
set_option maxHeartbeats 4000000 in
set_option maxRecDepth 100000 in
theorem s_X10_goesAlong_J184 {S : v_S} {F : v_F} (hS : p_SS S) (hF : p_FF F) (I : v_I) (J : v_J) (y2 : Int32) : f_X10_goesAlong_J184 S F I J 49 y2 = h_X10_goesAlong_J184 I J y2 := by
  unfold f_X10_goesAlong_J184 h_X10_goesAlong_J184
  simp only [p_bs, p_obS hS (a := 49) (kd := 10) rfl, s_X10_codeAt hS hF, p_FS hF (a := 49) (i := 44) (b := 70) (by decide), s_g_X10_sumOf hS hF, p_ixS hS (kd := 23) (a := 70) (n := 2) rfl, s_X10_passes0 hS hF, s_g_X10_testOf hS hF, p_FS hF (a := 49) (i := 2) (b := 51) (by decide), p_ixS hS (kd := 20) (a := 51) (n := 5660) rfl, s_X10_goesAlong_J76_134 hS hF, s_X10_goesAlong_J76_133 hS hF, s_X10_goesAlong_J76_97 hS hF, s_X10_goesAlong_B76 hS hF, s_X10_goesAlong_J234 hS hF, s_X10_goesAlong_J233 hS hF, s_X10_goesAlong_J211 hS hF, s_X10_goesAlong_J206 hS hF]
def h_X10_goesAlong_J72 (I : v_I) (J : v_J) (y2 : Int32) (z0 : Int32) : Option (v_I × v_J) :=
(v_loop (h_X10_goesAlong_B76 y2 z0) FU ((0 : Int32), I, J)).bind fun q_35 =>
p_let (v_up q_35.2.1 49 40 (1 : Int32)) fun I_37 =>
(h_X10_passes0 I_37 (25 : Int32)).bind fun r_39 =>
if r_39.1 = (0 : Int32) then (
h_X10_goesAlong_J184 r_39.2 q_35.2.2 y2)
else (
(p_in 5660 ((2860 : Int32) + (r_39.2 49 22))).bind fun j_60 =>
p_let (v_up r_39.2 49 40 (r_39.2 51 j_60)) fun I_61 =>
p_let (v_up I_61 49 22 ((I_61 49 22) + (1 : Int32))) fun I_63 =>
h_X10_goesAlong_J184 I_63 q_35.2.2 y2)
set_option maxHeartbeats 4000000 in
set_option maxRecDepth 100000 in
theorem s_X10_goesAlong_J72 {S : v_S} {F : v_F} (hS : p_SS S) (hF : p_FF F) (I : v_I) (J : v_J) (y2 : Int32) (z0 : Int32) : f_X10_goesAlong_J72 S F I J 49 y2 z0 = h_X10_goesAlong_J72 I J y2 z0 := by
  unfold f_X10_goesAlong_J72 h_X10_goesAlong_J72
  simp only [p_bs, p_obS hS (a := 49) (kd := 10) rfl, s_X10_codeAt hS hF, p_FS hF (a := 49) (i := 44) (b := 70) (by decide), s_g_X10_sumOf hS hF, p_ixS hS (kd := 23) (a := 70) (n := 2) rfl, s_X10_passes0 hS hF, s_g_X10_testOf hS hF, p_FS hF (a := 49) (i := 2) (b := 51) (by decide), p_ixS hS (kd := 20) (a := 51) (n := 5660) rfl, s_X10_goesAlong_J76_134 hS hF, s_X10_goesAlong_J76_133 hS hF, s_X10_goesAlong_J76_97 hS hF, s_X10_goesAlong_B76 hS hF, s_X10_goesAlong_J234 hS hF, s_X10_goesAlong_J233 hS hF, s_X10_goesAlong_J211 hS hF, s_X10_goesAlong_J206 hS hF, s_X10_goesAlong_J184 hS hF]
def h_X10_goesAlong (I : v_I) (J : v_J) (p1 : Int32) (p2 : Int32) : Option (v_I × v_J) :=
p_let (v_up I 49 25 (1 : Int32)) fun I_1 =>
p_let (v_up I_1 49 23 p1) fun I_3 =>
p_let (v_up I_3 49 22 (I_3 49 39)) fun I_5 =>
(h_X10_codeAt I_5 (I_5 49 22)).bind fun r_7 =>
p_let (v_up I_5 49 41 r_7) fun I_9 =>
p_let (v_up I_9 49 22 ((I_9 49 22) + (1 : Int32))) fun I_11 =>
p_let (v_up I_11 49 42 (1 : Int32)) fun I_13 =>
if (I_13 49 41) = (24 : Int32) then (
h_X10_goesAlong_J72 I_13 J p2 (0 : Int32))
else (
if (I_13 49 41) = (22 : Int32) then (
h_X10_goesAlong_J72 I_13 J p2 (2 : Int32))
else (
h_X10_goesAlong_J72 I_13 J p2 (1 : Int32)))
set_option maxHeartbeats 4000000 in
set_option maxRecDepth 100000 in
theorem s_X10_goesAlong {S : v_S} {F : v_F} (hS : p_SS S) (hF : p_FF F) (I : v_I) (J : v_J) (p1 : Int32) (p2 : Int32) : f_X10_goesAlong S I J F 49 p1 p2 = h_X10_goesAlong I J p1 p2 := by
  unfold f_X10_goesAlong h_X10_goesAlong
  simp only [p_bs, p_obS hS (a := 49) (kd := 10) rfl, s_X10_codeAt hS hF, p_FS hF (a := 49) (i := 44) (b := 70) (by decide), s_g_X10_sumOf hS hF, p_ixS hS (kd := 23) (a := 70) (n := 2) rfl, s_X10_passes0 hS hF, s_g_X10_testOf hS hF, p_FS hF (a := 49) (i := 2) (b := 51) (by decide), p_ixS hS (kd := 20) (a := 51) (n := 5660) rfl, s_X10_goesAlong_J76_134 hS hF, s_X10_goesAlong_J76_133 hS hF, s_X10_goesAlong_J76_97 hS hF, s_X10_goesAlong_B76 hS hF, s_X10_goesAlong_J234 hS hF, s_X10_goesAlong_J233 hS hF, s_X10_goesAlong_J211 hS hF, s_X10_goesAlong_J206 hS hF, s_X10_goesAlong_J184 hS hF, s_X10_goesAlong_J72 hS hF]

def h_X10_small (p0 : Int64) : Option (Int32) :=
if (lg_cmp p0 (0 : Int64)) < (0 : Int32) then (
some ((-1 : Int32)))
else (
if (lg_cmp p0 (1000000 : Int64)) ≤ (0 : Int32) then (
some (p0.toInt32))
else (
some ((-1 : Int32))))
set_option maxHeartbeats 4000000 in
set_option maxRecDepth 100000 in
theorem s_X10_small (p0 : Int64) : f_X10_small p0 = h_X10_small p0 := by
  unfold f_X10_small h_X10_small
  simp only [p_bs]

def h_X10_obeys_J88 (J : v_J) (I : v_I) (y1 : Int32) : Option (Int32 × v_I) :=
(h_X10_touchesKept I y1).bind fun r_9 =>
some (r_9.1, r_9.2)
set_option maxHeartbeats 4000000 in
set_option maxRecDepth 100000 in
theorem s_X10_obeys_J88 {S : v_S} {F : v_F} (hS : p_SS S) (hF : p_FF F) (J : v_J) (I : v_I) (y1 : Int32) : f_X10_obeys_J88 S J F I 49 y1 = h_X10_obeys_J88 J I y1 := by
  unfold f_X10_obeys_J88 h_X10_obeys_J88
  simp only [p_bs, p_obS hS (a := 49) (kd := 10) rfl, p_FS hF (a := 49) (i := 44) (b := 70) (by decide), p_ixS hS (kd := 23) (a := 70) (n := 2) rfl, p_inL (n := 2) (k := 0) (i := (0 : Int32)) (by decide), s_X10_small, s_X10_coaxesKept hS hF, p_inL (n := 2) (k := 1) (i := (1 : Int32)) (by decide), s_X10_temptsKept hS hF, s_X10_touchesKept hS hF, s_X10_passesKept hS hF]
def h_X10_obeys_J83 (J : v_J) (I : v_I) (y2 : Int32) (z0 : Int32) : Option (Int32 × v_I) :=
p_let (v_up I 49 28 z0) fun I_14 =>
some (y2, I_14)
set_option maxHeartbeats 4000000 in
set_option maxRecDepth 100000 in
theorem s_X10_obeys_J83 {S : v_S} {F : v_F} (hS : p_SS S) (hF : p_FF F) (J : v_J) (I : v_I) (y2 : Int32) (z0 : Int32) : f_X10_obeys_J83 S J F I y2 z0 49 = h_X10_obeys_J83 J I y2 z0 := by
  unfold f_X10_obeys_J83 h_X10_obeys_J83
  simp only [p_bs, p_obS hS (a := 49) (kd := 10) rfl, p_FS hF (a := 49) (i := 44) (b := 70) (by decide), p_ixS hS (kd := 23) (a := 70) (n := 2) rfl, p_inL (n := 2) (k := 0) (i := (0 : Int32)) (by decide), s_X10_small, s_X10_coaxesKept hS hF, p_inL (n := 2) (k := 1) (i := (1 : Int32)) (by decide), s_X10_temptsKept hS hF, s_X10_touchesKept hS hF, s_X10_passesKept hS hF, s_X10_obeys_J88 hS hF]
def h_X10_obeys (I : v_I) (J : v_J) : Option (Int32 × v_I) :=
(h_X10_small (J 70 0)).bind fun r_1 =>
if (I 49 41) = (21 : Int32) then (
(h_X10_coaxesKept I r_1).bind fun r_3 =>
some (r_3.1, r_3.2))
else if (I 49 41) = (22 : Int32) then (
(h_X10_small (J 70 1)).bind fun r_5 =>
(h_X10_temptsKept I r_1 r_5).bind fun r_7 =>
some (r_7.1, r_7.2))
else if (I 49 41) = (23 : Int32) then (
h_X10_obeys_J88 J I r_1)
else if (I 49 41) = (24 : Int32) then (
(h_X10_passesKept I).bind fun r_11 =>
if (0 : Int32) ≤ r_11.1 then (
h_X10_obeys_J83 J r_11.2 r_11.1 r_11.1)
else (
h_X10_obeys_J83 J r_11.2 r_11.1 (r_11.2 49 28)))
else (
h_X10_obeys_J88 J I r_1)
set_option maxHeartbeats 4000000 in
set_option maxRecDepth 100000 in
theorem s_X10_obeys {S : v_S} {F : v_F} (hS : p_SS S) (hF : p_FF F) (I : v_I) (J : v_J) : f_X10_obeys S I J F 49 = h_X10_obeys I J := by
  unfold f_X10_obeys h_X10_obeys
  simp only [p_bs, p_obS hS (a := 49) (kd := 10) rfl, p_FS hF (a := 49) (i := 44) (b := 70) (by decide), p_ixS hS (kd := 23) (a := 70) (n := 2) rfl, p_inL (n := 2) (k := 0) (i := (0 : Int32)) (by decide), s_X10_small, s_X10_coaxesKept hS hF, p_inL (n := 2) (k := 1) (i := (1 : Int32)) (by decide), s_X10_temptsKept hS hF, s_X10_touchesKept hS hF, s_X10_passesKept hS hF, s_X10_obeys_J88 hS hF, s_X10_obeys_J83 hS hF]

def h_X10_runs_J19_67 (w1 : Int32) (w2 : Int32) (w3 : Int32) (I : v_I) (J : v_J) (y4 : Int32) : Option ((Int32 × v_I × v_J) ⊕ (Nat × (Int32 × v_I × v_J))) :=
p_let (y4 + (1 : Int32)) fun x_17 =>
some (.inl (x_17, I, J))
set_option maxHeartbeats 4000000 in
set_option maxRecDepth 100000 in
theorem s_X10_runs_J19_67 {S : v_S} {F : v_F} (hS : p_SS S) (hF : p_FF F) (w1 : Int32) (w2 : Int32) (w3 : Int32) (I : v_I) (J : v_J) (y4 : Int32) : f_X10_runs_J19_67 S F 49 w1 w2 w3 I J y4 = h_X10_runs_J19_67 w1 w2 w3 I J y4 := by
  unfold f_X10_runs_J19_67 h_X10_runs_J19_67
  simp only [p_bs, s_X10_goesAlong hS hF, p_obS hS (a := 49) (kd := 10) rfl, s_X10_obeys hS hF]
def h_X10_runs_B19 (w1 : Int32) (w2 : Int32) (w3 : Int32) (s19 : Int32 × v_I × v_J) : Option ((Int32 × v_I × v_J) ⊕ (Nat × (Int32 × v_I × v_J))) :=
if w2 ≤ s19.1 then (
some (.inr (1, (s19.1, s19.2.1, s19.2.2))))
else (
(h_X10_goesAlong s19.2.1 s19.2.2 w1 (1 : Int32)).bind fun r_8 =>
if (r_8.1 49 43) = (0 : Int32) then (
h_X10_runs_J19_67 w1 w2 w3 r_8.1 r_8.2 s19.1)
else (
if (r_8.1 49 42) = (0 : Int32) then (
some (.inr (0, (s19.1, r_8.1, r_8.2))))
else (
(h_X10_obeys r_8.1 r_8.2).bind fun r_12 =>
if (0 : Int32) ≤ r_12.1 then (
p_let (v_up r_12.2 49 27 ((r_12.2 49 27) + (1 : Int32))) fun I_15 =>
h_X10_runs_J19_67 w1 w2 w3 I_15 r_8.2 s19.1)
else (
some (.inr (0, (s19.1, r_12.2, r_8.2)))))))
set_option maxHeartbeats 4000000 in
set_option maxRecDepth 100000 in
theorem s_X10_runs_B19 {S : v_S} {F : v_F} (hS : p_SS S) (hF : p_FF F) (w1 : Int32) (w2 : Int32) (w3 : Int32) : f_X10_runs_B19 S F 49 w1 w2 w3 = h_X10_runs_B19 w1 w2 w3 := by
  funext s19
  unfold f_X10_runs_B19 h_X10_runs_B19
  simp only [p_bs, s_X10_goesAlong hS hF, p_obS hS (a := 49) (kd := 10) rfl, s_X10_obeys hS hF, s_X10_runs_J19_67 hS hF]
def h_X10_runs (I : v_I) (J : v_J) (p1 : Int32) : Option (Int32 × v_I × v_J) :=
(h_X10_goesAlong I J p1 (0 : Int32)).bind fun r_1 =>
p_let (r_1.1 49 40) fun x_3 =>
p_let (r_1.1 49 22) fun x_5 =>
(v_loop (h_X10_runs_B19 p1 x_3 x_5) FU ((0 : Int32), r_1.1, r_1.2)).bind fun q_19 =>
if q_19.1 = 0 then (
some ((0 : Int32), q_19.2.2.1, q_19.2.2.2))
else (
p_let (v_up q_19.2.2.1 49 39 x_5) fun I_21 =>
some ((1 : Int32), I_21, q_19.2.2.2))
set_option maxHeartbeats 4000000 in
set_option maxRecDepth 100000 in
theorem s_X10_runs {S : v_S} {F : v_F} (hS : p_SS S) (hF : p_FF F) (I : v_I) (J : v_J) (p1 : Int32) : f_X10_runs S I J F 49 p1 = h_X10_runs I J p1 := by
  unfold f_X10_runs h_X10_runs
  simp only [p_bs, s_X10_goesAlong hS hF, p_obS hS (a := 49) (kd := 10) rfl, s_X10_obeys hS hF, s_X10_runs_J19_67 hS hF, s_X10_runs_B19 hS hF]

def h_X10_orders_B27 (J : v_J) (s27 : Int32 × v_I) : Option ((Int32 × v_I) ⊕ (Int32 × v_I)) :=
if (304 : Int32) ≤ s27.1 then (
some (.inr (s27.1, s27.2)))
else (
(p_in 304 s27.1).bind fun j_9 =>
(p_in 304 s27.1).bind fun j_10 =>
p_let (v_up s27.2 64 j_10 (s27.2 63 j_9)) fun I_11 =>
p_let (s27.1 + (1 : Int32)) fun x_13 =>
some (.inl (x_13, I_11)))
set_option maxHeartbeats 4000000 in
set_option maxRecDepth 100000 in
theorem s_X10_orders_B27 {S : v_S} {F : v_F} (hS : p_SS S) (hF : p_FF F) (J : v_J) : f_X10_orders_B27 S F J 49 = h_X10_orders_B27 J := by
  funext s27
  unfold f_X10_orders_B27 h_X10_orders_B27
  simp only [p_bs, p_obS hS (a := 49) (kd := 10) rfl, s_X10_readsAs hS hF, s_X10_laysAside hS hF, p_FS hF (a := 49) (i := 31) (b := 64) (by decide), p_FS hF (a := 49) (i := 30) (b := 63) (by decide), p_ixS hS (kd := 20) (a := 63) (n := 304) rfl, p_ixS hS (kd := 20) (a := 64) (n := 304) rfl, s_X10_lays hS hF, p_FS hF (a := 49) (i := 2) (b := 51) (by decide), p_ixS hS (kd := 20) (a := 51) (n := 5660) rfl, p_inL (n := 5660) (k := 59) (i := (59 : Int32)) (by decide), s_X10_runs hS hF, s_X10_takesBack hS hF, s_X10_refuses hS hF, s_X10_good hS hF]
def h_X10_orders_B95 (w1 : Int32) (w2 : Int32) (s95 : Int32 × v_I × v_J) : Option ((Int32 × v_I × v_J) ⊕ (Nat × (Int32 × v_I × v_J))) :=
if w2 ≤ (s95.2.1 49 39) then (
some (.inr (1, (s95.1, s95.2.1, s95.2.2))))
else (
(h_X10_runs s95.2.1 s95.2.2 w2).bind fun r_30 =>
if r_30.1 = (0 : Int32) then (
some (.inr (0, (s95.1, r_30.2.1, r_30.2.2))))
else (
p_let (s95.1 + (1 : Int32)) fun x_33 =>
some (.inl (x_33, r_30.2.1, r_30.2.2))))
set_option maxHeartbeats 4000000 in
set_option maxRecDepth 100000 in
theorem s_X10_orders_B95 {S : v_S} {F : v_F} (hS : p_SS S) (hF : p_FF F) (w1 : Int32) (w2 : Int32) : f_X10_orders_B95 S F 49 w1 w2 = h_X10_orders_B95 w1 w2 := by
  funext s95
  unfold f_X10_orders_B95 h_X10_orders_B95
  simp only [p_bs, p_obS hS (a := 49) (kd := 10) rfl, s_X10_readsAs hS hF, s_X10_laysAside hS hF, p_FS hF (a := 49) (i := 31) (b := 64) (by decide), p_FS hF (a := 49) (i := 30) (b := 63) (by decide), p_ixS hS (kd := 20) (a := 63) (n := 304) rfl, p_ixS hS (kd := 20) (a := 64) (n := 304) rfl, s_X10_lays hS hF, p_FS hF (a := 49) (i := 2) (b := 51) (by decide), p_ixS hS (kd := 20) (a := 51) (n := 5660) rfl, p_inL (n := 5660) (k := 59) (i := (59 : Int32)) (by decide), s_X10_runs hS hF, s_X10_takesBack hS hF, s_X10_refuses hS hF, s_X10_good hS hF, s_X10_orders_B27 hS hF]
def h_X10_orders_B122 (J : v_J) (w1 : Int32) (w3 : Int32) (s122 : Int32 × v_I) : Option ((Int32 × v_I) ⊕ (Int32 × v_I)) :=
if (304 : Int32) ≤ s122.1 then (
some (.inr (s122.1, s122.2)))
else (
(p_in 304 s122.1).bind fun j_40 =>
(p_in 304 s122.1).bind fun j_41 =>
p_let (v_up s122.2 63 j_41 (s122.2 64 j_40)) fun I_42 =>
p_let (s122.1 + (1 : Int32)) fun x_44 =>
some (.inl (x_44, I_42)))
set_option maxHeartbeats 4000000 in
set_option maxRecDepth 100000 in
theorem s_X10_orders_B122 {S : v_S} {F : v_F} (hS : p_SS S) (hF : p_FF F) (J : v_J) (w1 : Int32) (w3 : Int32) : f_X10_orders_B122 S F J 49 w1 w3 = h_X10_orders_B122 J w1 w3 := by
  funext s122
  unfold f_X10_orders_B122 h_X10_orders_B122
  simp only [p_bs, p_obS hS (a := 49) (kd := 10) rfl, s_X10_readsAs hS hF, s_X10_laysAside hS hF, p_FS hF (a := 49) (i := 31) (b := 64) (by decide), p_FS hF (a := 49) (i := 30) (b := 63) (by decide), p_ixS hS (kd := 20) (a := 63) (n := 304) rfl, p_ixS hS (kd := 20) (a := 64) (n := 304) rfl, s_X10_lays hS hF, p_FS hF (a := 49) (i := 2) (b := 51) (by decide), p_ixS hS (kd := 20) (a := 51) (n := 5660) rfl, p_inL (n := 5660) (k := 59) (i := (59 : Int32)) (by decide), s_X10_runs hS hF, s_X10_takesBack hS hF, s_X10_refuses hS hF, s_X10_good hS hF, s_X10_orders_B27 hS hF, s_X10_orders_B95 hS hF]
def h_X10_orders (I : v_I) (J : v_J) : Option (Int32 × v_I × v_J) :=
p_let (v_up I 49 38 (-1 : Int32)) fun I_1 =>
(h_X10_readsAs I_1 (1 : Int32)).bind fun r_3 =>
if r_3.1 = (0 : Int32) then (
(h_X10_refuses r_3.2 (-6 : Int32)).bind fun r_57 =>
some (r_57.1, r_57.2, J))
else (
(h_X10_laysAside r_3.2 (1 : Int32)).bind fun r_6 =>
(v_loop (h_X10_orders_B27 J) FU ((0 : Int32), r_6)).bind fun q_15 =>
p_let (q_15.2 49 32) fun x_17 =>
(h_X10_lays q_15.2 (6 : Int32)).bind fun r_19 =>
p_let (v_up r_19 49 27 (0 : Int32)) fun I_21 =>
p_let (v_up I_21 49 28 (-1 : Int32)) fun I_23 =>
p_let (v_up I_23 49 39 (2400 : Int32)) fun I_25 =>
p_let ((I_25 49 39) + (I_25 51 59)) fun x_27 =>
(v_loop (h_X10_orders_B95 x_17 x_27) FU ((0 : Int32), I_25, J)).bind fun q_35 =>
if q_35.1 = 0 then (
(h_X10_takesBack q_35.2.2.1 (1 : Int32)).bind fun r_37 =>
(v_loop (h_X10_orders_B122 q_35.2.2.2 x_17 q_35.2.1) FU ((0 : Int32), r_37)).bind fun q_46 =>
p_let (v_up q_46.2 49 32 x_17) fun I_48 =>
p_let (v_up I_48 49 38 q_35.2.1) fun I_50 =>
(h_X10_refuses I_50 (-3 : Int32)).bind fun r_52 =>
some (r_52.1, r_52.2, q_35.2.2.2))
else (
(h_X10_good q_35.2.2.1 (q_35.2.2.1 49 27)).bind fun r_54 =>
some (r_54.1, r_54.2, q_35.2.2.2)))
set_option maxHeartbeats 4000000 in
set_option maxRecDepth 100000 in
theorem s_X10_orders {S : v_S} {F : v_F} (hS : p_SS S) (hF : p_FF F) (I : v_I) (J : v_J) : f_X10_orders S I J F 49 = h_X10_orders I J := by
  unfold f_X10_orders h_X10_orders
  simp only [p_bs, p_obS hS (a := 49) (kd := 10) rfl, s_X10_readsAs hS hF, s_X10_laysAside hS hF, p_FS hF (a := 49) (i := 31) (b := 64) (by decide), p_FS hF (a := 49) (i := 30) (b := 63) (by decide), p_ixS hS (kd := 20) (a := 63) (n := 304) rfl, p_ixS hS (kd := 20) (a := 64) (n := 304) rfl, s_X10_lays hS hF, p_FS hF (a := 49) (i := 2) (b := 51) (by decide), p_ixS hS (kd := 20) (a := 51) (n := 5660) rfl, p_inL (n := 5660) (k := 59) (i := (59 : Int32)) (by decide), s_X10_runs hS hF, s_X10_takesBack hS hF, s_X10_refuses hS hF, s_X10_good hS hF, s_X10_orders_B27 hS hF, s_X10_orders_B95 hS hF, s_X10_orders_B122 hS hF]

end sp03
