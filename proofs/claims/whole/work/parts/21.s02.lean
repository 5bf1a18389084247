noncomputable section sp02
def h_X10_reads_J34_67 (I : v_I) (y1 : Int32) : Option ((Int32 × v_I) ⊕ (Int32 × v_I)) :=
p_let (y1 + (1 : Int32)) fun x_22 =>
some (.inl (x_22, I))
set_option maxHeartbeats 4000000 in
set_option maxRecDepth 100000 in
theorem s_X10_reads_J34_67 {S : v_S} {F : v_F} (hS : p_SS S) (hF : p_FF F) (I : v_I) (y1 : Int32) : f_X10_reads_J34_67 S F 49 I y1 = h_X10_reads_J34_67 I y1 := by
  unfold f_X10_reads_J34_67 h_X10_reads_J34_67
  simp only [p_bs, p_obS hS (a := 49) (kd := 10) rfl, s_X10_splits hS hF, s_X10_readOne hS hF, s_X10_sign, s_X10_takes0 hS hF, s_X10_fine hS hF, s_X10_faults hS hF]
def h_X10_reads_J34_56 (I : v_I) (y1 : Int32) : Option ((Int32 × v_I) ⊕ (Int32 × v_I)) :=
(h_X10_fine I).bind fun r_19 =>
if r_19 = (0 : Int32) then (
h_X10_reads_J34_67 I y1)
else (
(h_X10_readOne I).bind fun r_24 =>
h_X10_reads_J34_67 r_24 y1)
set_option maxHeartbeats 4000000 in
set_option maxRecDepth 100000 in
theorem s_X10_reads_J34_56 {S : v_S} {F : v_F} (hS : p_SS S) (hF : p_FF F) (I : v_I) (y1 : Int32) : f_X10_reads_J34_56 S F 49 I y1 = h_X10_reads_J34_56 I y1 := by
  unfold f_X10_reads_J34_56 h_X10_reads_J34_56
  simp only [p_bs, p_obS hS (a := 49) (kd := 10) rfl, s_X10_splits hS hF, s_X10_readOne hS hF, s_X10_sign, s_X10_takes0 hS hF, s_X10_fine hS hF, s_X10_faults hS hF, s_X10_reads_J34_67 hS hF]
def h_X10_reads_B34  (s34 : Int32 × v_I) : Option ((Int32 × v_I) ⊕ (Int32 × v_I)) :=
(h_X10_sign (59 : Int32)).bind fun r_13 =>
(h_X10_takes0 s34.2 r_13).bind fun r_15 =>
if r_15.1 = (0 : Int32) then (
some (.inr (s34.1, r_15.2)))
else (
if s34.1 = (12 : Int32) then (
(h_X10_faults r_15.2).bind fun r_26 =>
h_X10_reads_J34_56 r_26 s34.1)
else (
h_X10_reads_J34_56 r_15.2 s34.1))
set_option maxHeartbeats 4000000 in
set_option maxRecDepth 100000 in
theorem s_X10_reads_B34 {S : v_S} {F : v_F} (hS : p_SS S) (hF : p_FF F)  : f_X10_reads_B34 S F 49 = h_X10_reads_B34 := by
  funext s34
  unfold f_X10_reads_B34 h_X10_reads_B34
  simp only [p_bs, p_obS hS (a := 49) (kd := 10) rfl, s_X10_splits hS hF, s_X10_readOne hS hF, s_X10_sign, s_X10_takes0 hS hF, s_X10_fine hS hF, s_X10_faults hS hF, s_X10_reads_J34_67 hS hF, s_X10_reads_J34_56 hS hF]
def h_X10_reads_J95 (I : v_I) : Option (Int32 × v_I) :=
p_let (v_up I 49 14 (I 49 21)) fun I_33 =>
(h_X10_fine I_33).bind fun r_35 =>
(p_bl r_35).bind fun _ =>
some (r_35, I_33)
set_option maxHeartbeats 4000000 in
set_option maxRecDepth 100000 in
theorem s_X10_reads_J95 {S : v_S} {F : v_F} (hS : p_SS S) (hF : p_FF F) (I : v_I) : f_X10_reads_J95 S F I 49 = h_X10_reads_J95 I := by
  unfold f_X10_reads_J95 h_X10_reads_J95
  simp only [p_bs, p_obS hS (a := 49) (kd := 10) rfl, s_X10_splits hS hF, s_X10_readOne hS hF, s_X10_sign, s_X10_takes0 hS hF, s_X10_fine hS hF, s_X10_faults hS hF, s_X10_reads_J34_67 hS hF, s_X10_reads_J34_56 hS hF, s_X10_reads_B34 hS hF]
def h_X10_reads (I : v_I) : Option (Int32 × v_I) :=
(h_X10_splits I (I 49 13)).bind fun r_1 =>
p_let (v_up r_1 49 13 (0 : Int32)) fun I_3 =>
p_let (v_up I_3 49 19 (0 : Int32)) fun I_5 =>
p_let (v_up I_5 49 20 (0 : Int32)) fun I_7 =>
p_let (v_up I_7 49 21 (-1 : Int32)) fun I_9 =>
(h_X10_readOne I_9).bind fun r_11 =>
(v_loop (h_X10_reads_B34) FU ((1 : Int32), r_11)).bind fun q_28 =>
(h_X10_fine q_28.2).bind fun r_30 =>
if r_30 = (0 : Int32) then (
h_X10_reads_J95 q_28.2)
else (
if (q_28.2 49 18) ≤ (q_28.2 49 19) then (
h_X10_reads_J95 q_28.2)
else (
(h_X10_faults q_28.2).bind fun r_39 =>
h_X10_reads_J95 r_39))
set_option maxHeartbeats 4000000 in
set_option maxRecDepth 100000 in
theorem s_X10_reads {S : v_S} {F : v_F} (hS : p_SS S) (hF : p_FF F) (I : v_I) : f_X10_reads S I F 49 = h_X10_reads I := by
  unfold f_X10_reads h_X10_reads
  simp only [p_bs, p_obS hS (a := 49) (kd := 10) rfl, s_X10_splits hS hF, s_X10_readOne hS hF, s_X10_sign, s_X10_takes0 hS hF, s_X10_fine hS hF, s_X10_faults hS hF, s_X10_reads_J34_67 hS hF, s_X10_reads_J34_56 hS hF, s_X10_reads_B34 hS hF, s_X10_reads_J95 hS hF]

def h_X10_readsAs_J32 (I : v_I) (z0 : Int32) : Option (Int32 × v_I) :=
p_let (v_up I 49 9 z0) fun I_8 =>
(h_X10_reads I_8).bind fun r_10 =>
(p_bl r_10.1).bind fun _ =>
some (r_10.1, r_10.2)
set_option maxHeartbeats 4000000 in
set_option maxRecDepth 100000 in
theorem s_X10_readsAs_J32 {S : v_S} {F : v_F} (hS : p_SS S) (hF : p_FF F) (I : v_I) (z0 : Int32) : f_X10_readsAs_J32 S F I 49 z0 49 = h_X10_readsAs_J32 I z0 := by
  unfold f_X10_readsAs_J32 h_X10_readsAs_J32
  simp only [p_bs, p_obS hS (a := 49) (kd := 10) rfl, s_X10_reads hS hF]
def h_X10_readsAs_J17 (I : v_I) (y1 : Int32) (z0 : Int32) : Option (Int32 × v_I) :=
p_let (v_up I 49 8 z0) fun I_5 =>
if y1 = (0 : Int32) then (
h_X10_readsAs_J32 I_5 (16 : Int32))
else (
h_X10_readsAs_J32 I_5 (19 : Int32))
set_option maxHeartbeats 4000000 in
set_option maxRecDepth 100000 in
theorem s_X10_readsAs_J17 {S : v_S} {F : v_F} (hS : p_SS S) (hF : p_FF F) (I : v_I) (y1 : Int32) (z0 : Int32) : f_X10_readsAs_J17 S F I 49 y1 z0 49 = h_X10_readsAs_J17 I y1 z0 := by
  unfold f_X10_readsAs_J17 h_X10_readsAs_J17
  simp only [p_bs, p_obS hS (a := 49) (kd := 10) rfl, s_X10_reads hS hF, s_X10_readsAs_J32 hS hF]
def h_X10_readsAs (I : v_I) (p1 : Int32) : Option (Int32 × v_I) :=
(p_bl p1).bind fun _ =>
p_let (v_up I 49 10 p1) fun I_2 =>
if p1 = (0 : Int32) then (
h_X10_readsAs_J17 I_2 p1 (8 : Int32))
else (
h_X10_readsAs_J17 I_2 p1 (13 : Int32))
set_option maxHeartbeats 4000000 in
set_option maxRecDepth 100000 in
theorem s_X10_readsAs {S : v_S} {F : v_F} (hS : p_SS S) (hF : p_FF F) (I : v_I) (p1 : Int32) : f_X10_readsAs S I F 49 p1 = h_X10_readsAs I p1 := by
  unfold f_X10_readsAs h_X10_readsAs
  simp only [p_bs, p_obS hS (a := 49) (kd := 10) rfl, s_X10_reads hS hF, s_X10_readsAs_J32 hS hF, s_X10_readsAs_J17 hS hF]

def h_X10_law (I : v_I) : Option (Int32 × v_I) :=
if (I 51 51) = (6 : Int32) then (
p_let (v_up I 49 13 (0 : Int32)) fun I_13 =>
(h_X10_refuses I_13 (-5 : Int32)).bind fun r_15 =>
some (r_15.1, r_15.2))
else (
(h_X10_readsAs I (0 : Int32)).bind fun r_2 =>
if r_2.1 = (0 : Int32) then (
(h_X10_refuses r_2.2 (-6 : Int32)).bind fun r_11 =>
some (r_11.1, r_11.2))
else (
(h_X10_lays r_2.2 (r_2.2 51 51)).bind fun r_5 =>
p_let (v_up r_5 51 51 ((r_5 51 51) + (1 : Int32))) fun I_7 =>
(h_X10_good I_7 ((I_7 51 51) - (1 : Int32))).bind fun r_9 =>
some (r_9.1, r_9.2)))
set_option maxHeartbeats 4000000 in
set_option maxRecDepth 100000 in
theorem s_X10_law {S : v_S} {F : v_F} (hS : p_SS S) (hF : p_FF F) (I : v_I) : f_X10_law S I F 49 = h_X10_law I := by
  unfold f_X10_law h_X10_law
  simp only [p_bs, p_obS hS (a := 49) (kd := 10) rfl, p_FS hF (a := 49) (i := 2) (b := 51) (by decide), p_ixS hS (kd := 20) (a := 51) (n := 5660) rfl, p_inL (n := 5660) (k := 51) (i := (51 : Int32)) (by decide), s_X10_readsAs hS hF, s_X10_lays hS hF, s_X10_good hS hF, s_X10_refuses hS hF]

def h_X10_fault (I : v_I) : Option (Int32) :=
some (I 49 14)
set_option maxHeartbeats 4000000 in
set_option maxRecDepth 100000 in
theorem s_X10_fault {S : v_S} {F : v_F} (hS : p_SS S) (hF : p_FF F) (I : v_I) : f_X10_fault S I 49 = h_X10_fault I := by
  unfold f_X10_fault h_X10_fault
  simp only [p_bs, p_obS hS (a := 49) (kd := 10) rfl]

def h_X10_isLaw (I : v_I) (p1 : Int32) : Option (Int32) :=
(h_X10_lies p1 (-1 : Int32) ((I 51 51) - (1 : Int32))).bind fun r_1 =>
(p_bl r_1).bind fun _ =>
some (r_1)
set_option maxHeartbeats 4000000 in
set_option maxRecDepth 100000 in
theorem s_X10_isLaw {S : v_S} {F : v_F} (hS : p_SS S) (hF : p_FF F) (I : v_I) (p1 : Int32) : f_X10_isLaw S I F 49 p1 = h_X10_isLaw I p1 := by
  unfold f_X10_isLaw h_X10_isLaw
  simp only [p_bs, p_obS hS (a := 49) (kd := 10) rfl, p_FS hF (a := 49) (i := 2) (b := 51) (by decide), p_ixS hS (kd := 20) (a := 51) (n := 5660) rfl, p_inL (n := 5660) (k := 51) (i := (51 : Int32)) (by decide), s_X10_lies]

def h_X10_force (I : v_I) (p1 : Int32) : Option (Int32 × v_I) :=
(h_X10_isLaw I p1).bind fun r_1 =>
if r_1 = (0 : Int32) then (
(h_X10_refuses I (-2 : Int32)).bind fun r_10 =>
some (r_10.1, r_10.2))
else (
p_let (I 51 52) fun x_4 =>
p_let (v_up I 51 52 p1) fun I_6 =>
(h_X10_good I_6 x_4).bind fun r_8 =>
some (r_8.1, r_8.2))
set_option maxHeartbeats 4000000 in
set_option maxRecDepth 100000 in
theorem s_X10_force {S : v_S} {F : v_F} (hS : p_SS S) (hF : p_FF F) (I : v_I) (p1 : Int32) : f_X10_force S I F 49 p1 = h_X10_force I p1 := by
  unfold f_X10_force h_X10_force
  simp only [p_bs, s_X10_isLaw hS hF, p_obS hS (a := 49) (kd := 10) rfl, p_FS hF (a := 49) (i := 2) (b := 51) (by decide), p_ixS hS (kd := 20) (a := 51) (n := 5660) rfl, p_inL (n := 5660) (k := 52) (i := (52 : Int32)) (by decide), s_X10_good hS hF, s_X10_refuses hS hF]

def h_X10_undo_B34 (w1 : Int32) (s34 : Int32 × v_I) : Option ((Int32 × v_I) ⊕ (Int32 × v_I)) :=
if (18 : Int32) ≤ s34.1 then (
some (.inr (s34.1, s34.2)))
else (
(p_in 304 (w1 + s34.1)).bind fun j_7 =>
(p_in 5660 s34.1).bind fun j_8 =>
p_let (v_up s34.2 51 j_8 (s34.2 63 j_7)) fun I_9 =>
p_let (s34.1 + (1 : Int32)) fun x_11 =>
some (.inl (x_11, I_9)))
set_option maxHeartbeats 4000000 in
set_option maxRecDepth 100000 in
theorem s_X10_undo_B34 {S : v_S} {F : v_F} (hS : p_SS S) (hF : p_FF F) (w1 : Int32) : f_X10_undo_B34 S F 49 w1 = h_X10_undo_B34 w1 := by
  funext s34
  unfold f_X10_undo_B34 h_X10_undo_B34
  simp only [p_bs, p_obS hS (a := 49) (kd := 10) rfl, p_FS hF (a := 49) (i := 2) (b := 51) (by decide), p_FS hF (a := 49) (i := 30) (b := 63) (by decide), p_ixS hS (kd := 20) (a := 63) (n := 304) rfl, p_ixS hS (kd := 20) (a := 51) (n := 5660) rfl, s_X10_good hS hF, s_X10_refuses hS hF]
def h_X10_undo (I : v_I) : Option (Int32 × v_I) :=
if (I 49 32) = (0 : Int32) then (
(h_X10_refuses I (-3 : Int32)).bind fun r_18 =>
some (r_18.1, r_18.2))
else (
p_let (v_up I 49 32 ((I 49 32) - (1 : Int32))) fun I_2 =>
p_let ((19 : Int32) * (I_2 49 32)) fun x_4 =>
(v_loop (h_X10_undo_B34 x_4) FU ((0 : Int32), I_2)).bind fun q_13 =>
(p_in 304 (x_4 + (18 : Int32))).bind fun j_15 =>
(h_X10_good q_13.2 (q_13.2 63 j_15)).bind fun r_16 =>
some (r_16.1, r_16.2))
set_option maxHeartbeats 4000000 in
set_option maxRecDepth 100000 in
theorem s_X10_undo {S : v_S} {F : v_F} (hS : p_SS S) (hF : p_FF F) (I : v_I) : f_X10_undo S I F 49 = h_X10_undo I := by
  unfold f_X10_undo h_X10_undo
  simp only [p_bs, p_obS hS (a := 49) (kd := 10) rfl, p_FS hF (a := 49) (i := 2) (b := 51) (by decide), p_FS hF (a := 49) (i := 30) (b := 63) (by decide), p_ixS hS (kd := 20) (a := 63) (n := 304) rfl, p_ixS hS (kd := 20) (a := 51) (n := 5660) rfl, s_X10_good hS hF, s_X10_refuses hS hF, s_X10_undo_B34 hS hF]

def h_X10_goodOr (I : v_I) (p1 : Int32) : Option (Int32 × v_I) :=
if (0 : Int32) ≤ p1 then (
(h_X10_good I p1).bind fun r_2 =>
some (r_2.1, r_2.2))
else (
(h_X10_refuses I p1).bind fun r_4 =>
some (r_4.1, r_4.2))
set_option maxHeartbeats 4000000 in
set_option maxRecDepth 100000 in
theorem s_X10_goodOr {S : v_S} {F : v_F} (hS : p_SS S) (hF : p_FF F) (I : v_I) (p1 : Int32) : f_X10_goodOr S I F 49 p1 = h_X10_goodOr I p1 := by
  unfold f_X10_goodOr h_X10_goodOr
  simp only [p_bs, s_X10_good hS hF, p_obS hS (a := 49) (kd := 10) rfl, s_X10_refuses hS hF]

def h_X10_keeps_B54 (w1 : Int32) (w2 : Int32) (s54 : Int32 × v_I) : Option ((Int32 × v_I) ⊕ (Int32 × v_I)) :=
if (18 : Int32) ≤ s54.1 then (
some (.inr (s54.1, s54.2)))
else (
(p_in 5660 s54.1).bind fun j_3 =>
(p_in 304 ((w2 * (s54.2 49 32)) + s54.1)).bind fun j_4 =>
p_let (v_up s54.2 63 j_4 (s54.2 51 j_3)) fun I_5 =>
p_let (s54.1 + (1 : Int32)) fun x_7 =>
some (.inl (x_7, I_5)))
set_option maxHeartbeats 4000000 in
set_option maxRecDepth 100000 in
theorem s_X10_keeps_B54 {S : v_S} {F : v_F} (hS : p_SS S) (hF : p_FF F) (w1 : Int32) (w2 : Int32) : f_X10_keeps_B54 S F 49 w1 w2 = h_X10_keeps_B54 w1 w2 := by
  funext s54
  unfold f_X10_keeps_B54 h_X10_keeps_B54
  simp only [p_bs, p_obS hS (a := 49) (kd := 10) rfl, p_FS hF (a := 49) (i := 30) (b := 63) (by decide), p_FS hF (a := 49) (i := 2) (b := 51) (by decide), p_ixS hS (kd := 20) (a := 51) (n := 5660) rfl, p_ixS hS (kd := 20) (a := 63) (n := 304) rfl]
def h_X10_keeps_J52 (I : v_I) (y1 : Int32) (y2 : Int32) : Option (v_I) :=
(v_loop (h_X10_keeps_B54 y1 y2) FU ((0 : Int32), I)).bind fun q_9 =>
(p_in 304 ((y2 * (q_9.2 49 32)) + (18 : Int32))).bind fun j_11 =>
p_let (v_up q_9.2 63 j_11 y1) fun I_12 =>
p_let (v_up I_12 49 32 ((I_12 49 32) + (1 : Int32))) fun I_14 =>
some (I_14)
set_option maxHeartbeats 4000000 in
set_option maxRecDepth 100000 in
theorem s_X10_keeps_J52 {S : v_S} {F : v_F} (hS : p_SS S) (hF : p_FF F) (I : v_I) (y1 : Int32) (y2 : Int32) : f_X10_keeps_J52 S F I 49 y1 y2 = h_X10_keeps_J52 I y1 y2 := by
  unfold f_X10_keeps_J52 h_X10_keeps_J52
  simp only [p_bs, p_obS hS (a := 49) (kd := 10) rfl, p_FS hF (a := 49) (i := 30) (b := 63) (by decide), p_FS hF (a := 49) (i := 2) (b := 51) (by decide), p_ixS hS (kd := 20) (a := 51) (n := 5660) rfl, p_ixS hS (kd := 20) (a := 63) (n := 304) rfl, s_X10_keeps_B54 hS hF]
def h_X10_keeps_B14 (w1 : Int32) (w2 : Int32) (s14 : Int32 × v_I) : Option ((Int32 × v_I) ⊕ (Int32 × v_I)) :=
if ((15 : Int32) * w2) ≤ s14.1 then (
some (.inr (s14.1, s14.2)))
else (
(p_in 304 (s14.1 + w2)).bind fun j_17 =>
(p_in 304 s14.1).bind fun j_18 =>
p_let (v_up s14.2 63 j_18 (s14.2 63 j_17)) fun I_19 =>
p_let (s14.1 + (1 : Int32)) fun x_21 =>
some (.inl (x_21, I_19)))
set_option maxHeartbeats 4000000 in
set_option maxRecDepth 100000 in
theorem s_X10_keeps_B14 {S : v_S} {F : v_F} (hS : p_SS S) (hF : p_FF F) (w1 : Int32) (w2 : Int32) : f_X10_keeps_B14 S F 49 w1 w2 = h_X10_keeps_B14 w1 w2 := by
  funext s14
  unfold f_X10_keeps_B14 h_X10_keeps_B14
  simp only [p_bs, p_obS hS (a := 49) (kd := 10) rfl, p_FS hF (a := 49) (i := 30) (b := 63) (by decide), p_FS hF (a := 49) (i := 2) (b := 51) (by decide), p_ixS hS (kd := 20) (a := 51) (n := 5660) rfl, p_ixS hS (kd := 20) (a := 63) (n := 304) rfl, s_X10_keeps_B54 hS hF, s_X10_keeps_J52 hS hF]
def h_X10_keeps (I : v_I) (p1 : Int32) : Option (v_I) :=
if (I 49 32) = (16 : Int32) then (
(v_loop (h_X10_keeps_B14 p1 (19 : Int32)) FU ((0 : Int32), I)).bind fun q_23 =>
p_let (v_up q_23.2 49 32 ((q_23.2 49 32) - (1 : Int32))) fun I_25 =>
h_X10_keeps_J52 I_25 p1 (19 : Int32))
else (
h_X10_keeps_J52 I p1 (19 : Int32))
set_option maxHeartbeats 4000000 in
set_option maxRecDepth 100000 in
theorem s_X10_keeps {S : v_S} {F : v_F} (hS : p_SS S) (hF : p_FF F) (I : v_I) (p1 : Int32) : f_X10_keeps S I F 49 p1 = h_X10_keeps I p1 := by
  unfold f_X10_keeps h_X10_keeps
  simp only [p_bs, p_obS hS (a := 49) (kd := 10) rfl, p_FS hF (a := 49) (i := 30) (b := 63) (by decide), p_FS hF (a := 49) (i := 2) (b := 51) (by decide), p_ixS hS (kd := 20) (a := 51) (n := 5660) rfl, p_ixS hS (kd := 20) (a := 63) (n := 304) rfl, s_X10_keeps_B54 hS hF, s_X10_keeps_J52 hS hF, s_X10_keeps_B14 hS hF]

def h_X10_touches (I : v_I) (p1 : Int32) : Option (v_I) :=
p_let (v_up I 51 0 ((I 51 0) &&& (((1 : Int32) <<< (p1 &&& 31)) ^^^ (-1 : Int32)))) fun I_1 =>
(p_in 5660 ((9 : Int32) + p1)).bind fun j_3 =>
p_let (v_up I_1 51 j_3 (0 : Int32)) fun I_4 =>
some (I_4)
set_option maxHeartbeats 4000000 in
set_option maxRecDepth 100000 in
theorem s_X10_touches {S : v_S} {F : v_F} (hS : p_SS S) (hF : p_FF F) (I : v_I) (p1 : Int32) : f_X10_touches S I F 49 p1 = h_X10_touches I p1 := by
  unfold f_X10_touches h_X10_touches
  simp only [p_bs, p_obS hS (a := 49) (kd := 10) rfl, p_FS hF (a := 49) (i := 2) (b := 51) (by decide), p_ixS hS (kd := 20) (a := 51) (n := 5660) rfl, p_inL (n := 5660) (k := 0) (i := (0 : Int32)) (by decide)]

def h_X10_touchesKept_J24 (I : v_I) (y1 : Int32) (z0 : Int32) : Option (Int32 × v_I) :=
(h_X10_keeps I (0 : Int32)).bind fun r_7 =>
(h_X10_touches r_7 y1).bind fun r_9 =>
some (z0, r_9)
set_option maxHeartbeats 4000000 in
set_option maxRecDepth 100000 in
theorem s_X10_touchesKept_J24 {S : v_S} {F : v_F} (hS : p_SS S) (hF : p_FF F) (I : v_I) (y1 : Int32) (z0 : Int32) : f_X10_touchesKept_J24 S F I 49 y1 z0 = h_X10_touchesKept_J24 I y1 z0 := by
  unfold f_X10_touchesKept_J24 h_X10_touchesKept_J24
  simp only [p_bs, s_X10_isOne hS hF, p_obS hS (a := 49) (kd := 10) rfl, s_X10_isOpen hS hF, s_X10_keeps hS hF, s_X10_touches hS hF]
def h_X10_touchesKept (I : v_I) (p1 : Int32) : Option (Int32 × v_I) :=
(h_X10_isOne I p1).bind fun r_1 =>
if r_1 = (0 : Int32) then (
some ((-2 : Int32), I))
else (
(h_X10_isOpen I p1).bind fun r_4 =>
if r_4 = (0 : Int32) then (
h_X10_touchesKept_J24 I p1 (0 : Int32))
else (
h_X10_touchesKept_J24 I p1 (1 : Int32)))
set_option maxHeartbeats 4000000 in
set_option maxRecDepth 100000 in
theorem s_X10_touchesKept {S : v_S} {F : v_F} (hS : p_SS S) (hF : p_FF F) (I : v_I) (p1 : Int32) : f_X10_touchesKept S I F 49 p1 = h_X10_touchesKept I p1 := by
  unfold f_X10_touchesKept h_X10_touchesKept
  simp only [p_bs, s_X10_isOne hS hF, p_obS hS (a := 49) (kd := 10) rfl, s_X10_isOpen hS hF, s_X10_keeps hS hF, s_X10_touches hS hF, s_X10_touchesKept_J24 hS hF]

def h_X10_touch (I : v_I) (p1 : Int32) : Option (Int32 × v_I) :=
(h_X10_touchesKept I p1).bind fun r_1 =>
(h_X10_goodOr r_1.2 r_1.1).bind fun r_3 =>
some (r_3.1, r_3.2)
set_option maxHeartbeats 4000000 in
set_option maxRecDepth 100000 in
theorem s_X10_touch {S : v_S} {F : v_F} (hS : p_SS S) (hF : p_FF F) (I : v_I) (p1 : Int32) : f_X10_touch S I F 49 p1 = h_X10_touch I p1 := by
  unfold f_X10_touch h_X10_touch
  simp only [p_bs, s_X10_touchesKept hS hF, p_obS hS (a := 49) (kd := 10) rfl, s_X10_goodOr hS hF]

def h_X10_coaxesKept (I : v_I) (p1 : Int32) : Option (Int32 × v_I) :=
(h_X10_isOne I p1).bind fun r_1 =>
if r_1 = (0 : Int32) then (
some ((-2 : Int32), I))
else (
(h_X10_isOpen I p1).bind fun r_4 =>
if r_4 = (0 : Int32) then (
(h_X10_keeps I (1 : Int32)).bind fun r_7 =>
p_let (v_up r_7 51 0 ((r_7 51 0) ||| ((1 : Int32) <<< (p1 &&& 31)))) fun I_9 =>
(h_X10_ones (I_9 51 0)).bind fun r_11 =>
some (r_11, I_9))
else (
some ((-3 : Int32), I)))
set_option maxHeartbeats 4000000 in
set_option maxRecDepth 100000 in
theorem s_X10_coaxesKept {S : v_S} {F : v_F} (hS : p_SS S) (hF : p_FF F) (I : v_I) (p1 : Int32) : f_X10_coaxesKept S I F 49 p1 = h_X10_coaxesKept I p1 := by
  unfold f_X10_coaxesKept h_X10_coaxesKept
  simp only [p_bs, s_X10_isOne hS hF, p_obS hS (a := 49) (kd := 10) rfl, s_X10_isOpen hS hF, s_X10_keeps hS hF, p_FS hF (a := 49) (i := 2) (b := 51) (by decide), p_ixS hS (kd := 20) (a := 51) (n := 5660) rfl, p_inL (n := 5660) (k := 0) (i := (0 : Int32)) (by decide), s_X10_ones]

def h_X10_coax (I : v_I) (p1 : Int32) : Option (Int32 × v_I) :=
(h_X10_coaxesKept I p1).bind fun r_1 =>
(h_X10_goodOr r_1.2 r_1.1).bind fun r_3 =>
some (r_3.1, r_3.2)
set_option maxHeartbeats 4000000 in
set_option maxRecDepth 100000 in
theorem s_X10_coax {S : v_S} {F : v_F} (hS : p_SS S) (hF : p_FF F) (I : v_I) (p1 : Int32) : f_X10_coax S I F 49 p1 = h_X10_coax I p1 := by
  unfold f_X10_coax h_X10_coax
  simp only [p_bs, s_X10_coaxesKept hS hF, p_obS hS (a := 49) (kd := 10) rfl, s_X10_goodOr hS hF]

def h_X10_temptsKept (I : v_I) (p1 : Int32) (p2 : Int32) : Option (Int32 × v_I) :=
(h_X10_isNine p2).bind fun r_1 =>
if r_1 = (0 : Int32) then (
some ((-1 : Int32), I))
else (
(h_X10_isOne I p1).bind fun r_4 =>
if r_4 = (0 : Int32) then (
some ((-2 : Int32), I))
else (
(p_in 5660 ((1 : Int32) + p1)).bind fun j_7 =>
p_let (I 51 j_7) fun x_8 =>
if x_8 = p2 then (
some ((-3 : Int32), I))
else (
(h_X10_keeps I (2 : Int32)).bind fun r_11 =>
(p_in 5660 ((1 : Int32) + p1)).bind fun j_13 =>
p_let (v_up r_11 51 j_13 p2) fun I_14 =>
some (x_8, I_14))))
set_option maxHeartbeats 4000000 in
set_option maxRecDepth 100000 in
theorem s_X10_temptsKept {S : v_S} {F : v_F} (hS : p_SS S) (hF : p_FF F) (I : v_I) (p1 : Int32) (p2 : Int32) : f_X10_temptsKept S I F 49 p1 p2 = h_X10_temptsKept I p1 p2 := by
  unfold f_X10_temptsKept h_X10_temptsKept
  simp only [p_bs, s_X10_isNine, s_X10_isOne hS hF, p_obS hS (a := 49) (kd := 10) rfl, p_FS hF (a := 49) (i := 2) (b := 51) (by decide), p_ixS hS (kd := 20) (a := 51) (n := 5660) rfl, s_X10_keeps hS hF]

def h_X10_tempt (I : v_I) (p1 : Int32) (p2 : Int32) : Option (Int32 × v_I) :=
(h_X10_temptsKept I p1 p2).bind fun r_1 =>
(h_X10_goodOr r_1.2 r_1.1).bind fun r_3 =>
some (r_3.1, r_3.2)
set_option maxHeartbeats 4000000 in
set_option maxRecDepth 100000 in
theorem s_X10_tempt {S : v_S} {F : v_F} (hS : p_SS S) (hF : p_FF F) (I : v_I) (p1 : Int32) (p2 : Int32) : f_X10_tempt S I F 49 p1 p2 = h_X10_tempt I p1 p2 := by
  unfold f_X10_tempt h_X10_tempt
  simp only [p_bs, s_X10_temptsKept hS hF, p_obS hS (a := 49) (kd := 10) rfl, s_X10_goodOr hS hF]

def h_X10_lesser (p0 : Int32) (p1 : Int32) : Option (Int32) :=
if p1 ≤ p0 then (
some (p1))
else (
some (p0))
set_option maxHeartbeats 4000000 in
set_option maxRecDepth 100000 in
theorem s_X10_lesser (p0 : Int32) (p1 : Int32) : f_X10_lesser p0 p1 = h_X10_lesser p0 p1 := by
  unfold f_X10_lesser h_X10_lesser
  simp only [p_bs]

def h_X10_minutePasses_J4_36 (w1 : Int32) (I : v_I) (y3 : Int32) (z0 : Int32) (z1 : Int32) : Option ((Int32 × Int32 × v_I) ⊕ (Int32 × Int32 × v_I)) :=
p_let (z1 ||| z0) fun x_7 =>
(h_X10_wantsNow I y3).bind fun r_9 =>
(p_in 8 y3).bind fun j_11 =>
p_let (v_up r_9.2 62 j_11 r_9.1) fun I_12 =>
p_let (y3 + (1 : Int32)) fun x_14 =>
some (.inl (x_7, x_14, I_12))
set_option maxHeartbeats 4000000 in
set_option maxRecDepth 100000 in
theorem s_X10_minutePasses_J4_36 {S : v_S} {F : v_F} (hS : p_SS S) (hF : p_FF F) (w1 : Int32) (I : v_I) (y3 : Int32) (z0 : Int32) (z1 : Int32) : f_X10_minutePasses_J4_36 S F 49 w1 I y3 z0 z1 = h_X10_minutePasses_J4_36 w1 I y3 z0 z1 := by
  unfold f_X10_minutePasses_J4_36 h_X10_minutePasses_J4_36
  simp only [p_bs, s_X10_many hS hF, p_obS hS (a := 49) (kd := 10) rfl, s_X10_isIn, p_FS hF (a := 49) (i := 29) (b := 62) (by decide), s_X10_wantsNow hS hF, p_ixS hS (kd := 20) (a := 62) (n := 8) rfl, s_X10_opensNext hS hF, p_FS hF (a := 49) (i := 2) (b := 51) (by decide), p_ixS hS (kd := 20) (a := 51) (n := 5660) rfl, s_X10_lesser, p_inL (n := 5660) (k := 0) (i := (0 : Int32)) (by decide), p_inL (n := 5660) (k := 17) (i := (17 : Int32)) (by decide), s_X10_ones]
def h_X10_minutePasses_J4_35 (w1 : Int32) (I : v_I) (y3 : Int32) (z0 : Int32) : Option ((Int32 × Int32 × v_I) ⊕ (Int32 × Int32 × v_I)) :=
h_X10_minutePasses_J4_36 w1 I y3 (0 : Int32) z0
set_option maxHeartbeats 4000000 in
set_option maxRecDepth 100000 in
theorem s_X10_minutePasses_J4_35 {S : v_S} {F : v_F} (hS : p_SS S) (hF : p_FF F) (w1 : Int32) (I : v_I) (y3 : Int32) (z0 : Int32) : f_X10_minutePasses_J4_35 S F 49 w1 I y3 z0 = h_X10_minutePasses_J4_35 w1 I y3 z0 := by
  unfold f_X10_minutePasses_J4_35 h_X10_minutePasses_J4_35
  simp only [p_bs, s_X10_many hS hF, p_obS hS (a := 49) (kd := 10) rfl, s_X10_isIn, p_FS hF (a := 49) (i := 29) (b := 62) (by decide), s_X10_wantsNow hS hF, p_ixS hS (kd := 20) (a := 62) (n := 8) rfl, s_X10_opensNext hS hF, p_FS hF (a := 49) (i := 2) (b := 51) (by decide), p_ixS hS (kd := 20) (a := 51) (n := 5660) rfl, s_X10_lesser, p_inL (n := 5660) (k := 0) (i := (0 : Int32)) (by decide), p_inL (n := 5660) (k := 17) (i := (17 : Int32)) (by decide), s_X10_ones, s_X10_minutePasses_J4_36 hS hF]
def h_X10_minutePasses_B4 (w1 : Int32) (s4 : Int32 × Int32 × v_I) : Option ((Int32 × Int32 × v_I) ⊕ (Int32 × Int32 × v_I)) :=
(h_X10_many s4.2.2).bind fun r_1 =>
if r_1 ≤ s4.2.1 then (
some (.inr (s4.1, s4.2.1, s4.2.2)))
else (
(h_X10_isIn w1 s4.2.1).bind fun r_4 =>
if r_4 = (0 : Int32) then (
(h_X10_opensNext s4.2.2 s4.2.1).bind fun r_16 =>
if r_16.1 = (0 : Int32) then (
h_X10_minutePasses_J4_35 w1 r_16.2 s4.2.1 s4.1)
else (
h_X10_minutePasses_J4_36 w1 r_16.2 s4.2.1 ((1 : Int32) <<< (s4.2.1 &&& 31)) s4.1))
else (
h_X10_minutePasses_J4_35 w1 s4.2.2 s4.2.1 s4.1))
set_option maxHeartbeats 4000000 in
set_option maxRecDepth 100000 in
theorem s_X10_minutePasses_B4 {S : v_S} {F : v_F} (hS : p_SS S) (hF : p_FF F) (w1 : Int32) : f_X10_minutePasses_B4 S F 49 w1 = h_X10_minutePasses_B4 w1 := by
  funext s4
  unfold f_X10_minutePasses_B4 h_X10_minutePasses_B4
  simp only [p_bs, s_X10_many hS hF, p_obS hS (a := 49) (kd := 10) rfl, s_X10_isIn, p_FS hF (a := 49) (i := 29) (b := 62) (by decide), s_X10_wantsNow hS hF, p_ixS hS (kd := 20) (a := 62) (n := 8) rfl, s_X10_opensNext hS hF, p_FS hF (a := 49) (i := 2) (b := 51) (by decide), p_ixS hS (kd := 20) (a := 51) (n := 5660) rfl, s_X10_lesser, p_inL (n := 5660) (k := 0) (i := (0 : Int32)) (by decide), p_inL (n := 5660) (k := 17) (i := (17 : Int32)) (by decide), s_X10_ones, s_X10_minutePasses_J4_36 hS hF, s_X10_minutePasses_J4_35 hS hF]
def h_X10_minutePasses_B57 (w2 : Int32) (s57 : Int32 × v_I) : Option ((Int32 × v_I) ⊕ (Int32 × v_I)) :=
(h_X10_many s57.2).bind fun r_21 =>
if r_21 ≤ s57.1 then (
some (.inr (s57.1, s57.2)))
else (
(p_in 8 s57.1).bind fun j_24 =>
(p_in 5660 ((1 : Int32) + s57.1)).bind fun j_25 =>
p_let (v_up s57.2 51 j_25 (s57.2 62 j_24)) fun I_26 =>
(p_in 5660 ((9 : Int32) + s57.1)).bind fun j_28 =>
(h_X10_lesser (99 : Int32) ((I_26 51 j_28) + (1 : Int32))).bind fun r_29 =>
(p_in 5660 ((9 : Int32) + s57.1)).bind fun j_31 =>
p_let (v_up I_26 51 j_31 r_29) fun I_32 =>
p_let (s57.1 + (1 : Int32)) fun x_34 =>
some (.inl (x_34, I_32)))
set_option maxHeartbeats 4000000 in
set_option maxRecDepth 100000 in
theorem s_X10_minutePasses_B57 {S : v_S} {F : v_F} (hS : p_SS S) (hF : p_FF F) (w2 : Int32) : f_X10_minutePasses_B57 S F 49 w2 = h_X10_minutePasses_B57 w2 := by
  funext s57
  unfold f_X10_minutePasses_B57 h_X10_minutePasses_B57
  simp only [p_bs, s_X10_many hS hF, p_obS hS (a := 49) (kd := 10) rfl, s_X10_isIn, p_FS hF (a := 49) (i := 29) (b := 62) (by decide), s_X10_wantsNow hS hF, p_ixS hS (kd := 20) (a := 62) (n := 8) rfl, s_X10_opensNext hS hF, p_FS hF (a := 49) (i := 2) (b := 51) (by decide), p_ixS hS (kd := 20) (a := 51) (n := 5660) rfl, s_X10_lesser, p_inL (n := 5660) (k := 0) (i := (0 : Int32)) (by decide), p_inL (n := 5660) (k := 17) (i := (17 : Int32)) (by decide), s_X10_ones, s_X10_minutePasses_J4_36 hS hF, s_X10_minutePasses_J4_35 hS hF, s_X10_minutePasses_B4 hS hF]
def h_X10_minutePasses (I : v_I) (p1 : Int32) : Option (Int32 × v_I) :=
(v_loop (h_X10_minutePasses_B4 p1) FU ((0 : Int32), (0 : Int32), I)).bind fun q_19 =>
(v_loop (h_X10_minutePasses_B57 q_19.1) FU ((0 : Int32), q_19.2.2)).bind fun q_36 =>
p_let (v_up q_36.2 51 0 q_19.1) fun I_38 =>
p_let (v_up I_38 51 17 ((I_38 51 17) + (1 : Int32))) fun I_40 =>
(h_X10_ones q_19.1).bind fun r_42 =>
some (r_42, I_40)
set_option maxHeartbeats 4000000 in
set_option maxRecDepth 100000 in
theorem s_X10_minutePasses {S : v_S} {F : v_F} (hS : p_SS S) (hF : p_FF F) (I : v_I) (p1 : Int32) : f_X10_minutePasses S I F 49 p1 = h_X10_minutePasses I p1 := by
  unfold f_X10_minutePasses h_X10_minutePasses
  simp only [p_bs, s_X10_many hS hF, p_obS hS (a := 49) (kd := 10) rfl, s_X10_isIn, p_FS hF (a := 49) (i := 29) (b := 62) (by decide), s_X10_wantsNow hS hF, p_ixS hS (kd := 20) (a := 62) (n := 8) rfl, s_X10_opensNext hS hF, p_FS hF (a := 49) (i := 2) (b := 51) (by decide), p_ixS hS (kd := 20) (a := 51) (n := 5660) rfl, s_X10_lesser, p_inL (n := 5660) (k := 0) (i := (0 : Int32)) (by decide), p_inL (n := 5660) (k := 17) (i := (17 : Int32)) (by decide), s_X10_ones, s_X10_minutePasses_J4_36 hS hF, s_X10_minutePasses_J4_35 hS hF, s_X10_minutePasses_B4 hS hF, s_X10_minutePasses_B57 hS hF]

def h_X10_passesKept (I : v_I) : Option (Int32 × v_I) :=
if (I 51 17) = (999 : Int32) then (
some ((-3 : Int32), I))
else (
(h_X10_keeps I (3 : Int32)).bind fun r_2 =>
(h_X10_minutePasses r_2 (0 : Int32)).bind fun r_4 =>
some (r_4.1, r_4.2))
set_option maxHeartbeats 4000000 in
set_option maxRecDepth 100000 in
theorem s_X10_passesKept {S : v_S} {F : v_F} (hS : p_SS S) (hF : p_FF F) (I : v_I) : f_X10_passesKept S I F 49 = h_X10_passesKept I := by
  unfold f_X10_passesKept h_X10_passesKept
  simp only [p_bs, p_obS hS (a := 49) (kd := 10) rfl, p_FS hF (a := 49) (i := 2) (b := 51) (by decide), p_ixS hS (kd := 20) (a := 51) (n := 5660) rfl, p_inL (n := 5660) (k := 17) (i := (17 : Int32)) (by decide), s_X10_keeps hS hF, s_X10_minutePasses hS hF]

def h_X10_pass (I : v_I) : Option (Int32 × v_I) :=
(h_X10_passesKept I).bind fun r_1 =>
(h_X10_goodOr r_1.2 r_1.1).bind fun r_3 =>
some (r_3.1, r_3.2)
set_option maxHeartbeats 4000000 in
set_option maxRecDepth 100000 in
theorem s_X10_pass {S : v_S} {F : v_F} (hS : p_SS S) (hF : p_FF F) (I : v_I) : f_X10_pass S I F 49 = h_X10_pass I := by
  unfold f_X10_pass h_X10_pass
  simp only [p_bs, s_X10_passesKept hS hF, p_obS hS (a := 49) (kd := 10) rfl, s_X10_goodOr hS hF]

def h_X10_isSettled (I : v_I) (p1 : Int32) : Option (Int32) :=
if (I 51 52) = (-1 : Int32) then (
if p1 = (0 : Int32) then (
some ((0 : Int32)))
else (
(p_in 61 p1).bind fun j_3 =>
(p_in 61 (p1 - (1 : Int32))).bind fun j_4 =>
if (I 65 j_3) = (I 65 j_4) then (
some ((1 : Int32)))
else (
some ((0 : Int32)))))
else (
some ((0 : Int32)))
set_option maxHeartbeats 4000000 in
set_option maxRecDepth 100000 in
theorem s_X10_isSettled {S : v_S} {F : v_F} (hS : p_SS S) (hF : p_FF F) (I : v_I) (p1 : Int32) : f_X10_isSettled S I F 49 p1 = h_X10_isSettled I p1 := by
  unfold f_X10_isSettled h_X10_isSettled
  simp only [p_bs, p_obS hS (a := 49) (kd := 10) rfl, p_FS hF (a := 49) (i := 2) (b := 51) (by decide), p_ixS hS (kd := 20) (a := 51) (n := 5660) rfl, p_inL (n := 5660) (k := 52) (i := (52 : Int32)) (by decide), p_FS hF (a := 49) (i := 33) (b := 65) (by decide), p_ixS hS (kd := 20) (a := 65) (n := 61) rfl]

def h_X10_laysAside_B2 (w1 : Int32) (s2 : Int32 × v_I) : Option ((Int32 × v_I) ⊕ (Int32 × v_I)) :=
if (18 : Int32) ≤ s2.1 then (
some (.inr (s2.1, s2.2)))
else (
(p_in 5660 s2.1).bind fun j_2 =>
(p_in 36 (((18 : Int32) * w1) + s2.1)).bind fun j_3 =>
p_let (v_up s2.2 54 j_3 (s2.2 51 j_2)) fun I_4 =>
p_let (s2.1 + (1 : Int32)) fun x_6 =>
some (.inl (x_6, I_4)))
set_option maxHeartbeats 4000000 in
set_option maxRecDepth 100000 in
theorem s_X10_laysAside_B2 {S : v_S} {F : v_F} (hS : p_SS S) (hF : p_FF F) (w1 : Int32) : f_X10_laysAside_B2 S F 49 w1 = h_X10_laysAside_B2 w1 := by
  funext s2
  unfold f_X10_laysAside_B2 h_X10_laysAside_B2
  simp only [p_bs, p_obS hS (a := 49) (kd := 10) rfl, p_FS hF (a := 49) (i := 5) (b := 54) (by decide), p_FS hF (a := 49) (i := 2) (b := 51) (by decide), p_ixS hS (kd := 20) (a := 51) (n := 5660) rfl, p_ixS hS (kd := 20) (a := 54) (n := 36) rfl]
def h_X10_laysAside (I : v_I) (p1 : Int32) : Option (v_I) :=
(v_loop (h_X10_laysAside_B2 p1) FU ((0 : Int32), I)).bind fun q_8 =>
some (q_8.2)
set_option maxHeartbeats 4000000 in
set_option maxRecDepth 100000 in
theorem s_X10_laysAside {S : v_S} {F : v_F} (hS : p_SS S) (hF : p_FF F) (I : v_I) (p1 : Int32) : f_X10_laysAside S I F 49 p1 = h_X10_laysAside I p1 := by
  unfold f_X10_laysAside h_X10_laysAside
  simp only [p_bs, p_obS hS (a := 49) (kd := 10) rfl, p_FS hF (a := 49) (i := 5) (b := 54) (by decide), p_FS hF (a := 49) (i := 2) (b := 51) (by decide), p_ixS hS (kd := 20) (a := 51) (n := 5660) rfl, p_ixS hS (kd := 20) (a := 54) (n := 36) rfl, s_X10_laysAside_B2 hS hF]

def h_X10_takesBack_B2 (w1 : Int32) (s2 : Int32 × v_I) : Option ((Int32 × v_I) ⊕ (Int32 × v_I)) :=
if (18 : Int32) ≤ s2.1 then (
some (.inr (s2.1, s2.2)))
else (
(p_in 36 (((18 : Int32) * w1) + s2.1)).bind fun j_2 =>
(p_in 5660 s2.1).bind fun j_3 =>
p_let (v_up s2.2 51 j_3 (s2.2 54 j_2)) fun I_4 =>
p_let (s2.1 + (1 : Int32)) fun x_6 =>
some (.inl (x_6, I_4)))
set_option maxHeartbeats 4000000 in
set_option maxRecDepth 100000 in
theorem s_X10_takesBack_B2 {S : v_S} {F : v_F} (hS : p_SS S) (hF : p_FF F) (w1 : Int32) : f_X10_takesBack_B2 S F 49 w1 = h_X10_takesBack_B2 w1 := by
  funext s2
  unfold f_X10_takesBack_B2 h_X10_takesBack_B2
  simp only [p_bs, p_obS hS (a := 49) (kd := 10) rfl, p_FS hF (a := 49) (i := 2) (b := 51) (by decide), p_FS hF (a := 49) (i := 5) (b := 54) (by decide), p_ixS hS (kd := 20) (a := 54) (n := 36) rfl, p_ixS hS (kd := 20) (a := 51) (n := 5660) rfl]
def h_X10_takesBack (I : v_I) (p1 : Int32) : Option (v_I) :=
(v_loop (h_X10_takesBack_B2 p1) FU ((0 : Int32), I)).bind fun q_8 =>
some (q_8.2)
set_option maxHeartbeats 4000000 in
set_option maxRecDepth 100000 in
theorem s_X10_takesBack {S : v_S} {F : v_F} (hS : p_SS S) (hF : p_FF F) (I : v_I) (p1 : Int32) : f_X10_takesBack S I F 49 p1 = h_X10_takesBack I p1 := by
  unfold f_X10_takesBack h_X10_takesBack
  simp only [p_bs, p_obS hS (a := 49) (kd := 10) rfl, p_FS hF (a := 49) (i := 2) (b := 51) (by decide), p_FS hF (a := 49) (i := 5) (b := 54) (by decide), p_ixS hS (kd := 20) (a := 54) (n := 36) rfl, p_ixS hS (kd := 20) (a := 51) (n := 5660) rfl, s_X10_takesBack_B2 hS hF]

def h_X10_laysMinutes_B42 (w3 : Int32) (w4 : Int32) (s42 : Int32 × v_I) : Option ((Int32 × v_I) ⊕ (Int32 × v_I)) :=
if (60 : Int32) ≤ s42.1 then (
some (.inr (s42.1, s42.2)))
else (
(p_in 61 s42.1).bind fun j_8 =>
if ((s42.2 65 j_8) &&& w4) = w4 then (
some (.inr (s42.1, s42.2)))
else (
(h_X10_isSettled s42.2 s42.1).bind fun r_10 =>
if r_10 = (0 : Int32) then (
(h_X10_minutePasses s42.2 w3).bind fun r_13 =>
p_let (s42.1 + (1 : Int32)) fun x_15 =>
(p_in 61 x_15).bind fun j_17 =>
p_let (v_up r_13.2 65 j_17 (r_13.2 51 0)) fun I_18 =>
some (.inl (x_15, I_18)))
else (
some (.inr (s42.1, s42.2)))))
set_option maxHeartbeats 4000000 in
set_option maxRecDepth 100000 in
theorem s_X10_laysMinutes_B42 {S : v_S} {F : v_F} (hS : p_SS S) (hF : p_FF F) (w3 : Int32) (w4 : Int32) : f_X10_laysMinutes_B42 S F 49 w3 w4 = h_X10_laysMinutes_B42 w3 w4 := by
  funext s42
  unfold f_X10_laysMinutes_B42 h_X10_laysMinutes_B42
  simp only [p_bs, s_X10_laysAside hS hF, p_obS hS (a := 49) (kd := 10) rfl, p_FS hF (a := 49) (i := 2) (b := 51) (by decide), p_ixS hS (kd := 20) (a := 51) (n := 5660) rfl, p_inL (n := 5660) (k := 0) (i := (0 : Int32)) (by decide), p_FS hF (a := 49) (i := 33) (b := 65) (by decide), p_ixS hS (kd := 20) (a := 65) (n := 61) rfl, p_inL (n := 61) (k := 0) (i := (0 : Int32)) (by decide), s_X10_isSettled hS hF, s_X10_minutePasses hS hF, s_X10_takesBack hS hF]
def h_X10_laysMinutes_B118 (w5 : Int32) (s118 : Int32 × v_I) : Option ((Int32 × v_I) ⊕ (Int32 × v_I)) :=
if (60 : Int32) < s118.1 then (
some (.inr (s118.1, s118.2)))
else (
(p_in 61 w5).bind fun j_30 =>
(p_in 61 s118.1).bind fun j_31 =>
p_let (v_up s118.2 65 j_31 (s118.2 65 j_30)) fun I_32 =>
p_let (s118.1 + (1 : Int32)) fun x_34 =>
some (.inl (x_34, I_32)))
set_option maxHeartbeats 4000000 in
set_option maxRecDepth 100000 in
theorem s_X10_laysMinutes_B118 {S : v_S} {F : v_F} (hS : p_SS S) (hF : p_FF F) (w5 : Int32) : f_X10_laysMinutes_B118 S F 49 w5 = h_X10_laysMinutes_B118 w5 := by
  funext s118
  unfold f_X10_laysMinutes_B118 h_X10_laysMinutes_B118
  simp only [p_bs, s_X10_laysAside hS hF, p_obS hS (a := 49) (kd := 10) rfl, p_FS hF (a := 49) (i := 2) (b := 51) (by decide), p_ixS hS (kd := 20) (a := 51) (n := 5660) rfl, p_inL (n := 5660) (k := 0) (i := (0 : Int32)) (by decide), p_FS hF (a := 49) (i := 33) (b := 65) (by decide), p_ixS hS (kd := 20) (a := 65) (n := 61) rfl, p_inL (n := 61) (k := 0) (i := (0 : Int32)) (by decide), s_X10_isSettled hS hF, s_X10_minutePasses hS hF, s_X10_takesBack hS hF, s_X10_laysMinutes_B42 hS hF]
def h_X10_laysMinutes_J98 (I : v_I) (y5 : Int32) : Option (Int32 × v_I) :=
(h_X10_takesBack I (0 : Int32)).bind fun r_22 =>
(h_X10_isSettled r_22 y5).bind fun r_24 =>
if r_24 = (0 : Int32) then (
some (y5, r_22))
else (
p_let (y5 + (1 : Int32)) fun x_27 =>
(v_loop (h_X10_laysMinutes_B118 y5) FU (x_27, r_22)).bind fun q_36 =>
some (y5, q_36.2))
set_option maxHeartbeats 4000000 in
set_option maxRecDepth 100000 in
theorem s_X10_laysMinutes_J98 {S : v_S} {F : v_F} (hS : p_SS S) (hF : p_FF F) (I : v_I) (y5 : Int32) : f_X10_laysMinutes_J98 S F I 49 y5 = h_X10_laysMinutes_J98 I y5 := by
  unfold f_X10_laysMinutes_J98 h_X10_laysMinutes_J98
  simp only [p_bs, s_X10_laysAside hS hF, p_obS hS (a := 49) (kd := 10) rfl, p_FS hF (a := 49) (i := 2) (b := 51) (by decide), p_ixS hS (kd := 20) (a := 51) (n := 5660) rfl, p_inL (n := 5660) (k := 0) (i := (0 : Int32)) (by decide), p_FS hF (a := 49) (i := 33) (b := 65) (by decide), p_ixS hS (kd := 20) (a := 65) (n := 61) rfl, p_inL (n := 61) (k := 0) (i := (0 : Int32)) (by decide), s_X10_isSettled hS hF, s_X10_minutePasses hS hF, s_X10_takesBack hS hF, s_X10_laysMinutes_B42 hS hF, s_X10_laysMinutes_B118 hS hF]
def h_X10_laysMinutes (I : v_I) (p1 : Int32) (p2 : Int32) (p3 : Int32) (p4 : Int32) : Option (Int32 × v_I) :=
(h_X10_laysAside I (0 : Int32)).bind fun r_1 =>
p_let (v_up r_1 51 0 ((((r_1 51 0) ||| p1) &&& (p2 ^^^ (-1 : Int32))) &&& (p3 ^^^ (-1 : Int32)))) fun I_3 =>
p_let (v_up I_3 65 0 (I_3 51 0)) fun I_5 =>
(v_loop (h_X10_laysMinutes_B42 p3 p4) FU ((0 : Int32), I_5)).bind fun q_20 =>
h_X10_laysMinutes_J98 q_20.2 q_20.1
set_option maxHeartbeats 4000000 in
set_option maxRecDepth 100000 in
theorem s_X10_laysMinutes {S : v_S} {F : v_F} (hS : p_SS S) (hF : p_FF F) (I : v_I) (p1 : Int32) (p2 : Int32) (p3 : Int32) (p4 : Int32) : f_X10_laysMinutes S I F 49 p1 p2 p3 p4 = h_X10_laysMinutes I p1 p2 p3 p4 := by
  unfold f_X10_laysMinutes h_X10_laysMinutes
  simp only [p_bs, s_X10_laysAside hS hF, p_obS hS (a := 49) (kd := 10) rfl, p_FS hF (a := 49) (i := 2) (b := 51) (by decide), p_ixS hS (kd := 20) (a := 51) (n := 5660) rfl, p_inL (n := 5660) (k := 0) (i := (0 : Int32)) (by decide), p_FS hF (a := 49) (i := 33) (b := 65) (by decide), p_ixS hS (kd := 20) (a := 65) (n := 61) rfl, p_inL (n := 61) (k := 0) (i := (0 : Int32)) (by decide), s_X10_isSettled hS hF, s_X10_minutePasses hS hF, s_X10_takesBack hS hF, s_X10_laysMinutes_B42 hS hF, s_X10_laysMinutes_B118 hS hF, s_X10_laysMinutes_J98 hS hF]

def h_X10_laysAllMinutes (I : v_I) (p1 : Int32) (p2 : Int32) (p3 : Int32) : Option (v_I) :=
(h_X10_laysMinutes I p1 p2 p3 (256 : Int32)).bind fun r_1 =>
some (r_1.2)
set_option maxHeartbeats 4000000 in
set_option maxRecDepth 100000 in
theorem s_X10_laysAllMinutes {S : v_S} {F : v_F} (hS : p_SS S) (hF : p_FF F) (I : v_I) (p1 : Int32) (p2 : Int32) (p3 : Int32) : f_X10_laysAllMinutes S I F 49 p1 p2 p3 = h_X10_laysAllMinutes I p1 p2 p3 := by
  unfold f_X10_laysAllMinutes h_X10_laysAllMinutes
  simp only [p_bs, s_X10_laysMinutes hS hF, p_obS hS (a := 49) (kd := 10) rfl]

def h_X10_later (I : v_I) (p1 : Int32) : Option (Int32 × v_I) :=
(h_X10_lies p1 (0 : Int32) (60 : Int32)).bind fun r_1 =>
if r_1 = (0 : Int32) then (
some ((-1 : Int32), I))
else (
(h_X10_laysAllMinutes I (0 : Int32) (0 : Int32) (0 : Int32)).bind fun r_4 =>
(p_in 61 p1).bind fun j_6 =>
some (r_4 65 j_6, r_4))
set_option maxHeartbeats 4000000 in
set_option maxRecDepth 100000 in
theorem s_X10_later {S : v_S} {F : v_F} (hS : p_SS S) (hF : p_FF F) (I : v_I) (p1 : Int32) : f_X10_later S I F 49 p1 = h_X10_later I p1 := by
  unfold f_X10_later h_X10_later
  simp only [p_bs, s_X10_lies, s_X10_laysAllMinutes hS hF, p_obS hS (a := 49) (kd := 10) rfl, p_FS hF (a := 49) (i := 33) (b := 65) (by decide), p_ixS hS (kd := 20) (a := 65) (n := 61) rfl]

def h_X10_opensBy (I : v_I) (p1 : Int32) (p2 : Int32) : Option (Int32 × v_I) :=
(h_X10_laysMinutes I p1 (0 : Int32) (0 : Int32) p2).bind fun r_1 =>
(p_in 61 r_1.1).bind fun j_3 =>
if ((r_1.2 65 j_3) &&& p2) = p2 then (
some (r_1.1, r_1.2))
else (
some ((-1 : Int32), r_1.2))
set_option maxHeartbeats 4000000 in
set_option maxRecDepth 100000 in
theorem s_X10_opensBy {S : v_S} {F : v_F} (hS : p_SS S) (hF : p_FF F) (I : v_I) (p1 : Int32) (p2 : Int32) : f_X10_opensBy S I F 49 p1 p2 = h_X10_opensBy I p1 p2 := by
  unfold f_X10_opensBy h_X10_opensBy
  simp only [p_bs, s_X10_laysMinutes hS hF, p_obS hS (a := 49) (kd := 10) rfl, p_FS hF (a := 49) (i := 33) (b := 65) (by decide), p_ixS hS (kd := 20) (a := 65) (n := 61) rfl]

def h_X10_opens (I : v_I) (p1 : Int32) : Option (Int32 × v_I) :=
(h_X10_isOne I p1).bind fun r_1 =>
if r_1 = (0 : Int32) then (
some ((-1 : Int32), I))
else (
(h_X10_opensBy I (0 : Int32) ((1 : Int32) <<< (p1 &&& 31))).bind fun r_4 =>
some (r_4.1, r_4.2))
set_option maxHeartbeats 4000000 in
set_option maxRecDepth 100000 in
theorem s_X10_opens {S : v_S} {F : v_F} (hS : p_SS S) (hF : p_FF F) (I : v_I) (p1 : Int32) : f_X10_opens S I F 49 p1 = h_X10_opens I p1 := by
  unfold f_X10_opens h_X10_opens
  simp only [p_bs, s_X10_isOne hS hF, p_obS hS (a := 49) (kd := 10) rfl, s_X10_opensBy hS hF]

def h_X10_together (I : v_I) : Option (Int32 × v_I) :=
(h_X10_everybody I).bind fun r_1 =>
(h_X10_opensBy I (0 : Int32) r_1).bind fun r_3 =>
some (r_3.1, r_3.2)
set_option maxHeartbeats 4000000 in
set_option maxRecDepth 100000 in
theorem s_X10_together {S : v_S} {F : v_F} (hS : p_SS S) (hF : p_FF F) (I : v_I) : f_X10_together S I F 49 = h_X10_together I := by
  unfold f_X10_together h_X10_together
  simp only [p_bs, s_X10_everybody hS hF, p_obS hS (a := 49) (kd := 10) rfl, s_X10_opensBy hS hF]

def h_X10_again_B9 (I : v_I) (s9 : Int32) : Option ((Int32) ⊕ (Nat × (Int32))) :=
if (60 : Int32) < s9 then (
some (.inr (1, s9)))
else (
(p_in 61 s9).bind fun j_4 =>
if (I 65 j_4) = (I 65 0) then (
some (.inr (0, s9)))
else (
p_let (s9 + (1 : Int32)) fun x_6 =>
some (.inl x_6)))
set_option maxHeartbeats 4000000 in
set_option maxRecDepth 100000 in
theorem s_X10_again_B9 {S : v_S} {F : v_F} (hS : p_SS S) (hF : p_FF F) (I : v_I) : f_X10_again_B9 S F I 49 = h_X10_again_B9 I := by
  funext s9
  unfold f_X10_again_B9 h_X10_again_B9
  simp only [p_bs, s_X10_laysAllMinutes hS hF, p_obS hS (a := 49) (kd := 10) rfl, p_FS hF (a := 49) (i := 33) (b := 65) (by decide), p_ixS hS (kd := 20) (a := 65) (n := 61) rfl, p_inL (n := 61) (k := 0) (i := (0 : Int32)) (by decide)]
def h_X10_again (I : v_I) : Option (Int32 × v_I) :=
(h_X10_laysAllMinutes I (0 : Int32) (0 : Int32) (0 : Int32)).bind fun r_1 =>
(v_loop (h_X10_again_B9 r_1) FU (1 : Int32)).bind fun q_8 =>
if q_8.1 = 0 then (
some (q_8.2, r_1))
else (
some ((-1 : Int32), r_1))
set_option maxHeartbeats 4000000 in
set_option maxRecDepth 100000 in
theorem s_X10_again {S : v_S} {F : v_F} (hS : p_SS S) (hF : p_FF F) (I : v_I) : f_X10_again S I F 49 = h_X10_again I := by
  unfold f_X10_again h_X10_again
  simp only [p_bs, s_X10_laysAllMinutes hS hF, p_obS hS (a := 49) (kd := 10) rfl, p_FS hF (a := 49) (i := 33) (b := 65) (by decide), p_ixS hS (kd := 20) (a := 65) (n := 61) rfl, p_inL (n := 61) (k := 0) (i := (0 : Int32)) (by decide), s_X10_again_B9 hS hF]

def h_X10_fewestFor_J13_54 (w1 : Int32) (w2 : Int32) (w3 : Int32) (I : v_I) (y4 : Int32) : Option ((Int32 × v_I) ⊕ (Nat × (Int32 × v_I))) :=
p_let (y4 + (1 : Int32)) fun x_6 =>
some (.inl (x_6, I))
set_option maxHeartbeats 4000000 in
set_option maxRecDepth 100000 in
theorem s_X10_fewestFor_J13_54 {S : v_S} {F : v_F} (hS : p_SS S) (hF : p_FF F) (w1 : Int32) (w2 : Int32) (w3 : Int32) (I : v_I) (y4 : Int32) : f_X10_fewestFor_J13_54 S F 49 w1 w2 w3 I y4 = h_X10_fewestFor_J13_54 w1 w2 w3 I y4 := by
  unfold f_X10_fewestFor_J13_54 h_X10_fewestFor_J13_54
  simp only [p_bs, s_X10_ones, s_X10_opensBy hS hF, p_obS hS (a := 49) (kd := 10) rfl]
def h_X10_fewestFor_B13 (w1 : Int32) (w2 : Int32) (w3 : Int32) (s13 : Int32 × v_I) : Option ((Int32 × v_I) ⊕ (Nat × (Int32 × v_I))) :=
if w1 < s13.1 then (
some (.inr (1, (s13.1, s13.2))))
else (
if (s13.1 &&& (w1 ^^^ (-1 : Int32))) = (0 : Int32) then (
(h_X10_ones s13.1).bind fun r_8 =>
if r_8 = w3 then (
(h_X10_opensBy s13.2 s13.1 w2).bind fun r_11 =>
if r_11.1 = (-1 : Int32) then (
h_X10_fewestFor_J13_54 w1 w2 w3 r_11.2 s13.1)
else (
some (.inr (0, (s13.1, r_11.2)))))
else (
h_X10_fewestFor_J13_54 w1 w2 w3 s13.2 s13.1))
else (
h_X10_fewestFor_J13_54 w1 w2 w3 s13.2 s13.1))
set_option maxHeartbeats 4000000 in
set_option maxRecDepth 100000 in
theorem s_X10_fewestFor_B13 {S : v_S} {F : v_F} (hS : p_SS S) (hF : p_FF F) (w1 : Int32) (w2 : Int32) (w3 : Int32) : f_X10_fewestFor_B13 S F 49 w1 w2 w3 = h_X10_fewestFor_B13 w1 w2 w3 := by
  funext s13
  unfold f_X10_fewestFor_B13 h_X10_fewestFor_B13
  simp only [p_bs, s_X10_ones, s_X10_opensBy hS hF, p_obS hS (a := 49) (kd := 10) rfl, s_X10_fewestFor_J13_54 hS hF]
def h_X10_fewestFor_B2 (w1 : Int32) (w2 : Int32) (s2 : Int32 × v_I) : Option ((Int32 × v_I) ⊕ (Nat × (Int32 × v_I × Int32))) :=
(h_X10_ones w1).bind fun r_1 =>
if r_1 < s2.1 then (
some (.inr (1, (s2.1, s2.2, (0 : Int32)))))
else (
(v_loop (h_X10_fewestFor_B13 w1 w2 s2.1) FU ((0 : Int32), s2.2)).bind fun q_14 =>
if q_14.1 = 0 then (
some (.inr (0, ((0 : Int32), q_14.2.2, q_14.2.1))))
else (
p_let (s2.1 + (1 : Int32)) fun x_16 =>
some (.inl (x_16, q_14.2.2))))
set_option maxHeartbeats 4000000 in
set_option maxRecDepth 100000 in
theorem s_X10_fewestFor_B2 {S : v_S} {F : v_F} (hS : p_SS S) (hF : p_FF F) (w1 : Int32) (w2 : Int32) : f_X10_fewestFor_B2 S F 49 w1 w2 = h_X10_fewestFor_B2 w1 w2 := by
  funext s2
  unfold f_X10_fewestFor_B2 h_X10_fewestFor_B2
  simp only [p_bs, s_X10_ones, s_X10_opensBy hS hF, p_obS hS (a := 49) (kd := 10) rfl, s_X10_fewestFor_J13_54 hS hF, s_X10_fewestFor_B13 hS hF]
def h_X10_fewestFor (I : v_I) (p1 : Int32) (p2 : Int32) : Option (Int32 × v_I) :=
(v_loop (h_X10_fewestFor_B2 p1 p2) FU ((0 : Int32), I)).bind fun q_19 =>
if q_19.1 = 0 then (
some (q_19.2.2.2, q_19.2.2.1))
else (
some ((-1 : Int32), q_19.2.2.1))
set_option maxHeartbeats 4000000 in
set_option maxRecDepth 100000 in
theorem s_X10_fewestFor {S : v_S} {F : v_F} (hS : p_SS S) (hF : p_FF F) (I : v_I) (p1 : Int32) (p2 : Int32) : f_X10_fewestFor S I F 49 p1 p2 = h_X10_fewestFor I p1 p2 := by
  unfold f_X10_fewestFor h_X10_fewestFor
  simp only [p_bs, s_X10_ones, s_X10_opensBy hS hF, p_obS hS (a := 49) (kd := 10) rfl, s_X10_fewestFor_J13_54 hS hF, s_X10_fewestFor_B13 hS hF, s_X10_fewestFor_B2 hS hF]

def h_X10_shutNow (I : v_I) : Option (Int32) :=
(h_X10_everybody I).bind fun r_1 =>
some (r_1 &&& ((I 51 0) ^^^ (-1 : Int32)))
set_option maxHeartbeats 4000000 in
set_option maxRecDepth 100000 in
theorem s_X10_shutNow {S : v_S} {F : v_F} (hS : p_SS S) (hF : p_FF F) (I : v_I) : f_X10_shutNow S I F 49 = h_X10_shutNow I := by
  unfold f_X10_shutNow h_X10_shutNow
  simp only [p_bs, s_X10_everybody hS hF, p_obS hS (a := 49) (kd := 10) rfl, p_FS hF (a := 49) (i := 2) (b := 51) (by decide), p_ixS hS (kd := 20) (a := 51) (n := 5660) rfl, p_inL (n := 5660) (k := 0) (i := (0 : Int32)) (by decide)]

def h_X10_toldOf (p0 : Int32) (p1 : Int32) : Option (Int32) :=
if p0 = (-1 : Int32) then (
some (p0))
else (
if p1 = (1 : Int32) then (
some (p0))
else (
(h_X10_ones p0).bind fun r_3 =>
some (r_3)))
set_option maxHeartbeats 4000000 in
set_option maxRecDepth 100000 in
theorem s_X10_toldOf (p0 : Int32) (p1 : Int32) : f_X10_toldOf p0 p1 = h_X10_toldOf p0 p1 := by
  unfold f_X10_toldOf h_X10_toldOf
  simp only [p_bs, s_X10_ones]

def h_X10_seeds (I : v_I) (p1 : Int32) : Option (Int32 × v_I) :=
(h_X10_isBit p1).bind fun r_1 =>
if r_1 = (0 : Int32) then (
some ((-1 : Int32), I))
else (
(h_X10_shutNow I).bind fun r_4 =>
(h_X10_everybody I).bind fun r_6 =>
(h_X10_fewestFor I r_4 r_6).bind fun r_8 =>
(h_X10_toldOf r_8.1 p1).bind fun r_10 =>
some (r_10, r_8.2))
set_option maxHeartbeats 4000000 in
set_option maxRecDepth 100000 in
theorem s_X10_seeds {S : v_S} {F : v_F} (hS : p_SS S) (hF : p_FF F) (I : v_I) (p1 : Int32) : f_X10_seeds S I F 49 p1 = h_X10_seeds I p1 := by
  unfold f_X10_seeds h_X10_seeds
  simp only [p_bs, s_X10_isBit, s_X10_shutNow hS hF, p_obS hS (a := 49) (kd := 10) rfl, s_X10_everybody hS hF, s_X10_fewestFor hS hF, s_X10_toldOf]

def h_X10_seedsFor (I : v_I) (p1 : Int32) (p2 : Int32) : Option (Int32 × v_I) :=
(h_X10_isOne I p1).bind fun r_1 =>
if r_1 = (0 : Int32) then (
some ((-1 : Int32), I))
else (
(h_X10_isBit p2).bind fun r_4 =>
if r_4 = (0 : Int32) then (
some ((-1 : Int32), I))
else (
(h_X10_shutNow I).bind fun r_7 =>
(h_X10_fewestFor I (r_7 &&& (((1 : Int32) <<< (p1 &&& 31)) ^^^ (-1 : Int32))) ((1 : Int32) <<< (p1 &&& 31))).bind fun r_9 =>
(h_X10_toldOf r_9.1 p2).bind fun r_11 =>
some (r_11, r_9.2)))
set_option maxHeartbeats 4000000 in
set_option maxRecDepth 100000 in
theorem s_X10_seedsFor {S : v_S} {F : v_F} (hS : p_SS S) (hF : p_FF F) (I : v_I) (p1 : Int32) (p2 : Int32) : f_X10_seedsFor S I F 49 p1 p2 = h_X10_seedsFor I p1 p2 := by
  unfold f_X10_seedsFor h_X10_seedsFor
  simp only [p_bs, s_X10_isOne hS hF, p_obS hS (a := 49) (kd := 10) rfl, s_X10_isBit, s_X10_shutNow hS hF, s_X10_fewestFor hS hF, s_X10_toldOf]

def h_X10_openLast (I : v_I) (p1 : Int32) (p2 : Int32) : Option (Int32 × v_I) :=
(h_X10_laysAllMinutes I p1 p2 (0 : Int32)).bind fun r_1 =>
some (r_1 65 60, r_1)
set_option maxHeartbeats 4000000 in
set_option maxRecDepth 100000 in
theorem s_X10_openLast {S : v_S} {F : v_F} (hS : p_SS S) (hF : p_FF F) (I : v_I) (p1 : Int32) (p2 : Int32) : f_X10_openLast S I F 49 p1 p2 = h_X10_openLast I p1 p2 := by
  unfold f_X10_openLast h_X10_openLast
  simp only [p_bs, s_X10_laysAllMinutes hS hF, p_obS hS (a := 49) (kd := 10) rfl, p_FS hF (a := 49) (i := 33) (b := 65) (by decide), p_ixS hS (kd := 20) (a := 65) (n := 61) rfl, p_inL (n := 61) (k := 60) (i := (60 : Int32)) (by decide)]

def h_X10_spread (I : v_I) (p1 : Int32) : Option (Int32 × v_I) :=
(h_X10_isOne I p1).bind fun r_1 =>
if r_1 = (0 : Int32) then (
some ((-1 : Int32), I))
else (
(h_X10_openLast I ((1 : Int32) <<< (p1 &&& 31)) (0 : Int32)).bind fun r_4 =>
(h_X10_openLast r_4.2 (0 : Int32) ((1 : Int32) <<< (p1 &&& 31))).bind fun r_6 =>
some (r_4.1 &&& (r_6.1 ^^^ (-1 : Int32)), r_6.2))
set_option maxHeartbeats 4000000 in
set_option maxRecDepth 100000 in
theorem s_X10_spread {S : v_S} {F : v_F} (hS : p_SS S) (hF : p_FF F) (I : v_I) (p1 : Int32) : f_X10_spread S I F 49 p1 = h_X10_spread I p1 := by
  unfold f_X10_spread h_X10_spread
  simp only [p_bs, s_X10_isOne hS hF, p_obS hS (a := 49) (kd := 10) rfl, s_X10_openLast hS hF]

def h_X10_staysShut (I : v_I) (p1 : Int32) (p2 : Int32) : Option (Int32 × v_I) :=
(h_X10_laysMinutes I (0 : Int32) (0 : Int32) p2 ((1 : Int32) <<< (p1 &&& 31))).bind fun r_1 =>
(p_in 61 r_1.1).bind fun j_3 =>
(h_X10_isIn (r_1.2 65 j_3) p1).bind fun r_4 =>
if r_4 = (0 : Int32) then (
some ((1 : Int32), r_1.2))
else (
some ((0 : Int32), r_1.2))
set_option maxHeartbeats 4000000 in
set_option maxRecDepth 100000 in
theorem s_X10_staysShut {S : v_S} {F : v_F} (hS : p_SS S) (hF : p_FF F) (I : v_I) (p1 : Int32) (p2 : Int32) : f_X10_staysShut S I F 49 p1 p2 = h_X10_staysShut I p1 p2 := by
  unfold f_X10_staysShut h_X10_staysShut
  simp only [p_bs, s_X10_laysMinutes hS hF, p_obS hS (a := 49) (kd := 10) rfl, p_FS hF (a := 49) (i := 33) (b := 65) (by decide), p_ixS hS (kd := 20) (a := 65) (n := 61) rfl, s_X10_isIn]

def h_X10_fewestHeld_J24_64 (w1 : Int32) (w2 : Int32) (w3 : Int32) (I : v_I) (y4 : Int32) : Option ((Int32 × v_I) ⊕ (Nat × (Int32 × v_I))) :=
p_let (y4 + (1 : Int32)) fun x_10 =>
some (.inl (x_10, I))
set_option maxHeartbeats 4000000 in
set_option maxRecDepth 100000 in
theorem s_X10_fewestHeld_J24_64 {S : v_S} {F : v_F} (hS : p_SS S) (hF : p_FF F) (w1 : Int32) (w2 : Int32) (w3 : Int32) (I : v_I) (y4 : Int32) : f_X10_fewestHeld_J24_64 S F 49 w1 w2 w3 I y4 = h_X10_fewestHeld_J24_64 w1 w2 w3 I y4 := by
  unfold f_X10_fewestHeld_J24_64 h_X10_fewestHeld_J24_64
  simp only [p_bs, s_X10_everybody hS hF, p_obS hS (a := 49) (kd := 10) rfl, s_X10_ones, s_X10_staysShut hS hF]
def h_X10_fewestHeld_B24 (w1 : Int32) (w2 : Int32) (w3 : Int32) (s24 : Int32 × v_I) : Option ((Int32 × v_I) ⊕ (Nat × (Int32 × v_I))) :=
if w2 < s24.1 then (
some (.inr (1, (s24.1, s24.2))))
else (
if (s24.1 &&& (w2 ^^^ (-1 : Int32))) = (0 : Int32) then (
(h_X10_ones s24.1).bind fun r_12 =>
if r_12 = w3 then (
(h_X10_staysShut s24.2 w1 s24.1).bind fun r_15 =>
if r_15.1 = (0 : Int32) then (
h_X10_fewestHeld_J24_64 w1 w2 w3 r_15.2 s24.1)
else (
some (.inr (0, (s24.1, r_15.2)))))
else (
h_X10_fewestHeld_J24_64 w1 w2 w3 s24.2 s24.1))
else (
h_X10_fewestHeld_J24_64 w1 w2 w3 s24.2 s24.1))
set_option maxHeartbeats 4000000 in
set_option maxRecDepth 100000 in
theorem s_X10_fewestHeld_B24 {S : v_S} {F : v_F} (hS : p_SS S) (hF : p_FF F) (w1 : Int32) (w2 : Int32) (w3 : Int32) : f_X10_fewestHeld_B24 S F 49 w1 w2 w3 = h_X10_fewestHeld_B24 w1 w2 w3 := by
  funext s24
  unfold f_X10_fewestHeld_B24 h_X10_fewestHeld_B24
  simp only [p_bs, s_X10_everybody hS hF, p_obS hS (a := 49) (kd := 10) rfl, s_X10_ones, s_X10_staysShut hS hF, s_X10_fewestHeld_J24_64 hS hF]
def h_X10_fewestHeld_B13 (w1 : Int32) (w2 : Int32) (s13 : Int32 × v_I) : Option ((Int32 × v_I) ⊕ (Nat × (Int32 × v_I × Int32))) :=
(h_X10_ones w2).bind fun r_5 =>
if r_5 < s13.1 then (
some (.inr (1, (s13.1, s13.2, (0 : Int32)))))
else (
(v_loop (h_X10_fewestHeld_B24 w1 w2 s13.1) FU ((0 : Int32), s13.2)).bind fun q_18 =>
if q_18.1 = 0 then (
some (.inr (0, ((0 : Int32), q_18.2.2, q_18.2.1))))
else (
p_let (s13.1 + (1 : Int32)) fun x_20 =>
some (.inl (x_20, q_18.2.2))))
set_option maxHeartbeats 4000000 in
set_option maxRecDepth 100000 in
theorem s_X10_fewestHeld_B13 {S : v_S} {F : v_F} (hS : p_SS S) (hF : p_FF F) (w1 : Int32) (w2 : Int32) : f_X10_fewestHeld_B13 S F 49 w1 w2 = h_X10_fewestHeld_B13 w1 w2 := by
  funext s13
  unfold f_X10_fewestHeld_B13 h_X10_fewestHeld_B13
  simp only [p_bs, s_X10_everybody hS hF, p_obS hS (a := 49) (kd := 10) rfl, s_X10_ones, s_X10_staysShut hS hF, s_X10_fewestHeld_J24_64 hS hF, s_X10_fewestHeld_B24 hS hF]
def h_X10_fewestHeld (I : v_I) (p1 : Int32) : Option (Int32 × v_I) :=
(h_X10_everybody I).bind fun r_1 =>
p_let (r_1 &&& (((1 : Int32) <<< (p1 &&& 31)) ^^^ (-1 : Int32))) fun x_3 =>
(v_loop (h_X10_fewestHeld_B13 p1 x_3) FU ((0 : Int32), I)).bind fun q_23 =>
if q_23.1 = 0 then (
some (q_23.2.2.2, q_23.2.2.1))
else (
some ((-1 : Int32), q_23.2.2.1))
set_option maxHeartbeats 4000000 in
set_option maxRecDepth 100000 in
theorem s_X10_fewestHeld {S : v_S} {F : v_F} (hS : p_SS S) (hF : p_FF F) (I : v_I) (p1 : Int32) : f_X10_fewestHeld S I F 49 p1 = h_X10_fewestHeld I p1 := by
  unfold f_X10_fewestHeld h_X10_fewestHeld
  simp only [p_bs, s_X10_everybody hS hF, p_obS hS (a := 49) (kd := 10) rfl, s_X10_ones, s_X10_staysShut hS hF, s_X10_fewestHeld_J24_64 hS hF, s_X10_fewestHeld_B24 hS hF, s_X10_fewestHeld_B13 hS hF]

def h_X10_held (I : v_I) (p1 : Int32) (p2 : Int32) : Option (Int32 × v_I) :=
(h_X10_isOne I p1).bind fun r_1 =>
if r_1 = (0 : Int32) then (
some ((-1 : Int32), I))
else (
(h_X10_isOpen I p1).bind fun r_4 =>
if r_4 = (0 : Int32) then (
(h_X10_isBit p2).bind fun r_7 =>
if r_7 = (0 : Int32) then (
some ((-1 : Int32), I))
else (
(h_X10_fewestHeld I p1).bind fun r_10 =>
(h_X10_toldOf r_10.1 p2).bind fun r_12 =>
some (r_12, r_10.2)))
else (
some ((-1 : Int32), I)))
set_option maxHeartbeats 4000000 in
set_option maxRecDepth 100000 in
theorem s_X10_held {S : v_S} {F : v_F} (hS : p_SS S) (hF : p_FF F) (I : v_I) (p1 : Int32) (p2 : Int32) : f_X10_held S I F 49 p1 p2 = h_X10_held I p1 p2 := by
  unfold f_X10_held h_X10_held
  simp only [p_bs, s_X10_isOne hS hF, p_obS hS (a := 49) (kd := 10) rfl, s_X10_isOpen hS hF, s_X10_isBit, s_X10_fewestHeld hS hF, s_X10_toldOf]

def h_X10_openNext_J4_26 (I : v_I) (y2 : Int32) (z0 : Int32) (z1 : Int32) : Option ((Int32 × Int32 × v_I) ⊕ (Int32 × Int32 × v_I)) :=
p_let (z1 + z0) fun x_7 =>
p_let (y2 + (1 : Int32)) fun x_9 =>
some (.inl (x_7, x_9, I))
set_option maxHeartbeats 4000000 in
set_option maxRecDepth 100000 in
theorem s_X10_openNext_J4_26 {S : v_S} {F : v_F} (hS : p_SS S) (hF : p_FF F) (I : v_I) (y2 : Int32) (z0 : Int32) (z1 : Int32) : f_X10_openNext_J4_26 S F 49 I y2 z0 z1 = h_X10_openNext_J4_26 I y2 z0 z1 := by
  unfold f_X10_openNext_J4_26 h_X10_openNext_J4_26
  simp only [p_bs, s_X10_many hS hF, p_obS hS (a := 49) (kd := 10) rfl, s_X10_opensNext hS hF]
def h_X10_openNext_B4  (s4 : Int32 × Int32 × v_I) : Option ((Int32 × Int32 × v_I) ⊕ (Int32 × Int32 × v_I)) :=
(h_X10_many s4.2.2).bind fun r_1 =>
if r_1 ≤ s4.2.1 then (
some (.inr (s4.1, s4.2.1, s4.2.2)))
else (
(h_X10_opensNext s4.2.2 s4.2.1).bind fun r_4 =>
if r_4.1 = (0 : Int32) then (
h_X10_openNext_J4_26 r_4.2 s4.2.1 (0 : Int32) s4.1)
else (
h_X10_openNext_J4_26 r_4.2 s4.2.1 (1 : Int32) s4.1))
set_option maxHeartbeats 4000000 in
set_option maxRecDepth 100000 in
theorem s_X10_openNext_B4 {S : v_S} {F : v_F} (hS : p_SS S) (hF : p_FF F)  : f_X10_openNext_B4 S F 49 = h_X10_openNext_B4 := by
  funext s4
  unfold f_X10_openNext_B4 h_X10_openNext_B4
  simp only [p_bs, s_X10_many hS hF, p_obS hS (a := 49) (kd := 10) rfl, s_X10_opensNext hS hF, s_X10_openNext_J4_26 hS hF]
def h_X10_openNext (I : v_I) : Option (Int32 × v_I) :=
(v_loop (h_X10_openNext_B4) FU ((0 : Int32), (0 : Int32), I)).bind fun q_11 =>
some (q_11.1, q_11.2.2)
set_option maxHeartbeats 4000000 in
set_option maxRecDepth 100000 in
theorem s_X10_openNext {S : v_S} {F : v_F} (hS : p_SS S) (hF : p_FF F) (I : v_I) : f_X10_openNext S I F 49 = h_X10_openNext I := by
  unfold f_X10_openNext h_X10_openNext
  simp only [p_bs, s_X10_many hS hF, p_obS hS (a := 49) (kd := 10) rfl, s_X10_opensNext hS hF, s_X10_openNext_J4_26 hS hF, s_X10_openNext_B4 hS hF]

def h_X10_compare (I : v_I) (p1 : Int32) : Option (Int32 × v_I) :=
(h_X10_isLaw I p1).bind fun r_1 =>
if r_1 = (0 : Int32) then (
some ((-1 : Int32), I))
else (
p_let (I 51 52) fun x_4 =>
p_let (v_up I 51 52 p1) fun I_6 =>
(h_X10_openNext I_6).bind fun r_8 =>
p_let (v_up r_8.2 51 52 x_4) fun I_10 =>
some (r_8.1, I_10))
set_option maxHeartbeats 4000000 in
set_option maxRecDepth 100000 in
theorem s_X10_compare {S : v_S} {F : v_F} (hS : p_SS S) (hF : p_FF F) (I : v_I) (p1 : Int32) : f_X10_compare S I F 49 p1 = h_X10_compare I p1 := by
  unfold f_X10_compare h_X10_compare
  simp only [p_bs, s_X10_isLaw hS hF, p_obS hS (a := 49) (kd := 10) rfl, p_FS hF (a := 49) (i := 2) (b := 51) (by decide), p_ixS hS (kd := 20) (a := 51) (n := 5660) rfl, p_inL (n := 5660) (k := 52) (i := (52 : Int32)) (by decide), s_X10_openNext hS hF]

def h_X10_watches (I : v_I) (p1 : Int32) (p2 : Int32) : Option (Int32) :=
(p_in 5660 ((26 : Int32) + p1)).bind fun j_1 =>
(h_X10_isIn (I 51 j_1) p2).bind fun r_2 =>
(p_bl r_2).bind fun _ =>
some (r_2)
set_option maxHeartbeats 4000000 in
set_option maxRecDepth 100000 in
theorem s_X10_watches {S : v_S} {F : v_F} (hS : p_SS S) (hF : p_FF F) (I : v_I) (p1 : Int32) (p2 : Int32) : f_X10_watches S I F 49 p1 p2 = h_X10_watches I p1 p2 := by
  unfold f_X10_watches h_X10_watches
  simp only [p_bs, p_obS hS (a := 49) (kd := 10) rfl, p_FS hF (a := 49) (i := 2) (b := 51) (by decide), p_ixS hS (kd := 20) (a := 51) (n := 5660) rfl, s_X10_isIn]

def h_X10_laysLeft_J2_26 (w1 : Int32) (I : v_I) (y2 : Int32) (z0 : Int32) (z1 : Int32) : Option ((Int32 × v_I) ⊕ (Int32 × v_I)) :=
(p_in 8 z1).bind fun j_5 =>
p_let (v_up I 66 j_5 z0) fun I_6 =>
p_let (y2 + (1 : Int32)) fun x_8 =>
some (.inl (x_8, I_6))
set_option maxHeartbeats 4000000 in
set_option maxRecDepth 100000 in
theorem s_X10_laysLeft_J2_26 {S : v_S} {F : v_F} (hS : p_SS S) (hF : p_FF F) (w1 : Int32) (I : v_I) (y2 : Int32) (z0 : Int32) (z1 : Int32) : f_X10_laysLeft_J2_26 S F 49 w1 I y2 z0 z1 66 = h_X10_laysLeft_J2_26 w1 I y2 z0 z1 := by
  unfold f_X10_laysLeft_J2_26 h_X10_laysLeft_J2_26
  simp only [p_bs, s_X10_many hS hF, p_obS hS (a := 49) (kd := 10) rfl, p_FS hF (a := 49) (i := 34) (b := 66) (by decide), p_ixS hS (kd := 20) (a := 66) (n := 8) rfl, s_X10_watches hS hF, s_X10_lesser]
def h_X10_laysLeft_B2 (w1 : Int32) (s2 : Int32 × v_I) : Option ((Int32 × v_I) ⊕ (Int32 × v_I)) :=
(h_X10_many s2.2).bind fun r_1 =>
if r_1 ≤ s2.1 then (
some (.inr (s2.1, s2.2)))
else (
if s2.1 = w1 then (
h_X10_laysLeft_J2_26 w1 s2.2 s2.1 (0 : Int32) s2.1)
else (
h_X10_laysLeft_J2_26 w1 s2.2 s2.1 (1000000 : Int32) s2.1))
set_option maxHeartbeats 4000000 in
set_option maxRecDepth 100000 in
theorem s_X10_laysLeft_B2 {S : v_S} {F : v_F} (hS : p_SS S) (hF : p_FF F) (w1 : Int32) : f_X10_laysLeft_B2 S F 49 w1 = h_X10_laysLeft_B2 w1 := by
  funext s2
  unfold f_X10_laysLeft_B2 h_X10_laysLeft_B2
  simp only [p_bs, s_X10_many hS hF, p_obS hS (a := 49) (kd := 10) rfl, p_FS hF (a := 49) (i := 34) (b := 66) (by decide), p_ixS hS (kd := 20) (a := 66) (n := 8) rfl, s_X10_watches hS hF, s_X10_lesser, s_X10_laysLeft_J2_26 hS hF]
def h_X10_laysLeft_J56_99 (w2 : Int32) (w3 : Int32) (I : v_I) (y4 : Int32) : Option ((Int32 × v_I) ⊕ (Int32 × v_I)) :=
p_let (y4 + (1 : Int32)) fun x_24 =>
some (.inl (x_24, I))
set_option maxHeartbeats 4000000 in
set_option maxRecDepth 100000 in
theorem s_X10_laysLeft_J56_99 {S : v_S} {F : v_F} (hS : p_SS S) (hF : p_FF F) (w2 : Int32) (w3 : Int32) (I : v_I) (y4 : Int32) : f_X10_laysLeft_J56_99 S F 49 w2 w3 I y4 = h_X10_laysLeft_J56_99 w2 w3 I y4 := by
  unfold f_X10_laysLeft_J56_99 h_X10_laysLeft_J56_99
  simp only [p_bs, s_X10_many hS hF, p_obS hS (a := 49) (kd := 10) rfl, p_FS hF (a := 49) (i := 34) (b := 66) (by decide), p_ixS hS (kd := 20) (a := 66) (n := 8) rfl, s_X10_watches hS hF, s_X10_lesser, s_X10_laysLeft_J2_26 hS hF, s_X10_laysLeft_B2 hS hF]
def h_X10_laysLeft_B56 (w2 : Int32) (w3 : Int32) (s56 : Int32 × v_I) : Option ((Int32 × v_I) ⊕ (Int32 × v_I)) :=
(h_X10_many s56.2).bind fun r_18 =>
if r_18 ≤ s56.1 then (
some (.inr (s56.1, s56.2)))
else (
(h_X10_watches s56.2 s56.1 w3).bind fun r_21 =>
if r_21 = (0 : Int32) then (
h_X10_laysLeft_J56_99 w2 w3 s56.2 s56.1)
else (
(p_in 8 w3).bind fun j_26 =>
(p_in 8 s56.1).bind fun j_27 =>
(h_X10_lesser (s56.2 66 j_26) ((s56.2 66 j_27) + (1 : Int32))).bind fun r_28 =>
(p_in 8 w3).bind fun j_30 =>
p_let (v_up s56.2 66 j_30 r_28) fun I_31 =>
h_X10_laysLeft_J56_99 w2 w3 I_31 s56.1))
set_option maxHeartbeats 4000000 in
set_option maxRecDepth 100000 in
theorem s_X10_laysLeft_B56 {S : v_S} {F : v_F} (hS : p_SS S) (hF : p_FF F) (w2 : Int32) (w3 : Int32) : f_X10_laysLeft_B56 S F 49 w2 w3 = h_X10_laysLeft_B56 w2 w3 := by
  funext s56
  unfold f_X10_laysLeft_B56 h_X10_laysLeft_B56
  simp only [p_bs, s_X10_many hS hF, p_obS hS (a := 49) (kd := 10) rfl, p_FS hF (a := 49) (i := 34) (b := 66) (by decide), p_ixS hS (kd := 20) (a := 66) (n := 8) rfl, s_X10_watches hS hF, s_X10_lesser, s_X10_laysLeft_J2_26 hS hF, s_X10_laysLeft_B2 hS hF, s_X10_laysLeft_J56_99 hS hF]
def h_X10_laysLeft_B45 (w2 : Int32) (s45 : Int32 × v_I) : Option ((Int32 × v_I) ⊕ (Int32 × v_I)) :=
(h_X10_many s45.2).bind fun r_15 =>
if r_15 ≤ s45.1 then (
some (.inr (s45.1, s45.2)))
else (
(v_loop (h_X10_laysLeft_B56 w2 s45.1) FU ((0 : Int32), s45.2)).bind fun q_33 =>
p_let (s45.1 + (1 : Int32)) fun x_35 =>
some (.inl (x_35, q_33.2)))
set_option maxHeartbeats 4000000 in
set_option maxRecDepth 100000 in
theorem s_X10_laysLeft_B45 {S : v_S} {F : v_F} (hS : p_SS S) (hF : p_FF F) (w2 : Int32) : f_X10_laysLeft_B45 S F 49 w2 = h_X10_laysLeft_B45 w2 := by
  funext s45
  unfold f_X10_laysLeft_B45 h_X10_laysLeft_B45
  simp only [p_bs, s_X10_many hS hF, p_obS hS (a := 49) (kd := 10) rfl, p_FS hF (a := 49) (i := 34) (b := 66) (by decide), p_ixS hS (kd := 20) (a := 66) (n := 8) rfl, s_X10_watches hS hF, s_X10_lesser, s_X10_laysLeft_J2_26 hS hF, s_X10_laysLeft_B2 hS hF, s_X10_laysLeft_J56_99 hS hF, s_X10_laysLeft_B56 hS hF]
def h_X10_laysLeft_B35  (s35 : Int32 × v_I) : Option ((Int32 × v_I) ⊕ (Int32 × v_I)) :=
(h_X10_many s35.2).bind fun r_12 =>
if r_12 ≤ s35.1 then (
some (.inr (s35.1, s35.2)))
else (
(v_loop (h_X10_laysLeft_B45 s35.1) FU ((0 : Int32), s35.2)).bind fun q_37 =>
p_let (s35.1 + (1 : Int32)) fun x_39 =>
some (.inl (x_39, q_37.2)))
set_option maxHeartbeats 4000000 in
set_option maxRecDepth 100000 in
theorem s_X10_laysLeft_B35 {S : v_S} {F : v_F} (hS : p_SS S) (hF : p_FF F)  : f_X10_laysLeft_B35 S F 49 = h_X10_laysLeft_B35 := by
  funext s35
  unfold f_X10_laysLeft_B35 h_X10_laysLeft_B35
  simp only [p_bs, s_X10_many hS hF, p_obS hS (a := 49) (kd := 10) rfl, p_FS hF (a := 49) (i := 34) (b := 66) (by decide), p_ixS hS (kd := 20) (a := 66) (n := 8) rfl, s_X10_watches hS hF, s_X10_lesser, s_X10_laysLeft_J2_26 hS hF, s_X10_laysLeft_B2 hS hF, s_X10_laysLeft_J56_99 hS hF, s_X10_laysLeft_B56 hS hF, s_X10_laysLeft_B45 hS hF]
def h_X10_laysLeft (I : v_I) (p1 : Int32) : Option (v_I) :=
(v_loop (h_X10_laysLeft_B2 p1) FU ((0 : Int32), I)).bind fun q_10 =>
(v_loop (h_X10_laysLeft_B35) FU ((1 : Int32), q_10.2)).bind fun q_41 =>
some (q_41.2)
set_option maxHeartbeats 4000000 in
set_option maxRecDepth 100000 in
theorem s_X10_laysLeft {S : v_S} {F : v_F} (hS : p_SS S) (hF : p_FF F) (I : v_I) (p1 : Int32) : f_X10_laysLeft S I F 49 p1 = h_X10_laysLeft I p1 := by
  unfold f_X10_laysLeft h_X10_laysLeft
  simp only [p_bs, s_X10_many hS hF, p_obS hS (a := 49) (kd := 10) rfl, p_FS hF (a := 49) (i := 34) (b := 66) (by decide), p_ixS hS (kd := 20) (a := 66) (n := 8) rfl, s_X10_watches hS hF, s_X10_lesser, s_X10_laysLeft_J2_26 hS hF, s_X10_laysLeft_B2 hS hF, s_X10_laysLeft_J56_99 hS hF, s_X10_laysLeft_B56 hS hF, s_X10_laysLeft_B45 hS hF, s_X10_laysLeft_B35 hS hF]

end sp02
