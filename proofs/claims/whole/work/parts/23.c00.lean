noncomputable section sc00
def h_X3_isOpen (S : v_S) (I : v_I) (m0 : Nat) (mw0 : Nat) (ms0 : Nat) (p1 : Int32) : Option (Int32) :=
if (((I m0 0) >>> (p1 &&& 31)) &&& (1 : Int32)) = (1 : Int32) then (
some ((1 : Int32)))
else (
some ((0 : Int32)))
set_option maxHeartbeats 4000000 in
set_option maxRecDepth 100000 in
theorem s_X3_isOpen {S : v_S} {F : v_F} (hS : p_SS S) (hF : p_FF F) {m0 : Nat} {mw0 : Nat} {ms0 : Nat} (hm0 : p_Mo S F m0 mw0 ms0) (I : v_I) (p1 : Int32) : f_X3_isOpen S I m0 p1 = h_X3_isOpen S I m0 mw0 ms0 p1 := by
  unfold f_X3_isOpen h_X3_isOpen
  simp only [p_bs, p_Mo_ob hm0, p_Mo_w hm0, p_Mo_s hm0, p_Mo_iw hm0, p_Mo_is hm0]

def h_X3_shutOne_J13 (m0 : Nat) (mw0 : Nat) (ms0 : Nat) (S : v_S) (F : v_F) (I : v_I) (y1 : Int32) (z0 : Int32) : Option (Int32 × v_I) :=
p_let (v_up I m0 0 ((I m0 0) &&& (((1 : Int32) <<< (y1 &&& 31)) ^^^ (-1 : Int32)))) fun I_4 =>
if y1 < (0 : Int32) then (
some (z0, I_4))
else (
if (8 : Int32) ≤ y1 then (
some (z0, I_4))
else (
(p_in 8 y1).bind fun j_8 =>
p_let (v_up I_4 ms0 j_8 (0 : Int32)) fun I_9 =>
some (z0, I_9)))
set_option maxHeartbeats 4000000 in
set_option maxRecDepth 100000 in
theorem s_X3_shutOne_J13 {S : v_S} {F : v_F} (hS : p_SS S) (hF : p_FF F) {m0 : Nat} {mw0 : Nat} {ms0 : Nat} (hm0 : p_Mo S F m0 mw0 ms0) (I : v_I) (y1 : Int32) (z0 : Int32) : f_X3_shutOne_J13 S F I m0 y1 z0 = h_X3_shutOne_J13 m0 mw0 ms0 S F I y1 z0 := by
  unfold f_X3_shutOne_J13 h_X3_shutOne_J13
  simp only [p_bs, s_X3_isOpen hS hF hm0, p_Mo_ob hm0, p_Mo_w hm0, p_Mo_s hm0, p_Mo_iw hm0, p_Mo_is hm0]
def h_X3_shutOne (S : v_S) (I : v_I) (F : v_F) (m0 : Nat) (mw0 : Nat) (ms0 : Nat) (p1 : Int32) : Option (Int32 × v_I) :=
(h_X3_isOpen S I m0 mw0 ms0 p1).bind fun r_1 =>
if r_1 = (0 : Int32) then (
h_X3_shutOne_J13 m0 mw0 ms0 S F I p1 (0 : Int32))
else (
h_X3_shutOne_J13 m0 mw0 ms0 S F I p1 (1 : Int32))
set_option maxHeartbeats 4000000 in
set_option maxRecDepth 100000 in
theorem s_X3_shutOne {S : v_S} {F : v_F} (hS : p_SS S) (hF : p_FF F) {m0 : Nat} {mw0 : Nat} {ms0 : Nat} (hm0 : p_Mo S F m0 mw0 ms0) (I : v_I) (p1 : Int32) : f_X3_shutOne S I F m0 p1 = h_X3_shutOne S I F m0 mw0 ms0 p1 := by
  unfold f_X3_shutOne h_X3_shutOne
  simp only [p_bs, s_X3_isOpen hS hF hm0, p_Mo_ob hm0, p_Mo_w hm0, p_Mo_s hm0, p_Mo_iw hm0, p_Mo_is hm0, s_X3_shutOne_J13 hS hF hm0]

def h_X0_add (S : v_S) (I : v_I) (F : v_F) (p1 : Int32) (p2 : Int32) (p3 : Int32) : Option (Int32 × v_I) :=
p_let (I 1 0) fun x_1 =>
if x_1 < (8 : Int32) then (
p_let (v_up I 1 0 ((I 1 0) + (1 : Int32))) fun I_4 =>
(p_in 8 x_1).bind fun j_6 =>
p_let (v_up I_4 3 j_6 p1) fun I_7 =>
(h_X3_shutOne S I_7 F 2 3 4 x_1).bind fun r_9 =>
(p_in 8 x_1).bind fun j_11 =>
p_let (v_up r_9.2 5 j_11 p2) fun I_12 =>
(p_in 8 x_1).bind fun j_14 =>
p_let (v_up I_12 6 j_14 p3) fun I_15 =>
some (x_1, I_15))
else (
some ((-1 : Int32), I))
set_option maxHeartbeats 4000000 in
set_option maxRecDepth 100000 in
theorem s_X0_add {S : v_S} {F : v_F} (hS : p_SS S) (hF : p_FF F) (I : v_I) (p1 : Int32) (p2 : Int32) (p3 : Int32) : f_X0_add S I F 1 p1 p2 p3 = h_X0_add S I F p1 p2 p3 := by
  unfold f_X0_add h_X0_add
  simp only [p_bs, p_obS hS (a := 1) (kd := 0) rfl, p_FS hF (a := 1) (i := 1) (b := 2) (by decide), p_obS hS (a := 2) (kd := 3) rfl, p_FS hF (a := 2) (i := 2) (b := 3) (by decide), p_ixS hS (kd := 20) (a := 3) (n := 8) rfl, s_X3_shutOne hS hF (p_MoC hS hF 2 3 4 rfl rfl rfl (by decide) (by decide)), p_FS hF (a := 1) (i := 2) (b := 5) (by decide), p_ixS hS (kd := 20) (a := 5) (n := 8) rfl, p_FS hF (a := 1) (i := 3) (b := 6) (by decide), p_ixS hS (kd := 20) (a := 6) (n := 8) rfl]

def h_X4_clear (S : v_S) (I : v_I) : Option (v_I) :=
p_let (v_up I 11 0 (0 : Int32)) fun I_1 =>
some (I_1)
set_option maxHeartbeats 4000000 in
set_option maxRecDepth 100000 in
theorem s_X4_clear {S : v_S} {F : v_F} (hS : p_SS S) (hF : p_FF F) (I : v_I) : f_X4_clear S I 11 = h_X4_clear S I := by
  unfold f_X4_clear h_X4_clear
  simp only [p_bs, p_obS hS (a := 11) (kd := 4) rfl]

def h_X9_accept (S : v_S) (I : v_I) (p1 : Int32) : Option (Int32 × v_I) :=
p_let (v_up I 0 14 (0 : Int32)) fun I_1 =>
some (p1, I_1)
set_option maxHeartbeats 4000000 in
set_option maxRecDepth 100000 in
theorem s_X9_accept {S : v_S} {F : v_F} (hS : p_SS S) (hF : p_FF F) (I : v_I) (p1 : Int32) : f_X9_accept S I 0 p1 = h_X9_accept S I p1 := by
  unfold f_X9_accept h_X9_accept
  simp only [p_bs, p_obS hS (a := 0) (kd := 9) rfl]

def h_X9_isUpTo (p0 : Int64) (p2 : Int32) : Option (Int32) :=
if (lg_cmp p0 (0 : Int64)) < (0 : Int32) then (
some ((0 : Int32)))
else (
if (0 : Int32) < (lg_cmp p0 p2.toInt64) then (
some ((0 : Int32)))
else (
some ((1 : Int32))))
set_option maxHeartbeats 4000000 in
set_option maxRecDepth 100000 in
theorem s_X9_isUpTo (p0 : Int64) (p2 : Int32) : f_X9_isUpTo p0 p2 = h_X9_isUpTo p0 p2 := by
  unfold f_X9_isUpTo h_X9_isUpTo
  simp only [p_bs]

def h_X9_refuse_J22 (S : v_S) (F : v_F) (I : v_I) (y1 : Int32) (z0 : Int32) : Option (Int32 × v_I) :=
if z0 < (0 : Int32) then (
some (y1, I))
else (
if (5 : Int32) ≤ z0 then (
some (y1, I))
else (
(p_in 5 z0).bind fun j_6 =>
(p_in 5 z0).bind fun j_7 =>
p_let (v_up I 48 j_7 ((I 48 j_6) + (1 : Int32))) fun I_8 =>
some (y1, I_8)))
set_option maxHeartbeats 4000000 in
set_option maxRecDepth 100000 in
theorem s_X9_refuse_J22 {S : v_S} {F : v_F} (hS : p_SS S) (hF : p_FF F) (I : v_I) (y1 : Int32) (z0 : Int32) : f_X9_refuse_J22 S F I 0 y1 z0 = h_X9_refuse_J22 S F I y1 z0 := by
  unfold f_X9_refuse_J22 h_X9_refuse_J22
  simp only [p_bs, p_obS hS (a := 0) (kd := 9) rfl, p_FS hF (a := 0) (i := 13) (b := 48) (by decide), p_lenS hS (kd := 20) (a := 48) (n := 5) (x := (5 : Int32)) rfl (by decide), p_ixS hS (kd := 20) (a := 48) (n := 5) rfl]
def h_X9_refuse (S : v_S) (I : v_I) (F : v_F) (p1 : Int32) : Option (Int32 × v_I) :=
p_let (v_up I 0 14 p1) fun I_1 =>
if p1 < (-3 : Int32) then (
h_X9_refuse_J22 S F I_1 p1 ((-p1) - (2 : Int32)))
else (
h_X9_refuse_J22 S F I_1 p1 ((-p1) - (1 : Int32)))
set_option maxHeartbeats 4000000 in
set_option maxRecDepth 100000 in
theorem s_X9_refuse {S : v_S} {F : v_F} (hS : p_SS S) (hF : p_FF F) (I : v_I) (p1 : Int32) : f_X9_refuse S I F 0 p1 = h_X9_refuse S I F p1 := by
  unfold f_X9_refuse h_X9_refuse
  simp only [p_bs, p_obS hS (a := 0) (kd := 9) rfl, p_FS hF (a := 0) (i := 13) (b := 48) (by decide), p_lenS hS (kd := 20) (a := 48) (n := 5) (x := (5 : Int32)) rfl (by decide), p_ixS hS (kd := 20) (a := 48) (n := 5) rfl, s_X9_refuse_J22 hS hF]

def h_X9_hedgehog_J20 (S : v_S) (F : v_F) (I : v_I) : Option (Int32 × v_I) :=
(h_X9_refuse S I F (-1 : Int32)).bind fun r_4 =>
some (r_4.1, r_4.2)
set_option maxHeartbeats 4000000 in
set_option maxRecDepth 100000 in
theorem s_X9_hedgehog_J20 {S : v_S} {F : v_F} (hS : p_SS S) (hF : p_FF F) (I : v_I) : f_X9_hedgehog_J20 S F I 0 = h_X9_hedgehog_J20 S F I := by
  unfold f_X9_hedgehog_J20 h_X9_hedgehog_J20
  simp only [p_bs, s_X9_isUpTo, s_X9_refuse hS hF, p_obS hS (a := 0) (kd := 9) rfl, p_FS hF (a := 0) (i := 0) (b := 1) (by decide), p_obS hS (a := 1) (kd := 0) rfl, p_FS hF (a := 0) (i := 2) (b := 11) (by decide), s_X4_clear hS hF, p_obS hS (a := 11) (kd := 4) rfl, s_X0_add hS hF, s_X9_accept hS hF]
def h_X9_hedgehog (S : v_S) (I : v_I) (F : v_F) (p1 : Int32) (p2 : Int32) : Option (Int32 × v_I) :=
(h_X9_isUpTo p1.toInt64 (9 : Int32)).bind fun r_1 =>
if r_1 = (0 : Int32) then (
h_X9_hedgehog_J20 S F I)
else (
(h_X9_isUpTo p2.toInt64 (9 : Int32)).bind fun r_6 =>
if r_6 = (0 : Int32) then (
h_X9_hedgehog_J20 S F I)
else (
if (I 1 0) < (8 : Int32) then (
(h_X4_clear S I).bind fun r_10 =>
(h_X0_add S r_10 F p1 p2 (0 : Int32)).bind fun r_12 =>
(h_X9_accept S r_12.2 r_12.1).bind fun r_14 =>
some (r_14.1, r_14.2))
else (
(h_X9_refuse S I F (-5 : Int32)).bind fun r_16 =>
some (r_16.1, r_16.2))))
set_option maxHeartbeats 4000000 in
set_option maxRecDepth 100000 in
theorem s_X9_hedgehog {S : v_S} {F : v_F} (hS : p_SS S) (hF : p_FF F) (I : v_I) (p1 : Int32) (p2 : Int32) : f_X9_hedgehog S I F 0 p1 p2 = h_X9_hedgehog S I F p1 p2 := by
  unfold f_X9_hedgehog h_X9_hedgehog
  simp only [p_bs, s_X9_isUpTo, s_X9_refuse hS hF, p_obS hS (a := 0) (kd := 9) rfl, p_FS hF (a := 0) (i := 0) (b := 1) (by decide), p_obS hS (a := 1) (kd := 0) rfl, p_FS hF (a := 0) (i := 2) (b := 11) (by decide), s_X4_clear hS hF, p_obS hS (a := 11) (kd := 4) rfl, s_X0_add hS hF, s_X9_accept hS hF, s_X9_hedgehog_J20 hS hF]

def h_X0_has (S : v_S) (I : v_I) (p1 : Int64) : Option (Int32) :=
if (lg_cmp p1 (0 : Int64)) < (0 : Int32) then (
some ((0 : Int32)))
else (
if (0 : Int32) ≤ (lg_cmp p1 ((I 1 0).toInt64)) then (
some ((0 : Int32)))
else (
if (0 : Int32) ≤ (lg_cmp p1 (8 : Int64)) then (
some ((0 : Int32)))
else (
some ((1 : Int32)))))
set_option maxHeartbeats 4000000 in
set_option maxRecDepth 100000 in
theorem s_X0_has {S : v_S} {F : v_F} (hS : p_SS S) (hF : p_FF F) (I : v_I) (p1 : Int64) : f_X0_has S I 1 p1 = h_X0_has S I p1 := by
  unfold f_X0_has h_X0_has
  simp only [p_bs, p_obS hS (a := 1) (kd := 0) rfl]

def h_X0_setWatching (S : v_S) (I : v_I) (F : v_F) (p1 : Int32) (p2 : Int32) (p3 : Int32) : Option (Int32 × v_I) :=
(h_X0_has S I p1.toInt64).bind fun r_1 =>
if r_1 = (0 : Int32) then (
some ((-1 : Int32), I))
else (
(h_X0_has S I p2.toInt64).bind fun r_4 =>
if r_4 = (0 : Int32) then (
some ((-1 : Int32), I))
else (
(p_in 8 p1).bind fun j_7 =>
p_let (((I 6 j_7) >>> (p2 &&& 31)) &&& (1 : Int32)) fun x_8 =>
(p_in 8 p1).bind fun j_10 =>
(p_in 8 p1).bind fun j_11 =>
p_let (v_up I 6 j_11 (((I 6 j_10) &&& (((1 : Int32) <<< (p2 &&& 31)) ^^^ (-1 : Int32))) ||| (p3 <<< (p2 &&& 31)))) fun I_12 =>
some (x_8, I_12)))
set_option maxHeartbeats 4000000 in
set_option maxRecDepth 100000 in
theorem s_X0_setWatching {S : v_S} {F : v_F} (hS : p_SS S) (hF : p_FF F) (I : v_I) (p1 : Int32) (p2 : Int32) (p3 : Int32) : f_X0_setWatching S I F 1 p1 p2 p3 = h_X0_setWatching S I F p1 p2 p3 := by
  unfold f_X0_setWatching h_X0_setWatching
  simp only [p_bs, s_X0_has hS hF, p_obS hS (a := 1) (kd := 0) rfl, p_FS hF (a := 1) (i := 3) (b := 6) (by decide), p_ixS hS (kd := 20) (a := 6) (n := 8) rfl]

def h_X9_watch_J14 (S : v_S) (F : v_F) (I : v_I) : Option (Int32 × v_I) :=
(h_X9_refuse S I F (-1 : Int32)).bind fun r_4 =>
some (r_4.1, r_4.2)
set_option maxHeartbeats 4000000 in
set_option maxRecDepth 100000 in
theorem s_X9_watch_J14 {S : v_S} {F : v_F} (hS : p_SS S) (hF : p_FF F) (I : v_I) : f_X9_watch_J14 S F I 0 = h_X9_watch_J14 S F I := by
  unfold f_X9_watch_J14 h_X9_watch_J14
  simp only [p_bs, s_X9_isUpTo, s_X9_refuse hS hF, p_obS hS (a := 0) (kd := 9) rfl, p_FS hF (a := 0) (i := 0) (b := 1) (by decide), s_X0_has hS hF, p_obS hS (a := 1) (kd := 0) rfl, s_X0_setWatching hS hF, s_X9_accept hS hF]
def h_X9_watch_J44 (S : v_S) (F : v_F) (I : v_I) : Option (Int32 × v_I) :=
(h_X9_refuse S I F (-2 : Int32)).bind fun r_10 =>
some (r_10.1, r_10.2)
set_option maxHeartbeats 4000000 in
set_option maxRecDepth 100000 in
theorem s_X9_watch_J44 {S : v_S} {F : v_F} (hS : p_SS S) (hF : p_FF F) (I : v_I) : f_X9_watch_J44 S F I 0 = h_X9_watch_J44 S F I := by
  unfold f_X9_watch_J44 h_X9_watch_J44
  simp only [p_bs, s_X9_isUpTo, s_X9_refuse hS hF, p_obS hS (a := 0) (kd := 9) rfl, p_FS hF (a := 0) (i := 0) (b := 1) (by decide), s_X0_has hS hF, p_obS hS (a := 1) (kd := 0) rfl, s_X0_setWatching hS hF, s_X9_accept hS hF, s_X9_watch_J14 hS hF]
def h_X9_watch (S : v_S) (I : v_I) (F : v_F) (p1 : Int32) (p2 : Int32) (p3 : Int32) : Option (Int32 × v_I) :=
(h_X9_isUpTo p3.toInt64 (1 : Int32)).bind fun r_1 =>
if r_1 = (0 : Int32) then (
h_X9_watch_J14 S F I)
else (
if p1 = p2 then (
h_X9_watch_J14 S F I)
else (
(h_X0_has S I p1.toInt64).bind fun r_7 =>
if r_7 = (0 : Int32) then (
h_X9_watch_J44 S F I)
else (
(h_X0_has S I p2.toInt64).bind fun r_12 =>
if r_12 = (0 : Int32) then (
h_X9_watch_J44 S F I)
else (
(h_X0_setWatching S I F p1 p2 p3).bind fun r_15 =>
(h_X9_accept S r_15.2 r_15.1).bind fun r_17 =>
some (r_17.1, r_17.2)))))
set_option maxHeartbeats 4000000 in
set_option maxRecDepth 100000 in
theorem s_X9_watch {S : v_S} {F : v_F} (hS : p_SS S) (hF : p_FF F) (I : v_I) (p1 : Int32) (p2 : Int32) (p3 : Int32) : f_X9_watch S I F 0 p1 p2 p3 = h_X9_watch S I F p1 p2 p3 := by
  unfold f_X9_watch h_X9_watch
  simp only [p_bs, s_X9_isUpTo, s_X9_refuse hS hF, p_obS hS (a := 0) (kd := 9) rfl, p_FS hF (a := 0) (i := 0) (b := 1) (by decide), s_X0_has hS hF, p_obS hS (a := 1) (kd := 0) rfl, s_X0_setWatching hS hF, s_X9_accept hS hF, s_X9_watch_J14 hS hF, s_X9_watch_J44 hS hF]

def h_X0_lawAt (S : v_S) (I : v_I) (F : v_F) (p1 : Int32) : Option (Option Nat) :=
if p1 < (0 : Int32) then (
some (none))
else (
if (I 1 10) ≤ p1 then (
some (none))
else (
if (6 : Int32) ≤ p1 then (
some (none))
else (
(p_in 6 p1).bind fun j_4 =>
p_let (F 9 j_4) fun x_5 =>
some (x_5))))
set_option maxHeartbeats 4000000 in
set_option maxRecDepth 100000 in
theorem s_X0_lawAt {S : v_S} {F : v_F} (hS : p_SS S) (hF : p_FF F) (I : v_I) (p1 : Int32) : f_X0_lawAt S I F 1 p1 = h_X0_lawAt S I F p1 := by
  unfold f_X0_lawAt h_X0_lawAt
  simp only [p_bs, p_obS hS (a := 1) (kd := 0) rfl, p_FS hF (a := 1) (i := 11) (b := 9) (by decide), p_ixS hS (kd := 24) (a := 9) (n := 6) rfl]

def h_X0_lawInForce (S : v_S) (I : v_I) (F : v_F) : Option (Option Nat) :=
(h_X0_lawAt S I F (I 1 12)).bind fun r_1 =>
some (r_1)
set_option maxHeartbeats 4000000 in
set_option maxRecDepth 100000 in
theorem s_X0_lawInForce {S : v_S} {F : v_F} (hS : p_SS S) (hF : p_FF F) (I : v_I) : f_X0_lawInForce S I F 1 = h_X0_lawInForce S I F := by
  unfold f_X0_lawInForce h_X0_lawInForce
  simp only [p_bs, p_obS hS (a := 1) (kd := 0) rfl, s_X0_lawAt hS hF]

def h_J6_bitCount_0f7a4 (p0 : Int32) : Option (Int32) :=
p_let (p0 - (((p0.toUInt32 >>> ((1 : Int32).toUInt32 &&& Int32.toUInt32 31)).toInt32) &&& (1431655765 : Int32))) fun x_1 =>
p_let ((x_1 &&& (858993459 : Int32)) + (((x_1.toUInt32 >>> ((2 : Int32).toUInt32 &&& Int32.toUInt32 31)).toInt32) &&& (858993459 : Int32))) fun x_3 =>
p_let ((x_3 + ((x_3.toUInt32 >>> ((4 : Int32).toUInt32 &&& Int32.toUInt32 31)).toInt32)) &&& (252645135 : Int32)) fun x_5 =>
p_let (x_5 + ((x_5.toUInt32 >>> ((8 : Int32).toUInt32 &&& Int32.toUInt32 31)).toInt32)) fun x_7 =>
p_let (x_7 + ((x_7.toUInt32 >>> ((16 : Int32).toUInt32 &&& Int32.toUInt32 31)).toInt32)) fun x_9 =>
some (x_9 &&& (63 : Int32))
set_option maxHeartbeats 4000000 in
set_option maxRecDepth 100000 in
theorem s_J6_bitCount_0f7a4 (p0 : Int32) : f_J6_bitCount_0f7a4 p0 = h_J6_bitCount_0f7a4 p0 := by
  unfold f_J6_bitCount_0f7a4 h_J6_bitCount_0f7a4
  simp only [p_bs]

def h_X3_openMany (S : v_S) (I : v_I) (m0 : Nat) (mw0 : Nat) (ms0 : Nat) : Option (Int32) :=
(h_J6_bitCount_0f7a4 (I m0 0)).bind fun r_1 =>
some (r_1)
set_option maxHeartbeats 4000000 in
set_option maxRecDepth 100000 in
theorem s_X3_openMany {S : v_S} {F : v_F} (hS : p_SS S) (hF : p_FF F) {m0 : Nat} {mw0 : Nat} {ms0 : Nat} (hm0 : p_Mo S F m0 mw0 ms0) (I : v_I) : f_X3_openMany S I m0 = h_X3_openMany S I m0 mw0 ms0 := by
  unfold f_X3_openMany h_X3_openMany
  simp only [p_bs, p_Mo_ob hm0, p_Mo_w hm0, p_Mo_s hm0, p_Mo_iw hm0, p_Mo_is hm0, s_J6_bitCount_0f7a4]

def h_X1_hear (S : v_S) (I : v_I) (F : v_F) (m2 : Nat) (mw2 : Nat) (ms2 : Nat) (p3 : Int32) : Option (v_I) :=
p_let (v_up I 16 0 p3) fun I_1 =>
(p_in 8 p3).bind fun j_3 =>
p_let (v_up I_1 16 1 (I_1 mw2 j_3)) fun I_4 =>
(p_in 8 p3).bind fun j_6 =>
p_let (v_up I_4 16 2 (I_4 5 j_6)) fun I_7 =>
(p_in 8 p3).bind fun j_9 =>
(h_J6_bitCount_0f7a4 ((I_7 6 j_9) &&& (I_7 m2 0))).bind fun r_10 =>
p_let (v_up I_7 16 3 r_10) fun I_12 =>
(h_X3_openMany S I_12 m2 mw2 ms2).bind fun r_14 =>
p_let (v_up I_12 16 4 r_14) fun I_16 =>
(p_in 8 p3).bind fun j_18 =>
p_let (v_up I_16 16 5 (I_16 ms2 j_18)) fun I_19 =>
p_let (v_up I_19 16 6 (I_19 m2 1)) fun I_21 =>
p_let (v_up I_21 16 7 (I_21 1 5)) fun I_23 =>
p_let (v_up I_23 16 8 (I_23 1 6)) fun I_25 =>
some (I_25)
set_option maxHeartbeats 4000000 in
set_option maxRecDepth 100000 in
theorem s_X1_hear {S : v_S} {F : v_F} (hS : p_SS S) (hF : p_FF F) {m2 : Nat} {mw2 : Nat} {ms2 : Nat} (hm2 : p_Mo S F m2 mw2 ms2) (I : v_I) (p3 : Int32) : f_X1_hear S I F 14 1 m2 p3 = h_X1_hear S I F m2 mw2 ms2 p3 := by
  unfold f_X1_hear h_X1_hear
  simp only [p_bs, p_obS hS (a := 14) (kd := 1) rfl, p_FS hF (a := 14) (i := 0) (b := 15) (by decide), p_obS hS (a := 15) (kd := 7) rfl, p_FS hF (a := 15) (i := 0) (b := 16) (by decide), p_ixS hS (kd := 20) (a := 16) (n := 36) rfl, p_inL (n := 36) (k := 0) (i := (0 : Int32)) (by decide), p_Mo_ob hm2, p_Mo_w hm2, p_Mo_s hm2, p_Mo_iw hm2, p_Mo_is hm2, p_inL (n := 36) (k := 1) (i := (1 : Int32)) (by decide), p_obS hS (a := 1) (kd := 0) rfl, p_FS hF (a := 1) (i := 2) (b := 5) (by decide), p_ixS hS (kd := 20) (a := 5) (n := 8) rfl, p_inL (n := 36) (k := 2) (i := (2 : Int32)) (by decide), p_FS hF (a := 1) (i := 3) (b := 6) (by decide), p_ixS hS (kd := 20) (a := 6) (n := 8) rfl, s_J6_bitCount_0f7a4, p_inL (n := 36) (k := 3) (i := (3 : Int32)) (by decide), s_X3_openMany hS hF hm2, p_inL (n := 36) (k := 4) (i := (4 : Int32)) (by decide), p_inL (n := 36) (k := 5) (i := (5 : Int32)) (by decide), p_inL (n := 36) (k := 6) (i := (6 : Int32)) (by decide), p_inL (n := 36) (k := 7) (i := (7 : Int32)) (by decide), p_inL (n := 36) (k := 8) (i := (8 : Int32)) (by decide)]

def h_X3_copyFrom (S : v_S) (I : v_I) (F : v_F) (m0 : Nat) (mw0 : Nat) (ms0 : Nat) (m1 : Nat) (mw1 : Nat) (ms1 : Nat) : Option (v_I) :=
p_let (v_up I m0 0 (I m1 0)) fun I_1 =>
p_let (v_up I_1 m0 1 (I_1 m1 1)) fun I_3 =>
(p_cp S mw1 mw0 (0 : Int32) (0 : Int32) (8 : Int32)).bind fun _ =>
p_let (p_cpy I_3 mw1 mw0 (0 : Int32).toNatClampNeg (0 : Int32).toNatClampNeg (8 : Int32).toNatClampNeg) fun I_6 =>
(p_cp S ms1 ms0 (0 : Int32) (0 : Int32) (8 : Int32)).bind fun _ =>
p_let (p_cpy I_6 ms1 ms0 (0 : Int32).toNatClampNeg (0 : Int32).toNatClampNeg (8 : Int32).toNatClampNeg) fun I_9 =>
some (I_9)
set_option maxHeartbeats 4000000 in
set_option maxRecDepth 100000 in
theorem s_X3_copyFrom {S : v_S} {F : v_F} (hS : p_SS S) (hF : p_FF F) {m0 : Nat} {mw0 : Nat} {ms0 : Nat} {m1 : Nat} {mw1 : Nat} {ms1 : Nat} (hm0 : p_Mo S F m0 mw0 ms0) (hm1 : p_Mo S F m1 mw1 ms1) (I : v_I) : f_X3_copyFrom S I F m0 m1 = h_X3_copyFrom S I F m0 mw0 ms0 m1 mw1 ms1 := by
  unfold f_X3_copyFrom h_X3_copyFrom
  simp only [p_bs, p_Mo_ob hm1, p_Mo_w hm1, p_Mo_s hm1, p_Mo_iw hm1, p_Mo_is hm1, p_Mo_ob hm0, p_Mo_w hm0, p_Mo_s hm0, p_Mo_iw hm0, p_Mo_is hm0]

def h_X1_begin (S : v_S) (I : v_I) (F : v_F) (p2 : Int32) : Option (v_I) :=
(h_X3_copyFrom S I F 18 19 20 2 3 4).bind fun r_1 =>
p_let (v_up r_1 18 0 p2) fun I_3 =>
some (I_3)
set_option maxHeartbeats 4000000 in
set_option maxRecDepth 100000 in
theorem s_X1_begin {S : v_S} {F : v_F} (hS : p_SS S) (hF : p_FF F) (I : v_I) (p2 : Int32) : f_X1_begin S I F 14 1 p2 = h_X1_begin S I F p2 := by
  unfold f_X1_begin h_X1_begin
  simp only [p_bs, p_obS hS (a := 14) (kd := 1) rfl, p_FS hF (a := 14) (i := 1) (b := 18) (by decide), p_obS hS (a := 1) (kd := 0) rfl, p_FS hF (a := 1) (i := 1) (b := 2) (by decide), s_X3_copyFrom hS hF (p_MoC hS hF 18 19 20 rfl rfl rfl (by decide) (by decide)) (p_MoC hS hF 2 3 4 rfl rfl rfl (by decide) (by decide)), p_obS hS (a := 18) (kd := 3) rfl]

def h_X7_join_J152 (y5 : Int64) : Option (Int64) :=
if (0 : Int32) < (lg_cmp y5 (1000000000 : Int64)) then (
some ((-1000000000000000 : Int64)))
else (
if (0 : Int32) ≤ (lg_cmp y5 (-1000000000 : Int64)) then (
some (y5))
else (
some ((-1000000000000000 : Int64))))
set_option maxHeartbeats 4000000 in
set_option maxRecDepth 100000 in
theorem s_X7_join_J152 (y5 : Int64) : f_X7_join_J152 y5 = h_X7_join_J152 y5 := by
  unfold f_X7_join_J152 h_X7_join_J152
  simp only [p_bs]
def h_X7_join_J123 (z0 : Int64) : Option (Int64) :=
h_X7_join_J152 z0
set_option maxHeartbeats 4000000 in
set_option maxRecDepth 100000 in
theorem s_X7_join_J123 (z0 : Int64) : f_X7_join_J123 z0 = h_X7_join_J123 z0 := by
  unfold f_X7_join_J123 h_X7_join_J123
  simp only [p_bs, s_X7_join_J152]
def h_X7_join_J143 (z0 : Int64) : Option (Int64) :=
h_X7_join_J152 z0
set_option maxHeartbeats 4000000 in
set_option maxRecDepth 100000 in
theorem s_X7_join_J143 (z0 : Int64) : f_X7_join_J143 z0 = h_X7_join_J143 z0 := by
  unfold f_X7_join_J143 h_X7_join_J143
  simp only [p_bs, s_X7_join_J152, s_X7_join_J123]
def h_X7_join (p0 : Int32) (p1 : Int64) (p3 : Int64) : Option (Int64) :=
if p0 = (6 : Int32) then (
if (0 : Int32) ≤ (lg_cmp p1 p3) then (
some ((0 : Int64)))
else (
some ((1 : Int64))))
else if p0 = (7 : Int32) then (
if (lg_cmp p1 p3) ≤ (0 : Int32) then (
some ((0 : Int64)))
else (
some ((1 : Int64))))
else if p0 = (8 : Int32) then (
if (lg_cmp p1 p3) = (0 : Int32) then (
some ((1 : Int64)))
else (
some ((0 : Int64))))
else if p0 = (9 : Int32) then (
p_let (p1 + p3) fun x_4 =>
h_X7_join_J152 x_4)
else if p0 = (10 : Int32) then (
p_let (p1 - p3) fun x_8 =>
h_X7_join_J152 x_8)
else if p0 = (11 : Int32) then (
p_let (p1 * p3) fun x_10 =>
h_X7_join_J152 x_10)
else if p0 = (12 : Int32) then (
if (lg_cmp p3 (0 : Int64)) = (0 : Int32) then (
h_X7_join_J123 (-1000000000000000 : Int64))
else (
(p_nz64 p3).bind fun _ =>
h_X7_join_J123 (p1 / p3)))
else if p0 = (13 : Int32) then (
if (lg_cmp p3 (0 : Int64)) = (0 : Int32) then (
h_X7_join_J143 (-1000000000000000 : Int64))
else (
(p_nz64 p3).bind fun _ =>
h_X7_join_J143 (p1 - p1 / p3 * p3)))
else (
some ((-1000000000000000 : Int64)))
set_option maxHeartbeats 4000000 in
set_option maxRecDepth 100000 in
theorem s_X7_join (p0 : Int32) (p1 : Int64) (p3 : Int64) : f_X7_join p0 p1 p3 = h_X7_join p0 p1 p3 := by
  unfold f_X7_join h_X7_join
  simp only [p_bs, s_X7_join_J152, s_X7_join_J123, s_X7_join_J143]

def h_X7_reckon_J14_301 (r0 : Nat) (rv0 : Nat) (rs0 : Nat) (S : v_S) (I : v_I) (F : v_F) (w3 : Nat) (J : v_J) (y4 : Int32) (y5 : Int32) (y6 : Int32) : Option ((Int32 × Int32 × Int32 × v_J) ⊕ (Nat × (Int32 × Int32 × Int32 × v_J))) :=
p_let (y6 + (1 : Int32)) fun x_30 =>
some (.inl (y4, y5, x_30, J))
set_option maxHeartbeats 4000000 in
set_option maxRecDepth 100000 in
theorem s_X7_reckon_J14_301 {S : v_S} {F : v_F} (hS : p_SS S) (hF : p_FF F) {r0 : Nat} {rv0 : Nat} {rs0 : Nat} (hr0 : p_Rk S F r0 rv0 rs0) (I : v_I) (w3 : Nat) (J : v_J) (y4 : Int32) (y5 : Int32) (y6 : Int32) : f_X7_reckon_J14_301 S I F r0 w3 J y4 y5 y6 = h_X7_reckon_J14_301 r0 rv0 rs0 S I F w3 J y4 y5 y6 := by
  unfold f_X7_reckon_J14_301 h_X7_reckon_J14_301
  simp only [p_bs, p_Rk_ob hr0, p_Rk_v hr0, p_Rk_s hr0, p_Rk_iv hr0, p_Rk_is hr0, s_X7_join]
def h_X7_reckon_J14_220 (r0 : Nat) (rv0 : Nat) (rs0 : Nat) (S : v_S) (I : v_I) (F : v_F) (w3 : Nat) (J : v_J) (y4 : Int32) (y5 : Int32) (y6 : Int32) (y8 : Int32) (z0 : Int32) (z1 : Int64) : Option ((Int32 × Int32 × Int32 × v_J) ⊕ (Nat × (Int32 × Int32 × Int32 × v_J))) :=
if (lg_cmp z1 z0.toInt64) = (0 : Int32) then (
h_X7_reckon_J14_301 r0 rv0 rs0 S I F w3 J y8 y5 y6)
else (
p_let (y5 + (-1 : Int32)) fun x_28 =>
h_X7_reckon_J14_301 r0 rv0 rs0 S I F w3 J y4 x_28 y6)
set_option maxHeartbeats 4000000 in
set_option maxRecDepth 100000 in
theorem s_X7_reckon_J14_220 {S : v_S} {F : v_F} (hS : p_SS S) (hF : p_FF F) {r0 : Nat} {rv0 : Nat} {rs0 : Nat} (hr0 : p_Rk S F r0 rv0 rs0) (I : v_I) (w3 : Nat) (J : v_J) (y4 : Int32) (y5 : Int32) (y6 : Int32) (y8 : Int32) (z0 : Int32) (z1 : Int64) : f_X7_reckon_J14_220 S I F r0 w3 J y4 y5 y6 y8 z0 z1 = h_X7_reckon_J14_220 r0 rv0 rs0 S I F w3 J y4 y5 y6 y8 z0 z1 := by
  unfold f_X7_reckon_J14_220 h_X7_reckon_J14_220
  simp only [p_bs, p_Rk_ob hr0, p_Rk_v hr0, p_Rk_s hr0, p_Rk_iv hr0, p_Rk_is hr0, s_X7_join, s_X7_reckon_J14_301 hS hF hr0]
def h_X7_reckon_J14_200 (r0 : Nat) (rv0 : Nat) (rs0 : Nat) (S : v_S) (I : v_I) (F : v_F) (w3 : Nat) (J : v_J) (y4 : Int32) (y5 : Int32) (y6 : Int32) (y7 : Int32) (y8 : Int32) : Option ((Int32 × Int32 × Int32 × v_J) ⊕ (Nat × (Int32 × Int32 × Int32 × v_J))) :=
(p_in 32 (y5 - (1 : Int32))).bind fun j_25 =>
if y7 = (5 : Int32) then (
h_X7_reckon_J14_220 r0 rv0 rs0 S I F w3 J y4 y5 y6 y8 (1 : Int32) (J rs0 j_25))
else (
h_X7_reckon_J14_220 r0 rv0 rs0 S I F w3 J y4 y5 y6 y8 (0 : Int32) (J rs0 j_25))
set_option maxHeartbeats 4000000 in
set_option maxRecDepth 100000 in
theorem s_X7_reckon_J14_200 {S : v_S} {F : v_F} (hS : p_SS S) (hF : p_FF F) {r0 : Nat} {rv0 : Nat} {rs0 : Nat} (hr0 : p_Rk S F r0 rv0 rs0) (I : v_I) (w3 : Nat) (J : v_J) (y4 : Int32) (y5 : Int32) (y6 : Int32) (y7 : Int32) (y8 : Int32) : f_X7_reckon_J14_200 S I F r0 w3 J y4 y5 y6 y7 y8 = h_X7_reckon_J14_200 r0 rv0 rs0 S I F w3 J y4 y5 y6 y7 y8 := by
  unfold f_X7_reckon_J14_200 h_X7_reckon_J14_200
  simp only [p_bs, p_Rk_ob hr0, p_Rk_v hr0, p_Rk_s hr0, p_Rk_iv hr0, p_Rk_is hr0, s_X7_join, s_X7_reckon_J14_301 hS hF hr0, s_X7_reckon_J14_220 hS hF hr0]
def h_X7_reckon_J14_127 (r0 : Nat) (rv0 : Nat) (rs0 : Nat) (S : v_S) (I : v_I) (F : v_F) (w3 : Nat) (J : v_J) (y4 : Int32) (y5 : Int32) (y6 : Int32) (z0 : Int64) (z1 : Int32) : Option ((Int32 × Int32 × Int32 × v_J) ⊕ (Nat × (Int32 × Int32 × Int32 × v_J))) :=
(p_in 32 z1).bind fun j_50 =>
p_let (v_up J rs0 j_50 z0) fun J_51 =>
p_let (y5 + (1 : Int32)) fun x_53 =>
h_X7_reckon_J14_301 r0 rv0 rs0 S I F w3 J_51 y4 x_53 y6
set_option maxHeartbeats 4000000 in
set_option maxRecDepth 100000 in
theorem s_X7_reckon_J14_127 {S : v_S} {F : v_F} (hS : p_SS S) (hF : p_FF F) {r0 : Nat} {rv0 : Nat} {rs0 : Nat} (hr0 : p_Rk S F r0 rv0 rs0) (I : v_I) (w3 : Nat) (J : v_J) (y4 : Int32) (y5 : Int32) (y6 : Int32) (z0 : Int64) (z1 : Int32) : f_X7_reckon_J14_127 S I F r0 w3 J y4 y5 y6 z0 z1 rs0 = h_X7_reckon_J14_127 r0 rv0 rs0 S I F w3 J y4 y5 y6 z0 z1 := by
  unfold f_X7_reckon_J14_127 h_X7_reckon_J14_127
  simp only [p_bs, p_Rk_ob hr0, p_Rk_v hr0, p_Rk_s hr0, p_Rk_iv hr0, p_Rk_is hr0, s_X7_join, s_X7_reckon_J14_301 hS hF hr0, s_X7_reckon_J14_220 hS hF hr0, s_X7_reckon_J14_200 hS hF hr0]
def h_X7_reckon_J14_126 (r0 : Nat) (rv0 : Nat) (rs0 : Nat) (S : v_S) (I : v_I) (F : v_F) (w3 : Nat) (J : v_J) (y4 : Int32) (y5 : Int32) (y6 : Int32) (z0 : Int32) : Option ((Int32 × Int32 × Int32 × v_J) ⊕ (Nat × (Int32 × Int32 × Int32 × v_J))) :=
h_X7_reckon_J14_127 r0 rv0 rs0 S I F w3 J y4 y5 y6 (0 : Int64) z0
set_option maxHeartbeats 4000000 in
set_option maxRecDepth 100000 in
theorem s_X7_reckon_J14_126 {S : v_S} {F : v_F} (hS : p_SS S) (hF : p_FF F) {r0 : Nat} {rv0 : Nat} {rs0 : Nat} (hr0 : p_Rk S F r0 rv0 rs0) (I : v_I) (w3 : Nat) (J : v_J) (y4 : Int32) (y5 : Int32) (y6 : Int32) (z0 : Int32) : f_X7_reckon_J14_126 S I F r0 w3 J y4 y5 y6 z0 rs0 = h_X7_reckon_J14_126 r0 rv0 rs0 S I F w3 J y4 y5 y6 z0 := by
  unfold f_X7_reckon_J14_126 h_X7_reckon_J14_126
  simp only [p_bs, p_Rk_ob hr0, p_Rk_v hr0, p_Rk_s hr0, p_Rk_iv hr0, p_Rk_is hr0, s_X7_join, s_X7_reckon_J14_301 hS hF hr0, s_X7_reckon_J14_220 hS hF hr0, s_X7_reckon_J14_200 hS hF hr0, s_X7_reckon_J14_127 hS hF hr0]
def h_X7_reckon_B14 (r0 : Nat) (rv0 : Nat) (rs0 : Nat) (S : v_S) (I : v_I) (F : v_F) (w3 : Nat) (s14 : Int32 × Int32 × Int32 × v_J) : Option ((Int32 × Int32 × Int32 × v_J) ⊕ (Nat × (Int32 × Int32 × Int32 × v_J))) :=
(p_len S 20 w3).bind fun x_4 =>
if x_4 ≤ s14.2.2.1 then (
some (.inr (5, (s14.1, s14.2.1, s14.2.2.1, s14.2.2.2))))
else (
if s14.1 < (0 : Int32) then (
some (.inr (0, (s14.1, s14.2.1, s14.2.2.1, s14.2.2.2))))
else (
(p_len S 20 w3).bind fun x_7 =>
if x_7 ≤ s14.1 then (
some (.inr (0, (s14.1, s14.2.1, s14.2.2.1, s14.2.2.2))))
else (
if s14.2.1 < (0 : Int32) then (
some (.inr (0, (s14.1, s14.2.1, s14.2.2.1, s14.2.2.2))))
else (
if s14.2.1 < (32 : Int32) then (
(p_ix S 20 w3 s14.1).bind fun j_11 =>
p_let ((I w3 j_11) &&& (15 : Int32)) fun x_12 =>
(p_ix S 20 w3 s14.1).bind fun j_14 =>
p_let ((I w3 j_14) >>> ((4 : Int32) &&& 31)) fun x_15 =>
p_let (s14.1 + (1 : Int32)) fun x_17 =>
if x_12 = (1 : Int32) then (
(p_in 32 s14.2.1).bind fun j_57 =>
p_let (v_up s14.2.2.2 rs0 j_57 x_15.toInt64) fun J_58 =>
p_let (s14.2.1 + (1 : Int32)) fun x_60 =>
h_X7_reckon_J14_301 r0 rv0 rs0 S I F w3 J_58 x_17 x_60 s14.2.2.1)
else (
if x_12 = (2 : Int32) then (
if x_15 < (0 : Int32) then (
h_X7_reckon_J14_126 r0 rv0 rs0 S I F w3 s14.2.2.2 x_17 s14.2.1 s14.2.2.1 s14.2.1)
else (
if (36 : Int32) ≤ x_15 then (
h_X7_reckon_J14_126 r0 rv0 rs0 S I F w3 s14.2.2.2 x_17 s14.2.1 s14.2.2.1 s14.2.1)
else (
(p_in 36 x_15).bind fun j_56 =>
h_X7_reckon_J14_127 r0 rv0 rs0 S I F w3 s14.2.2.2 x_17 s14.2.1 s14.2.2.1 ((I rv0 j_56).toInt64) s14.2.1)))
else (
if (1 : Int32) ≤ s14.2.1 then (
if x_12 = (0 : Int32) then (
some (.inr (2, (x_17, s14.2.1, s14.2.2.1, s14.2.2.2))))
else (
if x_12 = (3 : Int32) then (
(p_in 32 (s14.2.1 - (1 : Int32))).bind fun j_45 =>
(p_in 32 (s14.2.1 - (1 : Int32))).bind fun j_46 =>
p_let (v_up s14.2.2.2 rs0 j_46 ((1 : Int64) - (s14.2.2.2 rs0 j_45))) fun J_47 =>
h_X7_reckon_J14_301 r0 rv0 rs0 S I F w3 J_47 x_17 s14.2.1 s14.2.2.1)
else (
if x_12 = (4 : Int32) then (
h_X7_reckon_J14_200 r0 rv0 rs0 S I F w3 s14.2.2.2 x_17 s14.2.1 s14.2.2.1 x_12 x_15)
else (
if x_12 = (5 : Int32) then (
h_X7_reckon_J14_200 r0 rv0 rs0 S I F w3 s14.2.2.2 x_17 s14.2.1 s14.2.2.1 x_12 x_15)
else (
if (2 : Int32) ≤ s14.2.1 then (
p_let (s14.2.1 + (-1 : Int32)) fun x_34 =>
(p_in 32 (x_34 - (1 : Int32))).bind fun j_36 =>
(p_in 32 x_34).bind fun j_37 =>
(h_X7_join x_12 (s14.2.2.2 rs0 j_36) (s14.2.2.2 rs0 j_37)).bind fun r_38 =>
(p_in 32 (x_34 - (1 : Int32))).bind fun j_40 =>
p_let (v_up s14.2.2.2 rs0 j_40 r_38) fun J_41 =>
(p_in 32 (x_34 - (1 : Int32))).bind fun j_43 =>
if (lg_cmp (J_41 rs0 j_43) (-1000000000000000 : Int64)) = (0 : Int32) then (
some (.inr (4, (x_17, x_34, s14.2.2.1, J_41))))
else (
h_X7_reckon_J14_301 r0 rv0 rs0 S I F w3 J_41 x_17 x_34 s14.2.2.1))
else (
some (.inr (3, (x_17, s14.2.1, s14.2.2.1, s14.2.2.2)))))))))
else (
some (.inr (1, (x_17, s14.2.1, s14.2.2.1, s14.2.2.2)))))))
else (
some (.inr (0, (s14.1, s14.2.1, s14.2.2.1, s14.2.2.2))))))))
set_option maxHeartbeats 4000000 in
set_option maxRecDepth 100000 in
theorem s_X7_reckon_B14 {S : v_S} {F : v_F} (hS : p_SS S) (hF : p_FF F) {r0 : Nat} {rv0 : Nat} {rs0 : Nat} (hr0 : p_Rk S F r0 rv0 rs0) (I : v_I) (w3 : Nat) : f_X7_reckon_B14 S I F r0 w3 = h_X7_reckon_B14 r0 rv0 rs0 S I F w3 := by
  funext s14
  unfold f_X7_reckon_B14 h_X7_reckon_B14
  simp only [p_bs, p_Rk_ob hr0, p_Rk_v hr0, p_Rk_s hr0, p_Rk_iv hr0, p_Rk_is hr0, s_X7_join, s_X7_reckon_J14_301 hS hF hr0, s_X7_reckon_J14_220 hS hF hr0, s_X7_reckon_J14_200 hS hF hr0, s_X7_reckon_J14_127 hS hF hr0, s_X7_reckon_J14_126 hS hF hr0]
def h_X7_reckon (S : v_S) (I : v_I) (J : v_J) (F : v_F) (r0 : Nat) (rv0 : Nat) (rs0 : Nat) (p1 : Nat) (p2 : Int32) : Option (Int64 × v_J) :=
(p_ob S 8 p1).bind fun _ =>
(F p1 8).bind fun a_2 =>
(v_loop (h_X7_reckon_B14 r0 rv0 rs0 S I F a_2) FU (p2, (0 : Int32), (0 : Int32), J)).bind fun q_62 =>
if q_62.1 = 0 then (
some ((-1000000000000000 : Int64), q_62.2.2.2.2))
else if q_62.1 = 1 then (
some ((-1000000000000000 : Int64), q_62.2.2.2.2))
else if q_62.1 = 2 then (
(p_in 32 (q_62.2.2.1 - (1 : Int32))).bind fun j_64 =>
some (q_62.2.2.2.2 rs0 j_64, q_62.2.2.2.2))
else if q_62.1 = 3 then (
some ((-1000000000000000 : Int64), q_62.2.2.2.2))
else if q_62.1 = 4 then (
some ((-1000000000000000 : Int64), q_62.2.2.2.2))
else (
some ((-1000000000000000 : Int64), q_62.2.2.2.2))
set_option maxHeartbeats 4000000 in
set_option maxRecDepth 100000 in
theorem s_X7_reckon {S : v_S} {F : v_F} (hS : p_SS S) (hF : p_FF F) {r0 : Nat} {rv0 : Nat} {rs0 : Nat} (hr0 : p_Rk S F r0 rv0 rs0) (I : v_I) (J : v_J) (p1 : Nat) (p2 : Int32) : f_X7_reckon S I J F r0 p1 p2 = h_X7_reckon S I J F r0 rv0 rs0 p1 p2 := by
  unfold f_X7_reckon h_X7_reckon
  simp only [p_bs, p_Rk_ob hr0, p_Rk_v hr0, p_Rk_s hr0, p_Rk_iv hr0, p_Rk_is hr0, s_X7_join, s_X7_reckon_J14_301 hS hF hr0, s_X7_reckon_J14_220 hS hF hr0, s_X7_reckon_J14_200 hS hF hr0, s_X7_reckon_J14_127 hS hF hr0, s_X7_reckon_J14_126 hS hF hr0, s_X7_reckon_B14 hS hF hr0]

def h_X1_told_J14_110 (S : v_S) (I : v_I) (F : v_F) (w1 : Option Nat) (w2 : Int32) (w3 : Int32) (J : v_J) (y4 : Int32) : Option ((Int32 × v_J) ⊕ (Nat × (Int32 × v_J × Int64))) :=
p_let (y4 + (-1 : Int32)) fun x_14 =>
some (.inl (x_14, J))
set_option maxHeartbeats 4000000 in
set_option maxRecDepth 100000 in
theorem s_X1_told_J14_110 {S : v_S} {F : v_F} (hS : p_SS S) (hF : p_FF F) (I : v_I) (w1 : Option Nat) (w2 : Int32) (w3 : Int32) (J : v_J) (y4 : Int32) : f_X1_told_J14_110 S I F 14 w1 w2 w3 J y4 = h_X1_told_J14_110 S I F w1 w2 w3 J y4 := by
  unfold f_X1_told_J14_110 h_X1_told_J14_110
  simp only [p_bs, p_obS hS (a := 14) (kd := 1) rfl, p_FS hF (a := 14) (i := 0) (b := 15) (by decide), s_X7_reckon hS hF (p_RkC hS hF 15 16 17 rfl rfl rfl (by decide) (by decide)), p_obS hS (a := 15) (kd := 7) rfl]
def h_X1_told_J14_85 (S : v_S) (I : v_I) (F : v_F) (w1 : Option Nat) (w2 : Int32) (w3 : Int32) (J : v_J) (y4 : Int32) (z0 : Int64) : Option ((Int32 × v_J) ⊕ (Nat × (Int32 × v_J × Int64))) :=
if (lg_cmp z0 (-1000000000000000 : Int64)) = (0 : Int32) then (
h_X1_told_J14_110 S I F w1 w2 w3 J y4)
else (
some (.inr (0, (y4, J, z0))))
set_option maxHeartbeats 4000000 in
set_option maxRecDepth 100000 in
theorem s_X1_told_J14_85 {S : v_S} {F : v_F} (hS : p_SS S) (hF : p_FF F) (I : v_I) (w1 : Option Nat) (w2 : Int32) (w3 : Int32) (J : v_J) (y4 : Int32) (z0 : Int64) : f_X1_told_J14_85 S I F 14 w1 w2 w3 J y4 z0 = h_X1_told_J14_85 S I F w1 w2 w3 J y4 z0 := by
  unfold f_X1_told_J14_85 h_X1_told_J14_85
  simp only [p_bs, p_obS hS (a := 14) (kd := 1) rfl, p_FS hF (a := 14) (i := 0) (b := 15) (by decide), s_X7_reckon hS hF (p_RkC hS hF 15 16 17 rfl rfl rfl (by decide) (by decide)), p_obS hS (a := 15) (kd := 7) rfl, s_X1_told_J14_110 hS hF]
def h_X1_told_J14_61 (S : v_S) (I : v_I) (F : v_F) (w1 : Option Nat) (w2 : Int32) (w3 : Int32) (J : v_J) (y4 : Int32) : Option ((Int32 × v_J) ⊕ (Nat × (Int32 × v_J × Int64))) :=
if w2 = (2 : Int32) then (
h_X1_told_J14_85 S I F w1 w2 w3 J y4 (1 : Int64))
else (
(w1).bind fun a_21 =>
(p_ob S 8 a_21).bind fun _ =>
(F a_21 4).bind fun a_24 =>
(p_ix S 20 a_24 y4).bind fun j_26 =>
(h_X7_reckon S I J F 15 16 17 a_21 (I a_24 j_26)).bind fun r_27 =>
h_X1_told_J14_85 S I F w1 w2 w3 r_27.2 y4 r_27.1)
set_option maxHeartbeats 4000000 in
set_option maxRecDepth 100000 in
theorem s_X1_told_J14_61 {S : v_S} {F : v_F} (hS : p_SS S) (hF : p_FF F) (I : v_I) (w1 : Option Nat) (w2 : Int32) (w3 : Int32) (J : v_J) (y4 : Int32) : f_X1_told_J14_61 S I F 14 w1 w2 w3 J y4 = h_X1_told_J14_61 S I F w1 w2 w3 J y4 := by
  unfold f_X1_told_J14_61 h_X1_told_J14_61
  simp only [p_bs, p_obS hS (a := 14) (kd := 1) rfl, p_FS hF (a := 14) (i := 0) (b := 15) (by decide), s_X7_reckon hS hF (p_RkC hS hF 15 16 17 rfl rfl rfl (by decide) (by decide)), p_obS hS (a := 15) (kd := 7) rfl, s_X1_told_J14_110 hS hF, s_X1_told_J14_85 hS hF]
def h_X1_told_B14 (S : v_S) (I : v_I) (F : v_F) (w1 : Option Nat) (w2 : Int32) (w3 : Int32) (s14 : Int32 × v_J) : Option ((Int32 × v_J) ⊕ (Nat × (Int32 × v_J × Int64))) :=
if s14.1 < (0 : Int32) then (
some (.inr (1, (s14.1, s14.2, (0 : Int64)))))
else (
(w1).bind fun a_7 =>
(p_ob S 8 a_7).bind fun _ =>
(F a_7 3).bind fun a_10 =>
(p_ix S 20 a_10 s14.1).bind fun j_12 =>
if (I a_10 j_12) = w2 then (
(F a_7 6).bind fun a_16 =>
(p_ix S 20 a_16 s14.1).bind fun j_18 =>
if (I a_16 j_18) = (-1 : Int32) then (
h_X1_told_J14_61 S I F w1 w2 w3 s14.2 s14.1)
else (
(F a_7 6).bind fun a_30 =>
(p_ix S 20 a_30 s14.1).bind fun j_32 =>
(h_X7_reckon S I s14.2 F 15 16 17 a_7 (I a_30 j_32)).bind fun r_33 =>
if (lg_cmp r_33.1 (1 : Int64)) = (0 : Int32) then (
h_X1_told_J14_61 S I F w1 w2 w3 r_33.2 s14.1)
else (
h_X1_told_J14_110 S I F w1 w2 w3 r_33.2 s14.1)))
else (
h_X1_told_J14_110 S I F w1 w2 w3 s14.2 s14.1))
set_option maxHeartbeats 4000000 in
set_option maxRecDepth 100000 in
theorem s_X1_told_B14 {S : v_S} {F : v_F} (hS : p_SS S) (hF : p_FF F) (I : v_I) (w1 : Option Nat) (w2 : Int32) (w3 : Int32) : f_X1_told_B14 S I F 14 w1 w2 w3 = h_X1_told_B14 S I F w1 w2 w3 := by
  funext s14
  unfold f_X1_told_B14 h_X1_told_B14
  simp only [p_bs, p_obS hS (a := 14) (kd := 1) rfl, p_FS hF (a := 14) (i := 0) (b := 15) (by decide), s_X7_reckon hS hF (p_RkC hS hF 15 16 17 rfl rfl rfl (by decide) (by decide)), p_obS hS (a := 15) (kd := 7) rfl, s_X1_told_J14_110 hS hF, s_X1_told_J14_85 hS hF, s_X1_told_J14_61 hS hF]
def h_X1_told (S : v_S) (I : v_I) (J : v_J) (F : v_F) (p1 : Option Nat) (p2 : Int32) (p3 : Int32) : Option (Int32 × v_J) :=
p_nul p1 (
some (p3, J)) (fun a_1 =>
(p_ob S 8 a_1).bind fun _ =>
p_let ((I a_1 0) - (1 : Int32)) fun x_4 =>
(v_loop (h_X1_told_B14 S I F (some a_1) p2 p3) FU (x_4, J)).bind fun q_36 =>
if q_36.1 = 0 then (
some ((p_maxL (0 : Int64) (p_minL q_36.2.2.2 (9 : Int64))).toInt32, q_36.2.2.1))
else (
some (p3, q_36.2.2.1)))
set_option maxHeartbeats 4000000 in
set_option maxRecDepth 100000 in
theorem s_X1_told {S : v_S} {F : v_F} (hS : p_SS S) (hF : p_FF F) (I : v_I) (J : v_J) (p1 : Option Nat) (p2 : Int32) (p3 : Int32) : f_X1_told S I J F 14 p1 p2 p3 = h_X1_told S I J F p1 p2 p3 := by
  unfold f_X1_told h_X1_told
  simp only [p_bs, p_obS hS (a := 14) (kd := 1) rfl, p_FS hF (a := 14) (i := 0) (b := 15) (by decide), s_X7_reckon hS hF (p_RkC hS hF 15 16 17 rfl rfl rfl (by decide) (by decide)), p_obS hS (a := 15) (kd := 7) rfl, s_X1_told_J14_110 hS hF, s_X1_told_J14_85 hS hF, s_X1_told_J14_61 hS hF, s_X1_told_B14 hS hF]

def h_X1_passMinute_J24_163 (m2 : Nat) (mw2 : Nat) (ms2 : Nat) (S : v_S) (F : v_F) (w3 : Option Nat) (w4 : Int32) (I : v_I) (J : v_J) (y5 : Int32) (y7 : Int32) (z0 : Int32) (z1 : Int32) : Option ((Int32 × Int32 × Int32 × v_I × v_J) ⊕ (Int32 × Int32 × Int32 × v_I × v_J)) :=
p_let (z1 ||| z0) fun x_26 =>
p_let (y7 + (1 : Int32)) fun x_28 =>
some (.inl (y5, x_26, x_28, I, J))
set_option maxHeartbeats 4000000 in
set_option maxRecDepth 100000 in
theorem s_X1_passMinute_J24_163 {S : v_S} {F : v_F} (hS : p_SS S) (hF : p_FF F) {m2 : Nat} {mw2 : Nat} {ms2 : Nat} (hm2 : p_Mo S F m2 mw2 ms2) (w3 : Option Nat) (w4 : Int32) (I : v_I) (J : v_J) (y5 : Int32) (y7 : Int32) (z0 : Int32) (z1 : Int32) : f_X1_passMinute_J24_163 S F 14 1 m2 w3 w4 I J y5 y7 z0 z1 = h_X1_passMinute_J24_163 m2 mw2 ms2 S F w3 w4 I J y5 y7 z0 z1 := by
  unfold f_X1_passMinute_J24_163 h_X1_passMinute_J24_163
  simp only [p_bs, p_obS hS (a := 1) (kd := 0) rfl, s_X1_hear hS hF hm2, p_obS hS (a := 14) (kd := 1) rfl, p_Mo_ob hm2, p_Mo_w hm2, p_Mo_s hm2, p_Mo_iw hm2, p_Mo_is hm2, s_X3_isOpen hS hF hm2, p_FS hF (a := 14) (i := 0) (b := 15) (by decide), p_obS hS (a := 15) (kd := 7) rfl, p_FS hF (a := 15) (i := 0) (b := 16) (by decide), p_ixS hS (kd := 20) (a := 16) (n := 36) rfl, p_inL (n := 36) (k := 3) (i := (3 : Int32)) (by decide), s_X1_told hS hF, p_FS hF (a := 14) (i := 2) (b := 21) (by decide), p_ixS hS (kd := 20) (a := 21) (n := 8) rfl]
def h_X1_passMinute_J24_126 (m2 : Nat) (mw2 : Nat) (ms2 : Nat) (S : v_S) (F : v_F) (w3 : Option Nat) (w4 : Int32) (I : v_I) (J : v_J) (y6 : Int32) (y7 : Int32) (y8 : Int32) (z0 : Int32) (z1 : Int32) : Option ((Int32 × Int32 × Int32 × v_I × v_J) ⊕ (Int32 × Int32 × Int32 × v_I × v_J)) :=
p_let (z1 ||| z0) fun x_17 =>
(h_X1_told S I J F w3 (1 : Int32) y8).bind fun r_19 =>
(p_in 8 y7).bind fun j_21 =>
p_let (v_up I 21 j_21 r_19.1) fun I_22 =>
(p_in 8 y7).bind fun j_24 =>
if (I_22 21 j_24) = y8 then (
h_X1_passMinute_J24_163 m2 mw2 ms2 S F w3 w4 I_22 r_19.2 x_17 y7 (0 : Int32) y6)
else (
h_X1_passMinute_J24_163 m2 mw2 ms2 S F w3 w4 I_22 r_19.2 x_17 y7 (1 : Int32) y6)
set_option maxHeartbeats 4000000 in
set_option maxRecDepth 100000 in
theorem s_X1_passMinute_J24_126 {S : v_S} {F : v_F} (hS : p_SS S) (hF : p_FF F) {m2 : Nat} {mw2 : Nat} {ms2 : Nat} (hm2 : p_Mo S F m2 mw2 ms2) (w3 : Option Nat) (w4 : Int32) (I : v_I) (J : v_J) (y6 : Int32) (y7 : Int32) (y8 : Int32) (z0 : Int32) (z1 : Int32) : f_X1_passMinute_J24_126 S F 14 1 m2 w3 w4 I J y6 y7 y8 z0 z1 = h_X1_passMinute_J24_126 m2 mw2 ms2 S F w3 w4 I J y6 y7 y8 z0 z1 := by
  unfold f_X1_passMinute_J24_126 h_X1_passMinute_J24_126
  simp only [p_bs, p_obS hS (a := 1) (kd := 0) rfl, s_X1_hear hS hF hm2, p_obS hS (a := 14) (kd := 1) rfl, p_Mo_ob hm2, p_Mo_w hm2, p_Mo_s hm2, p_Mo_iw hm2, p_Mo_is hm2, s_X3_isOpen hS hF hm2, p_FS hF (a := 14) (i := 0) (b := 15) (by decide), p_obS hS (a := 15) (kd := 7) rfl, p_FS hF (a := 15) (i := 0) (b := 16) (by decide), p_ixS hS (kd := 20) (a := 16) (n := 36) rfl, p_inL (n := 36) (k := 3) (i := (3 : Int32)) (by decide), s_X1_told hS hF, p_FS hF (a := 14) (i := 2) (b := 21) (by decide), p_ixS hS (kd := 20) (a := 21) (n := 8) rfl, s_X1_passMinute_J24_163 hS hF hm2]
def h_X1_passMinute_J24_109 (m2 : Nat) (mw2 : Nat) (ms2 : Nat) (S : v_S) (F : v_F) (w3 : Option Nat) (w4 : Int32) (I : v_I) (J : v_J) (y5 : Int32) (y6 : Int32) (y7 : Int32) (y8 : Int32) (z0 : Int32) : Option ((Int32 × Int32 × Int32 × v_I × v_J) ⊕ (Int32 × Int32 × Int32 × v_I × v_J)) :=
if z0 = (0 : Int32) then (
h_X1_passMinute_J24_126 m2 mw2 ms2 S F w3 w4 I J y6 y7 y8 (0 : Int32) y5)
else (
h_X1_passMinute_J24_126 m2 mw2 ms2 S F w3 w4 I J y6 y7 y8 ((1 : Int32) <<< (y7 &&& 31)) y5)
set_option maxHeartbeats 4000000 in
set_option maxRecDepth 100000 in
theorem s_X1_passMinute_J24_109 {S : v_S} {F : v_F} (hS : p_SS S) (hF : p_FF F) {m2 : Nat} {mw2 : Nat} {ms2 : Nat} (hm2 : p_Mo S F m2 mw2 ms2) (w3 : Option Nat) (w4 : Int32) (I : v_I) (J : v_J) (y5 : Int32) (y6 : Int32) (y7 : Int32) (y8 : Int32) (z0 : Int32) : f_X1_passMinute_J24_109 S F 14 1 m2 w3 w4 I J y5 y6 y7 y8 z0 = h_X1_passMinute_J24_109 m2 mw2 ms2 S F w3 w4 I J y5 y6 y7 y8 z0 := by
  unfold f_X1_passMinute_J24_109 h_X1_passMinute_J24_109
  simp only [p_bs, p_obS hS (a := 1) (kd := 0) rfl, s_X1_hear hS hF hm2, p_obS hS (a := 14) (kd := 1) rfl, p_Mo_ob hm2, p_Mo_w hm2, p_Mo_s hm2, p_Mo_iw hm2, p_Mo_is hm2, s_X3_isOpen hS hF hm2, p_FS hF (a := 14) (i := 0) (b := 15) (by decide), p_obS hS (a := 15) (kd := 7) rfl, p_FS hF (a := 15) (i := 0) (b := 16) (by decide), p_ixS hS (kd := 20) (a := 16) (n := 36) rfl, p_inL (n := 36) (k := 3) (i := (3 : Int32)) (by decide), s_X1_told hS hF, p_FS hF (a := 14) (i := 2) (b := 21) (by decide), p_ixS hS (kd := 20) (a := 21) (n := 8) rfl, s_X1_passMinute_J24_163 hS hF hm2, s_X1_passMinute_J24_126 hS hF hm2]
def h_X1_passMinute_B24 (m2 : Nat) (mw2 : Nat) (ms2 : Nat) (S : v_S) (F : v_F) (w3 : Option Nat) (w4 : Int32) (s24 : Int32 × Int32 × Int32 × v_I × v_J) : Option ((Int32 × Int32 × Int32 × v_I × v_J) ⊕ (Int32 × Int32 × Int32 × v_I × v_J)) :=
if (s24.2.2.2.1 1 0) ≤ s24.2.2.1 then (
some (.inr (s24.1, s24.2.1, s24.2.2.1, s24.2.2.2.1, s24.2.2.2.2)))
else (
if (8 : Int32) ≤ s24.2.2.1 then (
some (.inr (s24.1, s24.2.1, s24.2.2.1, s24.2.2.2.1, s24.2.2.2.2)))
else (
(h_X1_hear S s24.2.2.2.1 F m2 mw2 ms2 s24.2.2.1).bind fun r_5 =>
(p_in 8 s24.2.2.1).bind fun j_7 =>
p_let (r_5 mw2 j_7) fun x_8 =>
(h_X3_isOpen S r_5 m2 mw2 ms2 s24.2.2.1).bind fun r_10 =>
if r_10 = (0 : Int32) then (
(h_X1_told S r_5 s24.2.2.2.2 F w3 (0 : Int32) x_8).bind fun r_13 =>
if (r_5 16 3) < r_13.1 then (
h_X1_passMinute_J24_109 m2 mw2 ms2 S F w3 w4 r_5 r_13.2 s24.1 s24.2.1 s24.2.2.1 x_8 (0 : Int32))
else (
h_X1_passMinute_J24_109 m2 mw2 ms2 S F w3 w4 r_5 r_13.2 s24.1 s24.2.1 s24.2.2.1 x_8 (1 : Int32)))
else (
(h_X1_told S r_5 s24.2.2.2.2 F w3 (2 : Int32) (0 : Int32)).bind fun r_30 =>
if r_30.1 = (0 : Int32) then (
h_X1_passMinute_J24_109 m2 mw2 ms2 S F w3 w4 r_5 r_30.2 s24.1 s24.2.1 s24.2.2.1 x_8 (1 : Int32))
else (
h_X1_passMinute_J24_109 m2 mw2 ms2 S F w3 w4 r_5 r_30.2 s24.1 s24.2.1 s24.2.2.1 x_8 (0 : Int32)))))
set_option maxHeartbeats 4000000 in
set_option maxRecDepth 100000 in
theorem s_X1_passMinute_B24 {S : v_S} {F : v_F} (hS : p_SS S) (hF : p_FF F) {m2 : Nat} {mw2 : Nat} {ms2 : Nat} (hm2 : p_Mo S F m2 mw2 ms2) (w3 : Option Nat) (w4 : Int32) : f_X1_passMinute_B24 S F 14 1 m2 w3 w4 = h_X1_passMinute_B24 m2 mw2 ms2 S F w3 w4 := by
  funext s24
  unfold f_X1_passMinute_B24 h_X1_passMinute_B24
  simp only [p_bs, p_obS hS (a := 1) (kd := 0) rfl, s_X1_hear hS hF hm2, p_obS hS (a := 14) (kd := 1) rfl, p_Mo_ob hm2, p_Mo_w hm2, p_Mo_s hm2, p_Mo_iw hm2, p_Mo_is hm2, s_X3_isOpen hS hF hm2, p_FS hF (a := 14) (i := 0) (b := 15) (by decide), p_obS hS (a := 15) (kd := 7) rfl, p_FS hF (a := 15) (i := 0) (b := 16) (by decide), p_ixS hS (kd := 20) (a := 16) (n := 36) rfl, p_inL (n := 36) (k := 3) (i := (3 : Int32)) (by decide), s_X1_told hS hF, p_FS hF (a := 14) (i := 2) (b := 21) (by decide), p_ixS hS (kd := 20) (a := 21) (n := 8) rfl, s_X1_passMinute_J24_163 hS hF hm2, s_X1_passMinute_J24_126 hS hF hm2, s_X1_passMinute_J24_109 hS hF hm2]
def h_X1_passMinute_B203 (m2 : Nat) (mw2 : Nat) (ms2 : Nat) (S : v_S) (F : v_F) (J : v_J) (w5 : Int32) (w6 : Int32) (s203 : Int32 × v_I) : Option ((Int32 × v_I) ⊕ (Int32 × v_I)) :=
if (s203.2 1 0) ≤ s203.1 then (
some (.inr (s203.1, s203.2)))
else (
if (8 : Int32) ≤ s203.1 then (
some (.inr (s203.1, s203.2)))
else (
(p_in 8 s203.1).bind fun j_42 =>
(p_in 8 s203.1).bind fun j_43 =>
p_let (v_up s203.2 mw2 j_43 (s203.2 21 j_42)) fun I_44 =>
(p_in 8 s203.1).bind fun j_46 =>
(p_in 8 s203.1).bind fun j_47 =>
p_let (v_up I_44 ms2 j_47 (p_min ((I_44 ms2 j_46) + (1 : Int32)) (99 : Int32))) fun I_48 =>
p_let (s203.1 + (1 : Int32)) fun x_50 =>
some (.inl (x_50, I_48))))
set_option maxHeartbeats 4000000 in
set_option maxRecDepth 100000 in
theorem s_X1_passMinute_B203 {S : v_S} {F : v_F} (hS : p_SS S) (hF : p_FF F) {m2 : Nat} {mw2 : Nat} {ms2 : Nat} (hm2 : p_Mo S F m2 mw2 ms2) (J : v_J) (w5 : Int32) (w6 : Int32) : f_X1_passMinute_B203 S F J 14 1 m2 w5 w6 = h_X1_passMinute_B203 m2 mw2 ms2 S F J w5 w6 := by
  funext s203
  unfold f_X1_passMinute_B203 h_X1_passMinute_B203
  simp only [p_bs, p_obS hS (a := 1) (kd := 0) rfl, s_X1_hear hS hF hm2, p_obS hS (a := 14) (kd := 1) rfl, p_Mo_ob hm2, p_Mo_w hm2, p_Mo_s hm2, p_Mo_iw hm2, p_Mo_is hm2, s_X3_isOpen hS hF hm2, p_FS hF (a := 14) (i := 0) (b := 15) (by decide), p_obS hS (a := 15) (kd := 7) rfl, p_FS hF (a := 15) (i := 0) (b := 16) (by decide), p_ixS hS (kd := 20) (a := 16) (n := 36) rfl, p_inL (n := 36) (k := 3) (i := (3 : Int32)) (by decide), s_X1_told hS hF, p_FS hF (a := 14) (i := 2) (b := 21) (by decide), p_ixS hS (kd := 20) (a := 21) (n := 8) rfl, s_X1_passMinute_J24_163 hS hF hm2, s_X1_passMinute_J24_126 hS hF hm2, s_X1_passMinute_J24_109 hS hF hm2, s_X1_passMinute_B24 hS hF hm2]
def h_X1_passMinute_J260 (m2 : Nat) (mw2 : Nat) (ms2 : Nat) (S : v_S) (F : v_F) (I : v_I) (J : v_J) (y5 : Int32) (y6 : Int32) : Option (Int32 × v_I × v_J) :=
p_let (v_up I m2 0 y5) fun I_54 =>
p_let (v_up I_54 m2 1 ((I_54 m2 1) + (1 : Int32))) fun I_56 =>
(p_bl y6).bind fun _ =>
some (y6, I_56, J)
set_option maxHeartbeats 4000000 in
set_option maxRecDepth 100000 in
theorem s_X1_passMinute_J260 {S : v_S} {F : v_F} (hS : p_SS S) (hF : p_FF F) {m2 : Nat} {mw2 : Nat} {ms2 : Nat} (hm2 : p_Mo S F m2 mw2 ms2) (I : v_I) (J : v_J) (y5 : Int32) (y6 : Int32) : f_X1_passMinute_J260 S F I J m2 y5 y6 = h_X1_passMinute_J260 m2 mw2 ms2 S F I J y5 y6 := by
  unfold f_X1_passMinute_J260 h_X1_passMinute_J260
  simp only [p_bs, p_obS hS (a := 1) (kd := 0) rfl, s_X1_hear hS hF hm2, p_obS hS (a := 14) (kd := 1) rfl, p_Mo_ob hm2, p_Mo_w hm2, p_Mo_s hm2, p_Mo_iw hm2, p_Mo_is hm2, s_X3_isOpen hS hF hm2, p_FS hF (a := 14) (i := 0) (b := 15) (by decide), p_obS hS (a := 15) (kd := 7) rfl, p_FS hF (a := 15) (i := 0) (b := 16) (by decide), p_ixS hS (kd := 20) (a := 16) (n := 36) rfl, p_inL (n := 36) (k := 3) (i := (3 : Int32)) (by decide), s_X1_told hS hF, p_FS hF (a := 14) (i := 2) (b := 21) (by decide), p_ixS hS (kd := 20) (a := 21) (n := 8) rfl, s_X1_passMinute_J24_163 hS hF hm2, s_X1_passMinute_J24_126 hS hF hm2, s_X1_passMinute_J24_109 hS hF hm2, s_X1_passMinute_B24 hS hF hm2, s_X1_passMinute_B203 hS hF hm2]
def h_X1_passMinute_J197 (m2 : Nat) (mw2 : Nat) (ms2 : Nat) (S : v_S) (F : v_F) (I : v_I) (J : v_J) (y5 : Int32) (z0 : Int32) (z1 : Int32) : Option (Int32 × v_I × v_J) :=
p_let (z1 ||| z0) fun x_38 =>
(v_loop (h_X1_passMinute_B203 m2 mw2 ms2 S F J y5 x_38) FU ((0 : Int32), I)).bind fun q_52 =>
h_X1_passMinute_J260 m2 mw2 ms2 S F q_52.2 J y5 x_38
set_option maxHeartbeats 4000000 in
set_option maxRecDepth 100000 in
theorem s_X1_passMinute_J197 {S : v_S} {F : v_F} (hS : p_SS S) (hF : p_FF F) {m2 : Nat} {mw2 : Nat} {ms2 : Nat} (hm2 : p_Mo S F m2 mw2 ms2) (I : v_I) (J : v_J) (y5 : Int32) (z0 : Int32) (z1 : Int32) : f_X1_passMinute_J197 S F I J 14 1 m2 y5 z0 z1 = h_X1_passMinute_J197 m2 mw2 ms2 S F I J y5 z0 z1 := by
  unfold f_X1_passMinute_J197 h_X1_passMinute_J197
  simp only [p_bs, p_obS hS (a := 1) (kd := 0) rfl, s_X1_hear hS hF hm2, p_obS hS (a := 14) (kd := 1) rfl, p_Mo_ob hm2, p_Mo_w hm2, p_Mo_s hm2, p_Mo_iw hm2, p_Mo_is hm2, s_X3_isOpen hS hF hm2, p_FS hF (a := 14) (i := 0) (b := 15) (by decide), p_obS hS (a := 15) (kd := 7) rfl, p_FS hF (a := 15) (i := 0) (b := 16) (by decide), p_ixS hS (kd := 20) (a := 16) (n := 36) rfl, p_inL (n := 36) (k := 3) (i := (3 : Int32)) (by decide), s_X1_told hS hF, p_FS hF (a := 14) (i := 2) (b := 21) (by decide), p_ixS hS (kd := 20) (a := 21) (n := 8) rfl, s_X1_passMinute_J24_163 hS hF hm2, s_X1_passMinute_J24_126 hS hF hm2, s_X1_passMinute_J24_109 hS hF hm2, s_X1_passMinute_B24 hS hF hm2, s_X1_passMinute_B203 hS hF hm2, s_X1_passMinute_J260 hS hF hm2]
def h_X1_passMinute_J172 (m2 : Nat) (mw2 : Nat) (ms2 : Nat) (S : v_S) (F : v_F) (I : v_I) (J : v_J) (y4 : Int32) (y5 : Int32) (y6 : Int32) : Option (Int32 × v_I × v_J) :=
p_let (y5 &&& (y4 ^^^ (-1 : Int32))) fun x_35 =>
if x_35 = (I m2 0) then (
h_X1_passMinute_J197 m2 mw2 ms2 S F I J x_35 (0 : Int32) y6)
else (
h_X1_passMinute_J197 m2 mw2 ms2 S F I J x_35 (1 : Int32) y6)
set_option maxHeartbeats 4000000 in
set_option maxRecDepth 100000 in
theorem s_X1_passMinute_J172 {S : v_S} {F : v_F} (hS : p_SS S) (hF : p_FF F) {m2 : Nat} {mw2 : Nat} {ms2 : Nat} (hm2 : p_Mo S F m2 mw2 ms2) (I : v_I) (J : v_J) (y4 : Int32) (y5 : Int32) (y6 : Int32) : f_X1_passMinute_J172 S F I J 14 1 m2 y4 y5 y6 = h_X1_passMinute_J172 m2 mw2 ms2 S F I J y4 y5 y6 := by
  unfold f_X1_passMinute_J172 h_X1_passMinute_J172
  simp only [p_bs, p_obS hS (a := 1) (kd := 0) rfl, s_X1_hear hS hF hm2, p_obS hS (a := 14) (kd := 1) rfl, p_Mo_ob hm2, p_Mo_w hm2, p_Mo_s hm2, p_Mo_iw hm2, p_Mo_is hm2, s_X3_isOpen hS hF hm2, p_FS hF (a := 14) (i := 0) (b := 15) (by decide), p_obS hS (a := 15) (kd := 7) rfl, p_FS hF (a := 15) (i := 0) (b := 16) (by decide), p_ixS hS (kd := 20) (a := 16) (n := 36) rfl, p_inL (n := 36) (k := 3) (i := (3 : Int32)) (by decide), s_X1_told hS hF, p_FS hF (a := 14) (i := 2) (b := 21) (by decide), p_ixS hS (kd := 20) (a := 21) (n := 8) rfl, s_X1_passMinute_J24_163 hS hF hm2, s_X1_passMinute_J24_126 hS hF hm2, s_X1_passMinute_J24_109 hS hF hm2, s_X1_passMinute_B24 hS hF hm2, s_X1_passMinute_B203 hS hF hm2, s_X1_passMinute_J260 hS hF hm2, s_X1_passMinute_J197 hS hF hm2]
def h_X1_passMinute_J19 (m2 : Nat) (mw2 : Nat) (ms2 : Nat) (S : v_S) (F : v_F) (I : v_I) (J : v_J) (y3 : Option Nat) (y4 : Int32) (y5 : Int32) (z0 : Int32) : Option (Int32 × v_I × v_J) :=
(v_loop (h_X1_passMinute_B24 m2 mw2 ms2 S F y3 y4) FU (y5, z0, (0 : Int32), I, J)).bind fun q_33 =>
h_X1_passMinute_J172 m2 mw2 ms2 S F q_33.2.2.2.1 q_33.2.2.2.2 y4 q_33.1 q_33.2.1
set_option maxHeartbeats 4000000 in
set_option maxRecDepth 100000 in
theorem s_X1_passMinute_J19 {S : v_S} {F : v_F} (hS : p_SS S) (hF : p_FF F) {m2 : Nat} {mw2 : Nat} {ms2 : Nat} (hm2 : p_Mo S F m2 mw2 ms2) (I : v_I) (J : v_J) (y3 : Option Nat) (y4 : Int32) (y5 : Int32) (z0 : Int32) : f_X1_passMinute_J19 S F I J 14 1 m2 y3 y4 y5 z0 = h_X1_passMinute_J19 m2 mw2 ms2 S F I J y3 y4 y5 z0 := by
  unfold f_X1_passMinute_J19 h_X1_passMinute_J19
  simp only [p_bs, p_obS hS (a := 1) (kd := 0) rfl, s_X1_hear hS hF hm2, p_obS hS (a := 14) (kd := 1) rfl, p_Mo_ob hm2, p_Mo_w hm2, p_Mo_s hm2, p_Mo_iw hm2, p_Mo_is hm2, s_X3_isOpen hS hF hm2, p_FS hF (a := 14) (i := 0) (b := 15) (by decide), p_obS hS (a := 15) (kd := 7) rfl, p_FS hF (a := 15) (i := 0) (b := 16) (by decide), p_ixS hS (kd := 20) (a := 16) (n := 36) rfl, p_inL (n := 36) (k := 3) (i := (3 : Int32)) (by decide), s_X1_told hS hF, p_FS hF (a := 14) (i := 2) (b := 21) (by decide), p_ixS hS (kd := 20) (a := 21) (n := 8) rfl, s_X1_passMinute_J24_163 hS hF hm2, s_X1_passMinute_J24_126 hS hF hm2, s_X1_passMinute_J24_109 hS hF hm2, s_X1_passMinute_B24 hS hF hm2, s_X1_passMinute_B203 hS hF hm2, s_X1_passMinute_J260 hS hF hm2, s_X1_passMinute_J197 hS hF hm2, s_X1_passMinute_J172 hS hF hm2]
def h_X1_passMinute_J18 (m2 : Nat) (mw2 : Nat) (ms2 : Nat) (S : v_S) (F : v_F) (I : v_I) (J : v_J) (y3 : Option Nat) (y4 : Int32) (y5 : Int32) : Option (Int32 × v_I × v_J) :=
h_X1_passMinute_J19 m2 mw2 ms2 S F I J y3 y4 y5 (0 : Int32)
set_option maxHeartbeats 4000000 in
set_option maxRecDepth 100000 in
theorem s_X1_passMinute_J18 {S : v_S} {F : v_F} (hS : p_SS S) (hF : p_FF F) {m2 : Nat} {mw2 : Nat} {ms2 : Nat} (hm2 : p_Mo S F m2 mw2 ms2) (I : v_I) (J : v_J) (y3 : Option Nat) (y4 : Int32) (y5 : Int32) : f_X1_passMinute_J18 S F I J 14 1 m2 y3 y4 y5 = h_X1_passMinute_J18 m2 mw2 ms2 S F I J y3 y4 y5 := by
  unfold f_X1_passMinute_J18 h_X1_passMinute_J18
  simp only [p_bs, p_obS hS (a := 1) (kd := 0) rfl, s_X1_hear hS hF hm2, p_obS hS (a := 14) (kd := 1) rfl, p_Mo_ob hm2, p_Mo_w hm2, p_Mo_s hm2, p_Mo_iw hm2, p_Mo_is hm2, s_X3_isOpen hS hF hm2, p_FS hF (a := 14) (i := 0) (b := 15) (by decide), p_obS hS (a := 15) (kd := 7) rfl, p_FS hF (a := 15) (i := 0) (b := 16) (by decide), p_ixS hS (kd := 20) (a := 16) (n := 36) rfl, p_inL (n := 36) (k := 3) (i := (3 : Int32)) (by decide), s_X1_told hS hF, p_FS hF (a := 14) (i := 2) (b := 21) (by decide), p_ixS hS (kd := 20) (a := 21) (n := 8) rfl, s_X1_passMinute_J24_163 hS hF hm2, s_X1_passMinute_J24_126 hS hF hm2, s_X1_passMinute_J24_109 hS hF hm2, s_X1_passMinute_B24 hS hF hm2, s_X1_passMinute_B203 hS hF hm2, s_X1_passMinute_J260 hS hF hm2, s_X1_passMinute_J197 hS hF hm2, s_X1_passMinute_J172 hS hF hm2, s_X1_passMinute_J19 hS hF hm2]
def h_X1_passMinute (S : v_S) (I : v_I) (J : v_J) (F : v_F) (m2 : Nat) (mw2 : Nat) (ms2 : Nat) (p3 : Option Nat) (p4 : Int32) : Option (Int32 × v_I × v_J) :=
p_nul p3 (
h_X1_passMinute_J18 m2 mw2 ms2 S F I J none p4 (0 : Int32)) (fun a_1 =>
(p_ob S 8 a_1).bind fun _ =>
if (I a_1 2) = (0 : Int32) then (
h_X1_passMinute_J18 m2 mw2 ms2 S F I J (some a_1) p4 (0 : Int32))
else (
h_X1_passMinute_J19 m2 mw2 ms2 S F I J (some a_1) p4 (0 : Int32) (1 : Int32)))
set_option maxHeartbeats 4000000 in
set_option maxRecDepth 100000 in
theorem s_X1_passMinute {S : v_S} {F : v_F} (hS : p_SS S) (hF : p_FF F) {m2 : Nat} {mw2 : Nat} {ms2 : Nat} (hm2 : p_Mo S F m2 mw2 ms2) (I : v_I) (J : v_J) (p3 : Option Nat) (p4 : Int32) : f_X1_passMinute S I J F 14 1 m2 p3 p4 = h_X1_passMinute S I J F m2 mw2 ms2 p3 p4 := by
  unfold f_X1_passMinute h_X1_passMinute
  simp only [p_bs, p_obS hS (a := 1) (kd := 0) rfl, s_X1_hear hS hF hm2, p_obS hS (a := 14) (kd := 1) rfl, p_Mo_ob hm2, p_Mo_w hm2, p_Mo_s hm2, p_Mo_iw hm2, p_Mo_is hm2, s_X3_isOpen hS hF hm2, p_FS hF (a := 14) (i := 0) (b := 15) (by decide), p_obS hS (a := 15) (kd := 7) rfl, p_FS hF (a := 15) (i := 0) (b := 16) (by decide), p_ixS hS (kd := 20) (a := 16) (n := 36) rfl, p_inL (n := 36) (k := 3) (i := (3 : Int32)) (by decide), s_X1_told hS hF, p_FS hF (a := 14) (i := 2) (b := 21) (by decide), p_ixS hS (kd := 20) (a := 21) (n := 8) rfl, s_X1_passMinute_J24_163 hS hF hm2, s_X1_passMinute_J24_126 hS hF hm2, s_X1_passMinute_J24_109 hS hF hm2, s_X1_passMinute_B24 hS hF hm2, s_X1_passMinute_B203 hS hF hm2, s_X1_passMinute_J260 hS hF hm2, s_X1_passMinute_J197 hS hF hm2, s_X1_passMinute_J172 hS hF hm2, s_X1_passMinute_J19 hS hF hm2, s_X1_passMinute_J18 hS hF hm2]

def h_X1_openBehind_B18 (S : v_S) (F : v_F) (w3 : Int32) (w4 : Option Nat) (s18 : Int32 × Int32 × v_I × v_J) : Option ((Int32 × Int32 × v_I × v_J) ⊕ (Int32 × Int32 × v_I × v_J)) :=
if w3 ≤ s18.2.1 then (
some (.inr (s18.1, s18.2.1, s18.2.2.1, s18.2.2.2)))
else (
if s18.1 = (0 : Int32) then (
some (.inr (s18.1, s18.2.1, s18.2.2.1, s18.2.2.2)))
else (
(h_X1_passMinute S s18.2.2.1 s18.2.2.2 F 18 19 20 w4 (0 : Int32)).bind fun r_7 =>
p_let (s18.2.1 + (1 : Int32)) fun x_9 =>
some (.inl (r_7.1, x_9, r_7.2.1, r_7.2.2))))
set_option maxHeartbeats 4000000 in
set_option maxRecDepth 100000 in
theorem s_X1_openBehind_B18 {S : v_S} {F : v_F} (hS : p_SS S) (hF : p_FF F) (w3 : Int32) (w4 : Option Nat) : f_X1_openBehind_B18 S F 14 1 w3 w4 = h_X1_openBehind_B18 S F w3 w4 := by
  funext s18
  unfold f_X1_openBehind_B18 h_X1_openBehind_B18
  simp only [p_bs, s_X1_begin hS hF, p_obS hS (a := 14) (kd := 1) rfl, s_X0_lawInForce hS hF, p_obS hS (a := 1) (kd := 0) rfl, p_FS hF (a := 14) (i := 1) (b := 18) (by decide), s_X1_passMinute hS hF (p_MoC hS hF 18 19 20 rfl rfl rfl (by decide) (by decide)), p_obS hS (a := 18) (kd := 3) rfl]
def h_X1_openBehind (S : v_S) (I : v_I) (J : v_J) (F : v_F) (p2 : Int32) (p3 : Int32) : Option (Int32 × v_I × v_J) :=
(h_X1_begin S I F p2).bind fun r_1 =>
(h_X0_lawInForce S r_1 F).bind fun r_3 =>
(v_loop (h_X1_openBehind_B18 S F p3 r_3) FU ((1 : Int32), (0 : Int32), r_1, J)).bind fun q_11 =>
some (q_11.2.2.1 18 0, q_11.2.2.1, q_11.2.2.2)
set_option maxHeartbeats 4000000 in
set_option maxRecDepth 100000 in
theorem s_X1_openBehind {S : v_S} {F : v_F} (hS : p_SS S) (hF : p_FF F) (I : v_I) (J : v_J) (p2 : Int32) (p3 : Int32) : f_X1_openBehind S I J F 14 1 p2 p3 = h_X1_openBehind S I J F p2 p3 := by
  unfold f_X1_openBehind h_X1_openBehind
  simp only [p_bs, s_X1_begin hS hF, p_obS hS (a := 14) (kd := 1) rfl, s_X0_lawInForce hS hF, p_obS hS (a := 1) (kd := 0) rfl, p_FS hF (a := 14) (i := 1) (b := 18) (by decide), s_X1_passMinute hS hF (p_MoC hS hF 18 19 20 rfl rfl rfl (by decide) (by decide)), p_obS hS (a := 18) (kd := 3) rfl, s_X1_openBehind_B18 hS hF]

def h_X1_ask (S : v_S) (I : v_I) (J : v_J) (F : v_F) (p2 : Int32) (p3 : Int32) : Option (Int32 × v_I × v_J) :=
(h_X0_has S I p2.toInt64).bind fun r_1 =>
if r_1 = (0 : Int32) then (
some ((-1 : Int32), I, J))
else (
(h_X0_lawInForce S I F).bind fun r_4 =>
(p_in 8 p2).bind fun j_6 =>
p_let (I 3 j_6) fun x_7 =>
(h_X1_hear S I F 2 3 4 p2).bind fun r_9 =>
if p3 = (5 : Int32) then (
(h_X1_told S r_9 J F r_4 (0 : Int32) x_7).bind fun r_11 =>
some (r_11.1, r_9, r_11.2))
else if p3 = (6 : Int32) then (
(h_X1_told S r_9 J F r_4 (1 : Int32) x_7).bind fun r_13 =>
some (r_13.1, r_9, r_13.2))
else if p3 = (7 : Int32) then (
(h_X1_told S r_9 J F r_4 (2 : Int32) (0 : Int32)).bind fun r_15 =>
some (r_15.1, r_9, r_15.2))
else if p3 = (8 : Int32) then (
(h_X1_openBehind S r_9 J F (r_9 2 0) (1 : Int32)).bind fun r_17 =>
some ((r_17.1 >>> (p2 &&& 31)) &&& (1 : Int32), r_17.2.1, r_17.2.2))
else (
some ((-1 : Int32), r_9, J)))
set_option maxHeartbeats 4000000 in
set_option maxRecDepth 100000 in
theorem s_X1_ask {S : v_S} {F : v_F} (hS : p_SS S) (hF : p_FF F) (I : v_I) (J : v_J) (p2 : Int32) (p3 : Int32) : f_X1_ask S I J F 14 1 p2 p3 = h_X1_ask S I J F p2 p3 := by
  unfold f_X1_ask h_X1_ask
  simp only [p_bs, s_X0_has hS hF, p_obS hS (a := 1) (kd := 0) rfl, s_X0_lawInForce hS hF, p_FS hF (a := 1) (i := 1) (b := 2) (by decide), p_obS hS (a := 2) (kd := 3) rfl, p_FS hF (a := 2) (i := 2) (b := 3) (by decide), p_ixS hS (kd := 20) (a := 3) (n := 8) rfl, s_X1_hear hS hF (p_MoC hS hF 2 3 4 rfl rfl rfl (by decide) (by decide)), p_obS hS (a := 14) (kd := 1) rfl, s_X1_told hS hF, s_X1_openBehind hS hF]

def h_X9_of (S : v_S) (I : v_I) (J : v_J) (F : v_F) (p1 : Int32) (p2 : Int32) : Option (Int32 × v_I × v_J) :=
(h_X0_has S I p1.toInt64).bind fun r_1 =>
if r_1 = (0 : Int32) then (
some ((-1 : Int32), I, J))
else (
if p2 = (0 : Int32) then (
(p_in 8 p1).bind fun j_4 =>
some (I 3 j_4, I, J))
else if p2 = (1 : Int32) then (
(p_in 8 p1).bind fun j_5 =>
some (I 5 j_5, I, J))
else if p2 = (2 : Int32) then (
(p_in 8 p1).bind fun j_6 =>
some (I 6 j_6, I, J))
else if p2 = (3 : Int32) then (
(h_X3_isOpen S I 2 3 4 p1).bind fun r_7 =>
if r_7 = (0 : Int32) then (
some ((0 : Int32), I, J))
else (
some ((1 : Int32), I, J)))
else if p2 = (4 : Int32) then (
(p_in 8 p1).bind fun j_10 =>
some (I 4 j_10, I, J))
else (
(h_X1_ask S I J F p1 p2).bind fun r_11 =>
some (r_11.1, r_11.2.1, r_11.2.2)))
set_option maxHeartbeats 4000000 in
set_option maxRecDepth 100000 in
theorem s_X9_of {S : v_S} {F : v_F} (hS : p_SS S) (hF : p_FF F) (I : v_I) (J : v_J) (p1 : Int32) (p2 : Int32) : f_X9_of S I J F 0 p1 p2 = h_X9_of S I J F p1 p2 := by
  unfold f_X9_of h_X9_of
  simp only [p_bs, p_obS hS (a := 0) (kd := 9) rfl, p_FS hF (a := 0) (i := 0) (b := 1) (by decide), s_X0_has hS hF, p_obS hS (a := 1) (kd := 0) rfl, p_FS hF (a := 1) (i := 1) (b := 2) (by decide), p_obS hS (a := 2) (kd := 3) rfl, p_FS hF (a := 2) (i := 2) (b := 3) (by decide), p_ixS hS (kd := 20) (a := 3) (n := 8) rfl, p_FS hF (a := 1) (i := 2) (b := 5) (by decide), p_ixS hS (kd := 20) (a := 5) (n := 8) rfl, p_FS hF (a := 1) (i := 3) (b := 6) (by decide), p_ixS hS (kd := 20) (a := 6) (n := 8) rfl, s_X3_isOpen hS hF (p_MoC hS hF 2 3 4 rfl rfl rfl (by decide) (by decide)), p_FS hF (a := 2) (i := 3) (b := 4) (by decide), p_ixS hS (kd := 20) (a := 4) (n := 8) rfl, p_FS hF (a := 0) (i := 3) (b := 14) (by decide), s_X1_ask hS hF, p_obS hS (a := 14) (kd := 1) rfl]

end sc00
