noncomputable section sc04
def h_X9_count_J46 (S : v_S) (I : v_I) (F : v_F) (y1 : Int32) : Option (Int32) :=
if y1 = (0 : Int32) then (
some (I 1 0))
else if y1 = (1 : Int32) then (
(h_X3_openMany S I 2 3 4).bind fun r_3 =>
some (r_3))
else if y1 = (2 : Int32) then (
some (I 1 7))
else if y1 = (3 : Int32) then (
some (I 1 10))
else if y1 = (4 : Int32) then (
some (I 11 0))
else if y1 = (5 : Int32) then (
some (I 0 8))
else if y1 = (6 : Int32) then (
some ((-1 : Int32)))
else if y1 = (7 : Int32) then (
some ((-1 : Int32)))
else if y1 = (8 : Int32) then (
some ((-1 : Int32)))
else if y1 = (9 : Int32) then (
some ((-1 : Int32)))
else if y1 = (10 : Int32) then (
some ((-1 : Int32)))
else if y1 = (11 : Int32) then (
some (I 1 12))
else (
some ((-1 : Int32)))
set_option maxHeartbeats 4000000 in
set_option maxRecDepth 100000 in
theorem s_X9_count_J46 {S : v_S} {F : v_F} (hS : p_SS S) (hF : p_FF F) (I : v_I) (y1 : Int32) : f_X9_count_J46 S I F 0 y1 = h_X9_count_J46 S I F y1 := by
  unfold f_X9_count_J46 h_X9_count_J46
  simp only [p_bs, p_obS hS (a := 0) (kd := 9) rfl, p_FS hF (a := 0) (i := 0) (b := 1) (by decide), p_obS hS (a := 1) (kd := 0) rfl, p_FS hF (a := 1) (i := 1) (b := 2) (by decide), s_X3_openMany hS hF (p_MoC hS hF 2 3 4 rfl rfl rfl (by decide) (by decide)), p_obS hS (a := 2) (kd := 3) rfl, p_FS hF (a := 0) (i := 2) (b := 11) (by decide), p_obS hS (a := 11) (kd := 4) rfl, s_X0_term hS hF, p_FS hF (a := 0) (i := 13) (b := 48) (by decide), p_ixS hS (kd := 20) (a := 48) (n := 5) rfl]
def h_X9_count_J22 (S : v_S) (I : v_I) (F : v_F) (y1 : Int32) : Option (Int32) :=
if y1 < (12 : Int32) then (
h_X9_count_J46 S I F y1)
else (
if (16 : Int32) ≤ y1 then (
h_X9_count_J46 S I F y1)
else (
(h_X0_term S I F (y1 - (12 : Int32))).bind fun r_18 =>
some (r_18)))
set_option maxHeartbeats 4000000 in
set_option maxRecDepth 100000 in
theorem s_X9_count_J22 {S : v_S} {F : v_F} (hS : p_SS S) (hF : p_FF F) (I : v_I) (y1 : Int32) : f_X9_count_J22 S I F 0 y1 = h_X9_count_J22 S I F y1 := by
  unfold f_X9_count_J22 h_X9_count_J22
  simp only [p_bs, p_obS hS (a := 0) (kd := 9) rfl, p_FS hF (a := 0) (i := 0) (b := 1) (by decide), p_obS hS (a := 1) (kd := 0) rfl, p_FS hF (a := 1) (i := 1) (b := 2) (by decide), s_X3_openMany hS hF (p_MoC hS hF 2 3 4 rfl rfl rfl (by decide) (by decide)), p_obS hS (a := 2) (kd := 3) rfl, p_FS hF (a := 0) (i := 2) (b := 11) (by decide), p_obS hS (a := 11) (kd := 4) rfl, s_X0_term hS hF, p_FS hF (a := 0) (i := 13) (b := 48) (by decide), p_ixS hS (kd := 20) (a := 48) (n := 5) rfl, s_X9_count_J46 hS hF]
def h_X9_count (S : v_S) (I : v_I) (F : v_F) (p1 : Int32) : Option (Int32) :=
if p1 < (6 : Int32) then (
h_X9_count_J22 S I F p1)
else (
if (11 : Int32) ≤ p1 then (
h_X9_count_J22 S I F p1)
else (
(p_in 5 (p1 - (6 : Int32))).bind fun j_21 =>
some (I 48 j_21)))
set_option maxHeartbeats 4000000 in
set_option maxRecDepth 100000 in
theorem s_X9_count {S : v_S} {F : v_F} (hS : p_SS S) (hF : p_FF F) (I : v_I) (p1 : Int32) : f_X9_count S I F 0 p1 = h_X9_count S I F p1 := by
  unfold f_X9_count h_X9_count
  simp only [p_bs, p_obS hS (a := 0) (kd := 9) rfl, p_FS hF (a := 0) (i := 0) (b := 1) (by decide), p_obS hS (a := 1) (kd := 0) rfl, p_FS hF (a := 1) (i := 1) (b := 2) (by decide), s_X3_openMany hS hF (p_MoC hS hF 2 3 4 rfl rfl rfl (by decide) (by decide)), p_obS hS (a := 2) (kd := 3) rfl, p_FS hF (a := 0) (i := 2) (b := 11) (by decide), p_obS hS (a := 11) (kd := 4) rfl, s_X0_term hS hF, p_FS hF (a := 0) (i := 13) (b := 48) (by decide), p_ixS hS (kd := 20) (a := 48) (n := 5) rfl, s_X9_count_J46 hS hF, s_X9_count_J22 hS hF]

def h_X9_status (S : v_S) (I : v_I) : Option (Int32) :=
some (I 0 14)
set_option maxHeartbeats 4000000 in
set_option maxRecDepth 100000 in
theorem s_X9_status {S : v_S} {F : v_F} (hS : p_SS S) (hF : p_FF F) (I : v_I) : f_X9_status S I 0 = h_X9_status S I := by
  unfold f_X9_status h_X9_status
  simp only [p_bs, p_obS hS (a := 0) (kd := 9) rfl]

end sc04
