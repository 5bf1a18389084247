noncomputable section sc02
def h_X6_addToken (S : v_S) (I : v_I) (F : v_F) (p1 : Int32) (p2 : Int32) : Option (v_I) :=
(p_in 401 (I 30 3)).bind fun j_1 =>
p_let (v_up I 38 j_1 p2) fun I_2 =>
(p_in 401 (I_2 30 3)).bind fun j_4 =>
p_let (v_up I_2 39 j_4 p1) fun I_5 =>
p_let (v_up I_5 30 3 ((I_5 30 3) + (1 : Int32))) fun I_7 =>
some (I_7)
set_option maxHeartbeats 4000000 in
set_option maxRecDepth 100000 in
theorem s_X6_addToken {S : v_S} {F : v_F} (hS : p_SS S) (hF : p_FF F) (I : v_I) (p1 : Int32) (p2 : Int32) : f_X6_addToken S I F 30 p1 p2 = h_X6_addToken S I F p1 p2 := by
  unfold f_X6_addToken h_X6_addToken
  simp only [p_bs, p_obS hS (a := 30) (kd := 6) rfl, p_FS hF (a := 30) (i := 1) (b := 38) (by decide), p_ixS hS (kd := 20) (a := 38) (n := 401) rfl, p_FS hF (a := 30) (i := 2) (b := 39) (by decide), p_ixS hS (kd := 20) (a := 39) (n := 401) rfl]

def h_X6_isDigit (p0 : Int32) : Option (Int32) :=
if p0 < (48 : Int32) then (
some ((0 : Int32)))
else (
if (57 : Int32) < p0 then (
some ((0 : Int32)))
else (
some ((1 : Int32))))
set_option maxHeartbeats 4000000 in
set_option maxRecDepth 100000 in
theorem s_X6_isDigit (p0 : Int32) : f_X6_isDigit p0 = h_X6_isDigit p0 := by
  unfold f_X6_isDigit h_X6_isDigit
  simp only [p_bs]

def h_X6_isLetter (p0 : Int32) : Option (Int32) :=
if p0 < (97 : Int32) then (
some ((0 : Int32)))
else (
if (122 : Int32) < p0 then (
some ((0 : Int32)))
else (
some ((1 : Int32))))
set_option maxHeartbeats 4000000 in
set_option maxRecDepth 100000 in
theorem s_X6_isLetter (p0 : Int32) : f_X6_isLetter p0 = h_X6_isLetter p0 := by
  unfold f_X6_isLetter h_X6_isLetter
  simp only [p_bs]

def h_X6_numberToken_B5 (S : v_S) (I : v_I) (w0 : Nat) (w2 : Int32) (s5 : Int32 × Int32) : Option ((Int32 × Int32) ⊕ (Int32 × Int32)) :=
if w2 ≤ s5.2 then (
some (.inr (s5.1, s5.2)))
else (
if (1000 : Int32) < s5.1 then (
some (.inr (s5.1, s5.2)))
else (
(p_ix S 20 w0 s5.2).bind fun j_3 =>
p_let (((s5.1 * (10 : Int32)) + (I w0 j_3)) - (48 : Int32)) fun x_4 =>
p_let (s5.2 + (1 : Int32)) fun x_6 =>
some (.inl (x_4, x_6))))
set_option maxHeartbeats 4000000 in
set_option maxRecDepth 100000 in
theorem s_X6_numberToken_B5 {S : v_S} {F : v_F} (hS : p_SS S) (hF : p_FF F) (I : v_I) (w0 : Nat) (w2 : Int32) : f_X6_numberToken_B5 S I w0 w2 = h_X6_numberToken_B5 S I w0 w2 := by
  funext s5
  unfold f_X6_numberToken_B5 h_X6_numberToken_B5
  simp only [p_bs]
def h_X6_numberToken_J37 (S : v_S) (I : v_I) (y3 : Int32) : Option (Int32) :=
if (1000 : Int32) < y3 then (
some ((-2 : Int32)))
else (
some ((1024 : Int32) + y3))
set_option maxHeartbeats 4000000 in
set_option maxRecDepth 100000 in
theorem s_X6_numberToken_J37 {S : v_S} {F : v_F} (hS : p_SS S) (hF : p_FF F) (I : v_I) (y3 : Int32) : f_X6_numberToken_J37 S I y3 = h_X6_numberToken_J37 S I y3 := by
  unfold f_X6_numberToken_J37 h_X6_numberToken_J37
  simp only [p_bs, s_X6_numberToken_B5 hS hF]
def h_X6_numberToken (S : v_S) (I : v_I) (p0 : Nat) (p1 : Int32) (p2 : Int32) : Option (Int32) :=
(v_loop (h_X6_numberToken_B5 S I p0 p2) FU ((0 : Int32), p1)).bind fun q_8 =>
h_X6_numberToken_J37 S I q_8.1
set_option maxHeartbeats 4000000 in
set_option maxRecDepth 100000 in
theorem s_X6_numberToken {S : v_S} {F : v_F} (hS : p_SS S) (hF : p_FF F) (I : v_I) (p0 : Nat) (p1 : Int32) (p2 : Int32) : f_X6_numberToken S I p0 p1 p2 = h_X6_numberToken S I p0 p1 p2 := by
  unfold f_X6_numberToken h_X6_numberToken
  simp only [p_bs, s_X6_numberToken_B5 hS hF, s_X6_numberToken_J37 hS hF]

def h_X6_isSpelledAt_B3 (S : v_S) (I : v_I) (w0 : Nat) (w1 : Int32) (w2 : Int32) (w3 : Int32) (s3 : Int32) : Option ((Int32) ⊕ (Nat × (Int32))) :=
if w3 ≤ s3 then (
some (.inr (1, s3)))
else (
(p_ix S 20 w0 ((w1 + s3) - w2)).bind fun j_2 =>
(p_wd s3).bind fun x_3 =>
if (I w0 j_2) = x_3 then (
p_let (s3 + (1 : Int32)) fun x_6 =>
some (.inl x_6))
else (
some (.inr (0, s3))))
set_option maxHeartbeats 4000000 in
set_option maxRecDepth 100000 in
theorem s_X6_isSpelledAt_B3 {S : v_S} {F : v_F} (hS : p_SS S) (hF : p_FF F) (I : v_I) (w0 : Nat) (w1 : Int32) (w2 : Int32) (w3 : Int32) : f_X6_isSpelledAt_B3 S I w0 w1 w2 w3 = h_X6_isSpelledAt_B3 S I w0 w1 w2 w3 := by
  funext s3
  unfold f_X6_isSpelledAt_B3 h_X6_isSpelledAt_B3
  simp only [p_bs]
def h_X6_isSpelledAt (S : v_S) (I : v_I) (p0 : Nat) (p1 : Int32) (p2 : Int32) (p3 : Int32) : Option (Int32) :=
(v_loop (h_X6_isSpelledAt_B3 S I p0 p1 p2 p3) FU p2).bind fun q_8 =>
if q_8.1 = 0 then (
some ((0 : Int32)))
else (
some ((1 : Int32)))
set_option maxHeartbeats 4000000 in
set_option maxRecDepth 100000 in
theorem s_X6_isSpelledAt {S : v_S} {F : v_F} (hS : p_SS S) (hF : p_FF F) (I : v_I) (p0 : Nat) (p1 : Int32) (p2 : Int32) (p3 : Int32) : f_X6_isSpelledAt S I p0 p1 p2 p3 = h_X6_isSpelledAt S I p0 p1 p2 p3 := by
  unfold f_X6_isSpelledAt h_X6_isSpelledAt
  simp only [p_bs, s_X6_isSpelledAt_B3 hS hF]

def h_X6_wordToken_J10_66 (S : v_S) (I : v_I) (w0 : Nat) (w1 : Int32) (w2 : Int32) (y3 : Int32) (y4 : Int32) (y5 : Int32) : Option ((Int32 × Int32 × Int32) ⊕ (Nat × (Int32 × Int32 × Int32))) :=
p_let (y5 + (1 : Int32)) fun x_5 =>
some (.inl (y3, y4, x_5))
set_option maxHeartbeats 4000000 in
set_option maxRecDepth 100000 in
theorem s_X6_wordToken_J10_66 {S : v_S} {F : v_F} (hS : p_SS S) (hF : p_FF F) (I : v_I) (w0 : Nat) (w1 : Int32) (w2 : Int32) (y3 : Int32) (y4 : Int32) (y5 : Int32) : f_X6_wordToken_J10_66 S I w0 w1 w2 y3 y4 y5 = h_X6_wordToken_J10_66 S I w0 w1 w2 y3 y4 y5 := by
  unfold f_X6_wordToken_J10_66 h_X6_wordToken_J10_66
  simp only [p_bs, s_X6_isSpelledAt hS hF]
def h_X6_wordToken_J10_57 (S : v_S) (I : v_I) (w0 : Nat) (w1 : Int32) (w2 : Int32) (y3 : Int32) (y5 : Int32) : Option ((Int32 × Int32 × Int32) ⊕ (Nat × (Int32 × Int32 × Int32))) :=
p_let (y3 + (1 : Int32)) fun x_8 =>
p_let (y5 + (1 : Int32)) fun x_10 =>
h_X6_wordToken_J10_66 S I w0 w1 w2 x_8 x_10 y5
set_option maxHeartbeats 4000000 in
set_option maxRecDepth 100000 in
theorem s_X6_wordToken_J10_57 {S : v_S} {F : v_F} (hS : p_SS S) (hF : p_FF F) (I : v_I) (w0 : Nat) (w1 : Int32) (w2 : Int32) (y3 : Int32) (y5 : Int32) : f_X6_wordToken_J10_57 S I w0 w1 w2 y3 y5 = h_X6_wordToken_J10_57 S I w0 w1 w2 y3 y5 := by
  unfold f_X6_wordToken_J10_57 h_X6_wordToken_J10_57
  simp only [p_bs, s_X6_isSpelledAt hS hF, s_X6_wordToken_J10_66 hS hF]
def h_X6_wordToken_B10 (S : v_S) (I : v_I) (w0 : Nat) (w1 : Int32) (w2 : Int32) (s10 : Int32 × Int32 × Int32) : Option ((Int32 × Int32 × Int32) ⊕ (Nat × (Int32 × Int32 × Int32))) :=
if (123 : Int32) ≤ s10.2.2 then (
some (.inr (1, (s10.1, s10.2.1, s10.2.2))))
else (
(p_wd s10.2.2).bind fun x_2 =>
if x_2 = (32 : Int32) then (
if (s10.2.2 - s10.2.1) = (w2 - w1) then (
(h_X6_isSpelledAt S I w0 w1 s10.2.1 s10.2.2).bind fun r_12 =>
if r_12 = (0 : Int32) then (
h_X6_wordToken_J10_57 S I w0 w1 w2 s10.1 s10.2.2)
else (
some (.inr (0, (s10.1, s10.2.1, s10.2.2)))))
else (
h_X6_wordToken_J10_57 S I w0 w1 w2 s10.1 s10.2.2))
else (
h_X6_wordToken_J10_66 S I w0 w1 w2 s10.1 s10.2.1 s10.2.2))
set_option maxHeartbeats 4000000 in
set_option maxRecDepth 100000 in
theorem s_X6_wordToken_B10 {S : v_S} {F : v_F} (hS : p_SS S) (hF : p_FF F) (I : v_I) (w0 : Nat) (w1 : Int32) (w2 : Int32) : f_X6_wordToken_B10 S I w0 w1 w2 = h_X6_wordToken_B10 S I w0 w1 w2 := by
  funext s10
  unfold f_X6_wordToken_B10 h_X6_wordToken_B10
  simp only [p_bs, s_X6_isSpelledAt hS hF, s_X6_wordToken_J10_66 hS hF, s_X6_wordToken_J10_57 hS hF]
def h_X6_wordToken (S : v_S) (I : v_I) (p0 : Nat) (p1 : Int32) (p2 : Int32) : Option (Int32) :=
(v_loop (h_X6_wordToken_B10 S I p0 p1 p2) FU ((256 : Int32), (0 : Int32), (0 : Int32))).bind fun q_15 =>
if q_15.1 = 0 then (
some (q_15.2.1))
else (
some ((-2 : Int32)))
set_option maxHeartbeats 4000000 in
set_option maxRecDepth 100000 in
theorem s_X6_wordToken {S : v_S} {F : v_F} (hS : p_SS S) (hF : p_FF F) (I : v_I) (p0 : Nat) (p1 : Int32) (p2 : Int32) : f_X6_wordToken S I p0 p1 p2 = h_X6_wordToken S I p0 p1 p2 := by
  unfold f_X6_wordToken h_X6_wordToken
  simp only [p_bs, s_X6_isSpelledAt hS hF, s_X6_wordToken_J10_66 hS hF, s_X6_wordToken_J10_57 hS hF, s_X6_wordToken_B10 hS hF]

def h_X6_splitTokens_J7_139 (S : v_S) (F : v_F) (w1 : Nat) (w2 : Int32) (I : v_I) (y3 : Int32) : Option ((Int32 × v_I) ⊕ (Int32 × v_I)) :=
some (.inl (y3, I))
set_option maxHeartbeats 4000000 in
set_option maxRecDepth 100000 in
theorem s_X6_splitTokens_J7_139 {S : v_S} {F : v_F} (hS : p_SS S) (hF : p_FF F) (w1 : Nat) (w2 : Int32) (I : v_I) (y3 : Int32) : f_X6_splitTokens_J7_139 S F 30 w1 w2 I y3 = h_X6_splitTokens_J7_139 S F w1 w2 I y3 := by
  unfold f_X6_splitTokens_J7_139 h_X6_splitTokens_J7_139
  simp only [p_bs, p_obS hS (a := 30) (kd := 6) rfl, s_X6_isLetter, s_X6_isDigit, s_X6_addToken hS hF, s_X6_numberToken hS hF, s_X6_wordToken hS hF, p_FS hF (a := 30) (i := 1) (b := 38) (by decide), p_ixS hS (kd := 20) (a := 38) (n := 401) rfl, p_FS hF (a := 30) (i := 2) (b := 39) (by decide), p_ixS hS (kd := 20) (a := 39) (n := 401) rfl]
def h_X6_splitTokens_B84 (S : v_S) (F : v_F) (I : v_I) (w1 : Nat) (w2 : Int32) (w4 : Int32) (s84 : Int32) : Option ((Int32) ⊕ (Int32)) :=
if w2 ≤ s84 then (
some (.inr s84))
else (
(p_ix S 20 w1 s84).bind fun j_21 =>
(h_X6_isDigit (I w1 j_21)).bind fun r_22 =>
if r_22 = (0 : Int32) then (
some (.inr s84))
else (
p_let (s84 + (1 : Int32)) fun x_25 =>
some (.inl x_25)))
set_option maxHeartbeats 4000000 in
set_option maxRecDepth 100000 in
theorem s_X6_splitTokens_B84 {S : v_S} {F : v_F} (hS : p_SS S) (hF : p_FF F) (I : v_I) (w1 : Nat) (w2 : Int32) (w4 : Int32) : f_X6_splitTokens_B84 S F I 30 w1 w2 w4 = h_X6_splitTokens_B84 S F I w1 w2 w4 := by
  funext s84
  unfold f_X6_splitTokens_B84 h_X6_splitTokens_B84
  simp only [p_bs, p_obS hS (a := 30) (kd := 6) rfl, s_X6_isLetter, s_X6_isDigit, s_X6_addToken hS hF, s_X6_numberToken hS hF, s_X6_wordToken hS hF, p_FS hF (a := 30) (i := 1) (b := 38) (by decide), p_ixS hS (kd := 20) (a := 38) (n := 401) rfl, p_FS hF (a := 30) (i := 2) (b := 39) (by decide), p_ixS hS (kd := 20) (a := 39) (n := 401) rfl, s_X6_splitTokens_J7_139 hS hF]
def h_X6_splitTokens_J7_104 (S : v_S) (F : v_F) (w1 : Nat) (w2 : Int32) (I : v_I) (y3 : Int32) (y4 : Int32) : Option ((Int32 × v_I) ⊕ (Int32 × v_I)) :=
(h_X6_numberToken S I w1 y4 y3).bind fun r_29 =>
(h_X6_addToken S I F y4 r_29).bind fun r_31 =>
h_X6_splitTokens_J7_139 S F w1 w2 r_31 y3
set_option maxHeartbeats 4000000 in
set_option maxRecDepth 100000 in
theorem s_X6_splitTokens_J7_104 {S : v_S} {F : v_F} (hS : p_SS S) (hF : p_FF F) (w1 : Nat) (w2 : Int32) (I : v_I) (y3 : Int32) (y4 : Int32) : f_X6_splitTokens_J7_104 S F 30 w1 w2 I y3 y4 = h_X6_splitTokens_J7_104 S F w1 w2 I y3 y4 := by
  unfold f_X6_splitTokens_J7_104 h_X6_splitTokens_J7_104
  simp only [p_bs, p_obS hS (a := 30) (kd := 6) rfl, s_X6_isLetter, s_X6_isDigit, s_X6_addToken hS hF, s_X6_numberToken hS hF, s_X6_wordToken hS hF, p_FS hF (a := 30) (i := 1) (b := 38) (by decide), p_ixS hS (kd := 20) (a := 38) (n := 401) rfl, p_FS hF (a := 30) (i := 2) (b := 39) (by decide), p_ixS hS (kd := 20) (a := 39) (n := 401) rfl, s_X6_splitTokens_J7_139 hS hF, s_X6_splitTokens_B84 hS hF]
def h_X6_splitTokens_B38 (S : v_S) (F : v_F) (I : v_I) (w1 : Nat) (w2 : Int32) (w4 : Int32) (s38 : Int32) : Option ((Int32) ⊕ (Int32)) :=
if w2 ≤ s38 then (
some (.inr s38))
else (
(p_ix S 20 w1 s38).bind fun j_34 =>
(h_X6_isLetter (I w1 j_34)).bind fun r_35 =>
if r_35 = (0 : Int32) then (
some (.inr s38))
else (
p_let (s38 + (1 : Int32)) fun x_38 =>
some (.inl x_38)))
set_option maxHeartbeats 4000000 in
set_option maxRecDepth 100000 in
theorem s_X6_splitTokens_B38 {S : v_S} {F : v_F} (hS : p_SS S) (hF : p_FF F) (I : v_I) (w1 : Nat) (w2 : Int32) (w4 : Int32) : f_X6_splitTokens_B38 S F I 30 w1 w2 w4 = h_X6_splitTokens_B38 S F I w1 w2 w4 := by
  funext s38
  unfold f_X6_splitTokens_B38 h_X6_splitTokens_B38
  simp only [p_bs, p_obS hS (a := 30) (kd := 6) rfl, s_X6_isLetter, s_X6_isDigit, s_X6_addToken hS hF, s_X6_numberToken hS hF, s_X6_wordToken hS hF, p_FS hF (a := 30) (i := 1) (b := 38) (by decide), p_ixS hS (kd := 20) (a := 38) (n := 401) rfl, p_FS hF (a := 30) (i := 2) (b := 39) (by decide), p_ixS hS (kd := 20) (a := 39) (n := 401) rfl, s_X6_splitTokens_J7_139 hS hF, s_X6_splitTokens_B84 hS hF, s_X6_splitTokens_J7_104 hS hF]
def h_X6_splitTokens_J7_58 (S : v_S) (F : v_F) (w1 : Nat) (w2 : Int32) (I : v_I) (y3 : Int32) (y4 : Int32) : Option ((Int32 × v_I) ⊕ (Int32 × v_I)) :=
(h_X6_wordToken S I w1 y4 y3).bind fun r_42 =>
(h_X6_addToken S I F y4 r_42).bind fun r_44 =>
h_X6_splitTokens_J7_139 S F w1 w2 r_44 y3
set_option maxHeartbeats 4000000 in
set_option maxRecDepth 100000 in
theorem s_X6_splitTokens_J7_58 {S : v_S} {F : v_F} (hS : p_SS S) (hF : p_FF F) (w1 : Nat) (w2 : Int32) (I : v_I) (y3 : Int32) (y4 : Int32) : f_X6_splitTokens_J7_58 S F 30 w1 w2 I y3 y4 = h_X6_splitTokens_J7_58 S F w1 w2 I y3 y4 := by
  unfold f_X6_splitTokens_J7_58 h_X6_splitTokens_J7_58
  simp only [p_bs, p_obS hS (a := 30) (kd := 6) rfl, s_X6_isLetter, s_X6_isDigit, s_X6_addToken hS hF, s_X6_numberToken hS hF, s_X6_wordToken hS hF, p_FS hF (a := 30) (i := 1) (b := 38) (by decide), p_ixS hS (kd := 20) (a := 38) (n := 401) rfl, p_FS hF (a := 30) (i := 2) (b := 39) (by decide), p_ixS hS (kd := 20) (a := 39) (n := 401) rfl, s_X6_splitTokens_J7_139 hS hF, s_X6_splitTokens_B84 hS hF, s_X6_splitTokens_J7_104 hS hF, s_X6_splitTokens_B38 hS hF]
def h_X6_splitTokens_B7 (S : v_S) (F : v_F) (w1 : Nat) (w2 : Int32) (s7 : Int32 × v_I) : Option ((Int32 × v_I) ⊕ (Int32 × v_I)) :=
if w2 ≤ s7.1 then (
some (.inr (s7.1, s7.2)))
else (
if (400 : Int32) ≤ (s7.2 30 3) then (
some (.inr (s7.1, s7.2)))
else (
p_let (s7.1 + (1 : Int32)) fun x_5 =>
(p_ix S 20 w1 s7.1).bind fun j_7 =>
(h_X6_isLetter (s7.2 w1 j_7)).bind fun r_8 =>
if r_8 = (0 : Int32) then (
(p_ix S 20 w1 s7.1).bind fun j_11 =>
(h_X6_isDigit (s7.2 w1 j_11)).bind fun r_12 =>
if r_12 = (0 : Int32) then (
(p_ix S 20 w1 s7.1).bind fun j_15 =>
if (s7.2 w1 j_15) = (32 : Int32) then (
h_X6_splitTokens_J7_139 S F w1 w2 s7.2 x_5)
else (
(p_ix S 20 w1 s7.1).bind fun j_17 =>
(h_X6_addToken S s7.2 F s7.1 (s7.2 w1 j_17)).bind fun r_18 =>
h_X6_splitTokens_J7_139 S F w1 w2 r_18 x_5))
else (
(v_loop (h_X6_splitTokens_B84 S F s7.2 w1 w2 s7.1) FU x_5).bind fun q_27 =>
h_X6_splitTokens_J7_104 S F w1 w2 s7.2 q_27 s7.1))
else (
(v_loop (h_X6_splitTokens_B38 S F s7.2 w1 w2 s7.1) FU x_5).bind fun q_40 =>
h_X6_splitTokens_J7_58 S F w1 w2 s7.2 q_40 s7.1)))
set_option maxHeartbeats 4000000 in
set_option maxRecDepth 100000 in
theorem s_X6_splitTokens_B7 {S : v_S} {F : v_F} (hS : p_SS S) (hF : p_FF F) (w1 : Nat) (w2 : Int32) : f_X6_splitTokens_B7 S F 30 w1 w2 = h_X6_splitTokens_B7 S F w1 w2 := by
  funext s7
  unfold f_X6_splitTokens_B7 h_X6_splitTokens_B7
  simp only [p_bs, p_obS hS (a := 30) (kd := 6) rfl, s_X6_isLetter, s_X6_isDigit, s_X6_addToken hS hF, s_X6_numberToken hS hF, s_X6_wordToken hS hF, p_FS hF (a := 30) (i := 1) (b := 38) (by decide), p_ixS hS (kd := 20) (a := 38) (n := 401) rfl, p_FS hF (a := 30) (i := 2) (b := 39) (by decide), p_ixS hS (kd := 20) (a := 39) (n := 401) rfl, s_X6_splitTokens_J7_139 hS hF, s_X6_splitTokens_B84 hS hF, s_X6_splitTokens_J7_104 hS hF, s_X6_splitTokens_B38 hS hF, s_X6_splitTokens_J7_58 hS hF]
def h_X6_splitTokens_J142 (S : v_S) (F : v_F) (I : v_I) (y2 : Int32) : Option (v_I) :=
(p_in 401 (I 30 3)).bind fun j_48 =>
p_let (v_up I 38 j_48 (-2 : Int32)) fun I_49 =>
(p_in 401 (I_49 30 3)).bind fun j_51 =>
p_let (v_up I_49 39 j_51 y2) fun I_52 =>
some (I_52)
set_option maxHeartbeats 4000000 in
set_option maxRecDepth 100000 in
theorem s_X6_splitTokens_J142 {S : v_S} {F : v_F} (hS : p_SS S) (hF : p_FF F) (I : v_I) (y2 : Int32) : f_X6_splitTokens_J142 S F I 30 y2 = h_X6_splitTokens_J142 S F I y2 := by
  unfold f_X6_splitTokens_J142 h_X6_splitTokens_J142
  simp only [p_bs, p_obS hS (a := 30) (kd := 6) rfl, s_X6_isLetter, s_X6_isDigit, s_X6_addToken hS hF, s_X6_numberToken hS hF, s_X6_wordToken hS hF, p_FS hF (a := 30) (i := 1) (b := 38) (by decide), p_ixS hS (kd := 20) (a := 38) (n := 401) rfl, p_FS hF (a := 30) (i := 2) (b := 39) (by decide), p_ixS hS (kd := 20) (a := 39) (n := 401) rfl, s_X6_splitTokens_J7_139 hS hF, s_X6_splitTokens_B84 hS hF, s_X6_splitTokens_J7_104 hS hF, s_X6_splitTokens_B38 hS hF, s_X6_splitTokens_J7_58 hS hF, s_X6_splitTokens_B7 hS hF]
def h_X6_splitTokens (S : v_S) (I : v_I) (F : v_F) (p1 : Nat) (p2 : Int32) : Option (v_I) :=
p_let (v_up I 30 3 (0 : Int32)) fun I_1 =>
(v_loop (h_X6_splitTokens_B7 S F p1 p2) FU ((0 : Int32), I_1)).bind fun q_46 =>
h_X6_splitTokens_J142 S F q_46.2 p2
set_option maxHeartbeats 4000000 in
set_option maxRecDepth 100000 in
theorem s_X6_splitTokens {S : v_S} {F : v_F} (hS : p_SS S) (hF : p_FF F) (I : v_I) (p1 : Nat) (p2 : Int32) : f_X6_splitTokens S I F 30 p1 p2 = h_X6_splitTokens S I F p1 p2 := by
  unfold f_X6_splitTokens h_X6_splitTokens
  simp only [p_bs, p_obS hS (a := 30) (kd := 6) rfl, s_X6_isLetter, s_X6_isDigit, s_X6_addToken hS hF, s_X6_numberToken hS hF, s_X6_wordToken hS hF, p_FS hF (a := 30) (i := 1) (b := 38) (by decide), p_ixS hS (kd := 20) (a := 38) (n := 401) rfl, p_FS hF (a := 30) (i := 2) (b := 39) (by decide), p_ixS hS (kd := 20) (a := 39) (n := 401) rfl, s_X6_splitTokens_J7_139 hS hF, s_X6_splitTokens_B84 hS hF, s_X6_splitTokens_J7_104 hS hF, s_X6_splitTokens_B38 hS hF, s_X6_splitTokens_J7_58 hS hF, s_X6_splitTokens_B7 hS hF, s_X6_splitTokens_J142 hS hF]

def h_X6_read_B76 (S : v_S) (F : v_F) (s76 : Int32 × Int32 × v_I) : Option ((Int32 × Int32 × v_I) ⊕ (Int32 × Int32 × v_I)) :=
if (400 : Int32) ≤ s76.2.1 then (
some (.inr (s76.1, s76.2.1, s76.2.2)))
else (
if s76.1 = (0 : Int32) then (
some (.inr (s76.1, s76.2.1, s76.2.2)))
else (
if (s76.2.2 30 5) = (59 : Int32) then (
(h_X6_nextToken S s76.2.2 F).bind fun r_26 =>
(h_X6_readClause S r_26 F).bind fun r_28 =>
p_let (s76.2.1 + (1 : Int32)) fun x_30 =>
some (.inl (r_28.1, x_30, r_28.2)))
else (
some (.inr (s76.1, s76.2.1, s76.2.2)))))
set_option maxHeartbeats 4000000 in
set_option maxRecDepth 100000 in
theorem s_X6_read_B76 {S : v_S} {F : v_F} (hS : p_SS S) (hF : p_FF F)  : f_X6_read_B76 S F 30 = h_X6_read_B76 S F := by
  funext s76
  unfold f_X6_read_B76 h_X6_read_B76
  simp only [p_bs, s_X6_splitTokens hS hF, p_obS hS (a := 30) (kd := 6) rfl, p_FS hF (a := 30) (i := 0) (b := 31) (by decide), p_obS hS (a := 31) (kd := 8) rfl, p_FS hF (a := 30) (i := 1) (b := 38) (by decide), p_ixS hS (kd := 20) (a := 38) (n := 401) rfl, p_inL (n := 401) (k := 0) (i := (0 : Int32)) (by decide), s_X6_readClause hS hF, s_X6_nextToken hS hF, s_X6_faultHere hS hF]
def h_X6_read_J114 (S : v_S) (F : v_F) (I : v_I) (y5 : Int32) : Option (Int32 × v_I) :=
if y5 = (0 : Int32) then (
some (I 30 9, I))
else (
if (I 30 3) ≤ (I 30 4) then (
some (I 30 9, I))
else (
(h_X6_faultHere S I F).bind fun r_36 =>
some (r_36.2 30 9, r_36.2)))
set_option maxHeartbeats 4000000 in
set_option maxRecDepth 100000 in
theorem s_X6_read_J114 {S : v_S} {F : v_F} (hS : p_SS S) (hF : p_FF F) (I : v_I) (y5 : Int32) : f_X6_read_J114 S F I 30 y5 = h_X6_read_J114 S F I y5 := by
  unfold f_X6_read_J114 h_X6_read_J114
  simp only [p_bs, s_X6_splitTokens hS hF, p_obS hS (a := 30) (kd := 6) rfl, p_FS hF (a := 30) (i := 0) (b := 31) (by decide), p_obS hS (a := 31) (kd := 8) rfl, p_FS hF (a := 30) (i := 1) (b := 38) (by decide), p_ixS hS (kd := 20) (a := 38) (n := 401) rfl, p_inL (n := 401) (k := 0) (i := (0 : Int32)) (by decide), s_X6_readClause hS hF, s_X6_nextToken hS hF, s_X6_faultHere hS hF, s_X6_read_B76 hS hF]
def h_X6_read (S : v_S) (I : v_I) (F : v_F) (p1 : Nat) (p2 : Int32) (p3 : Int32) : Option (Int32 × v_I) :=
(p_len S 20 p1).bind fun x_1 =>
p_let (p_max (0 : Int32) (p_min p2 (p_min x_1 (400 : Int32)))) fun x_2 =>
(h_X6_splitTokens S I F p1 x_2).bind fun r_4 =>
(p_bl p3).bind fun _ =>
p_let (v_up r_4 30 6 p3) fun I_7 =>
p_let (v_up I_7 30 7 (0 : Int32)) fun I_9 =>
p_let (v_up I_9 30 8 (0 : Int32)) fun I_11 =>
p_let (v_up I_11 30 9 (-1 : Int32)) fun I_13 =>
(f_X8_clear S I_13 31).bind fun r_15 =>
p_let (v_up r_15 30 4 (0 : Int32)) fun I_17 =>
p_let (v_up I_17 30 5 (I_17 38 0)) fun I_19 =>
(h_X6_readClause S I_19 F).bind fun r_21 =>
(v_loop (h_X6_read_B76 S F) FU (r_21.1, (0 : Int32), r_21.2)).bind fun q_32 =>
h_X6_read_J114 S F q_32.2.2 q_32.1
set_option maxHeartbeats 4000000 in
set_option maxRecDepth 100000 in
theorem s_X6_read {S : v_S} {F : v_F} (hS : p_SS S) (hF : p_FF F) (I : v_I) (p1 : Nat) (p2 : Int32) (p3 : Int32) : f_X6_read S I F 30 p1 p2 p3 = h_X6_read S I F p1 p2 p3 := by
  unfold f_X6_read h_X6_read
  simp only [p_bs, s_X6_splitTokens hS hF, p_obS hS (a := 30) (kd := 6) rfl, p_FS hF (a := 30) (i := 0) (b := 31) (by decide), p_obS hS (a := 31) (kd := 8) rfl, p_FS hF (a := 30) (i := 1) (b := 38) (by decide), p_ixS hS (kd := 20) (a := 38) (n := 401) rfl, p_inL (n := 401) (k := 0) (i := (0 : Int32)) (by decide), s_X6_readClause hS hF, s_X6_nextToken hS hF, s_X6_faultHere hS hF, s_X6_read_B76 hS hF, s_X6_read_J114 hS hF]

def h_X0_whyNot_J88 (m1 : Nat) (mw1 : Nat) (ms1 : Nat) (S : v_S) (I : v_I) (F : v_F) (z0 : Int32) : Option (Int32) :=
if z0 = (0 : Int32) then (
some ((0 : Int32)))
else (
some ((-3 : Int32)))
set_option maxHeartbeats 4000000 in
set_option maxRecDepth 100000 in
theorem s_X0_whyNot_J88 {S : v_S} {F : v_F} (hS : p_SS S) (hF : p_FF F) {m1 : Nat} {mw1 : Nat} {ms1 : Nat} (hm1 : p_Mo S F m1 mw1 ms1) (I : v_I) (z0 : Int32) : f_X0_whyNot_J88 S I F z0 = h_X0_whyNot_J88 m1 mw1 ms1 S I F z0 := by
  unfold f_X0_whyNot_J88 h_X0_whyNot_J88
  simp only [p_bs, s_X0_has hS hF, p_obS hS (a := 1) (kd := 0) rfl, p_Mo_ob hm1, p_Mo_w hm1, p_Mo_s hm1, p_Mo_iw hm1, p_Mo_is hm1, s_X3_isOpen hS hF hm1, s_X9_isUpTo]
def h_X0_whyNot_J87 (m1 : Nat) (mw1 : Nat) (ms1 : Nat) (S : v_S) (I : v_I) (F : v_F) : Option (Int32) :=
h_X0_whyNot_J88 m1 mw1 ms1 S I F (0 : Int32)
set_option maxHeartbeats 4000000 in
set_option maxRecDepth 100000 in
theorem s_X0_whyNot_J87 {S : v_S} {F : v_F} (hS : p_SS S) (hF : p_FF F) {m1 : Nat} {mw1 : Nat} {ms1 : Nat} (hm1 : p_Mo S F m1 mw1 ms1) (I : v_I) : f_X0_whyNot_J87 S I F = h_X0_whyNot_J87 m1 mw1 ms1 S I F := by
  unfold f_X0_whyNot_J87 h_X0_whyNot_J87
  simp only [p_bs, s_X0_has hS hF, p_obS hS (a := 1) (kd := 0) rfl, p_Mo_ob hm1, p_Mo_w hm1, p_Mo_s hm1, p_Mo_iw hm1, p_Mo_is hm1, s_X3_isOpen hS hF hm1, s_X9_isUpTo, s_X0_whyNot_J88 hS hF hm1]
def h_X0_whyNot_J83 (m1 : Nat) (mw1 : Nat) (ms1 : Nat) (S : v_S) (I : v_I) (F : v_F) : Option (Int32) :=
h_X0_whyNot_J88 m1 mw1 ms1 S I F (1 : Int32)
set_option maxHeartbeats 4000000 in
set_option maxRecDepth 100000 in
theorem s_X0_whyNot_J83 {S : v_S} {F : v_F} (hS : p_SS S) (hF : p_FF F) {m1 : Nat} {mw1 : Nat} {ms1 : Nat} (hm1 : p_Mo S F m1 mw1 ms1) (I : v_I) : f_X0_whyNot_J83 S I F = h_X0_whyNot_J83 m1 mw1 ms1 S I F := by
  unfold f_X0_whyNot_J83 h_X0_whyNot_J83
  simp only [p_bs, s_X0_has hS hF, p_obS hS (a := 1) (kd := 0) rfl, p_Mo_ob hm1, p_Mo_w hm1, p_Mo_s hm1, p_Mo_iw hm1, p_Mo_is hm1, s_X3_isOpen hS hF hm1, s_X9_isUpTo, s_X0_whyNot_J88 hS hF hm1, s_X0_whyNot_J87 hS hF hm1]
def h_X0_whyNot_J64 (m1 : Nat) (mw1 : Nat) (ms1 : Nat) (S : v_S) (I : v_I) (F : v_F) (y2 : Int32) (y3 : Int64) (y5 : Int64) : Option (Int32) :=
if y2 = (2 : Int32) then (
(p_in 8 y3.toInt32).bind fun j_9 =>
if (lg_cmp ((I mw1 j_9).toInt64) y5) = (0 : Int32) then (
h_X0_whyNot_J83 m1 mw1 ms1 S I F)
else (
h_X0_whyNot_J87 m1 mw1 ms1 S I F))
else (
h_X0_whyNot_J87 m1 mw1 ms1 S I F)
set_option maxHeartbeats 4000000 in
set_option maxRecDepth 100000 in
theorem s_X0_whyNot_J64 {S : v_S} {F : v_F} (hS : p_SS S) (hF : p_FF F) {m1 : Nat} {mw1 : Nat} {ms1 : Nat} (hm1 : p_Mo S F m1 mw1 ms1) (I : v_I) (y2 : Int32) (y3 : Int64) (y5 : Int64) : f_X0_whyNot_J64 S I F m1 y2 y3 y5 = h_X0_whyNot_J64 m1 mw1 ms1 S I F y2 y3 y5 := by
  unfold f_X0_whyNot_J64 h_X0_whyNot_J64
  simp only [p_bs, s_X0_has hS hF, p_obS hS (a := 1) (kd := 0) rfl, p_Mo_ob hm1, p_Mo_w hm1, p_Mo_s hm1, p_Mo_iw hm1, p_Mo_is hm1, s_X3_isOpen hS hF hm1, s_X9_isUpTo, s_X0_whyNot_J88 hS hF hm1, s_X0_whyNot_J87 hS hF hm1, s_X0_whyNot_J83 hS hF hm1]
def h_X0_whyNot_J39 (m1 : Nat) (mw1 : Nat) (ms1 : Nat) (S : v_S) (I : v_I) (F : v_F) (y2 : Int32) (y3 : Int64) (y5 : Int64) : Option (Int32) :=
(h_X0_has S I y3).bind fun r_3 =>
if r_3 = (0 : Int32) then (
some ((-2 : Int32)))
else (
if y2 = (1 : Int32) then (
(h_X3_isOpen S I m1 mw1 ms1 y3.toInt32).bind fun r_11 =>
if r_11 = (0 : Int32) then (
h_X0_whyNot_J64 m1 mw1 ms1 S I F y2 y3 y5)
else (
h_X0_whyNot_J83 m1 mw1 ms1 S I F))
else (
h_X0_whyNot_J64 m1 mw1 ms1 S I F y2 y3 y5))
set_option maxHeartbeats 4000000 in
set_option maxRecDepth 100000 in
theorem s_X0_whyNot_J39 {S : v_S} {F : v_F} (hS : p_SS S) (hF : p_FF F) {m1 : Nat} {mw1 : Nat} {ms1 : Nat} (hm1 : p_Mo S F m1 mw1 ms1) (I : v_I) (y2 : Int32) (y3 : Int64) (y5 : Int64) : f_X0_whyNot_J39 S I F 1 m1 y2 y3 y5 = h_X0_whyNot_J39 m1 mw1 ms1 S I F y2 y3 y5 := by
  unfold f_X0_whyNot_J39 h_X0_whyNot_J39
  simp only [p_bs, s_X0_has hS hF, p_obS hS (a := 1) (kd := 0) rfl, p_Mo_ob hm1, p_Mo_w hm1, p_Mo_s hm1, p_Mo_iw hm1, p_Mo_is hm1, s_X3_isOpen hS hF hm1, s_X9_isUpTo, s_X0_whyNot_J88 hS hF hm1, s_X0_whyNot_J87 hS hF hm1, s_X0_whyNot_J83 hS hF hm1, s_X0_whyNot_J64 hS hF hm1]
def h_X0_whyNot (S : v_S) (I : v_I) (F : v_F) (m1 : Nat) (mw1 : Nat) (ms1 : Nat) (p2 : Int32) (p3 : Int64) (p5 : Int64) : Option (Int32) :=
if p2 = (3 : Int32) then (
if (I m1 1) < (999 : Int32) then (
some ((0 : Int32)))
else (
some ((-3 : Int32))))
else (
if p2 = (2 : Int32) then (
(h_X9_isUpTo p5 (9 : Int32)).bind fun r_14 =>
if r_14 = (0 : Int32) then (
some ((-1 : Int32)))
else (
h_X0_whyNot_J39 m1 mw1 ms1 S I F p2 p3 p5))
else (
h_X0_whyNot_J39 m1 mw1 ms1 S I F p2 p3 p5))
set_option maxHeartbeats 4000000 in
set_option maxRecDepth 100000 in
theorem s_X0_whyNot {S : v_S} {F : v_F} (hS : p_SS S) (hF : p_FF F) {m1 : Nat} {mw1 : Nat} {ms1 : Nat} (hm1 : p_Mo S F m1 mw1 ms1) (I : v_I) (p2 : Int32) (p3 : Int64) (p5 : Int64) : f_X0_whyNot S I F 1 m1 p2 p3 p5 = h_X0_whyNot S I F m1 mw1 ms1 p2 p3 p5 := by
  unfold f_X0_whyNot h_X0_whyNot
  simp only [p_bs, s_X0_has hS hF, p_obS hS (a := 1) (kd := 0) rfl, p_Mo_ob hm1, p_Mo_w hm1, p_Mo_s hm1, p_Mo_iw hm1, p_Mo_is hm1, s_X3_isOpen hS hF hm1, s_X9_isUpTo, s_X0_whyNot_J88 hS hF hm1, s_X0_whyNot_J87 hS hF hm1, s_X0_whyNot_J83 hS hF hm1, s_X0_whyNot_J64 hS hF hm1, s_X0_whyNot_J39 hS hF hm1]

def h_X3_changeWant (S : v_S) (I : v_I) (F : v_F) (m0 : Nat) (mw0 : Nat) (ms0 : Nat) (p1 : Int32) (p2 : Int32) : Option (Int32 × v_I) :=
if p1 < (0 : Int32) then (
some ((-1 : Int32), I))
else (
if p1 < (8 : Int32) then (
(p_in 8 p1).bind fun j_3 =>
p_let (I mw0 j_3) fun x_4 =>
(p_in 8 p1).bind fun j_6 =>
p_let (v_up I mw0 j_6 p2) fun I_7 =>
some (x_4, I_7))
else (
some ((-1 : Int32), I)))
set_option maxHeartbeats 4000000 in
set_option maxRecDepth 100000 in
theorem s_X3_changeWant {S : v_S} {F : v_F} (hS : p_SS S) (hF : p_FF F) {m0 : Nat} {mw0 : Nat} {ms0 : Nat} (hm0 : p_Mo S F m0 mw0 ms0) (I : v_I) (p1 : Int32) (p2 : Int32) : f_X3_changeWant S I F m0 p1 p2 = h_X3_changeWant S I F m0 mw0 ms0 p1 p2 := by
  unfold f_X3_changeWant h_X3_changeWant
  simp only [p_bs, p_Mo_ob hm0, p_Mo_w hm0, p_Mo_s hm0, p_Mo_iw hm0, p_Mo_is hm0]

def h_X3_openOne (S : v_S) (I : v_I) (m0 : Nat) (mw0 : Nat) (ms0 : Nat) (p1 : Int32) : Option (v_I) :=
p_let (v_up I m0 0 ((I m0 0) ||| ((1 : Int32) <<< (p1 &&& 31)))) fun I_1 =>
some (I_1)
set_option maxHeartbeats 4000000 in
set_option maxRecDepth 100000 in
theorem s_X3_openOne {S : v_S} {F : v_F} (hS : p_SS S) (hF : p_FF F) {m0 : Nat} {mw0 : Nat} {ms0 : Nat} (hm0 : p_Mo S F m0 mw0 ms0) (I : v_I) (p1 : Int32) : f_X3_openOne S I m0 p1 = h_X3_openOne S I m0 mw0 ms0 p1 := by
  unfold f_X3_openOne h_X3_openOne
  simp only [p_bs, p_Mo_ob hm0, p_Mo_w hm0, p_Mo_s hm0, p_Mo_iw hm0, p_Mo_is hm0]

def h_X1_perform (S : v_S) (I : v_I) (J : v_J) (F : v_F) (m2 : Nat) (mw2 : Nat) (ms2 : Nat) (p3 : Int32) (p4 : Int32) (p5 : Int32) : Option (Int32 × v_I × v_J) :=
if p3 = (0 : Int32) then (
(h_X3_shutOne S I F m2 mw2 ms2 p4).bind fun r_1 =>
some (r_1.1, r_1.2, J))
else if p3 = (1 : Int32) then (
(h_X3_openOne S I m2 mw2 ms2 p4).bind fun r_3 =>
(h_X3_openMany S r_3 m2 mw2 ms2).bind fun r_5 =>
some (r_5, r_3, J))
else if p3 = (2 : Int32) then (
(h_X3_changeWant S I F m2 mw2 ms2 p4 p5).bind fun r_7 =>
some (r_7.1, r_7.2, J))
else (
(h_X0_lawInForce S I F).bind fun r_9 =>
(h_X1_passMinute S I J F m2 mw2 ms2 r_9 (0 : Int32)).bind fun r_11 =>
(h_X3_openMany S r_11.2.1 m2 mw2 ms2).bind fun r_13 =>
some (r_13, r_11.2.1, r_11.2.2))
set_option maxHeartbeats 4000000 in
set_option maxRecDepth 100000 in
theorem s_X1_perform {S : v_S} {F : v_F} (hS : p_SS S) (hF : p_FF F) {m2 : Nat} {mw2 : Nat} {ms2 : Nat} (hm2 : p_Mo S F m2 mw2 ms2) (I : v_I) (J : v_J) (p3 : Int32) (p4 : Int32) (p5 : Int32) : f_X1_perform S I J F 14 1 m2 p3 p4 p5 = h_X1_perform S I J F m2 mw2 ms2 p3 p4 p5 := by
  unfold f_X1_perform h_X1_perform
  simp only [p_bs, s_X3_shutOne hS hF hm2, p_Mo_ob hm2, p_Mo_w hm2, p_Mo_s hm2, p_Mo_iw hm2, p_Mo_is hm2, s_X3_openOne hS hF hm2, s_X3_openMany hS hF hm2, s_X3_changeWant hS hF hm2, s_X0_lawInForce hS hF, p_obS hS (a := 1) (kd := 0) rfl, s_X1_passMinute hS hF hm2, p_obS hS (a := 14) (kd := 1) rfl]

def h_X2_hear_J42_128 (m2 : Nat) (mw2 : Nat) (ms2 : Nat) (S : v_S) (F : v_F) (I : v_I) (y4 : Int32) (z0 : Int32) (z1 : Int32) : Option ((Int32 × v_I) ⊕ (Int32 × v_I)) :=
(p_in 36 z1).bind fun j_23 =>
p_let (v_up I 42 j_23 z0) fun I_24 =>
p_let (y4 + (1 : Int32)) fun x_26 =>
some (.inl (x_26, I_24))
set_option maxHeartbeats 4000000 in
set_option maxRecDepth 100000 in
theorem s_X2_hear_J42_128 {S : v_S} {F : v_F} (hS : p_SS S) (hF : p_FF F) {m2 : Nat} {mw2 : Nat} {ms2 : Nat} (hm2 : p_Mo S F m2 mw2 ms2) (I : v_I) (y4 : Int32) (z0 : Int32) (z1 : Int32) : f_X2_hear_J42_128 S F 1 m2 42 I y4 z0 z1 42 = h_X2_hear_J42_128 m2 mw2 ms2 S F I y4 z0 z1 := by
  unfold f_X2_hear_J42_128 h_X2_hear_J42_128
  simp only [p_bs, p_obS hS (a := 40) (kd := 2) rfl, p_FS hF (a := 40) (i := 2) (b := 41) (by decide), p_obS hS (a := 41) (kd := 7) rfl, p_FS hF (a := 41) (i := 0) (b := 42) (by decide), p_Mo_ob hm2, p_Mo_w hm2, p_Mo_s hm2, p_Mo_iw hm2, p_Mo_is hm2, p_ixS hS (kd := 20) (a := 42) (n := 36) rfl, p_inL (n := 36) (k := 6) (i := (6 : Int32)) (by decide), p_inL (n := 36) (k := 9) (i := (9 : Int32)) (by decide), p_inL (n := 36) (k := 10) (i := (10 : Int32)) (by decide), s_X3_openMany hS hF hm2, p_inL (n := 36) (k := 4) (i := (4 : Int32)) (by decide), s_X0_has hS hF, p_obS hS (a := 1) (kd := 0) rfl]
def h_X2_hear_J42_103 (m2 : Nat) (mw2 : Nat) (ms2 : Nat) (S : v_S) (F : v_F) (I : v_I) (y4 : Int32) (y5 : Int32) (z0 : Int32) (z1 : Int32) : Option ((Int32 × v_I) ⊕ (Int32 × v_I)) :=
(p_in 36 z1).bind fun j_19 =>
p_let (v_up I 42 j_19 z0) fun I_20 =>
if y5 = (0 : Int32) then (
h_X2_hear_J42_128 m2 mw2 ms2 S F I_20 y4 (-1 : Int32) ((28 : Int32) + y4))
else (
h_X2_hear_J42_128 m2 mw2 ms2 S F I_20 y4 (((I_20 m2 0) >>> (y4 &&& 31)) &&& (1 : Int32)) ((28 : Int32) + y4))
set_option maxHeartbeats 4000000 in
set_option maxRecDepth 100000 in
theorem s_X2_hear_J42_103 {S : v_S} {F : v_F} (hS : p_SS S) (hF : p_FF F) {m2 : Nat} {mw2 : Nat} {ms2 : Nat} (hm2 : p_Mo S F m2 mw2 ms2) (I : v_I) (y4 : Int32) (y5 : Int32) (z0 : Int32) (z1 : Int32) : f_X2_hear_J42_103 S F 1 m2 42 I y4 y5 z0 z1 42 = h_X2_hear_J42_103 m2 mw2 ms2 S F I y4 y5 z0 z1 := by
  unfold f_X2_hear_J42_103 h_X2_hear_J42_103
  simp only [p_bs, p_obS hS (a := 40) (kd := 2) rfl, p_FS hF (a := 40) (i := 2) (b := 41) (by decide), p_obS hS (a := 41) (kd := 7) rfl, p_FS hF (a := 41) (i := 0) (b := 42) (by decide), p_Mo_ob hm2, p_Mo_w hm2, p_Mo_s hm2, p_Mo_iw hm2, p_Mo_is hm2, p_ixS hS (kd := 20) (a := 42) (n := 36) rfl, p_inL (n := 36) (k := 6) (i := (6 : Int32)) (by decide), p_inL (n := 36) (k := 9) (i := (9 : Int32)) (by decide), p_inL (n := 36) (k := 10) (i := (10 : Int32)) (by decide), s_X3_openMany hS hF hm2, p_inL (n := 36) (k := 4) (i := (4 : Int32)) (by decide), s_X0_has hS hF, p_obS hS (a := 1) (kd := 0) rfl, s_X2_hear_J42_128 hS hF hm2]
def h_X2_hear_J42_80 (m2 : Nat) (mw2 : Nat) (ms2 : Nat) (S : v_S) (F : v_F) (I : v_I) (y4 : Int32) (y5 : Int32) (z0 : Int32) (z1 : Int32) : Option ((Int32 × v_I) ⊕ (Int32 × v_I)) :=
(p_in 36 z1).bind fun j_15 =>
p_let (v_up I 42 j_15 z0) fun I_16 =>
if y5 = (0 : Int32) then (
h_X2_hear_J42_103 m2 mw2 ms2 S F I_16 y4 y5 (-1 : Int32) ((20 : Int32) + y4))
else (
(p_in 8 y4).bind fun j_28 =>
h_X2_hear_J42_103 m2 mw2 ms2 S F I_16 y4 y5 (I_16 ms2 j_28) ((20 : Int32) + y4))
set_option maxHeartbeats 4000000 in
set_option maxRecDepth 100000 in
theorem s_X2_hear_J42_80 {S : v_S} {F : v_F} (hS : p_SS S) (hF : p_FF F) {m2 : Nat} {mw2 : Nat} {ms2 : Nat} (hm2 : p_Mo S F m2 mw2 ms2) (I : v_I) (y4 : Int32) (y5 : Int32) (z0 : Int32) (z1 : Int32) : f_X2_hear_J42_80 S F 1 m2 42 I y4 y5 z0 z1 42 = h_X2_hear_J42_80 m2 mw2 ms2 S F I y4 y5 z0 z1 := by
  unfold f_X2_hear_J42_80 h_X2_hear_J42_80
  simp only [p_bs, p_obS hS (a := 40) (kd := 2) rfl, p_FS hF (a := 40) (i := 2) (b := 41) (by decide), p_obS hS (a := 41) (kd := 7) rfl, p_FS hF (a := 41) (i := 0) (b := 42) (by decide), p_Mo_ob hm2, p_Mo_w hm2, p_Mo_s hm2, p_Mo_iw hm2, p_Mo_is hm2, p_ixS hS (kd := 20) (a := 42) (n := 36) rfl, p_inL (n := 36) (k := 6) (i := (6 : Int32)) (by decide), p_inL (n := 36) (k := 9) (i := (9 : Int32)) (by decide), p_inL (n := 36) (k := 10) (i := (10 : Int32)) (by decide), s_X3_openMany hS hF hm2, p_inL (n := 36) (k := 4) (i := (4 : Int32)) (by decide), s_X0_has hS hF, p_obS hS (a := 1) (kd := 0) rfl, s_X2_hear_J42_128 hS hF hm2, s_X2_hear_J42_103 hS hF hm2]
def h_X2_hear_B42 (m2 : Nat) (mw2 : Nat) (ms2 : Nat) (S : v_S) (F : v_F) (s42 : Int32 × v_I) : Option ((Int32 × v_I) ⊕ (Int32 × v_I)) :=
if (8 : Int32) ≤ s42.1 then (
some (.inr (s42.1, s42.2)))
else (
(h_X0_has S s42.2 s42.1.toInt64).bind fun r_12 =>
if r_12 = (0 : Int32) then (
h_X2_hear_J42_80 m2 mw2 ms2 S F s42.2 s42.1 r_12 (-1 : Int32) ((12 : Int32) + s42.1))
else (
(p_in 8 s42.1).bind fun j_29 =>
h_X2_hear_J42_80 m2 mw2 ms2 S F s42.2 s42.1 r_12 (s42.2 mw2 j_29) ((12 : Int32) + s42.1)))
set_option maxHeartbeats 4000000 in
set_option maxRecDepth 100000 in
theorem s_X2_hear_B42 {S : v_S} {F : v_F} (hS : p_SS S) (hF : p_FF F) {m2 : Nat} {mw2 : Nat} {ms2 : Nat} (hm2 : p_Mo S F m2 mw2 ms2)  : f_X2_hear_B42 S F 1 m2 42 = h_X2_hear_B42 m2 mw2 ms2 S F := by
  funext s42
  unfold f_X2_hear_B42 h_X2_hear_B42
  simp only [p_bs, p_obS hS (a := 40) (kd := 2) rfl, p_FS hF (a := 40) (i := 2) (b := 41) (by decide), p_obS hS (a := 41) (kd := 7) rfl, p_FS hF (a := 41) (i := 0) (b := 42) (by decide), p_Mo_ob hm2, p_Mo_w hm2, p_Mo_s hm2, p_Mo_iw hm2, p_Mo_is hm2, p_ixS hS (kd := 20) (a := 42) (n := 36) rfl, p_inL (n := 36) (k := 6) (i := (6 : Int32)) (by decide), p_inL (n := 36) (k := 9) (i := (9 : Int32)) (by decide), p_inL (n := 36) (k := 10) (i := (10 : Int32)) (by decide), s_X3_openMany hS hF hm2, p_inL (n := 36) (k := 4) (i := (4 : Int32)) (by decide), s_X0_has hS hF, p_obS hS (a := 1) (kd := 0) rfl, s_X2_hear_J42_128 hS hF hm2, s_X2_hear_J42_103 hS hF hm2, s_X2_hear_J42_80 hS hF hm2]
def h_X2_hear (S : v_S) (I : v_I) (F : v_F) (m2 : Nat) (mw2 : Nat) (ms2 : Nat) : Option (v_I) :=
p_let (v_up I 42 6 (I m2 1)) fun I_1 =>
p_let (v_up I_1 42 9 (I_1 40 0)) fun I_3 =>
p_let (v_up I_3 42 10 (I_3 40 1)) fun I_5 =>
(h_X3_openMany S I_5 m2 mw2 ms2).bind fun r_7 =>
p_let (v_up I_5 42 4 r_7) fun I_9 =>
(v_loop (h_X2_hear_B42 m2 mw2 ms2 S F) FU ((0 : Int32), I_9)).bind fun q_30 =>
some (q_30.2)
set_option maxHeartbeats 4000000 in
set_option maxRecDepth 100000 in
theorem s_X2_hear {S : v_S} {F : v_F} (hS : p_SS S) (hF : p_FF F) {m2 : Nat} {mw2 : Nat} {ms2 : Nat} (hm2 : p_Mo S F m2 mw2 ms2) (I : v_I) : f_X2_hear S I F 40 1 m2 = h_X2_hear S I F m2 mw2 ms2 := by
  unfold f_X2_hear h_X2_hear
  simp only [p_bs, p_obS hS (a := 40) (kd := 2) rfl, p_FS hF (a := 40) (i := 2) (b := 41) (by decide), p_obS hS (a := 41) (kd := 7) rfl, p_FS hF (a := 41) (i := 0) (b := 42) (by decide), p_Mo_ob hm2, p_Mo_w hm2, p_Mo_s hm2, p_Mo_iw hm2, p_Mo_is hm2, p_ixS hS (kd := 20) (a := 42) (n := 36) rfl, p_inL (n := 36) (k := 6) (i := (6 : Int32)) (by decide), p_inL (n := 36) (k := 9) (i := (9 : Int32)) (by decide), p_inL (n := 36) (k := 10) (i := (10 : Int32)) (by decide), s_X3_openMany hS hF hm2, p_inL (n := 36) (k := 4) (i := (4 : Int32)) (by decide), s_X0_has hS hF, p_obS hS (a := 1) (kd := 0) rfl, s_X2_hear_J42_128 hS hF hm2, s_X2_hear_J42_103 hS hF hm2, s_X2_hear_J42_80 hS hF hm2, s_X2_hear_B42 hS hF hm2]

def h_X2_sumAt (S : v_S) (I : v_I) (J : v_J) (F : v_F) (p1 : Nat) (p2 : Int32) : Option (Int64 × v_J) :=
if p2 = (-1 : Int32) then (
some ((0 : Int64), J))
else (
(h_X7_reckon S I J F 41 42 43 p1 p2).bind fun r_2 =>
some (r_2.1, r_2.2))
set_option maxHeartbeats 4000000 in
set_option maxRecDepth 100000 in
theorem s_X2_sumAt {S : v_S} {F : v_F} (hS : p_SS S) (hF : p_FF F) (I : v_I) (J : v_J) (p1 : Nat) (p2 : Int32) : f_X2_sumAt S I J F 40 p1 p2 = h_X2_sumAt S I J F p1 p2 := by
  unfold f_X2_sumAt h_X2_sumAt
  simp only [p_bs, p_obS hS (a := 40) (kd := 2) rfl, p_FS hF (a := 40) (i := 2) (b := 41) (by decide), s_X7_reckon hS hF (p_RkC hS hF 41 42 43 rfl rfl rfl (by decide) (by decide)), p_obS hS (a := 41) (kd := 7) rfl]

def h_X2_runOnceN_J165 (m4 : Nat) (mw4 : Nat) (ms4 : Nat) (S : v_S) (F : v_F) (I : v_I) (J : v_J) (z0 : Int32) : Option (Int32 × v_I × v_J) :=
p_let (v_up I 40 1 z0) fun I_34 =>
some ((1 : Int32), I_34, J)
set_option maxHeartbeats 4000000 in
set_option maxRecDepth 100000 in
theorem s_X2_runOnceN_J165 {S : v_S} {F : v_F} (hS : p_SS S) (hF : p_FF F) {m4 : Nat} {mw4 : Nat} {ms4 : Nat} (hm4 : p_Mo S F m4 mw4 ms4) (I : v_I) (J : v_J) (z0 : Int32) : f_X2_runOnceN_J165 S F I J z0 40 = h_X2_runOnceN_J165 m4 mw4 ms4 S F I J z0 := by
  unfold f_X2_runOnceN_J165 h_X2_runOnceN_J165
  simp only [p_bs, s_X2_hear hS hF hm4, p_obS hS (a := 40) (kd := 2) rfl, s_X2_sumAt hS hF, s_X0_whyNot hS hF hm4, p_obS hS (a := 1) (kd := 0) rfl, s_X1_perform hS hF hm4, p_obS hS (a := 14) (kd := 1) rfl, p_FS hF (a := 40) (i := 2) (b := 41) (by decide), s_X7_reckon hS hF (p_RkC hS hF 41 42 43 rfl rfl rfl (by decide) (by decide)), p_obS hS (a := 41) (kd := 7) rfl]
def h_X2_runOnceN_J121 (m4 : Nat) (mw4 : Nat) (ms4 : Nat) (S : v_S) (F : v_F) (I : v_I) (J : v_J) (y7 : Int32) (y8 : Int64) (y10 : Int64) : Option (Int32 × v_I × v_J) :=
(h_X1_perform S I J F m4 mw4 ms4 y7 y8.toInt32 y10.toInt32).bind fun r_29 =>
p_let (v_up r_29.2.1 40 0 ((r_29.2.1 40 0) + (1 : Int32))) fun I_31 =>
if y7 = (3 : Int32) then (
h_X2_runOnceN_J165 m4 mw4 ms4 S F I_31 r_29.2.2 r_29.1)
else (
h_X2_runOnceN_J165 m4 mw4 ms4 S F I_31 r_29.2.2 (I_31 40 1))
set_option maxHeartbeats 4000000 in
set_option maxRecDepth 100000 in
theorem s_X2_runOnceN_J121 {S : v_S} {F : v_F} (hS : p_SS S) (hF : p_FF F) {m4 : Nat} {mw4 : Nat} {ms4 : Nat} (hm4 : p_Mo S F m4 mw4 ms4) (I : v_I) (J : v_J) (y7 : Int32) (y8 : Int64) (y10 : Int64) : f_X2_runOnceN_J121 S F I J 40 1 m4 14 y7 y8 y10 = h_X2_runOnceN_J121 m4 mw4 ms4 S F I J y7 y8 y10 := by
  unfold f_X2_runOnceN_J121 h_X2_runOnceN_J121
  simp only [p_bs, s_X2_hear hS hF hm4, p_obS hS (a := 40) (kd := 2) rfl, s_X2_sumAt hS hF, s_X0_whyNot hS hF hm4, p_obS hS (a := 1) (kd := 0) rfl, s_X1_perform hS hF hm4, p_obS hS (a := 14) (kd := 1) rfl, p_FS hF (a := 40) (i := 2) (b := 41) (by decide), s_X7_reckon hS hF (p_RkC hS hF 41 42 43 rfl rfl rfl (by decide) (by decide)), p_obS hS (a := 41) (kd := 7) rfl, s_X2_runOnceN_J165 hS hF hm4]
def h_X2_runOnceN_J38 (m4 : Nat) (mw4 : Nat) (ms4 : Nat) (S : v_S) (F : v_F) (I : v_I) (J : v_J) (y1 : Nat) (y2 : Int32) : Option (Int32 × v_I × v_J) :=
(p_ob S 8 y1).bind fun _ =>
(F y1 3).bind fun a_9 =>
(p_ix S 20 a_9 y2).bind fun j_11 =>
p_let (I a_9 j_11) fun x_12 =>
(F y1 4).bind fun a_14 =>
(p_ix S 20 a_14 y2).bind fun j_16 =>
(h_X2_sumAt S I J F y1 (I a_14 j_16)).bind fun r_17 =>
(F y1 5).bind fun a_19 =>
(p_ix S 20 a_19 y2).bind fun j_21 =>
(h_X2_sumAt S I r_17.2 F y1 (I a_19 j_21)).bind fun r_22 =>
if (lg_cmp r_17.1 (-1000000000000000 : Int64)) = (0 : Int32) then (
some ((0 : Int32), I, r_22.2))
else (
if (lg_cmp r_22.1 (-1000000000000000 : Int64)) = (0 : Int32) then (
some ((0 : Int32), I, r_22.2))
else (
(h_X0_whyNot S I F m4 mw4 ms4 x_12 r_17.1 r_22.1).bind fun r_26 =>
if r_26 = (0 : Int32) then (
h_X2_runOnceN_J121 m4 mw4 ms4 S F I r_22.2 x_12 r_17.1 r_22.1)
else (
some ((0 : Int32), I, r_22.2))))
set_option maxHeartbeats 4000000 in
set_option maxRecDepth 100000 in
theorem s_X2_runOnceN_J38 {S : v_S} {F : v_F} (hS : p_SS S) (hF : p_FF F) {m4 : Nat} {mw4 : Nat} {ms4 : Nat} (hm4 : p_Mo S F m4 mw4 ms4) (I : v_I) (J : v_J) (y1 : Nat) (y2 : Int32) : f_X2_runOnceN_J38 S F I J 40 y1 y2 1 m4 14 = h_X2_runOnceN_J38 m4 mw4 ms4 S F I J y1 y2 := by
  unfold f_X2_runOnceN_J38 h_X2_runOnceN_J38
  simp only [p_bs, s_X2_hear hS hF hm4, p_obS hS (a := 40) (kd := 2) rfl, s_X2_sumAt hS hF, s_X0_whyNot hS hF hm4, p_obS hS (a := 1) (kd := 0) rfl, s_X1_perform hS hF hm4, p_obS hS (a := 14) (kd := 1) rfl, p_FS hF (a := 40) (i := 2) (b := 41) (by decide), s_X7_reckon hS hF (p_RkC hS hF 41 42 43 rfl rfl rfl (by decide) (by decide)), p_obS hS (a := 41) (kd := 7) rfl, s_X2_runOnceN_J165 hS hF hm4, s_X2_runOnceN_J121 hS hF hm4]
def h_X2_runOnceN (S : v_S) (I : v_I) (J : v_J) (F : v_F) (p1 : Nat) (p2 : Int32) (m4 : Nat) (mw4 : Nat) (ms4 : Nat) : Option (Int32 × v_I × v_J) :=
(h_X2_hear S I F m4 mw4 ms4).bind fun r_1 =>
(p_ob S 8 p1).bind fun _ =>
(F p1 6).bind fun a_4 =>
(p_ix S 20 a_4 p2).bind fun j_6 =>
if (r_1 a_4 j_6) = (-1 : Int32) then (
h_X2_runOnceN_J38 m4 mw4 ms4 S F r_1 J p1 p2)
else (
(F p1 6).bind fun a_36 =>
(p_ix S 20 a_36 p2).bind fun j_38 =>
(h_X7_reckon S r_1 J F 41 42 43 p1 (r_1 a_36 j_38)).bind fun r_39 =>
if (lg_cmp r_39.1 (1 : Int64)) = (0 : Int32) then (
h_X2_runOnceN_J38 m4 mw4 ms4 S F r_1 r_39.2 p1 p2)
else (
some ((1 : Int32), r_1, r_39.2)))
set_option maxHeartbeats 4000000 in
set_option maxRecDepth 100000 in
theorem s_X2_runOnceN {S : v_S} {F : v_F} (hS : p_SS S) (hF : p_FF F) {m4 : Nat} {mw4 : Nat} {ms4 : Nat} (hm4 : p_Mo S F m4 mw4 ms4) (I : v_I) (J : v_J) (p1 : Nat) (p2 : Int32) : f_X2_runOnceN S I J F 40 p1 p2 1 m4 14 = h_X2_runOnceN S I J F p1 p2 m4 mw4 ms4 := by
  unfold f_X2_runOnceN h_X2_runOnceN
  simp only [p_bs, s_X2_hear hS hF hm4, p_obS hS (a := 40) (kd := 2) rfl, s_X2_sumAt hS hF, s_X0_whyNot hS hF hm4, p_obS hS (a := 1) (kd := 0) rfl, s_X1_perform hS hF hm4, p_obS hS (a := 14) (kd := 1) rfl, p_FS hF (a := 40) (i := 2) (b := 41) (by decide), s_X7_reckon hS hF (p_RkC hS hF 41 42 43 rfl rfl rfl (by decide) (by decide)), p_obS hS (a := 41) (kd := 7) rfl, s_X2_runOnceN_J165 hS hF hm4, s_X2_runOnceN_J121 hS hF hm4, s_X2_runOnceN_J38 hS hF hm4]

def h_X2_runAllN_B35 (m3 : Nat) (mw3 : Nat) (ms3 : Nat) (S : v_S) (F : v_F) (w1 : Nat) (w6 : Int32) (s35 : Int32 × v_I × v_J) : Option ((Int32 × v_I × v_J) ⊕ (Nat × (Int32 × v_I × v_J))) :=
(p_ob S 8 w1).bind fun _ =>
(F w1 7).bind fun a_12 =>
(p_ix S 20 a_12 w6).bind fun j_14 =>
if (s35.2.1 a_12 j_14) ≤ s35.1 then (
some (.inr (1, (s35.1, s35.2.1, s35.2.2))))
else (
(h_X2_runOnceN S s35.2.1 s35.2.2 F w1 w6 m3 mw3 ms3).bind fun r_16 =>
if r_16.1 = (0 : Int32) then (
some (.inr (0, (s35.1, r_16.2.1, r_16.2.2))))
else (
p_let (s35.1 + (1 : Int32)) fun x_19 =>
some (.inl (x_19, r_16.2.1, r_16.2.2))))
set_option maxHeartbeats 4000000 in
set_option maxRecDepth 100000 in
theorem s_X2_runAllN_B35 {S : v_S} {F : v_F} (hS : p_SS S) (hF : p_FF F) {m3 : Nat} {mw3 : Nat} {ms3 : Nat} (hm3 : p_Mo S F m3 mw3 ms3) (w1 : Nat) (w6 : Int32) : f_X2_runAllN_B35 S F 40 w1 1 m3 14 w6 = h_X2_runAllN_B35 m3 mw3 ms3 S F w1 w6 := by
  funext s35
  unfold f_X2_runAllN_B35 h_X2_runAllN_B35
  simp only [p_bs, p_obS hS (a := 40) (kd := 2) rfl, s_X2_runOnceN hS hF hm3]
def h_X2_runAllN_B13 (m3 : Nat) (mw3 : Nat) (ms3 : Nat) (S : v_S) (F : v_F) (w1 : Nat) (s13 : Int32 × v_I × v_J) : Option ((Int32 × v_I × v_J) ⊕ (Nat × (Int32 × v_I × v_J))) :=
(p_ob S 8 w1).bind fun _ =>
if (s13.2.1 w1 0) ≤ s13.1 then (
some (.inr (1, (s13.1, s13.2.1, s13.2.2))))
else (
(F w1 7).bind fun a_7 =>
(p_len S 20 a_7).bind fun x_9 =>
if x_9 ≤ s13.1 then (
some (.inr (1, (s13.1, s13.2.1, s13.2.2))))
else (
(v_loop (h_X2_runAllN_B35 m3 mw3 ms3 S F w1 s13.1) FU ((0 : Int32), s13.2.1, s13.2.2)).bind fun q_21 =>
if q_21.1 = 0 then (
some (.inr (0, (s13.1, q_21.2.2.1, q_21.2.2.2))))
else (
p_let (s13.1 + (1 : Int32)) fun x_23 =>
some (.inl (x_23, q_21.2.2.1, q_21.2.2.2)))))
set_option maxHeartbeats 4000000 in
set_option maxRecDepth 100000 in
theorem s_X2_runAllN_B13 {S : v_S} {F : v_F} (hS : p_SS S) (hF : p_FF F) {m3 : Nat} {mw3 : Nat} {ms3 : Nat} (hm3 : p_Mo S F m3 mw3 ms3) (w1 : Nat) : f_X2_runAllN_B13 S F 40 w1 1 m3 14 = h_X2_runAllN_B13 m3 mw3 ms3 S F w1 := by
  funext s13
  unfold f_X2_runAllN_B13 h_X2_runAllN_B13
  simp only [p_bs, p_obS hS (a := 40) (kd := 2) rfl, s_X2_runOnceN hS hF hm3, s_X2_runAllN_B35 hS hF hm3]
def h_X2_runAllN (S : v_S) (I : v_I) (J : v_J) (F : v_F) (p1 : Nat) (m3 : Nat) (mw3 : Nat) (ms3 : Nat) : Option (Int32 × v_I × v_J) :=
p_let (v_up I 40 0 (0 : Int32)) fun I_1 =>
p_let (v_up I_1 40 1 (-1 : Int32)) fun I_3 =>
(v_loop (h_X2_runAllN_B13 m3 mw3 ms3 S F p1) FU ((0 : Int32), I_3, J)).bind fun q_26 =>
if q_26.1 = 0 then (
some (q_26.2.1, q_26.2.2.1, q_26.2.2.2))
else (
some ((-1 : Int32), q_26.2.2.1, q_26.2.2.2))
set_option maxHeartbeats 4000000 in
set_option maxRecDepth 100000 in
theorem s_X2_runAllN {S : v_S} {F : v_F} (hS : p_SS S) (hF : p_FF F) {m3 : Nat} {mw3 : Nat} {ms3 : Nat} (hm3 : p_Mo S F m3 mw3 ms3) (I : v_I) (J : v_J) (p1 : Nat) : f_X2_runAllN S I J F 40 p1 1 m3 14 = h_X2_runAllN S I J F p1 m3 mw3 ms3 := by
  unfold f_X2_runAllN h_X2_runAllN
  simp only [p_bs, p_obS hS (a := 40) (kd := 2) rfl, s_X2_runOnceN hS hF hm3, s_X2_runAllN_B35 hS hF hm3, s_X2_runAllN_B13 hS hF hm3]

def h_X9_fault (S : v_S) (I : v_I) : Option (Int32) :=
some (I 0 16)
set_option maxHeartbeats 4000000 in
set_option maxRecDepth 100000 in
theorem s_X9_fault {S : v_S} {F : v_F} (hS : p_SS S) (hF : p_FF F) (I : v_I) : f_X9_fault S I 0 = h_X9_fault S I := by
  unfold f_X9_fault h_X9_fault
  simp only [p_bs, p_obS hS (a := 0) (kd := 9) rfl]

def h_X9_stopped (S : v_S) (I : v_I) : Option (Int32) :=
some (I 0 17)
set_option maxHeartbeats 4000000 in
set_option maxRecDepth 100000 in
theorem s_X9_stopped {S : v_S} {F : v_F} (hS : p_SS S) (hF : p_FF F) (I : v_I) : f_X9_stopped S I 0 = h_X9_stopped S I := by
  unfold f_X9_stopped h_X9_stopped
  simp only [p_bs, p_obS hS (a := 0) (kd := 9) rfl]

def h_X9_force_J23 (S : v_S) (F : v_F) (I : v_I) (y1 : Int32) : Option (Int32 × v_I) :=
p_let (I 1 12) fun x_2 =>
p_let (v_up I 1 12 y1) fun I_4 =>
(h_X9_accept S I_4 x_2).bind fun r_6 =>
some (r_6.1, r_6.2)
set_option maxHeartbeats 4000000 in
set_option maxRecDepth 100000 in
theorem s_X9_force_J23 {S : v_S} {F : v_F} (hS : p_SS S) (hF : p_FF F) (I : v_I) (y1 : Int32) : f_X9_force_J23 S F I 0 y1 = h_X9_force_J23 S F I y1 := by
  unfold f_X9_force_J23 h_X9_force_J23
  simp only [p_bs, p_obS hS (a := 0) (kd := 9) rfl, p_FS hF (a := 0) (i := 0) (b := 1) (by decide), p_obS hS (a := 1) (kd := 0) rfl, s_X9_accept hS hF, s_X0_lawAt hS hF, s_X9_refuse hS hF]
def h_X9_force (S : v_S) (I : v_I) (F : v_F) (p1 : Int32) : Option (Int32 × v_I) :=
if p1 = (-1 : Int32) then (
h_X9_force_J23 S F I p1)
else (
(h_X0_lawAt S I F p1).bind fun r_8 =>
p_nul r_8 (
(h_X9_refuse S I F (-2 : Int32)).bind fun r_12 =>
some (r_12.1, r_12.2)) (fun a_10 =>
h_X9_force_J23 S F I p1))
set_option maxHeartbeats 4000000 in
set_option maxRecDepth 100000 in
theorem s_X9_force {S : v_S} {F : v_F} (hS : p_SS S) (hF : p_FF F) (I : v_I) (p1 : Int32) : f_X9_force S I F 0 p1 = h_X9_force S I F p1 := by
  unfold f_X9_force h_X9_force
  simp only [p_bs, p_obS hS (a := 0) (kd := 9) rfl, p_FS hF (a := 0) (i := 0) (b := 1) (by decide), p_obS hS (a := 1) (kd := 0) rfl, s_X9_accept hS hF, s_X0_lawAt hS hF, s_X9_refuse hS hF, s_X9_force_J23 hS hF]

def h_X9_undo (S : v_S) (I : v_I) (F : v_F) : Option (Int32 × v_I) :=
(f_X4_takeBack S I F 11 2).bind fun r_1 =>
if r_1.1 = (-1 : Int32) then (
(h_X9_refuse S r_1.2 F (-3 : Int32)).bind fun r_6 =>
some (r_6.1, r_6.2))
else (
(h_X9_accept S r_1.2 r_1.1).bind fun r_4 =>
some (r_4.1, r_4.2))
set_option maxHeartbeats 4000000 in
set_option maxRecDepth 100000 in
theorem s_X9_undo {S : v_S} {F : v_F} (hS : p_SS S) (hF : p_FF F) (I : v_I) : f_X9_undo S I F 0 = h_X9_undo S I F := by
  unfold f_X9_undo h_X9_undo
  simp only [p_bs, p_obS hS (a := 0) (kd := 9) rfl, p_FS hF (a := 0) (i := 2) (b := 11) (by decide), p_FS hF (a := 0) (i := 0) (b := 1) (by decide), p_obS hS (a := 1) (kd := 0) rfl, p_FS hF (a := 1) (i := 1) (b := 2) (by decide), p_obS hS (a := 11) (kd := 4) rfl, s_X9_accept hS hF, s_X9_refuse hS hF]

def h_X9_later (S : v_S) (I : v_I) (J : v_J) (F : v_F) (p1 : Int32) : Option (Int32 × v_I × v_J) :=
(h_X9_isUpTo p1.toInt64 (60 : Int32)).bind fun r_1 =>
if r_1 = (0 : Int32) then (
some ((-1 : Int32), I, J))
else (
(h_X1_openBehind S I J F (I 2 0) p1).bind fun r_4 =>
some (r_4.1, r_4.2.1, r_4.2.2))
set_option maxHeartbeats 4000000 in
set_option maxRecDepth 100000 in
theorem s_X9_later {S : v_S} {F : v_F} (hS : p_SS S) (hF : p_FF F) (I : v_I) (J : v_J) (p1 : Int32) : f_X9_later S I J F 0 p1 = h_X9_later S I J F p1 := by
  unfold f_X9_later h_X9_later
  simp only [p_bs, s_X9_isUpTo, p_obS hS (a := 0) (kd := 9) rfl, p_FS hF (a := 0) (i := 3) (b := 14) (by decide), p_FS hF (a := 0) (i := 0) (b := 1) (by decide), p_obS hS (a := 1) (kd := 0) rfl, p_FS hF (a := 1) (i := 1) (b := 2) (by decide), p_obS hS (a := 2) (kd := 3) rfl, s_X1_openBehind hS hF, p_obS hS (a := 14) (kd := 1) rfl]

def h_X1_firstMinute_B22 (S : v_S) (F : v_F) (w3 : Int32) (w4 : Int32) (w5 : Option Nat) (s22 : Int32 × Int32 × v_I × v_J) : Option ((Int32 × Int32 × v_I × v_J) ⊕ (Nat × (Int32 × Int32 × v_I × v_J))) :=
if (60 : Int32) < s22.2.1 then (
some (.inr (1, (s22.1, s22.2.1, s22.2.2.1, s22.2.2.2))))
else (
if s22.1 = (0 : Int32) then (
some (.inr (1, (s22.1, s22.2.1, s22.2.2.1, s22.2.2.2))))
else (
if ((s22.2.2.1 18 0) &&& w4) = w4 then (
some (.inr (0, (s22.1, s22.2.1, s22.2.2.1, s22.2.2.2))))
else (
(h_X1_passMinute S s22.2.2.1 s22.2.2.2 F 18 19 20 w5 w3).bind fun r_8 =>
p_let (s22.2.1 + (1 : Int32)) fun x_10 =>
some (.inl (r_8.1, x_10, r_8.2.1, r_8.2.2)))))
set_option maxHeartbeats 4000000 in
set_option maxRecDepth 100000 in
theorem s_X1_firstMinute_B22 {S : v_S} {F : v_F} (hS : p_SS S) (hF : p_FF F) (w3 : Int32) (w4 : Int32) (w5 : Option Nat) : f_X1_firstMinute_B22 S F 14 1 w3 w4 w5 = h_X1_firstMinute_B22 S F w3 w4 w5 := by
  funext s22
  unfold f_X1_firstMinute_B22 h_X1_firstMinute_B22
  simp only [p_bs, s_X1_begin hS hF, p_obS hS (a := 14) (kd := 1) rfl, s_X0_lawInForce hS hF, p_obS hS (a := 1) (kd := 0) rfl, p_FS hF (a := 14) (i := 1) (b := 18) (by decide), p_obS hS (a := 18) (kd := 3) rfl, s_X1_passMinute hS hF (p_MoC hS hF 18 19 20 rfl rfl rfl (by decide) (by decide))]
def h_X1_firstMinute (S : v_S) (I : v_I) (J : v_J) (F : v_F) (p2 : Int32) (p3 : Int32) (p4 : Int32) : Option (Int32 × v_I × v_J) :=
(h_X1_begin S I F (p2 &&& (p3 ^^^ (-1 : Int32)))).bind fun r_1 =>
(h_X0_lawInForce S r_1 F).bind fun r_3 =>
(v_loop (h_X1_firstMinute_B22 S F p3 p4 r_3) FU ((1 : Int32), (0 : Int32), r_1, J)).bind fun q_12 =>
if q_12.1 = 0 then (
some (q_12.2.2.1, q_12.2.2.2.1, q_12.2.2.2.2))
else (
some ((-1 : Int32), q_12.2.2.2.1, q_12.2.2.2.2))
set_option maxHeartbeats 4000000 in
set_option maxRecDepth 100000 in
theorem s_X1_firstMinute {S : v_S} {F : v_F} (hS : p_SS S) (hF : p_FF F) (I : v_I) (J : v_J) (p2 : Int32) (p3 : Int32) (p4 : Int32) : f_X1_firstMinute S I J F 14 1 p2 p3 p4 = h_X1_firstMinute S I J F p2 p3 p4 := by
  unfold f_X1_firstMinute h_X1_firstMinute
  simp only [p_bs, s_X1_begin hS hF, p_obS hS (a := 14) (kd := 1) rfl, s_X0_lawInForce hS hF, p_obS hS (a := 1) (kd := 0) rfl, p_FS hF (a := 14) (i := 1) (b := 18) (by decide), p_obS hS (a := 18) (kd := 3) rfl, s_X1_passMinute hS hF (p_MoC hS hF 18 19 20 rfl rfl rfl (by decide) (by decide)), s_X1_firstMinute_B22 hS hF]

def h_X9_opens (S : v_S) (I : v_I) (J : v_J) (F : v_F) (p1 : Int32) : Option (Int32 × v_I × v_J) :=
(h_X0_has S I p1.toInt64).bind fun r_1 =>
if r_1 = (0 : Int32) then (
some ((-1 : Int32), I, J))
else (
(h_X1_firstMinute S I J F (I 2 0) (0 : Int32) ((1 : Int32) <<< (p1 &&& 31))).bind fun r_4 =>
some (r_4.1, r_4.2.1, r_4.2.2))
set_option maxHeartbeats 4000000 in
set_option maxRecDepth 100000 in
theorem s_X9_opens {S : v_S} {F : v_F} (hS : p_SS S) (hF : p_FF F) (I : v_I) (J : v_J) (p1 : Int32) : f_X9_opens S I J F 0 p1 = h_X9_opens S I J F p1 := by
  unfold f_X9_opens h_X9_opens
  simp only [p_bs, p_obS hS (a := 0) (kd := 9) rfl, p_FS hF (a := 0) (i := 0) (b := 1) (by decide), s_X0_has hS hF, p_obS hS (a := 1) (kd := 0) rfl, p_FS hF (a := 0) (i := 3) (b := 14) (by decide), p_FS hF (a := 1) (i := 1) (b := 2) (by decide), p_obS hS (a := 2) (kd := 3) rfl, s_X1_firstMinute hS hF, p_obS hS (a := 14) (kd := 1) rfl]

def h_X9_together (S : v_S) (I : v_I) (J : v_J) (F : v_F) : Option (Int32 × v_I × v_J) :=
(h_X0_everyone S I).bind fun r_1 =>
(h_X1_firstMinute S I J F (I 2 0) (0 : Int32) r_1).bind fun r_3 =>
some (r_3.1, r_3.2.1, r_3.2.2)
set_option maxHeartbeats 4000000 in
set_option maxRecDepth 100000 in
theorem s_X9_together {S : v_S} {F : v_F} (hS : p_SS S) (hF : p_FF F) (I : v_I) (J : v_J) : f_X9_together S I J F 0 = h_X9_together S I J F := by
  unfold f_X9_together h_X9_together
  simp only [p_bs, p_obS hS (a := 0) (kd := 9) rfl, p_FS hF (a := 0) (i := 3) (b := 14) (by decide), p_FS hF (a := 0) (i := 0) (b := 1) (by decide), p_obS hS (a := 1) (kd := 0) rfl, p_FS hF (a := 1) (i := 1) (b := 2) (by decide), p_obS hS (a := 2) (kd := 3) rfl, s_X0_everyone hS hF, s_X1_firstMinute hS hF, p_obS hS (a := 14) (kd := 1) rfl]

def h_X1_firstReturn_B2 (S : v_S) (I : v_I) (F : v_F) (s2 : Int32) : Option ((Int32) ⊕ (Nat × (Int32))) :=
if (60 : Int32) < s2 then (
some (.inr (1, s2)))
else (
(p_in 61 s2).bind fun j_2 =>
if (I 22 j_2) = (I 22 0) then (
some (.inr (0, s2)))
else (
p_let (s2 + (1 : Int32)) fun x_4 =>
some (.inl x_4)))
set_option maxHeartbeats 4000000 in
set_option maxRecDepth 100000 in
theorem s_X1_firstReturn_B2 {S : v_S} {F : v_F} (hS : p_SS S) (hF : p_FF F) (I : v_I) : f_X1_firstReturn_B2 S I F 14 = h_X1_firstReturn_B2 S I F := by
  funext s2
  unfold f_X1_firstReturn_B2 h_X1_firstReturn_B2
  simp only [p_bs, p_obS hS (a := 14) (kd := 1) rfl, p_FS hF (a := 14) (i := 3) (b := 22) (by decide), p_ixS hS (kd := 20) (a := 22) (n := 61) rfl, p_inL (n := 61) (k := 0) (i := (0 : Int32)) (by decide)]
def h_X1_firstReturn (S : v_S) (I : v_I) (F : v_F) : Option (Int32) :=
(v_loop (h_X1_firstReturn_B2 S I F) FU (1 : Int32)).bind fun q_6 =>
if q_6.1 = 0 then (
some (q_6.2))
else (
some ((-1 : Int32)))
set_option maxHeartbeats 4000000 in
set_option maxRecDepth 100000 in
theorem s_X1_firstReturn {S : v_S} {F : v_F} (hS : p_SS S) (hF : p_FF F) (I : v_I) : f_X1_firstReturn S I F 14 = h_X1_firstReturn S I F := by
  unfold f_X1_firstReturn h_X1_firstReturn
  simp only [p_bs, p_obS hS (a := 14) (kd := 1) rfl, p_FS hF (a := 14) (i := 3) (b := 22) (by decide), p_ixS hS (kd := 20) (a := 22) (n := 61) rfl, p_inL (n := 61) (k := 0) (i := (0 : Int32)) (by decide), s_X1_firstReturn_B2 hS hF]

def h_X1_follow_B32 (S : v_S) (F : v_F) (w2 : Option Nat) (s32 : Int32 × v_I × v_J) : Option ((Int32 × v_I × v_J) ⊕ (Int32 × v_I × v_J)) :=
if (60 : Int32) < s32.1 then (
some (.inr (s32.1, s32.2.1, s32.2.2)))
else (
(h_X1_passMinute S s32.2.1 s32.2.2 F 18 19 20 w2 (0 : Int32)).bind fun r_8 =>
(p_in 61 s32.1).bind fun j_10 =>
p_let (v_up r_8.2.1 22 j_10 (r_8.2.1 18 0)) fun I_11 =>
p_let (s32.1 + (1 : Int32)) fun x_13 =>
some (.inl (x_13, I_11, r_8.2.2)))
set_option maxHeartbeats 4000000 in
set_option maxRecDepth 100000 in
theorem s_X1_follow_B32 {S : v_S} {F : v_F} (hS : p_SS S) (hF : p_FF F) (w2 : Option Nat) : f_X1_follow_B32 S F 14 1 w2 = h_X1_follow_B32 S F w2 := by
  funext s32
  unfold f_X1_follow_B32 h_X1_follow_B32
  simp only [p_bs, p_obS hS (a := 1) (kd := 0) rfl, p_FS hF (a := 1) (i := 1) (b := 2) (by decide), p_obS hS (a := 2) (kd := 3) rfl, s_X1_begin hS hF, p_obS hS (a := 14) (kd := 1) rfl, s_X0_lawInForce hS hF, p_FS hF (a := 14) (i := 3) (b := 22) (by decide), p_FS hF (a := 14) (i := 1) (b := 18) (by decide), p_obS hS (a := 18) (kd := 3) rfl, p_ixS hS (kd := 20) (a := 22) (n := 61) rfl, p_inL (n := 61) (k := 0) (i := (0 : Int32)) (by decide), s_X1_passMinute hS hF (p_MoC hS hF 18 19 20 rfl rfl rfl (by decide) (by decide))]
def h_X1_follow (S : v_S) (I : v_I) (J : v_J) (F : v_F) : Option (v_I × v_J) :=
(h_X1_begin S I F (I 2 0)).bind fun r_1 =>
(h_X0_lawInForce S r_1 F).bind fun r_3 =>
p_let (v_up r_1 22 0 (r_1 18 0)) fun I_5 =>
(v_loop (h_X1_follow_B32 S F r_3) FU ((1 : Int32), I_5, J)).bind fun q_15 =>
some (q_15.2.1, q_15.2.2)
set_option maxHeartbeats 4000000 in
set_option maxRecDepth 100000 in
theorem s_X1_follow {S : v_S} {F : v_F} (hS : p_SS S) (hF : p_FF F) (I : v_I) (J : v_J) : f_X1_follow S I J F 14 1 = h_X1_follow S I J F := by
  unfold f_X1_follow h_X1_follow
  simp only [p_bs, p_obS hS (a := 1) (kd := 0) rfl, p_FS hF (a := 1) (i := 1) (b := 2) (by decide), p_obS hS (a := 2) (kd := 3) rfl, s_X1_begin hS hF, p_obS hS (a := 14) (kd := 1) rfl, s_X0_lawInForce hS hF, p_FS hF (a := 14) (i := 3) (b := 22) (by decide), p_FS hF (a := 14) (i := 1) (b := 18) (by decide), p_obS hS (a := 18) (kd := 3) rfl, p_ixS hS (kd := 20) (a := 22) (n := 61) rfl, p_inL (n := 61) (k := 0) (i := (0 : Int32)) (by decide), s_X1_passMinute hS hF (p_MoC hS hF 18 19 20 rfl rfl rfl (by decide) (by decide)), s_X1_follow_B32 hS hF]

def h_X9_again (S : v_S) (I : v_I) (J : v_J) (F : v_F) : Option (Int32 × v_I × v_J) :=
(h_X1_follow S I J F).bind fun r_1 =>
(h_X1_firstReturn S r_1.1 F).bind fun r_3 =>
some (r_3, r_1.1, r_1.2)
set_option maxHeartbeats 4000000 in
set_option maxRecDepth 100000 in
theorem s_X9_again {S : v_S} {F : v_F} (hS : p_SS S) (hF : p_FF F) (I : v_I) (J : v_J) : f_X9_again S I J F 0 = h_X9_again S I J F := by
  unfold f_X9_again h_X9_again
  simp only [p_bs, p_obS hS (a := 0) (kd := 9) rfl, p_FS hF (a := 0) (i := 3) (b := 14) (by decide), p_FS hF (a := 0) (i := 0) (b := 1) (by decide), s_X1_follow hS hF, p_obS hS (a := 14) (kd := 1) rfl, s_X1_firstReturn hS hF]

def h_X1_isPart (p0 : Int32) (p1 : Int32) (p2 : Int32) : Option (Int32) :=
(h_J6_bitCount_0f7a4 p0).bind fun r_1 =>
if r_1 = p2 then (
if (p0 &&& (p1 ^^^ (-1 : Int32))) = (0 : Int32) then (
some ((1 : Int32)))
else (
some ((0 : Int32))))
else (
some ((0 : Int32)))
set_option maxHeartbeats 4000000 in
set_option maxRecDepth 100000 in
theorem s_X1_isPart (p0 : Int32) (p1 : Int32) (p2 : Int32) : f_X1_isPart p0 p1 p2 = h_X1_isPart p0 p1 p2 := by
  unfold f_X1_isPart h_X1_isPart
  simp only [p_bs, s_J6_bitCount_0f7a4]

def h_X1_fewestCoaxed_J13_54 (S : v_S) (F : v_F) (w2 : Int32) (w3 : Int32) (w4 : Int32) (I : v_I) (J : v_J) (y5 : Int32) : Option ((Int32 × v_I × v_J) ⊕ (Nat × (Int32 × v_I × v_J))) :=
p_let (y5 + (1 : Int32)) fun x_6 =>
some (.inl (x_6, I, J))
set_option maxHeartbeats 4000000 in
set_option maxRecDepth 100000 in
theorem s_X1_fewestCoaxed_J13_54 {S : v_S} {F : v_F} (hS : p_SS S) (hF : p_FF F) (w2 : Int32) (w3 : Int32) (w4 : Int32) (I : v_I) (J : v_J) (y5 : Int32) : f_X1_fewestCoaxed_J13_54 S F 14 1 w2 w3 w4 I J y5 = h_X1_fewestCoaxed_J13_54 S F w2 w3 w4 I J y5 := by
  unfold f_X1_fewestCoaxed_J13_54 h_X1_fewestCoaxed_J13_54
  simp only [p_bs, s_X1_isPart, p_obS hS (a := 1) (kd := 0) rfl, p_FS hF (a := 1) (i := 1) (b := 2) (by decide), p_obS hS (a := 2) (kd := 3) rfl, s_X1_firstMinute hS hF, p_obS hS (a := 14) (kd := 1) rfl]
def h_X1_fewestCoaxed_B13 (S : v_S) (F : v_F) (w2 : Int32) (w3 : Int32) (w4 : Int32) (s13 : Int32 × v_I × v_J) : Option ((Int32 × v_I × v_J) ⊕ (Nat × (Int32 × v_I × v_J))) :=
if w2 < s13.1 then (
some (.inr (1, (s13.1, s13.2.1, s13.2.2))))
else (
(h_X1_isPart s13.1 w2 w4).bind fun r_3 =>
if r_3 = (0 : Int32) then (
h_X1_fewestCoaxed_J13_54 S F w2 w3 w4 s13.2.1 s13.2.2 s13.1)
else (
(h_X1_firstMinute S s13.2.1 s13.2.2 F ((s13.2.1 2 0) ||| s13.1) (0 : Int32) w3).bind fun r_8 =>
if r_8.1 = (-1 : Int32) then (
h_X1_fewestCoaxed_J13_54 S F w2 w3 w4 r_8.2.1 r_8.2.2 s13.1)
else (
some (.inr (0, (s13.1, r_8.2.1, r_8.2.2))))))
set_option maxHeartbeats 4000000 in
set_option maxRecDepth 100000 in
theorem s_X1_fewestCoaxed_B13 {S : v_S} {F : v_F} (hS : p_SS S) (hF : p_FF F) (w2 : Int32) (w3 : Int32) (w4 : Int32) : f_X1_fewestCoaxed_B13 S F 14 1 w2 w3 w4 = h_X1_fewestCoaxed_B13 S F w2 w3 w4 := by
  funext s13
  unfold f_X1_fewestCoaxed_B13 h_X1_fewestCoaxed_B13
  simp only [p_bs, s_X1_isPart, p_obS hS (a := 1) (kd := 0) rfl, p_FS hF (a := 1) (i := 1) (b := 2) (by decide), p_obS hS (a := 2) (kd := 3) rfl, s_X1_firstMinute hS hF, p_obS hS (a := 14) (kd := 1) rfl, s_X1_fewestCoaxed_J13_54 hS hF]
def h_X1_fewestCoaxed_B3 (S : v_S) (F : v_F) (w2 : Int32) (w3 : Int32) (s3 : Int32 × v_I × v_J) : Option ((Int32 × v_I × v_J) ⊕ (Nat × (Int32 × v_I × v_J × Int32))) :=
if (8 : Int32) < s3.1 then (
some (.inr (1, (s3.1, s3.2.1, s3.2.2, (0 : Int32)))))
else (
(v_loop (h_X1_fewestCoaxed_B13 S F w2 w3 s3.1) FU ((0 : Int32), s3.2.1, s3.2.2)).bind fun q_11 =>
if q_11.1 = 0 then (
some (.inr (0, ((0 : Int32), q_11.2.2.1, q_11.2.2.2, q_11.2.1))))
else (
p_let (s3.1 + (1 : Int32)) fun x_13 =>
some (.inl (x_13, q_11.2.2.1, q_11.2.2.2))))
set_option maxHeartbeats 4000000 in
set_option maxRecDepth 100000 in
theorem s_X1_fewestCoaxed_B3 {S : v_S} {F : v_F} (hS : p_SS S) (hF : p_FF F) (w2 : Int32) (w3 : Int32) : f_X1_fewestCoaxed_B3 S F 14 1 w2 w3 = h_X1_fewestCoaxed_B3 S F w2 w3 := by
  funext s3
  unfold f_X1_fewestCoaxed_B3 h_X1_fewestCoaxed_B3
  simp only [p_bs, s_X1_isPart, p_obS hS (a := 1) (kd := 0) rfl, p_FS hF (a := 1) (i := 1) (b := 2) (by decide), p_obS hS (a := 2) (kd := 3) rfl, s_X1_firstMinute hS hF, p_obS hS (a := 14) (kd := 1) rfl, s_X1_fewestCoaxed_J13_54 hS hF, s_X1_fewestCoaxed_B13 hS hF]
def h_X1_fewestCoaxed (S : v_S) (I : v_I) (J : v_J) (F : v_F) (p2 : Int32) (p3 : Int32) : Option (Int32 × v_I × v_J) :=
(v_loop (h_X1_fewestCoaxed_B3 S F p2 p3) FU ((0 : Int32), I, J)).bind fun q_16 =>
if q_16.1 = 0 then (
some (q_16.2.2.2.2, q_16.2.2.1, q_16.2.2.2.1))
else (
some ((-1 : Int32), q_16.2.2.1, q_16.2.2.2.1))
set_option maxHeartbeats 4000000 in
set_option maxRecDepth 100000 in
theorem s_X1_fewestCoaxed {S : v_S} {F : v_F} (hS : p_SS S) (hF : p_FF F) (I : v_I) (J : v_J) (p2 : Int32) (p3 : Int32) : f_X1_fewestCoaxed S I J F 14 1 p2 p3 = h_X1_fewestCoaxed S I J F p2 p3 := by
  unfold f_X1_fewestCoaxed h_X1_fewestCoaxed
  simp only [p_bs, s_X1_isPart, p_obS hS (a := 1) (kd := 0) rfl, p_FS hF (a := 1) (i := 1) (b := 2) (by decide), p_obS hS (a := 2) (kd := 3) rfl, s_X1_firstMinute hS hF, p_obS hS (a := 14) (kd := 1) rfl, s_X1_fewestCoaxed_J13_54 hS hF, s_X1_fewestCoaxed_B13 hS hF, s_X1_fewestCoaxed_B3 hS hF]

end sc02
