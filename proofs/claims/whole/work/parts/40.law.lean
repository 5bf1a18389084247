noncomputable section lw40
/-- one call of both, out of memory: all answers agree, and the invariant holds again -/
def op_0 (P : v_S → v_I → v_J → v_F → Prop) (S : v_S) (I : v_I) (J : v_J) (F : v_F) : Prop := ∀ a1 a2 : Int32, ∃ (r : Int32 × v_I) (q : Int32 × v_I), f_X9_hedgehog S I F 0 a1 a2 = some r ∧ f_X10_hedgehog S r.2 F 49 a1 a2 = some q ∧ r.1 = q.1 ∧ p_SS S ∧ P S q.2 J F
def op_1 (P : v_S → v_I → v_J → v_F → Prop) (S : v_S) (I : v_I) (J : v_J) (F : v_F) : Prop := ∀ a1 a2 a3 : Int32, ∃ (r : Int32 × v_I) (q : Int32 × v_I), f_X9_watch S I F 0 a1 a2 a3 = some r ∧ f_X10_watch S r.2 F 49 a1 a2 a3 = some q ∧ r.1 = q.1 ∧ p_SS S ∧ P S q.2 J F
def op_2 (P : v_S → v_I → v_J → v_F → Prop) (S : v_S) (I : v_I) (J : v_J) (F : v_F) : Prop := ∀ a1 a2 : Int32, ∃ (r : Int32 × v_I × v_J) (q : Int32 × v_I), f_X9_of S I J F 0 a1 a2 = some r ∧ f_X10_of S r.2.1 F 49 a1 a2 = some q ∧ r.1 = q.1 ∧ p_SS S ∧ P S q.2 r.2.2 F
def op_3 (P : v_S → v_I → v_J → v_F → Prop) (S : v_S) (I : v_I) (J : v_J) (F : v_F) : Prop := ∀ a1 a2 : Int32, ∃ (r : Int32 × v_I) (q : Int32 × v_I), f_X9_terms S I F 0 a1 a2 = some r ∧ f_X10_terms S r.2 F 49 a1 a2 = some q ∧ r.1 = q.1 ∧ p_SS S ∧ P S q.2 J F
def op_4 (P : v_S → v_I → v_J → v_F → Prop) (S : v_S) (I : v_I) (J : v_J) (F : v_F) : Prop := ∀ a1 a2 a3 a4 a5 : Int32, ∃ (r : Int32 × v_I) (q : Int32 × v_I), f_X9_feed S I F 0 a1 a2 a3 a4 a5 = some r ∧ f_X10_feed S r.2 F 49 a1 a2 a3 a4 a5 = some q ∧ r.1 = q.1 ∧ p_SS S ∧ P S q.2 J F
def op_5 (P : v_S → v_I → v_J → v_F → Prop) (S : v_S) (I : v_I) (J : v_J) (F : v_F) : Prop := ∀ a1 : Int32, ∃ (r : Int32 × v_I) (q : Int32 × v_I), f_X9_end S I 0 a1 = some r ∧ f_X10_end S r.2 49 a1 = some q ∧ r.1 = q.1 ∧ p_SS S ∧ P S q.2 J F
def op_6 (P : v_S → v_I → v_J → v_F → Prop) (S : v_S) (I : v_I) (J : v_J) (F : v_F) : Prop := ∃ (r : Int32 × v_I) (q : Int32 × v_I), f_X9_row S I F 0 = some r ∧ f_X10_row S r.2 F 49 = some q ∧ r.1 = q.1 ∧ p_SS S ∧ P S q.2 J F
def op_7 (P : v_S → v_I → v_J → v_F → Prop) (S : v_S) (I : v_I) (J : v_J) (F : v_F) : Prop := ∃ (r : Int32) (q : Int32), f_X9_burrs S I 0 = some r ∧ f_X10_burrs S I 49 = some q ∧ r = q ∧ p_SS S ∧ P S I J F
def op_8 (P : v_S → v_I → v_J → v_F → Prop) (S : v_S) (I : v_I) (J : v_J) (F : v_F) : Prop := ∃ (r : Int32 × v_S × v_I × v_F) (q : Int32 × v_I), f_X9_law S I F 0 = some r ∧ f_X10_law r.2.1 r.2.2.1 r.2.2.2 49 = some q ∧ r.1 = q.1 ∧ p_SS r.2.1 ∧ P r.2.1 q.2 J r.2.2.2
def op_9 (P : v_S → v_I → v_J → v_F → Prop) (S : v_S) (I : v_I) (J : v_J) (F : v_F) : Prop := ∃ (r : Int32 × v_S × v_I × v_J × v_F) (q : Int32 × v_I × v_J), f_X9_orders S I J F 0 = some r ∧ f_X10_orders r.2.1 r.2.2.1 r.2.2.2.1 r.2.2.2.2 49 = some q ∧ r.1 = q.1 ∧ p_SS r.2.1 ∧ P r.2.1 q.2.1 q.2.2 r.2.2.2.2
def op_10 (P : v_S → v_I → v_J → v_F → Prop) (S : v_S) (I : v_I) (J : v_J) (F : v_F) : Prop := ∃ (r : Int32) (q : Int32), f_X9_fault S I 0 = some r ∧ f_X10_fault S I 49 = some q ∧ r = q ∧ p_SS S ∧ P S I J F
def op_11 (P : v_S → v_I → v_J → v_F → Prop) (S : v_S) (I : v_I) (J : v_J) (F : v_F) : Prop := ∃ (r : Int32) (q : Int32), f_X9_stopped S I 0 = some r ∧ f_X10_stopped S I 49 = some q ∧ r = q ∧ p_SS S ∧ P S I J F
def op_12 (P : v_S → v_I → v_J → v_F → Prop) (S : v_S) (I : v_I) (J : v_J) (F : v_F) : Prop := ∀ a1 : Int32, ∃ (r : Int32 × v_I) (q : Int32 × v_I), f_X9_force S I F 0 a1 = some r ∧ f_X10_force S r.2 F 49 a1 = some q ∧ r.1 = q.1 ∧ p_SS S ∧ P S q.2 J F
def op_13 (P : v_S → v_I → v_J → v_F → Prop) (S : v_S) (I : v_I) (J : v_J) (F : v_F) : Prop := ∀ a1 : Int32, ∃ (r : Int32 × v_S × v_I × v_J × v_F) (q : Int32 × v_I), f_X9_touch S I J F 0 a1 = some r ∧ f_X10_touch r.2.1 r.2.2.1 r.2.2.2.2 49 a1 = some q ∧ r.1 = q.1 ∧ p_SS r.2.1 ∧ P r.2.1 q.2 r.2.2.2.1 r.2.2.2.2
def op_14 (P : v_S → v_I → v_J → v_F → Prop) (S : v_S) (I : v_I) (J : v_J) (F : v_F) : Prop := ∀ a1 : Int32, ∃ (r : Int32 × v_S × v_I × v_J × v_F) (q : Int32 × v_I), f_X9_coax S I J F 0 a1 = some r ∧ f_X10_coax r.2.1 r.2.2.1 r.2.2.2.2 49 a1 = some q ∧ r.1 = q.1 ∧ p_SS r.2.1 ∧ P r.2.1 q.2 r.2.2.2.1 r.2.2.2.2
def op_15 (P : v_S → v_I → v_J → v_F → Prop) (S : v_S) (I : v_I) (J : v_J) (F : v_F) : Prop := ∀ a1 a2 : Int32, ∃ (r : Int32 × v_S × v_I × v_J × v_F) (q : Int32 × v_I), f_X9_tempt S I J F 0 a1 a2 = some r ∧ f_X10_tempt r.2.1 r.2.2.1 r.2.2.2.2 49 a1 a2 = some q ∧ r.1 = q.1 ∧ p_SS r.2.1 ∧ P r.2.1 q.2 r.2.2.2.1 r.2.2.2.2
def op_16 (P : v_S → v_I → v_J → v_F → Prop) (S : v_S) (I : v_I) (J : v_J) (F : v_F) : Prop := ∃ (r : Int32 × v_S × v_I × v_J × v_F) (q : Int32 × v_I), f_X9_pass S I J F 0 = some r ∧ f_X10_pass r.2.1 r.2.2.1 r.2.2.2.2 49 = some q ∧ r.1 = q.1 ∧ p_SS r.2.1 ∧ P r.2.1 q.2 r.2.2.2.1 r.2.2.2.2
def op_17 (P : v_S → v_I → v_J → v_F → Prop) (S : v_S) (I : v_I) (J : v_J) (F : v_F) : Prop := ∃ (r : Int32 × v_I) (q : Int32 × v_I), f_X9_undo S I F 0 = some r ∧ f_X10_undo S r.2 F 49 = some q ∧ r.1 = q.1 ∧ p_SS S ∧ P S q.2 J F
def op_18 (P : v_S → v_I → v_J → v_F → Prop) (S : v_S) (I : v_I) (J : v_J) (F : v_F) : Prop := ∀ a1 : Int32, ∃ (r : Int32 × v_I × v_J) (q : Int32 × v_I), f_X9_later S I J F 0 a1 = some r ∧ f_X10_later S r.2.1 F 49 a1 = some q ∧ r.1 = q.1 ∧ p_SS S ∧ P S q.2 r.2.2 F
def op_19 (P : v_S → v_I → v_J → v_F → Prop) (S : v_S) (I : v_I) (J : v_J) (F : v_F) : Prop := ∀ a1 : Int32, ∃ (r : Int32 × v_I × v_J) (q : Int32 × v_I), f_X9_opens S I J F 0 a1 = some r ∧ f_X10_opens S r.2.1 F 49 a1 = some q ∧ r.1 = q.1 ∧ p_SS S ∧ P S q.2 r.2.2 F
def op_20 (P : v_S → v_I → v_J → v_F → Prop) (S : v_S) (I : v_I) (J : v_J) (F : v_F) : Prop := ∃ (r : Int32 × v_I × v_J) (q : Int32 × v_I), f_X9_together S I J F 0 = some r ∧ f_X10_together S r.2.1 F 49 = some q ∧ r.1 = q.1 ∧ p_SS S ∧ P S q.2 r.2.2 F
def op_21 (P : v_S → v_I → v_J → v_F → Prop) (S : v_S) (I : v_I) (J : v_J) (F : v_F) : Prop := ∃ (r : Int32 × v_I × v_J) (q : Int32 × v_I), f_X9_again S I J F 0 = some r ∧ f_X10_again S r.2.1 F 49 = some q ∧ r.1 = q.1 ∧ p_SS S ∧ P S q.2 r.2.2 F
def op_22 (P : v_S → v_I → v_J → v_F → Prop) (S : v_S) (I : v_I) (J : v_J) (F : v_F) : Prop := ∀ a1 : Int32, ∃ (r : Int32 × v_I × v_J) (q : Int32 × v_I), f_X9_seeds S I J F 0 a1 = some r ∧ f_X10_seeds S r.2.1 F 49 a1 = some q ∧ r.1 = q.1 ∧ p_SS S ∧ P S q.2 r.2.2 F
def op_23 (P : v_S → v_I → v_J → v_F → Prop) (S : v_S) (I : v_I) (J : v_J) (F : v_F) : Prop := ∀ a1 a2 : Int32, ∃ (r : Int32 × v_I × v_J) (q : Int32 × v_I), f_X9_seedsFor S I J F 0 a1 a2 = some r ∧ f_X10_seedsFor S r.2.1 F 49 a1 a2 = some q ∧ r.1 = q.1 ∧ p_SS S ∧ P S q.2 r.2.2 F
def op_24 (P : v_S → v_I → v_J → v_F → Prop) (S : v_S) (I : v_I) (J : v_J) (F : v_F) : Prop := ∀ a1 : Int32, ∃ (r : Int32 × v_I × v_J) (q : Int32 × v_I), f_X9_spread S I J F 0 a1 = some r ∧ f_X10_spread S r.2.1 F 49 a1 = some q ∧ r.1 = q.1 ∧ p_SS S ∧ P S q.2 r.2.2 F
def op_25 (P : v_S → v_I → v_J → v_F → Prop) (S : v_S) (I : v_I) (J : v_J) (F : v_F) : Prop := ∀ a1 a2 : Int32, ∃ (r : Int32 × v_I × v_J) (q : Int32 × v_I), f_X9_held S I J F 0 a1 a2 = some r ∧ f_X10_held S r.2.1 F 49 a1 a2 = some q ∧ r.1 = q.1 ∧ p_SS S ∧ P S q.2 r.2.2 F
def op_26 (P : v_S → v_I → v_J → v_F → Prop) (S : v_S) (I : v_I) (J : v_J) (F : v_F) : Prop := ∀ a1 a2 a3 : Int32, ∃ (r : Int32 × v_I) (q : Int32 × v_I), f_X9_chain S I F 0 a1 a2 a3 = some r ∧ f_X10_chain S r.2 F 49 a1 a2 a3 = some q ∧ r.1 = q.1 ∧ p_SS S ∧ P S q.2 J F
def op_27 (P : v_S → v_I → v_J → v_F → Prop) (S : v_S) (I : v_I) (J : v_J) (F : v_F) : Prop := ∃ (r : Int32 × v_I) (q : Int32 × v_I), f_X9_knots S I F 0 = some r ∧ f_X10_knots S r.2 F 49 = some q ∧ r.1 = q.1 ∧ p_SS S ∧ P S q.2 J F
def op_28 (P : v_S → v_I → v_J → v_F → Prop) (S : v_S) (I : v_I) (J : v_J) (F : v_F) : Prop := ∀ a1 : Int32, ∃ (r : Int32 × v_I) (q : Int32 × v_I), f_X9_heads S I F 0 a1 = some r ∧ f_X10_heads S r.2 F 49 a1 = some q ∧ r.1 = q.1 ∧ p_SS S ∧ P S q.2 J F
def op_29 (P : v_S → v_I → v_J → v_F → Prop) (S : v_S) (I : v_I) (J : v_J) (F : v_F) : Prop := ∀ a1 a2 : Int32, ∃ (r : Int32 × v_I) (q : Int32 × v_I), f_X9_seen S I F 0 a1 a2 = some r ∧ f_X10_seen S r.2 F 49 a1 a2 = some q ∧ r.1 = q.1 ∧ p_SS S ∧ P S q.2 J F
def op_30 (P : v_S → v_I → v_J → v_F → Prop) (S : v_S) (I : v_I) (J : v_J) (F : v_F) : Prop := ∃ (r : Int32 × v_I) (q : Int32 × v_I), f_X9_forget S I F 0 = some r ∧ f_X10_forget S r.2 F 49 = some q ∧ r.1 = q.1 ∧ p_SS S ∧ P S q.2 J F
def op_31 (P : v_S → v_I → v_J → v_F → Prop) (S : v_S) (I : v_I) (J : v_J) (F : v_F) : Prop := ∃ (r : Int32 × v_I × v_J) (q : Int32 × v_I), f_X9_canBe S I J F 0 = some r ∧ f_X10_canBe S r.2.1 F 49 = some q ∧ r.1 = q.1 ∧ p_SS S ∧ P S q.2 r.2.2 F
def op_32 (P : v_S → v_I → v_J → v_F → Prop) (S : v_S) (I : v_I) (J : v_J) (F : v_F) : Prop := ∀ a1 : Int32, ∃ (r : Int32 × v_I × v_J) (q : Int32 × v_I), f_X9_look S I J F 0 a1 = some r ∧ f_X10_look S r.2.1 F 49 a1 = some q ∧ r.1 = q.1 ∧ p_SS S ∧ P S q.2 r.2.2 F
def op_33 (P : v_S → v_I → v_J → v_F → Prop) (S : v_S) (I : v_I) (J : v_J) (F : v_F) : Prop := ∀ a1 a2 : Int32, ∃ (r : Int64 × v_J) (q : Int64 × v_J), f_X9_few S I J F 0 a1 a2 = some r ∧ f_X10_few S I r.2 F 49 a1 a2 = some q ∧ r.1 = q.1 ∧ p_SS S ∧ P S I q.2 F
def op_34 (P : v_S → v_I → v_J → v_F → Prop) (S : v_S) (I : v_I) (J : v_J) (F : v_F) : Prop := ∀ a1 : Int32, ∃ (r : Int32 × v_I × v_J) (q : Int32 × v_I), f_X9_compare S I J F 0 a1 = some r ∧ f_X10_compare S r.2.1 F 49 a1 = some q ∧ r.1 = q.1 ∧ p_SS S ∧ P S q.2 r.2.2 F
def op_35 (P : v_S → v_I → v_J → v_F → Prop) (S : v_S) (I : v_I) (J : v_J) (F : v_F) : Prop := ∀ a1 a2 : Int32, ∃ (r : Int32 × v_I × v_J) (q : Int32 × v_I), f_X9_councils S I J F 0 a1 a2 = some r ∧ f_X10_councils S r.2.1 F 49 a1 a2 = some q ∧ r.1 = q.1 ∧ p_SS S ∧ P S q.2 r.2.2 F
def op_36 (P : v_S → v_I → v_J → v_F → Prop) (S : v_S) (I : v_I) (J : v_J) (F : v_F) : Prop := ∀ a1 a2 : Int32, ∃ (r : Int32) (q : Int32), f_X9_drawn S I F 0 a1 a2 = some r ∧ f_X10_drawn S I F 49 a1 a2 = some q ∧ r = q ∧ p_SS S ∧ P S I J F
def op_37 (P : v_S → v_I → v_J → v_F → Prop) (S : v_S) (I : v_I) (J : v_J) (F : v_F) : Prop := ∀ a1 : Int32, ∃ (r : Int32 × v_S × v_I × v_F) (q : Int32 × v_I), f_X9_image S I F 0 a1 = some r ∧ f_X10_image r.2.1 r.2.2.1 r.2.2.2 49 a1 = some q ∧ r.1 = q.1 ∧ p_SS r.2.1 ∧ P r.2.1 q.2 J r.2.2.2
def op_38 (P : v_S → v_I → v_J → v_F → Prop) (S : v_S) (I : v_I) (J : v_J) (F : v_F) : Prop := ∀ a1 : Int32, ∃ (r : Int32 × v_I × v_F) (q : Int32 × v_I), f_X9_back S I F 0 a1 = some r ∧ f_X10_back S r.2.1 r.2.2 49 a1 = some q ∧ r.1 = q.1 ∧ p_SS S ∧ P S q.2 J r.2.2
def op_39 (P : v_S → v_I → v_J → v_F → Prop) (S : v_S) (I : v_I) (J : v_J) (F : v_F) : Prop := ∀ a1 : Int32, ∃ (r : Int32) (q : Int32), f_X9_count S I F 0 a1 = some r ∧ f_X10_count S I F 49 a1 = some q ∧ r = q ∧ p_SS S ∧ P S I J F
def op_40 (P : v_S → v_I → v_J → v_F → Prop) (S : v_S) (I : v_I) (J : v_J) (F : v_F) : Prop := ∃ (r : Int32) (q : Int32), f_X9_status S I 0 = some r ∧ f_X10_status S I 49 = some q ∧ r = q ∧ p_SS S ∧ P S I J F
def op_all (P : v_S → v_I → v_J → v_F → Prop) (S : v_S) (I : v_I) (J : v_J) (F : v_F) : Prop := op_0 P S I J F ∧ op_1 P S I J F ∧ op_2 P S I J F ∧ op_3 P S I J F ∧ op_4 P S I J F ∧ op_5 P S I J F ∧ op_6 P S I J F ∧ op_7 P S I J F ∧ op_8 P S I J F ∧ op_9 P S I J F ∧ op_10 P S I J F ∧ op_11 P S I J F ∧ op_12 P S I J F ∧ op_13 P S I J F ∧ op_14 P S I J F ∧ op_15 P S I J F ∧ op_16 P S I J F ∧ op_17 P S I J F ∧ op_18 P S I J F ∧ op_19 P S I J F ∧ op_20 P S I J F ∧ op_21 P S I J F ∧ op_22 P S I J F ∧ op_23 P S I J F ∧ op_24 P S I J F ∧ op_25 P S I J F ∧ op_26 P S I J F ∧ op_27 P S I J F ∧ op_28 P S I J F ∧ op_29 P S I J F ∧ op_30 P S I J F ∧ op_31 P S I J F ∧ op_32 P S I J F ∧ op_33 P S I J F ∧ op_34 P S I J F ∧ op_35 P S I J F ∧ op_36 P S I J F ∧ op_37 P S I J F ∧ op_38 P S I J F ∧ op_39 P S I J F ∧ op_40 P S I J F
set_option maxHeartbeats 4000000 in
set_option maxRecDepth 100000 in
theorem law_0 {P : v_S → v_I → v_J → v_F → Prop} {sL : Nat} {sx : Nat → Int32} {i x : Int32} {S : v_S} {I : v_I} {J : v_J} {F : v_F} {a1 : Int32} {a2 : Int32} (hS : p_SS S) (hi : ¬ (Int32.ofNat sL - 6 < i)) (hx : p_sc sL sx i = some x) (hk : x &&& 63 = 0) (h1 : p_sc sL sx (i + 1) = some a1) (h2 : p_sc sL sx (i + 2) = some a2) (ho : op_0 P S I J F) : ∃ S' I' J' F', f_L_law_B18 sL sx 0 49 (i, S, I, J, F) = some (.inl (i + 6, S', I', J', F')) ∧ P S' I' J' F' := by
  obtain ⟨r, q, e1, e2, e3, hS1, hP⟩ := ho a1 a2
  refine ⟨_, _, _, _, ?_, hP⟩
  unfold f_L_law_B18
  simp only [hi, hx, hk, if_false, p_bs, p_obS hS (a := 0) (kd := 9) rfl, h1, h2]
  simp [e1, e2, e3, p_let, p_obS hS1 (a := 49) (kd := 10) rfl, p_obS hS (a := 49) (kd := 10) rfl]
set_option maxHeartbeats 4000000 in
set_option maxRecDepth 100000 in
theorem law_1 {P : v_S → v_I → v_J → v_F → Prop} {sL : Nat} {sx : Nat → Int32} {i x : Int32} {S : v_S} {I : v_I} {J : v_J} {F : v_F} {a1 : Int32} {a2 : Int32} {a3 : Int32} (hS : p_SS S) (hi : ¬ (Int32.ofNat sL - 6 < i)) (hx : p_sc sL sx i = some x) (hk : x &&& 63 = 1) (h1 : p_sc sL sx (i + 1) = some a1) (h2 : p_sc sL sx (i + 2) = some a2) (h3 : p_sc sL sx (i + 3) = some a3) (ho : op_1 P S I J F) : ∃ S' I' J' F', f_L_law_B18 sL sx 0 49 (i, S, I, J, F) = some (.inl (i + 6, S', I', J', F')) ∧ P S' I' J' F' := by
  obtain ⟨r, q, e1, e2, e3, hS1, hP⟩ := ho a1 a2 a3
  refine ⟨_, _, _, _, ?_, hP⟩
  unfold f_L_law_B18
  simp only [hi, hx, hk, if_false, p_bs, p_obS hS (a := 0) (kd := 9) rfl, h1, h2, h3]
  simp [e1, e2, e3, p_let, p_obS hS1 (a := 49) (kd := 10) rfl, p_obS hS (a := 49) (kd := 10) rfl]
set_option maxHeartbeats 4000000 in
set_option maxRecDepth 100000 in
theorem law_2 {P : v_S → v_I → v_J → v_F → Prop} {sL : Nat} {sx : Nat → Int32} {i x : Int32} {S : v_S} {I : v_I} {J : v_J} {F : v_F} {a1 : Int32} {a2 : Int32} (hS : p_SS S) (hi : ¬ (Int32.ofNat sL - 6 < i)) (hx : p_sc sL sx i = some x) (hk : x &&& 63 = 2) (h1 : p_sc sL sx (i + 1) = some a1) (h2 : p_sc sL sx (i + 2) = some a2) (ho : op_2 P S I J F) : ∃ S' I' J' F', f_L_law_B18 sL sx 0 49 (i, S, I, J, F) = some (.inl (i + 6, S', I', J', F')) ∧ P S' I' J' F' := by
  obtain ⟨r, q, e1, e2, e3, hS1, hP⟩ := ho a1 a2
  refine ⟨_, _, _, _, ?_, hP⟩
  unfold f_L_law_B18
  simp only [hi, hx, hk, if_false, p_bs, p_obS hS (a := 0) (kd := 9) rfl, h1, h2]
  simp [e1, e2, e3, p_let, p_obS hS1 (a := 49) (kd := 10) rfl, p_obS hS (a := 49) (kd := 10) rfl]
set_option maxHeartbeats 4000000 in
set_option maxRecDepth 100000 in
theorem law_3 {P : v_S → v_I → v_J → v_F → Prop} {sL : Nat} {sx : Nat → Int32} {i x : Int32} {S : v_S} {I : v_I} {J : v_J} {F : v_F} {a1 : Int32} {a2 : Int32} (hS : p_SS S) (hi : ¬ (Int32.ofNat sL - 6 < i)) (hx : p_sc sL sx i = some x) (hk : x &&& 63 = 3) (h1 : p_sc sL sx (i + 1) = some a1) (h2 : p_sc sL sx (i + 2) = some a2) (ho : op_3 P S I J F) : ∃ S' I' J' F', f_L_law_B18 sL sx 0 49 (i, S, I, J, F) = some (.inl (i + 6, S', I', J', F')) ∧ P S' I' J' F' := by
  obtain ⟨r, q, e1, e2, e3, hS1, hP⟩ := ho a1 a2
  refine ⟨_, _, _, _, ?_, hP⟩
  unfold f_L_law_B18
  simp only [hi, hx, hk, if_false, p_bs, p_obS hS (a := 0) (kd := 9) rfl, h1, h2]
  simp [e1, e2, e3, p_let, p_obS hS1 (a := 49) (kd := 10) rfl, p_obS hS (a := 49) (kd := 10) rfl]
set_option maxHeartbeats 4000000 in
set_option maxRecDepth 100000 in
theorem law_4 {P : v_S → v_I → v_J → v_F → Prop} {sL : Nat} {sx : Nat → Int32} {i x : Int32} {S : v_S} {I : v_I} {J : v_J} {F : v_F} {a1 : Int32} {a2 : Int32} {a3 : Int32} {a4 : Int32} {a5 : Int32} (hS : p_SS S) (hi : ¬ (Int32.ofNat sL - 6 < i)) (hx : p_sc sL sx i = some x) (hk : x &&& 63 = 4) (h1 : p_sc sL sx (i + 1) = some a1) (h2 : p_sc sL sx (i + 2) = some a2) (h3 : p_sc sL sx (i + 3) = some a3) (h4 : p_sc sL sx (i + 4) = some a4) (h5 : p_sc sL sx (i + 5) = some a5) (ho : op_4 P S I J F) : ∃ S' I' J' F', f_L_law_B18 sL sx 0 49 (i, S, I, J, F) = some (.inl (i + 6, S', I', J', F')) ∧ P S' I' J' F' := by
  obtain ⟨r, q, e1, e2, e3, hS1, hP⟩ := ho a1 a2 a3 a4 a5
  refine ⟨_, _, _, _, ?_, hP⟩
  unfold f_L_law_B18
  simp only [hi, hx, hk, if_false, p_bs, p_obS hS (a := 0) (kd := 9) rfl, h1, h2, h3, h4, h5]
  simp [e1, e2, e3, p_let, p_obS hS1 (a := 49) (kd := 10) rfl, p_obS hS (a := 49) (kd := 10) rfl]
set_option maxHeartbeats 4000000 in
set_option maxRecDepth 100000 in
theorem law_5 {P : v_S → v_I → v_J → v_F → Prop} {sL : Nat} {sx : Nat → Int32} {i x : Int32} {S : v_S} {I : v_I} {J : v_J} {F : v_F} {a1 : Int32} (hS : p_SS S) (hi : ¬ (Int32.ofNat sL - 6 < i)) (hx : p_sc sL sx i = some x) (hk : x &&& 63 = 5) (h1 : p_sc sL sx (i + 1) = some a1) (ho : op_5 P S I J F) : ∃ S' I' J' F', f_L_law_B18 sL sx 0 49 (i, S, I, J, F) = some (.inl (i + 6, S', I', J', F')) ∧ P S' I' J' F' := by
  obtain ⟨r, q, e1, e2, e3, hS1, hP⟩ := ho a1
  refine ⟨_, _, _, _, ?_, hP⟩
  unfold f_L_law_B18
  simp only [hi, hx, hk, if_false, p_bs, p_obS hS (a := 0) (kd := 9) rfl, h1]
  simp [e1, e2, e3, p_let, p_obS hS1 (a := 49) (kd := 10) rfl, p_obS hS (a := 49) (kd := 10) rfl]
set_option maxHeartbeats 4000000 in
set_option maxRecDepth 100000 in
theorem law_6 {P : v_S → v_I → v_J → v_F → Prop} {sL : Nat} {sx : Nat → Int32} {i x : Int32} {S : v_S} {I : v_I} {J : v_J} {F : v_F}  (hS : p_SS S) (hi : ¬ (Int32.ofNat sL - 6 < i)) (hx : p_sc sL sx i = some x) (hk : x &&& 63 = 6)  (ho : op_6 P S I J F) : ∃ S' I' J' F', f_L_law_B18 sL sx 0 49 (i, S, I, J, F) = some (.inl (i + 6, S', I', J', F')) ∧ P S' I' J' F' := by
  obtain ⟨r, q, e1, e2, e3, hS1, hP⟩ := ho
  refine ⟨_, _, _, _, ?_, hP⟩
  unfold f_L_law_B18
  simp only [hi, hx, hk, if_false, p_bs, p_obS hS (a := 0) (kd := 9) rfl]
  simp [e1, e2, e3, p_let, p_obS hS1 (a := 49) (kd := 10) rfl, p_obS hS (a := 49) (kd := 10) rfl]
set_option maxHeartbeats 4000000 in
set_option maxRecDepth 100000 in
theorem law_7 {P : v_S → v_I → v_J → v_F → Prop} {sL : Nat} {sx : Nat → Int32} {i x : Int32} {S : v_S} {I : v_I} {J : v_J} {F : v_F}  (hS : p_SS S) (hi : ¬ (Int32.ofNat sL - 6 < i)) (hx : p_sc sL sx i = some x) (hk : x &&& 63 = 7)  (ho : op_7 P S I J F) : ∃ S' I' J' F', f_L_law_B18 sL sx 0 49 (i, S, I, J, F) = some (.inl (i + 6, S', I', J', F')) ∧ P S' I' J' F' := by
  obtain ⟨r, q, e1, e2, e3, hS1, hP⟩ := ho
  refine ⟨_, _, _, _, ?_, hP⟩
  unfold f_L_law_B18
  simp only [hi, hx, hk, if_false, p_bs, p_obS hS (a := 0) (kd := 9) rfl]
  simp [e1, e2, e3, p_let, p_obS hS1 (a := 49) (kd := 10) rfl, p_obS hS (a := 49) (kd := 10) rfl]
set_option maxHeartbeats 4000000 in
set_option maxRecDepth 100000 in
theorem law_8 {P : v_S → v_I → v_J → v_F → Prop} {sL : Nat} {sx : Nat → Int32} {i x : Int32} {S : v_S} {I : v_I} {J : v_J} {F : v_F}  (hS : p_SS S) (hi : ¬ (Int32.ofNat sL - 6 < i)) (hx : p_sc sL sx i = some x) (hk : x &&& 63 = 8)  (ho : op_8 P S I J F) : ∃ S' I' J' F', f_L_law_B18 sL sx 0 49 (i, S, I, J, F) = some (.inl (i + 6, S', I', J', F')) ∧ P S' I' J' F' := by
  obtain ⟨r, q, e1, e2, e3, hS1, hP⟩ := ho
  refine ⟨_, _, _, _, ?_, hP⟩
  unfold f_L_law_B18
  simp only [hi, hx, hk, if_false, p_bs, p_obS hS (a := 0) (kd := 9) rfl]
  simp [e1, e2, e3, p_let, p_obS hS1 (a := 49) (kd := 10) rfl, p_obS hS (a := 49) (kd := 10) rfl]
set_option maxHeartbeats 4000000 in
set_option maxRecDepth 100000 in
theorem law_9 {P : v_S → v_I → v_J → v_F → Prop} {sL : Nat} {sx : Nat → Int32} {i x : Int32} {S : v_S} {I : v_I} {J : v_J} {F : v_F}  (hS : p_SS S) (hi : ¬ (Int32.ofNat sL - 6 < i)) (hx : p_sc sL sx i = some x) (hk : x &&& 63 = 9)  (ho : op_9 P S I J F) : ∃ S' I' J' F', f_L_law_B18 sL sx 0 49 (i, S, I, J, F) = some (.inl (i + 6, S', I', J', F')) ∧ P S' I' J' F' := by
  obtain ⟨r, q, e1, e2, e3, hS1, hP⟩ := ho
  refine ⟨_, _, _, _, ?_, hP⟩
  unfold f_L_law_B18
  simp only [hi, hx, hk, if_false, p_bs, p_obS hS (a := 0) (kd := 9) rfl]
  simp [e1, e2, e3, p_let, p_obS hS1 (a := 49) (kd := 10) rfl, p_obS hS (a := 49) (kd := 10) rfl]
set_option maxHeartbeats 4000000 in
set_option maxRecDepth 100000 in
theorem law_10 {P : v_S → v_I → v_J → v_F → Prop} {sL : Nat} {sx : Nat → Int32} {i x : Int32} {S : v_S} {I : v_I} {J : v_J} {F : v_F}  (hS : p_SS S) (hi : ¬ (Int32.ofNat sL - 6 < i)) (hx : p_sc sL sx i = some x) (hk : x &&& 63 = 10)  (ho : op_10 P S I J F) : ∃ S' I' J' F', f_L_law_B18 sL sx 0 49 (i, S, I, J, F) = some (.inl (i + 6, S', I', J', F')) ∧ P S' I' J' F' := by
  obtain ⟨r, q, e1, e2, e3, hS1, hP⟩ := ho
  refine ⟨_, _, _, _, ?_, hP⟩
  unfold f_L_law_B18
  simp only [hi, hx, hk, if_false, p_bs, p_obS hS (a := 0) (kd := 9) rfl]
  simp [e1, e2, e3, p_let, p_obS hS1 (a := 49) (kd := 10) rfl, p_obS hS (a := 49) (kd := 10) rfl]
set_option maxHeartbeats 4000000 in
set_option maxRecDepth 100000 in
theorem law_11 {P : v_S → v_I → v_J → v_F → Prop} {sL : Nat} {sx : Nat → Int32} {i x : Int32} {S : v_S} {I : v_I} {J : v_J} {F : v_F}  (hS : p_SS S) (hi : ¬ (Int32.ofNat sL - 6 < i)) (hx : p_sc sL sx i = some x) (hk : x &&& 63 = 11)  (ho : op_11 P S I J F) : ∃ S' I' J' F', f_L_law_B18 sL sx 0 49 (i, S, I, J, F) = some (.inl (i + 6, S', I', J', F')) ∧ P S' I' J' F' := by
  obtain ⟨r, q, e1, e2, e3, hS1, hP⟩ := ho
  refine ⟨_, _, _, _, ?_, hP⟩
  unfold f_L_law_B18
  simp only [hi, hx, hk, if_false, p_bs, p_obS hS (a := 0) (kd := 9) rfl]
  simp [e1, e2, e3, p_let, p_obS hS1 (a := 49) (kd := 10) rfl, p_obS hS (a := 49) (kd := 10) rfl]
set_option maxHeartbeats 4000000 in
set_option maxRecDepth 100000 in
theorem law_12 {P : v_S → v_I → v_J → v_F → Prop} {sL : Nat} {sx : Nat → Int32} {i x : Int32} {S : v_S} {I : v_I} {J : v_J} {F : v_F} {a1 : Int32} (hS : p_SS S) (hi : ¬ (Int32.ofNat sL - 6 < i)) (hx : p_sc sL sx i = some x) (hk : x &&& 63 = 12) (h1 : p_sc sL sx (i + 1) = some a1) (ho : op_12 P S I J F) : ∃ S' I' J' F', f_L_law_B18 sL sx 0 49 (i, S, I, J, F) = some (.inl (i + 6, S', I', J', F')) ∧ P S' I' J' F' := by
  obtain ⟨r, q, e1, e2, e3, hS1, hP⟩ := ho a1
  refine ⟨_, _, _, _, ?_, hP⟩
  unfold f_L_law_B18
  simp only [hi, hx, hk, if_false, p_bs, p_obS hS (a := 0) (kd := 9) rfl, h1]
  simp [e1, e2, e3, p_let, p_obS hS1 (a := 49) (kd := 10) rfl, p_obS hS (a := 49) (kd := 10) rfl]
set_option maxHeartbeats 4000000 in
set_option maxRecDepth 100000 in
theorem law_13 {P : v_S → v_I → v_J → v_F → Prop} {sL : Nat} {sx : Nat → Int32} {i x : Int32} {S : v_S} {I : v_I} {J : v_J} {F : v_F} {a1 : Int32} (hS : p_SS S) (hi : ¬ (Int32.ofNat sL - 6 < i)) (hx : p_sc sL sx i = some x) (hk : x &&& 63 = 13) (h1 : p_sc sL sx (i + 1) = some a1) (ho : op_13 P S I J F) : ∃ S' I' J' F', f_L_law_B18 sL sx 0 49 (i, S, I, J, F) = some (.inl (i + 6, S', I', J', F')) ∧ P S' I' J' F' := by
  obtain ⟨r, q, e1, e2, e3, hS1, hP⟩ := ho a1
  refine ⟨_, _, _, _, ?_, hP⟩
  unfold f_L_law_B18
  simp only [hi, hx, hk, if_false, p_bs, p_obS hS (a := 0) (kd := 9) rfl, h1]
  simp [e1, e2, e3, p_let, p_obS hS1 (a := 49) (kd := 10) rfl, p_obS hS (a := 49) (kd := 10) rfl]
set_option maxHeartbeats 4000000 in
set_option maxRecDepth 100000 in
theorem law_14 {P : v_S → v_I → v_J → v_F → Prop} {sL : Nat} {sx : Nat → Int32} {i x : Int32} {S : v_S} {I : v_I} {J : v_J} {F : v_F} {a1 : Int32} (hS : p_SS S) (hi : ¬ (Int32.ofNat sL - 6 < i)) (hx : p_sc sL sx i = some x) (hk : x &&& 63 = 14) (h1 : p_sc sL sx (i + 1) = some a1) (ho : op_14 P S I J F) : ∃ S' I' J' F', f_L_law_B18 sL sx 0 49 (i, S, I, J, F) = some (.inl (i + 6, S', I', J', F')) ∧ P S' I' J' F' := by
  obtain ⟨r, q, e1, e2, e3, hS1, hP⟩ := ho a1
  refine ⟨_, _, _, _, ?_, hP⟩
  unfold f_L_law_B18
  simp only [hi, hx, hk, if_false, p_bs, p_obS hS (a := 0) (kd := 9) rfl, h1]
  simp [e1, e2, e3, p_let, p_obS hS1 (a := 49) (kd := 10) rfl, p_obS hS (a := 49) (kd := 10) rfl]
set_option maxHeartbeats 4000000 in
set_option maxRecDepth 100000 in
theorem law_15 {P : v_S → v_I → v_J → v_F → Prop} {sL : Nat} {sx : Nat → Int32} {i x : Int32} {S : v_S} {I : v_I} {J : v_J} {F : v_F} {a1 : Int32} {a2 : Int32} (hS : p_SS S) (hi : ¬ (Int32.ofNat sL - 6 < i)) (hx : p_sc sL sx i = some x) (hk : x &&& 63 = 15) (h1 : p_sc sL sx (i + 1) = some a1) (h2 : p_sc sL sx (i + 2) = some a2) (ho : op_15 P S I J F) : ∃ S' I' J' F', f_L_law_B18 sL sx 0 49 (i, S, I, J, F) = some (.inl (i + 6, S', I', J', F')) ∧ P S' I' J' F' := by
  obtain ⟨r, q, e1, e2, e3, hS1, hP⟩ := ho a1 a2
  refine ⟨_, _, _, _, ?_, hP⟩
  unfold f_L_law_B18
  simp only [hi, hx, hk, if_false, p_bs, p_obS hS (a := 0) (kd := 9) rfl, h1, h2]
  simp [e1, e2, e3, p_let, p_obS hS1 (a := 49) (kd := 10) rfl, p_obS hS (a := 49) (kd := 10) rfl]
set_option maxHeartbeats 4000000 in
set_option maxRecDepth 100000 in
theorem law_16 {P : v_S → v_I → v_J → v_F → Prop} {sL : Nat} {sx : Nat → Int32} {i x : Int32} {S : v_S} {I : v_I} {J : v_J} {F : v_F}  (hS : p_SS S) (hi : ¬ (Int32.ofNat sL - 6 < i)) (hx : p_sc sL sx i = some x) (hk : x &&& 63 = 16)  (ho : op_16 P S I J F) : ∃ S' I' J' F', f_L_law_B18 sL sx 0 49 (i, S, I, J, F) = some (.inl (i + 6, S', I', J', F')) ∧ P S' I' J' F' := by
  obtain ⟨r, q, e1, e2, e3, hS1, hP⟩ := ho
  refine ⟨_, _, _, _, ?_, hP⟩
  unfold f_L_law_B18
  simp only [hi, hx, hk, if_false, p_bs, p_obS hS (a := 0) (kd := 9) rfl]
  simp [e1, e2, e3, p_let, p_obS hS1 (a := 49) (kd := 10) rfl, p_obS hS (a := 49) (kd := 10) rfl]
set_option maxHeartbeats 4000000 in
set_option maxRecDepth 100000 in
theorem law_17 {P : v_S → v_I → v_J → v_F → Prop} {sL : Nat} {sx : Nat → Int32} {i x : Int32} {S : v_S} {I : v_I} {J : v_J} {F : v_F}  (hS : p_SS S) (hi : ¬ (Int32.ofNat sL - 6 < i)) (hx : p_sc sL sx i = some x) (hk : x &&& 63 = 17)  (ho : op_17 P S I J F) : ∃ S' I' J' F', f_L_law_B18 sL sx 0 49 (i, S, I, J, F) = some (.inl (i + 6, S', I', J', F')) ∧ P S' I' J' F' := by
  obtain ⟨r, q, e1, e2, e3, hS1, hP⟩ := ho
  refine ⟨_, _, _, _, ?_, hP⟩
  unfold f_L_law_B18
  simp only [hi, hx, hk, if_false, p_bs, p_obS hS (a := 0) (kd := 9) rfl]
  simp [e1, e2, e3, p_let, p_obS hS1 (a := 49) (kd := 10) rfl, p_obS hS (a := 49) (kd := 10) rfl]
set_option maxHeartbeats 4000000 in
set_option maxRecDepth 100000 in
theorem law_18 {P : v_S → v_I → v_J → v_F → Prop} {sL : Nat} {sx : Nat → Int32} {i x : Int32} {S : v_S} {I : v_I} {J : v_J} {F : v_F} {a1 : Int32} (hS : p_SS S) (hi : ¬ (Int32.ofNat sL - 6 < i)) (hx : p_sc sL sx i = some x) (hk : x &&& 63 = 18) (h1 : p_sc sL sx (i + 1) = some a1) (ho : op_18 P S I J F) : ∃ S' I' J' F', f_L_law_B18 sL sx 0 49 (i, S, I, J, F) = some (.inl (i + 6, S', I', J', F')) ∧ P S' I' J' F' := by
  obtain ⟨r, q, e1, e2, e3, hS1, hP⟩ := ho a1
  refine ⟨_, _, _, _, ?_, hP⟩
  unfold f_L_law_B18
  simp only [hi, hx, hk, if_false, p_bs, p_obS hS (a := 0) (kd := 9) rfl, h1]
  simp [e1, e2, e3, p_let, p_obS hS1 (a := 49) (kd := 10) rfl, p_obS hS (a := 49) (kd := 10) rfl]
set_option maxHeartbeats 4000000 in
set_option maxRecDepth 100000 in
theorem law_19 {P : v_S → v_I → v_J → v_F → Prop} {sL : Nat} {sx : Nat → Int32} {i x : Int32} {S : v_S} {I : v_I} {J : v_J} {F : v_F} {a1 : Int32} (hS : p_SS S) (hi : ¬ (Int32.ofNat sL - 6 < i)) (hx : p_sc sL sx i = some x) (hk : x &&& 63 = 19) (h1 : p_sc sL sx (i + 1) = some a1) (ho : op_19 P S I J F) : ∃ S' I' J' F', f_L_law_B18 sL sx 0 49 (i, S, I, J, F) = some (.inl (i + 6, S', I', J', F')) ∧ P S' I' J' F' := by
  obtain ⟨r, q, e1, e2, e3, hS1, hP⟩ := ho a1
  refine ⟨_, _, _, _, ?_, hP⟩
  unfold f_L_law_B18
  simp only [hi, hx, hk, if_false, p_bs, p_obS hS (a := 0) (kd := 9) rfl, h1]
  simp [e1, e2, e3, p_let, p_obS hS1 (a := 49) (kd := 10) rfl, p_obS hS (a := 49) (kd := 10) rfl]
set_option maxHeartbeats 4000000 in
set_option maxRecDepth 100000 in
theorem law_20 {P : v_S → v_I → v_J → v_F → Prop} {sL : Nat} {sx : Nat → Int32} {i x : Int32} {S : v_S} {I : v_I} {J : v_J} {F : v_F}  (hS : p_SS S) (hi : ¬ (Int32.ofNat sL - 6 < i)) (hx : p_sc sL sx i = some x) (hk : x &&& 63 = 20)  (ho : op_20 P S I J F) : ∃ S' I' J' F', f_L_law_B18 sL sx 0 49 (i, S, I, J, F) = some (.inl (i + 6, S', I', J', F')) ∧ P S' I' J' F' := by
  obtain ⟨r, q, e1, e2, e3, hS1, hP⟩ := ho
  refine ⟨_, _, _, _, ?_, hP⟩
  unfold f_L_law_B18
  simp only [hi, hx, hk, if_false, p_bs, p_obS hS (a := 0) (kd := 9) rfl]
  simp [e1, e2, e3, p_let, p_obS hS1 (a := 49) (kd := 10) rfl, p_obS hS (a := 49) (kd := 10) rfl]
set_option maxHeartbeats 4000000 in
set_option maxRecDepth 100000 in
theorem law_21 {P : v_S → v_I → v_J → v_F → Prop} {sL : Nat} {sx : Nat → Int32} {i x : Int32} {S : v_S} {I : v_I} {J : v_J} {F : v_F}  (hS : p_SS S) (hi : ¬ (Int32.ofNat sL - 6 < i)) (hx : p_sc sL sx i = some x) (hk : x &&& 63 = 21)  (ho : op_21 P S I J F) : ∃ S' I' J' F', f_L_law_B18 sL sx 0 49 (i, S, I, J, F) = some (.inl (i + 6, S', I', J', F')) ∧ P S' I' J' F' := by
  obtain ⟨r, q, e1, e2, e3, hS1, hP⟩ := ho
  refine ⟨_, _, _, _, ?_, hP⟩
  unfold f_L_law_B18
  simp only [hi, hx, hk, if_false, p_bs, p_obS hS (a := 0) (kd := 9) rfl]
  simp [e1, e2, e3, p_let, p_obS hS1 (a := 49) (kd := 10) rfl, p_obS hS (a := 49) (kd := 10) rfl]
set_option maxHeartbeats 4000000 in
set_option maxRecDepth 100000 in
theorem law_22 {P : v_S → v_I → v_J → v_F → Prop} {sL : Nat} {sx : Nat → Int32} {i x : Int32} {S : v_S} {I : v_I} {J : v_J} {F : v_F} {a1 : Int32} (hS : p_SS S) (hi : ¬ (Int32.ofNat sL - 6 < i)) (hx : p_sc sL sx i = some x) (hk : x &&& 63 = 22) (h1 : p_sc sL sx (i + 1) = some a1) (ho : op_22 P S I J F) : ∃ S' I' J' F', f_L_law_B18 sL sx 0 49 (i, S, I, J, F) = some (.inl (i + 6, S', I', J', F')) ∧ P S' I' J' F' := by
  obtain ⟨r, q, e1, e2, e3, hS1, hP⟩ := ho a1
  refine ⟨_, _, _, _, ?_, hP⟩
  unfold f_L_law_B18
  simp only [hi, hx, hk, if_false, p_bs, p_obS hS (a := 0) (kd := 9) rfl, h1]
  simp [e1, e2, e3, p_let, p_obS hS1 (a := 49) (kd := 10) rfl, p_obS hS (a := 49) (kd := 10) rfl]
set_option maxHeartbeats 4000000 in
set_option maxRecDepth 100000 in
theorem law_23 {P : v_S → v_I → v_J → v_F → Prop} {sL : Nat} {sx : Nat → Int32} {i x : Int32} {S : v_S} {I : v_I} {J : v_J} {F : v_F} {a1 : Int32} {a2 : Int32} (hS : p_SS S) (hi : ¬ (Int32.ofNat sL - 6 < i)) (hx : p_sc sL sx i = some x) (hk : x &&& 63 = 23) (h1 : p_sc sL sx (i + 1) = some a1) (h2 : p_sc sL sx (i + 2) = some a2) (ho : op_23 P S I J F) : ∃ S' I' J' F', f_L_law_B18 sL sx 0 49 (i, S, I, J, F) = some (.inl (i + 6, S', I', J', F')) ∧ P S' I' J' F' := by
  obtain ⟨r, q, e1, e2, e3, hS1, hP⟩ := ho a1 a2
  refine ⟨_, _, _, _, ?_, hP⟩
  unfold f_L_law_B18
  simp only [hi, hx, hk, if_false, p_bs, p_obS hS (a := 0) (kd := 9) rfl, h1, h2]
  simp [e1, e2, e3, p_let, p_obS hS1 (a := 49) (kd := 10) rfl, p_obS hS (a := 49) (kd := 10) rfl]
set_option maxHeartbeats 4000000 in
set_option maxRecDepth 100000 in
theorem law_24 {P : v_S → v_I → v_J → v_F → Prop} {sL : Nat} {sx : Nat → Int32} {i x : Int32} {S : v_S} {I : v_I} {J : v_J} {F : v_F} {a1 : Int32} (hS : p_SS S) (hi : ¬ (Int32.ofNat sL - 6 < i)) (hx : p_sc sL sx i = some x) (hk : x &&& 63 = 24) (h1 : p_sc sL sx (i + 1) = some a1) (ho : op_24 P S I J F) : ∃ S' I' J' F', f_L_law_B18 sL sx 0 49 (i, S, I, J, F) = some (.inl (i + 6, S', I', J', F')) ∧ P S' I' J' F' := by
  obtain ⟨r, q, e1, e2, e3, hS1, hP⟩ := ho a1
  refine ⟨_, _, _, _, ?_, hP⟩
  unfold f_L_law_B18
  simp only [hi, hx, hk, if_false, p_bs, p_obS hS (a := 0) (kd := 9) rfl, h1]
  simp [e1, e2, e3, p_let, p_obS hS1 (a := 49) (kd := 10) rfl, p_obS hS (a := 49) (kd := 10) rfl]
set_option maxHeartbeats 4000000 in
set_option maxRecDepth 100000 in
theorem law_25 {P : v_S → v_I → v_J → v_F → Prop} {sL : Nat} {sx : Nat → Int32} {i x : Int32} {S : v_S} {I : v_I} {J : v_J} {F : v_F} {a1 : Int32} {a2 : Int32} (hS : p_SS S) (hi : ¬ (Int32.ofNat sL - 6 < i)) (hx : p_sc sL sx i = some x) (hk : x &&& 63 = 25) (h1 : p_sc sL sx (i + 1) = some a1) (h2 : p_sc sL sx (i + 2) = some a2) (ho : op_25 P S I J F) : ∃ S' I' J' F', f_L_law_B18 sL sx 0 49 (i, S, I, J, F) = some (.inl (i + 6, S', I', J', F')) ∧ P S' I' J' F' := by
  obtain ⟨r, q, e1, e2, e3, hS1, hP⟩ := ho a1 a2
  refine ⟨_, _, _, _, ?_, hP⟩
  unfold f_L_law_B18
  simp only [hi, hx, hk, if_false, p_bs, p_obS hS (a := 0) (kd := 9) rfl, h1, h2]
  simp [e1, e2, e3, p_let, p_obS hS1 (a := 49) (kd := 10) rfl, p_obS hS (a := 49) (kd := 10) rfl]
set_option maxHeartbeats 4000000 in
set_option maxRecDepth 100000 in
theorem law_26 {P : v_S → v_I → v_J → v_F → Prop} {sL : Nat} {sx : Nat → Int32} {i x : Int32} {S : v_S} {I : v_I} {J : v_J} {F : v_F} {a1 : Int32} {a2 : Int32} {a3 : Int32} (hS : p_SS S) (hi : ¬ (Int32.ofNat sL - 6 < i)) (hx : p_sc sL sx i = some x) (hk : x &&& 63 = 26) (h1 : p_sc sL sx (i + 1) = some a1) (h2 : p_sc sL sx (i + 2) = some a2) (h3 : p_sc sL sx (i + 3) = some a3) (ho : op_26 P S I J F) : ∃ S' I' J' F', f_L_law_B18 sL sx 0 49 (i, S, I, J, F) = some (.inl (i + 6, S', I', J', F')) ∧ P S' I' J' F' := by
  obtain ⟨r, q, e1, e2, e3, hS1, hP⟩ := ho a1 a2 a3
  refine ⟨_, _, _, _, ?_, hP⟩
  unfold f_L_law_B18
  simp only [hi, hx, hk, if_false, p_bs, p_obS hS (a := 0) (kd := 9) rfl, h1, h2, h3]
  simp [e1, e2, e3, p_let, p_obS hS1 (a := 49) (kd := 10) rfl, p_obS hS (a := 49) (kd := 10) rfl]
set_option maxHeartbeats 4000000 in
set_option maxRecDepth 100000 in
theorem law_27 {P : v_S → v_I → v_J → v_F → Prop} {sL : Nat} {sx : Nat → Int32} {i x : Int32} {S : v_S} {I : v_I} {J : v_J} {F : v_F}  (hS : p_SS S) (hi : ¬ (Int32.ofNat sL - 6 < i)) (hx : p_sc sL sx i = some x) (hk : x &&& 63 = 27)  (ho : op_27 P S I J F) : ∃ S' I' J' F', f_L_law_B18 sL sx 0 49 (i, S, I, J, F) = some (.inl (i + 6, S', I', J', F')) ∧ P S' I' J' F' := by
  obtain ⟨r, q, e1, e2, e3, hS1, hP⟩ := ho
  refine ⟨_, _, _, _, ?_, hP⟩
  unfold f_L_law_B18
  simp only [hi, hx, hk, if_false, p_bs, p_obS hS (a := 0) (kd := 9) rfl]
  simp [e1, e2, e3, p_let, p_obS hS1 (a := 49) (kd := 10) rfl, p_obS hS (a := 49) (kd := 10) rfl]
set_option maxHeartbeats 4000000 in
set_option maxRecDepth 100000 in
theorem law_28 {P : v_S → v_I → v_J → v_F → Prop} {sL : Nat} {sx : Nat → Int32} {i x : Int32} {S : v_S} {I : v_I} {J : v_J} {F : v_F} {a1 : Int32} (hS : p_SS S) (hi : ¬ (Int32.ofNat sL - 6 < i)) (hx : p_sc sL sx i = some x) (hk : x &&& 63 = 28) (h1 : p_sc sL sx (i + 1) = some a1) (ho : op_28 P S I J F) : ∃ S' I' J' F', f_L_law_B18 sL sx 0 49 (i, S, I, J, F) = some (.inl (i + 6, S', I', J', F')) ∧ P S' I' J' F' := by
  obtain ⟨r, q, e1, e2, e3, hS1, hP⟩ := ho a1
  refine ⟨_, _, _, _, ?_, hP⟩
  unfold f_L_law_B18
  simp only [hi, hx, hk, if_false, p_bs, p_obS hS (a := 0) (kd := 9) rfl, h1]
  simp [e1, e2, e3, p_let, p_obS hS1 (a := 49) (kd := 10) rfl, p_obS hS (a := 49) (kd := 10) rfl]
set_option maxHeartbeats 4000000 in
set_option maxRecDepth 100000 in
theorem law_29 {P : v_S → v_I → v_J → v_F → Prop} {sL : Nat} {sx : Nat → Int32} {i x : Int32} {S : v_S} {I : v_I} {J : v_J} {F : v_F} {a1 : Int32} {a2 : Int32} (hS : p_SS S) (hi : ¬ (Int32.ofNat sL - 6 < i)) (hx : p_sc sL sx i = some x) (hk : x &&& 63 = 29) (h1 : p_sc sL sx (i + 1) = some a1) (h2 : p_sc sL sx (i + 2) = some a2) (ho : op_29 P S I J F) : ∃ S' I' J' F', f_L_law_B18 sL sx 0 49 (i, S, I, J, F) = some (.inl (i + 6, S', I', J', F')) ∧ P S' I' J' F' := by
  obtain ⟨r, q, e1, e2, e3, hS1, hP⟩ := ho a1 a2
  refine ⟨_, _, _, _, ?_, hP⟩
  unfold f_L_law_B18
  simp only [hi, hx, hk, if_false, p_bs, p_obS hS (a := 0) (kd := 9) rfl, h1, h2]
  simp [e1, e2, e3, p_let, p_obS hS1 (a := 49) (kd := 10) rfl, p_obS hS (a := 49) (kd := 10) rfl]
set_option maxHeartbeats 4000000 in
set_option maxRecDepth 100000 in
theorem law_30 {P : v_S → v_I → v_J → v_F → Prop} {sL : Nat} {sx : Nat → Int32} {i x : Int32} {S : v_S} {I : v_I} {J : v_J} {F : v_F}  (hS : p_SS S) (hi : ¬ (Int32.ofNat sL - 6 < i)) (hx : p_sc sL sx i = some x) (hk : x &&& 63 = 30)  (ho : op_30 P S I J F) : ∃ S' I' J' F', f_L_law_B18 sL sx 0 49 (i, S, I, J, F) = some (.inl (i + 6, S', I', J', F')) ∧ P S' I' J' F' := by
  obtain ⟨r, q, e1, e2, e3, hS1, hP⟩ := ho
  refine ⟨_, _, _, _, ?_, hP⟩
  unfold f_L_law_B18
  simp only [hi, hx, hk, if_false, p_bs, p_obS hS (a := 0) (kd := 9) rfl]
  simp [e1, e2, e3, p_let, p_obS hS1 (a := 49) (kd := 10) rfl, p_obS hS (a := 49) (kd := 10) rfl]
set_option maxHeartbeats 4000000 in
set_option maxRecDepth 100000 in
theorem law_31 {P : v_S → v_I → v_J → v_F → Prop} {sL : Nat} {sx : Nat → Int32} {i x : Int32} {S : v_S} {I : v_I} {J : v_J} {F : v_F}  (hS : p_SS S) (hi : ¬ (Int32.ofNat sL - 6 < i)) (hx : p_sc sL sx i = some x) (hk : x &&& 63 = 31)  (ho : op_31 P S I J F) : ∃ S' I' J' F', f_L_law_B18 sL sx 0 49 (i, S, I, J, F) = some (.inl (i + 6, S', I', J', F')) ∧ P S' I' J' F' := by
  obtain ⟨r, q, e1, e2, e3, hS1, hP⟩ := ho
  refine ⟨_, _, _, _, ?_, hP⟩
  unfold f_L_law_B18
  simp only [hi, hx, hk, if_false, p_bs, p_obS hS (a := 0) (kd := 9) rfl]
  simp [e1, e2, e3, p_let, p_obS hS1 (a := 49) (kd := 10) rfl, p_obS hS (a := 49) (kd := 10) rfl]
set_option maxHeartbeats 4000000 in
set_option maxRecDepth 100000 in
theorem law_32 {P : v_S → v_I → v_J → v_F → Prop} {sL : Nat} {sx : Nat → Int32} {i x : Int32} {S : v_S} {I : v_I} {J : v_J} {F : v_F} {a1 : Int32} (hS : p_SS S) (hi : ¬ (Int32.ofNat sL - 6 < i)) (hx : p_sc sL sx i = some x) (hk : x &&& 63 = 32) (h1 : p_sc sL sx (i + 1) = some a1) (ho : op_32 P S I J F) : ∃ S' I' J' F', f_L_law_B18 sL sx 0 49 (i, S, I, J, F) = some (.inl (i + 6, S', I', J', F')) ∧ P S' I' J' F' := by
  obtain ⟨r, q, e1, e2, e3, hS1, hP⟩ := ho a1
  refine ⟨_, _, _, _, ?_, hP⟩
  unfold f_L_law_B18
  simp only [hi, hx, hk, if_false, p_bs, p_obS hS (a := 0) (kd := 9) rfl, h1]
  simp [e1, e2, e3, p_let, p_obS hS1 (a := 49) (kd := 10) rfl, p_obS hS (a := 49) (kd := 10) rfl]
set_option maxHeartbeats 4000000 in
set_option maxRecDepth 100000 in
theorem law_33 {P : v_S → v_I → v_J → v_F → Prop} {sL : Nat} {sx : Nat → Int32} {i x : Int32} {S : v_S} {I : v_I} {J : v_J} {F : v_F} {a1 : Int32} {a2 : Int32} (hS : p_SS S) (hi : ¬ (Int32.ofNat sL - 6 < i)) (hx : p_sc sL sx i = some x) (hk : x &&& 63 = 33) (h1 : p_sc sL sx (i + 1) = some a1) (h2 : p_sc sL sx (i + 2) = some a2) (ho : op_33 P S I J F) : ∃ S' I' J' F', f_L_law_B18 sL sx 0 49 (i, S, I, J, F) = some (.inl (i + 6, S', I', J', F')) ∧ P S' I' J' F' := by
  obtain ⟨r, q, e1, e2, e3, hS1, hP⟩ := ho a1 a2
  refine ⟨_, _, _, _, ?_, hP⟩
  unfold f_L_law_B18
  simp only [hi, hx, hk, if_false, p_bs, p_obS hS (a := 0) (kd := 9) rfl, h1, h2]
  simp [e1, e2, e3, p_let, lg_cmp, p_obS hS1 (a := 49) (kd := 10) rfl, p_obS hS (a := 49) (kd := 10) rfl]
set_option maxHeartbeats 4000000 in
set_option maxRecDepth 100000 in
theorem law_34 {P : v_S → v_I → v_J → v_F → Prop} {sL : Nat} {sx : Nat → Int32} {i x : Int32} {S : v_S} {I : v_I} {J : v_J} {F : v_F} {a1 : Int32} (hS : p_SS S) (hi : ¬ (Int32.ofNat sL - 6 < i)) (hx : p_sc sL sx i = some x) (hk : x &&& 63 = 34) (h1 : p_sc sL sx (i + 1) = some a1) (ho : op_34 P S I J F) : ∃ S' I' J' F', f_L_law_B18 sL sx 0 49 (i, S, I, J, F) = some (.inl (i + 6, S', I', J', F')) ∧ P S' I' J' F' := by
  obtain ⟨r, q, e1, e2, e3, hS1, hP⟩ := ho a1
  refine ⟨_, _, _, _, ?_, hP⟩
  unfold f_L_law_B18
  simp only [hi, hx, hk, if_false, p_bs, p_obS hS (a := 0) (kd := 9) rfl, h1]
  simp [e1, e2, e3, p_let, p_obS hS1 (a := 49) (kd := 10) rfl, p_obS hS (a := 49) (kd := 10) rfl]
set_option maxHeartbeats 4000000 in
set_option maxRecDepth 100000 in
theorem law_35 {P : v_S → v_I → v_J → v_F → Prop} {sL : Nat} {sx : Nat → Int32} {i x : Int32} {S : v_S} {I : v_I} {J : v_J} {F : v_F} {a1 : Int32} {a2 : Int32} (hS : p_SS S) (hi : ¬ (Int32.ofNat sL - 6 < i)) (hx : p_sc sL sx i = some x) (hk : x &&& 63 = 35) (h1 : p_sc sL sx (i + 1) = some a1) (h2 : p_sc sL sx (i + 2) = some a2) (ho : op_35 P S I J F) : ∃ S' I' J' F', f_L_law_B18 sL sx 0 49 (i, S, I, J, F) = some (.inl (i + 6, S', I', J', F')) ∧ P S' I' J' F' := by
  obtain ⟨r, q, e1, e2, e3, hS1, hP⟩ := ho a1 a2
  refine ⟨_, _, _, _, ?_, hP⟩
  unfold f_L_law_B18
  simp only [hi, hx, hk, if_false, p_bs, p_obS hS (a := 0) (kd := 9) rfl, h1, h2]
  simp [e1, e2, e3, p_let, p_obS hS1 (a := 49) (kd := 10) rfl, p_obS hS (a := 49) (kd := 10) rfl]
set_option maxHeartbeats 4000000 in
set_option maxRecDepth 100000 in
theorem law_36 {P : v_S → v_I → v_J → v_F → Prop} {sL : Nat} {sx : Nat → Int32} {i x : Int32} {S : v_S} {I : v_I} {J : v_J} {F : v_F} {a1 : Int32} {a2 : Int32} (hS : p_SS S) (hi : ¬ (Int32.ofNat sL - 6 < i)) (hx : p_sc sL sx i = some x) (hk : x &&& 63 = 36) (h1 : p_sc sL sx (i + 1) = some a1) (h2 : p_sc sL sx (i + 2) = some a2) (ho : op_36 P S I J F) : ∃ S' I' J' F', f_L_law_B18 sL sx 0 49 (i, S, I, J, F) = some (.inl (i + 6, S', I', J', F')) ∧ P S' I' J' F' := by
  obtain ⟨r, q, e1, e2, e3, hS1, hP⟩ := ho a1 a2
  refine ⟨_, _, _, _, ?_, hP⟩
  unfold f_L_law_B18
  simp only [hi, hx, hk, if_false, p_bs, p_obS hS (a := 0) (kd := 9) rfl, h1, h2]
  simp [e1, e2, e3, p_let, p_obS hS1 (a := 49) (kd := 10) rfl, p_obS hS (a := 49) (kd := 10) rfl]
set_option maxHeartbeats 4000000 in
set_option maxRecDepth 100000 in
theorem law_37 {P : v_S → v_I → v_J → v_F → Prop} {sL : Nat} {sx : Nat → Int32} {i x : Int32} {S : v_S} {I : v_I} {J : v_J} {F : v_F} {a1 : Int32} (hS : p_SS S) (hi : ¬ (Int32.ofNat sL - 6 < i)) (hx : p_sc sL sx i = some x) (hk : x &&& 63 = 37) (h1 : p_sc sL sx (i + 1) = some a1) (ho : op_37 P S I J F) : ∃ S' I' J' F', f_L_law_B18 sL sx 0 49 (i, S, I, J, F) = some (.inl (i + 6, S', I', J', F')) ∧ P S' I' J' F' := by
  obtain ⟨r, q, e1, e2, e3, hS1, hP⟩ := ho a1
  refine ⟨_, _, _, _, ?_, hP⟩
  unfold f_L_law_B18
  simp only [hi, hx, hk, if_false, p_bs, p_obS hS (a := 0) (kd := 9) rfl, h1]
  simp [e1, e2, e3, p_let, p_obS hS1 (a := 49) (kd := 10) rfl, p_obS hS (a := 49) (kd := 10) rfl]
set_option maxHeartbeats 4000000 in
set_option maxRecDepth 100000 in
theorem law_38 {P : v_S → v_I → v_J → v_F → Prop} {sL : Nat} {sx : Nat → Int32} {i x : Int32} {S : v_S} {I : v_I} {J : v_J} {F : v_F} {a1 : Int32} (hS : p_SS S) (hi : ¬ (Int32.ofNat sL - 6 < i)) (hx : p_sc sL sx i = some x) (hk : x &&& 63 = 38) (h1 : p_sc sL sx (i + 1) = some a1) (ho : op_38 P S I J F) : ∃ S' I' J' F', f_L_law_B18 sL sx 0 49 (i, S, I, J, F) = some (.inl (i + 6, S', I', J', F')) ∧ P S' I' J' F' := by
  obtain ⟨r, q, e1, e2, e3, hS1, hP⟩ := ho a1
  refine ⟨_, _, _, _, ?_, hP⟩
  unfold f_L_law_B18
  simp only [hi, hx, hk, if_false, p_bs, p_obS hS (a := 0) (kd := 9) rfl, h1]
  simp [e1, e2, e3, p_let, p_obS hS1 (a := 49) (kd := 10) rfl, p_obS hS (a := 49) (kd := 10) rfl]
set_option maxHeartbeats 4000000 in
set_option maxRecDepth 100000 in
theorem law_39 {P : v_S → v_I → v_J → v_F → Prop} {sL : Nat} {sx : Nat → Int32} {i x : Int32} {S : v_S} {I : v_I} {J : v_J} {F : v_F} {a1 : Int32} (hS : p_SS S) (hi : ¬ (Int32.ofNat sL - 6 < i)) (hx : p_sc sL sx i = some x) (hk : x &&& 63 = 39) (h1 : p_sc sL sx (i + 1) = some a1) (ho : op_39 P S I J F) : ∃ S' I' J' F', f_L_law_B18 sL sx 0 49 (i, S, I, J, F) = some (.inl (i + 6, S', I', J', F')) ∧ P S' I' J' F' := by
  obtain ⟨r, q, e1, e2, e3, hS1, hP⟩ := ho a1
  refine ⟨_, _, _, _, ?_, hP⟩
  unfold f_L_law_B18
  simp only [hi, hx, hk, if_false, p_bs, p_obS hS (a := 0) (kd := 9) rfl, h1]
  simp [e1, e2, e3, p_let, p_obS hS1 (a := 49) (kd := 10) rfl, p_obS hS (a := 49) (kd := 10) rfl]
set_option maxHeartbeats 4000000 in
set_option maxRecDepth 100000 in
theorem law_40 {P : v_S → v_I → v_J → v_F → Prop} {sL : Nat} {sx : Nat → Int32} {i x : Int32} {S : v_S} {I : v_I} {J : v_J} {F : v_F}  (hS : p_SS S) (hi : ¬ (Int32.ofNat sL - 6 < i)) (hx : p_sc sL sx i = some x) (hk : x &&& 63 = 40)  (ho : op_40 P S I J F) : ∃ S' I' J' F', f_L_law_B18 sL sx 0 49 (i, S, I, J, F) = some (.inl (i + 6, S', I', J', F')) ∧ P S' I' J' F' := by
  obtain ⟨r, q, e1, e2, e3, hS1, hP⟩ := ho
  refine ⟨_, _, _, _, ?_, hP⟩
  unfold f_L_law_B18
  simp only [hi, hx, hk, if_false, p_bs, p_obS hS (a := 0) (kd := 9) rfl]
  simp [e1, e2, e3, p_let, p_obS hS1 (a := 49) (kd := 10) rfl, p_obS hS (a := 49) (kd := 10) rfl]
set_option maxHeartbeats 4000000 in
set_option maxRecDepth 100000 in
theorem law_def {sL : Nat} {sx : Nat → Int32} {i x : Int32} {S : v_S} {I : v_I} {J : v_J} {F : v_F} (hi : ¬ (Int32.ofNat sL - 6 < i)) (hx : p_sc sL sx i = some x) (hk : ¬ (x &&& 63 = 0) ∧ ¬ (x &&& 63 = 1) ∧ ¬ (x &&& 63 = 2) ∧ ¬ (x &&& 63 = 3) ∧ ¬ (x &&& 63 = 4) ∧ ¬ (x &&& 63 = 5) ∧ ¬ (x &&& 63 = 6) ∧ ¬ (x &&& 63 = 7) ∧ ¬ (x &&& 63 = 8) ∧ ¬ (x &&& 63 = 9) ∧ ¬ (x &&& 63 = 10) ∧ ¬ (x &&& 63 = 11) ∧ ¬ (x &&& 63 = 12) ∧ ¬ (x &&& 63 = 13) ∧ ¬ (x &&& 63 = 14) ∧ ¬ (x &&& 63 = 15) ∧ ¬ (x &&& 63 = 16) ∧ ¬ (x &&& 63 = 17) ∧ ¬ (x &&& 63 = 18) ∧ ¬ (x &&& 63 = 19) ∧ ¬ (x &&& 63 = 20) ∧ ¬ (x &&& 63 = 21) ∧ ¬ (x &&& 63 = 22) ∧ ¬ (x &&& 63 = 23) ∧ ¬ (x &&& 63 = 24) ∧ ¬ (x &&& 63 = 25) ∧ ¬ (x &&& 63 = 26) ∧ ¬ (x &&& 63 = 27) ∧ ¬ (x &&& 63 = 28) ∧ ¬ (x &&& 63 = 29) ∧ ¬ (x &&& 63 = 30) ∧ ¬ (x &&& 63 = 31) ∧ ¬ (x &&& 63 = 32) ∧ ¬ (x &&& 63 = 33) ∧ ¬ (x &&& 63 = 34) ∧ ¬ (x &&& 63 = 35) ∧ ¬ (x &&& 63 = 36) ∧ ¬ (x &&& 63 = 37) ∧ ¬ (x &&& 63 = 38) ∧ ¬ (x &&& 63 = 39) ∧ ¬ (x &&& 63 = 40)) : f_L_law_B18 sL sx 0 49 (i, S, I, J, F) = some (.inl (i + 6, S, I, J, F)) := by
  unfold f_L_law_B18
  obtain ⟨k0, k1, k2, k3, k4, k5, k6, k7, k8, k9, k10, k11, k12, k13, k14, k15, k16, k17, k18, k19, k20, k21, k22, k23, k24, k25, k26, k27, k28, k29, k30, k31, k32, k33, k34, k35, k36, k37, k38, k39, k40⟩ := hk
  dsimp only
  rw [if_neg hi, hx, p_bs]
  rw [if_neg k0, if_neg k1, if_neg k2, if_neg k3, if_neg k4, if_neg k5, if_neg k6, if_neg k7, if_neg k8, if_neg k9, if_neg k10, if_neg k11, if_neg k12, if_neg k13, if_neg k14, if_neg k15, if_neg k16, if_neg k17, if_neg k18, if_neg k19, if_neg k20, if_neg k21, if_neg k22, if_neg k23, if_neg k24, if_neg k25, if_neg k26, if_neg k27, if_neg k28, if_neg k29, if_neg k30, if_neg k31, if_neg k32, if_neg k33, if_neg k34, if_neg k35, if_neg k36, if_neg k37, if_neg k38, if_neg k39, if_neg k40]
  rfl
end lw40
