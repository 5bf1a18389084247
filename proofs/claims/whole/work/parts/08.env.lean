def v_nestsT : List (String × Nat × MethodName × String) := [(RX9, 11, yX0_init, "HedgeCouncil"), (RX0, 17, yX3_init, "HedgeCouncil"), (RX9, 22, yX4_init, "HedgeCouncil"), (RX9, 29, yX1_init, "HedgeCouncil"), (RX1, 11, yX7_init, "HedgeCouncil"), (RX1, 20, yX3_init, "HedgeCouncil"), (RX9, 36, yX5_init, "HedgeCouncil"), (RX9, 43, yX3_init, "HedgeCouncil"), (RX9, 61, yX6_init, "HedgeCouncil"), (RX9, 68, yX2_init, "HedgeCouncil"), (RX2, 20, yX7_init, "HedgeCouncil"), (RX0, 89, yX9_isUpTo, "HedgeCouncil"), (RX4, 28, yX3_init, "HedgeCouncil")]
def v_nests : List Cond := v_nestsT.map (fun q => Cond.methodLinkNest q.1 q.2.1 q.2.2.1 q.2.2.2)
def v_wordsT : List Int32 := [110, 101, 101, 100, 115, 32, 119, 97, 110, 116, 115, 32, 115, 104, 117, 116, 115, 32, 116, 111, 117, 99, 104, 32, 99, 111, 97, 120, 32, 116, 101, 109, 112, 116, 32, 112, 97, 115, 115, 32, 105, 102, 32, 116, 111, 32, 116, 105, 109, 101, 115, 32, 111, 114, 32, 97, 110, 100, 32, 110, 111, 116, 32, 119, 104, 111, 32, 119, 97, 110, 116, 32, 115, 104, 121, 32, 110, 101, 97, 114, 32, 97, 108, 108, 32, 115, 116, 105, 108, 108, 32, 109, 105, 110, 117, 116, 101, 32, 104, 117, 115, 104, 32, 109, 111, 111, 100, 32, 100, 111, 110, 101, 32, 108, 97, 116, 101, 115, 116, 32, 105, 115, 32]
/-- what a method asks of the old heap and of the tables beside the plain words -/
def v_EE (B wa wb wt sb sL : Nat) (sx : Nat → Int32) (U : State) : Prop := (∀ w ∈ v_nests, va_Nw w U) ∧ (va_AO RX8 U ∧ va_AO RX3 U ∧ va_AO RX0 U) ∧
  (vk_R RX6 93 "needs wants shuts touch coax tempt pass if to times or and not who want shy near all still minute hush mood done latest is " wa U ∧ vk_S 1 [123] [v_wordsT] (fun _ => wa) (fun _ => wb) (v_A B) U U.heap) ∧
  (va_Z RX9 "MOST_OF_TERM" "[I" (.ref wt) (v_A B) U U.heap ∧ va_T .int wt 4 (fun j => .int (([999, 10, 9, 9] : List Int32).getD j 0)) (v_A B) U U.heap) ∧
  va_Z RJ0 "COMPACT_STRINGS" "Z" (.int 1) (v_A B) U U.heap ∧ va_Zq RJ3 "SIOOBE_FORMATTER" "Ljava/util/function/BiFunction;" (v_A B) U U.heap ∧ (va_X sb sL sx U U.heap ∧ sb < B)
theorem v_nest_at {B wa wb wt sb sL : Nat} {sx : Nat → Int32} {w : Cond} (i : Nat) (h : v_nests[i]? = some w) : ∀ U : State, v_EE B wa wb wt sb sL sx U → va_Nw w U := fun _ e => e.1 w (List.mem_of_getElem? h)
theorem ml_X9_11 {B wa wb wt sb sL : Nat} {sx : Nat → Int32} : ∀ U : State, v_EE B wa wb wt sb sL sx U → va_Nw (Cond.methodLinkNest RX9 11 yX0_init "HedgeCouncil") U := v_nest_at 0 rfl
theorem ml_X0_17 {B wa wb wt sb sL : Nat} {sx : Nat → Int32} : ∀ U : State, v_EE B wa wb wt sb sL sx U → va_Nw (Cond.methodLinkNest RX0 17 yX3_init "HedgeCouncil") U := v_nest_at 1 rfl
theorem ml_X9_22 {B wa wb wt sb sL : Nat} {sx : Nat → Int32} : ∀ U : State, v_EE B wa wb wt sb sL sx U → va_Nw (Cond.methodLinkNest RX9 22 yX4_init "HedgeCouncil") U := v_nest_at 2 rfl
theorem ml_X9_29 {B wa wb wt sb sL : Nat} {sx : Nat → Int32} : ∀ U : State, v_EE B wa wb wt sb sL sx U → va_Nw (Cond.methodLinkNest RX9 29 yX1_init "HedgeCouncil") U := v_nest_at 3 rfl
theorem ml_X1_11 {B wa wb wt sb sL : Nat} {sx : Nat → Int32} : ∀ U : State, v_EE B wa wb wt sb sL sx U → va_Nw (Cond.methodLinkNest RX1 11 yX7_init "HedgeCouncil") U := v_nest_at 4 rfl
theorem ml_X1_20 {B wa wb wt sb sL : Nat} {sx : Nat → Int32} : ∀ U : State, v_EE B wa wb wt sb sL sx U → va_Nw (Cond.methodLinkNest RX1 20 yX3_init "HedgeCouncil") U := v_nest_at 5 rfl
theorem ml_X9_36 {B wa wb wt sb sL : Nat} {sx : Nat → Int32} : ∀ U : State, v_EE B wa wb wt sb sL sx U → va_Nw (Cond.methodLinkNest RX9 36 yX5_init "HedgeCouncil") U := v_nest_at 6 rfl
theorem ml_X9_43 {B wa wb wt sb sL : Nat} {sx : Nat → Int32} : ∀ U : State, v_EE B wa wb wt sb sL sx U → va_Nw (Cond.methodLinkNest RX9 43 yX3_init "HedgeCouncil") U := v_nest_at 7 rfl
theorem ml_X9_61 {B wa wb wt sb sL : Nat} {sx : Nat → Int32} : ∀ U : State, v_EE B wa wb wt sb sL sx U → va_Nw (Cond.methodLinkNest RX9 61 yX6_init "HedgeCouncil") U := v_nest_at 8 rfl
theorem ml_X9_68 {B wa wb wt sb sL : Nat} {sx : Nat → Int32} : ∀ U : State, v_EE B wa wb wt sb sL sx U → va_Nw (Cond.methodLinkNest RX9 68 yX2_init "HedgeCouncil") U := v_nest_at 9 rfl
theorem ml_X2_20 {B wa wb wt sb sL : Nat} {sx : Nat → Int32} : ∀ U : State, v_EE B wa wb wt sb sL sx U → va_Nw (Cond.methodLinkNest RX2 20 yX7_init "HedgeCouncil") U := v_nest_at 10 rfl
theorem ml_X0_89 {B wa wb wt sb sL : Nat} {sx : Nat → Int32} : ∀ U : State, v_EE B wa wb wt sb sL sx U → va_Nw (Cond.methodLinkNest RX0 89 yX9_isUpTo "HedgeCouncil") U := v_nest_at 11 rfl
theorem ml_X4_28 {B wa wb wt sb sL : Nat} {sx : Nat → Int32} : ∀ U : State, v_EE B wa wb wt sb sL sx U → va_Nw (Cond.methodLinkNest RX4 28 yX3_init "HedgeCouncil") U := v_nest_at 12 rfl
theorem ko_RX8 {B wa wb wt sb sL : Nat} {sx : Nat → Int32} : ∀ U : State, v_EE B wa wb wt sb sL sx U → va_AO RX8 U := fun _ e => e.2.1.1
theorem ko_RX3 {B wa wb wt sb sL : Nat} {sx : Nat → Int32} : ∀ U : State, v_EE B wa wb wt sb sL sx U → va_AO RX3 U := fun _ e => e.2.1.2.1
theorem ko_RX0 {B wa wb wt sb sL : Nat} {sx : Nat → Int32} : ∀ U : State, v_EE B wa wb wt sb sL sx U → va_AO RX0 U := fun _ e => e.2.1.2.2
set_option maxRecDepth 20000 in
theorem ac_nat : Cond.native arraycopyName ∈ v_T := (v_w3 2 rfl rfl)
set_option maxRecDepth 20000 in
theorem ac_st : Cond.static arraycopyName ∈ v_T := (v_w3 1 rfl rfl)
set_option maxRecDepth 20000 in
theorem ac_in : Cond.initialized "java/lang/System" ∈ v_T := (v_w1 14 rfl rfl)
set_option maxRecDepth 20000 in
theorem mm_max_c : Cond.code Lib.Math.max.name Lib.Math.max.code 2 (some .int) ∈ v_T := (v_w3 64 rfl rfl)
set_option maxRecDepth 20000 in
theorem mm_max_s : Cond.static Lib.Math.max.name ∈ v_T := (v_w3 63 rfl rfl)
set_option maxRecDepth 20000 in
theorem mm_min_c : Cond.code Lib.Math.min.name Lib.Math.min.code 2 (some .int) ∈ v_T := (v_w3 10 rfl rfl)
set_option maxRecDepth 20000 in
theorem mm_min_s : Cond.static Lib.Math.min.name ∈ v_T := (v_w3 9 rfl rfl)
set_option maxRecDepth 20000 in
theorem mm_maxL_c : Cond.code Lib.MathLoose.max_long.x Lib.MathLoose.max_long.code 4 (some .long) ∈ v_T := (v_w2 227 rfl rfl)
set_option maxRecDepth 20000 in
theorem mm_maxL_s : Cond.static Lib.MathLoose.max_long.x ∈ v_T := (v_w2 226 rfl rfl)
set_option maxRecDepth 20000 in
theorem mm_minL_c : Cond.code Lib.MathLoose.min_long.x Lib.MathLoose.min_long.code 4 (some .long) ∈ v_T := (v_w2 224 rfl rfl)
set_option maxRecDepth 20000 in
theorem mm_minL_s : Cond.static Lib.MathLoose.min_long.x ∈ v_T := (v_w2 223 rfl rfl)
set_option maxRecDepth 20000 in
theorem mm_in : Cond.initialized "java/lang/Math" ∈ v_T := (v_w1 13 rfl rfl)
def p_max (x y : Int32) : Int32 := if x < y then y else x
def p_min (x y : Int32) : Int32 := if y < x then y else x
def p_maxL (x y : Int64) : Int64 := if y < x then x else y
def p_minL (x y : Int64) : Int64 := if y < x then y else x
section VE
variable {l : Launch} {B : Nat} {D : va_G} {ac : Nat → ClassId} {E : State → Prop} {y : MethodName} {cc : ByteArray} {nL : Nat} {ret : Option FieldType} {d mc ms cn sn : Nat} {σ : v_S} {I : v_I} {J : v_J} {F : v_F} {pc : Nat} {lv : List (Nat × Value)} {st : List Value} {Q : v_Q}
theorem v_max {idx : Nat} {x z : Int32} (hd : decode cc pc = .ok (.invokestatic idx, 3)) (hw : Cond.methodLink y.cls idx Lib.Math.max.name ∈ v_T) (hdd : 2 ≤ d) (hcn : cn ≤ mc) (hsn : sn ≤ ms) (hst : (st.map fun v => v.category).sum ≤ 8) (k : V l B D ac E y cc nL ret d mc ms cn sn σ I J F (pc + 3) (lv) (.int (p_max x z) :: st) Q) : V l B D ac E y cc nL ret d mc ms cn sn σ I J F (pc) (lv) (.int z :: .int x :: st) Q := by
  intro p e s m args below meth c H locs ls C hH hS hl
  exact va_mmax C.1 C.2.1 (C.2.2.1.trans hl.1.symm) C.2.2.2.2.2.1 (C.2.2.2.2.1 _ hw) (C.2.2.2.2.1 _ mm_max_s) (C.2.2.2.2.1 _ mm_in) (C.2.2.2.2.1 _ mm_max_c) (by show 1 ≤ d; omega) (by show _ + 13 ≤ 41 * d + 32; omega) hcn hsn hd (k p e s m args below meth c H locs ls C hH hS hl)
theorem v_min {idx : Nat} {x z : Int32} (hd : decode cc pc = .ok (.invokestatic idx, 3)) (hw : Cond.methodLink y.cls idx Lib.Math.min.name ∈ v_T) (hdd : 2 ≤ d) (hcn : cn ≤ mc) (hsn : sn ≤ ms) (hst : (st.map fun v => v.category).sum ≤ 8) (k : V l B D ac E y cc nL ret d mc ms cn sn σ I J F (pc + 3) (lv) (.int (p_min x z) :: st) Q) : V l B D ac E y cc nL ret d mc ms cn sn σ I J F (pc) (lv) (.int z :: .int x :: st) Q := by
  intro p e s m args below meth c H locs ls C hH hS hl
  exact va_mmin C.1 C.2.1 (C.2.2.1.trans hl.1.symm) C.2.2.2.2.2.1 (C.2.2.2.2.1 _ hw) (C.2.2.2.2.1 _ mm_min_s) (C.2.2.2.2.1 _ mm_in) (C.2.2.2.2.1 _ mm_min_c) (by show 1 ≤ d; omega) (by show _ + 13 ≤ 41 * d + 32; omega) hcn hsn hd (k p e s m args below meth c H locs ls C hH hS hl)
theorem v_maxL {idx : Nat} {x z : Int64} (hd : decode cc pc = .ok (.invokestatic idx, 3)) (hw : Cond.methodLink y.cls idx Lib.MathLoose.max_long.x ∈ v_T) (hdd : 2 ≤ d) (hcn : cn ≤ mc) (hsn : sn ≤ ms) (hst : (st.map fun v => v.category).sum ≤ 8) (k : V l B D ac E y cc nL ret d mc ms cn sn σ I J F (pc + 3) (lv) (.long (p_maxL x z) :: st) Q) : V l B D ac E y cc nL ret d mc ms cn sn σ I J F (pc) (lv) (.long z :: .long x :: st) Q := by
  intro p e s m args below meth c H locs ls C hH hS hl
  exact va_mmax_long C.1 C.2.1 (C.2.2.1.trans hl.1.symm) C.2.2.2.2.2.1 (C.2.2.2.2.1 _ hw) (C.2.2.2.2.1 _ mm_maxL_s) (C.2.2.2.2.1 _ mm_in) (C.2.2.2.2.1 _ mm_maxL_c) (by show 1 ≤ d; omega) (by show _ + 15 ≤ 41 * d + 32; omega) hcn hsn hd (k p e s m args below meth c H locs ls C hH hS hl)
theorem v_minL {idx : Nat} {x z : Int64} (hd : decode cc pc = .ok (.invokestatic idx, 3)) (hw : Cond.methodLink y.cls idx Lib.MathLoose.min_long.x ∈ v_T) (hdd : 2 ≤ d) (hcn : cn ≤ mc) (hsn : sn ≤ ms) (hst : (st.map fun v => v.category).sum ≤ 8) (k : V l B D ac E y cc nL ret d mc ms cn sn σ I J F (pc + 3) (lv) (.long (p_minL x z) :: st) Q) : V l B D ac E y cc nL ret d mc ms cn sn σ I J F (pc) (lv) (.long z :: .long x :: st) Q := by
  intro p e s m args below meth c H locs ls C hH hS hl
  exact va_mmin_long C.1 C.2.1 (C.2.2.1.trans hl.1.symm) C.2.2.2.2.2.1 (C.2.2.2.2.1 _ hw) (C.2.2.2.2.1 _ mm_minL_s) (C.2.2.2.2.1 _ mm_in) (C.2.2.2.2.1 _ mm_minL_c) (by show 1 ≤ d; omega) (by show _ + 15 ≤ 41 * d + 32; omega) hcn hsn hd (k p e s m args below meth c H locs ls C hH hS hl)
theorem v_nfw : nativeFrameWords "java/lang/System" "arraycopy" 5 ≤ 40 := by decide
theorem v_copy {idx a b : Nat} {sp dp n : Int32} {u : Unit} (hd : decode cc pc = .ok (.invokestatic idx, 3)) (hw : Cond.methodLink y.cls idx arraycopyName ∈ v_T) (hq : p_cp σ a b sp dp n = some u) (hdd : 1 ≤ d) (hst : (st.map fun v => v.category).sum ≤ 8) (k : V l B D ac E y cc nL ret d mc ms cn sn σ (p_cpy I a b sp.toNatClampNeg dp.toNatClampNeg n.toNatClampNeg) J F (pc + 3) (lv) (st) Q) : V l B D ac E y cc nL ret d mc ms cn sn σ I J F (pc) (lv) (.int n :: .int dp :: .ref (B + b) :: .int sp :: .ref (B + a) :: st) Q := by
  intro p e s m args below meth c H locs ls C hH hS hl
  obtain ⟨n0, n1, s0, s1, h1, h2, h3, h4, h5⟩ := p_cp_spec hq
  have nn : ∀ z : Int32, ¬ z < 0 → z.toInt = (z.toNatClampNeg : Int) := by
    intro z hz
    have hz0 : (0 : Int) ≤ z.toInt := by
      have := Int32.not_lt.mp hz
      simpa using Int32.le_iff_toInt_le.mp this
    show z.toInt = ((z.toInt.toNat : Nat) : Int)
    omega
  have hnf := v_nfw
  intro T hT X
  have hc0 : H[B + a]? = some (vp_cell (ac 0) (n0, .inl (I a))) := hH.2.1 a 20 n0 s0
  have hc1 : H[B + b]? = some (vp_cell (ac 0) (n1, .inl (I b))) := hH.2.1 b 20 n1 s1
  have hK := C.2.2.2.2.2.2.2.2.1
  obtain ⟨-, k0, hk0, cm0, hkk0⟩ := (hK.2 0 (ac 0, .int) rfl).1 n0 (fun j => .int (I a j))
  obtain ⟨-, k1, hk1, cm1, hkk1⟩ := (hK.2 0 (ac 0, .int) rfl).1 n1 (fun j => .int (I b j))
  obtain ⟨vm', X', step⟩ := X.arraycopy C.1 C.2.2.2.2.2.1 (C.2.2.2.2.1 _ hw) (C.2.2.2.2.1 _ ac_nat) (C.2.2.2.2.1 _ ac_st) (C.2.2.2.2.1 _ ac_in) (src := B + a) (dst := B + b) (cs := vp_cell (ac 0) (n0, .inl (I a))) (cd := vp_cell (ac 0) (n1, .inl (I b))) (srcPos := sp) (destPos := dp) (n := n) (by rw [hT]; exact hc0) (by rw [hT]; exact hc1)
    (fun _ h => by cases h) (fun _ h => by cases h) (fun h => by cases h) (fun h => by cases h) hk0 hk1 hkk0 hkk1 (by simp [show refKind .int = false from rfl]) h1 h2 h3
    (by rw [nn sp h1, nn n h3]; show ¬ _ > ((arrV (ac 0) n0 (fun j => .int (I a j))).slots.size : Int); rw [arrV_size]; omega)
    (by rw [nn dp h2, nn n h3]; show ¬ _ > ((arrV (ac 0) n1 (fun j => .int (I b j))).slots.size : Int); rw [arrV_size]; omega)
    (fun vm₁ _ i hi => by
      have e : (vp_cell (ac 0) (n0, .inl (I a))).slots.getD (sp.toNatClampNeg + i) .null = .int (I a (sp.toNatClampNeg + i)) := by
        show (arrV (ac 0) n0 (fun j => .int (I a j))).slots.getD _ _ = _
        rw [Array.getD_eq_getD_getElem?, arrV_read _ _ (by omega)]
        rfl
      refine ⟨?_, ?_⟩
      · rw [e]
        rfl
      · rw [e]
        exact trivial)
    (g := F0 m pc ls (.int n :: .int dp :: .ref (B + b) :: .int sp :: .ref (B + a) :: st)) rfl (hl.1.trans C.2.2.1.symm) (rest := st) rfl (by rw [C.2.1]; exact hd) (by show 1 ≤ d; omega) (by show 2 * 0 + _ + _ ≤ 41 * d + 32; omega)
  have e1 : copied (vp_cell (ac 0) (n0, .inl (I a))) (vp_cell (ac 0) (n1, .inl (I b))) sp dp n = vp_cell (ac 0) (n1, .inl (va_cpy (I a) (I b) sp.toNatClampNeg dp.toNatClampNeg n.toNatClampNeg)) := va_copied (fun z => .int z) (ac 0) (ac 0) (I a) (I b) h4
  rw [e1] at X' step
  have hlb : B + b < H.size := (Array.getElem?_eq_some_iff.mp hc1).1
  have hheap : ((T.setVm vm').setCell (B + b) (vp_cell (ac 0) (n1, .inl (va_cpy (I a) (I b) sp.toNatClampNeg dp.toNatClampNeg n.toNatClampNeg)))).heap = H.setIfInBounds (B + b) (vp_cell (ac 0) (n1, .inl (va_cpy (I a) (I b) sp.toNatClampNeg dp.toNatClampNeg n.toNatClampNeg))) := by rw [← hT]; rfl
  have oq : ∀ q : Nat, q ≠ B + b → (H.setIfInBounds (B + b) (vp_cell (ac 0) (n1, .inl (va_cpy (I a) (I b) sp.toNatClampNeg dp.toNatClampNeg n.toNatClampNeg))))[q]? = H[q]? := fun q hq => by simp [Array.getElem?_setIfInBounds, Ne.symm hq]
  obtain ⟨t, a1, b1⟩ := k p e s m args below meth c _ _ ls C (hH.set s1 (by simp) oq (show (H.setIfInBounds (B + b) _)[B + b]? = some (vp_cell (ac 0) (n1, .inl (p_cpy I a b sp.toNatClampNeg dp.toNatClampNeg n.toNatClampNeg b))) by rw [show p_cpy I a b sp.toNatClampNeg dp.toNatClampNeg n.toNatClampNeg b = va_cpy (I a) (I b) sp.toNatClampNeg dp.toNatClampNeg n.toNatClampNeg from by funext j; simp [p_cpy]]; simp [Array.getElem?_setIfInBounds, hlb]) (fun k' hk' => ⟨by funext j; simp [p_cpy, hk'], rfl, rfl⟩)) ⟨by simp; exact hS.1, fun q g1 g2 => by
      rw [oq q (fun e => g2 (by rw [e]; simp [v_A]))]
      exact hS.2.1 q g1 g2, fun q hq => by
      rcases List.mem_append.mp hq with h | h
      · exact hS.2.2 q h
      · obtain ⟨z, -, hz⟩ := List.mem_map.mp h
        rw [← hz]
        simp [v_A]⟩ hl _ hheap X'
  exact ⟨t, step t a1, b1⟩
end VE
section VF
variable {l : Launch} {B wa wb wt sb sL : Nat} {sx : Nat → Int32} {D : va_G} {ac : Nat → ClassId} {y : MethodName} {cc : ByteArray} {nL : Nat} {ret : Option FieldType} {d mc ms cn sn : Nat} {σ : v_S} {I : v_I} {J : v_J} {F : v_F} {pc : Nat} {lv : List (Nat × Value)} {st : List Value} {Q : v_Q}
def p_wd (i : Int32) : Option Int32 := if ¬ (i < 0 ∨ 123 ≤ i.toNatClampNeg) then some (v_wordsT.getD i.toNatClampNeg 0) else none
theorem v_gsT (hd : decode cc pc = .ok (.getstatic 146, 3)) (hy : y.cls = RX9) (hw : Cond.fieldLink RX9 146 RX9 "MOST_OF_TERM" "[I" ∈ v_T) (k : V l B D ac (v_EE B wa wb wt sb sL sx) y cc nL ret d mc ms cn sn σ I J F (pc + 3) (lv) (.ref wt :: st) Q) : V l B D ac (v_EE B wa wb wt sb sL sx) y cc nL ret d mc ms cn sn σ I J F (pc) (lv) (st) Q := by
  intro p e s m args below meth c H locs ls C hH hS hl
  exact va_gets C.1 C.2.1 C.2.2.2.2.2.2.2.2.2.1.2.2.2.1.1 hS (by rw [← hy]; exact C.2.2.2.2.2.1) (C.2.2.2.2.1 _ hw) (fun x h => h) hd (k p e s m args below meth c H locs ls C hH hS hl)
theorem v_tiT {i x : Int32} (hd : decode cc pc = .ok (.iaload, 1)) (hq : p_mt i = some x) (k : V l B D ac (v_EE B wa wb wt sb sL sx) y cc nL ret d mc ms cn sn σ I J F (pc + 1) (lv) (.int x :: st) Q) : V l B D ac (v_EE B wa wb wt sb sL sx) y cc nL ret d mc ms cn sn σ I J F (pc) (lv) (.int i :: .ref wt :: st) Q := by
  intro p e s m args below meth c H locs ls C hH hS hl
  unfold p_mt at hq
  split at hq
  · next hc =>
    cases hq
    exact va_ti C.1 C.2.1 C.2.2.2.2.2.2.2.2.2.1.2.2.2.1.2 hS hc rfl hd (k p e s m args below meth c H locs ls C hH hS hl)
  · cases hq
theorem v_ldcW (hd : decode cc pc = .ok (.ldc 93, 2)) (hy : y.cls = RX6) (k : V l B D ac (v_EE B wa wb wt sb sL sx) y cc nL ret d mc ms cn sn σ I J F (pc + 2) (lv) (.ref wa :: st) Q) : V l B D ac (v_EE B wa wb wt sb sL sx) y cc nL ret d mc ms cn sn σ I J F (pc) (lv) (st) Q := by
  intro p e s m args below meth c H locs ls C hH hS hl
  exact va_ldcS C.1 C.2.1 (by rw [← hy]; exact C.2.2.2.2.2.1) C.2.2.2.2.2.2.2.2.2.1.2.2.1.1 hd (k p e s m args below meth c H locs ls C hH hS hl)
/-- the script -/
def p_sc (sL : Nat) (sx : Nat → Int32) (i : Int32) : Option Int32 := if ¬ (i < 0 ∨ sL ≤ i.toNatClampNeg) then some (sx i.toNatClampNeg) else none
theorem v_slenS (hd : decode cc pc = .ok (.arraylength, 1)) (k : V l B D ac (v_EE B wa wb wt sb sL sx) y cc nL ret d mc ms cn sn σ I J F (pc + 1) (lv) (.int (Int32.ofNat sL) :: st) Q) : V l B D ac (v_EE B wa wb wt sb sL sx) y cc nL ret d mc ms cn sn σ I J F (pc) (lv) (.ref sb :: st) Q := by
  intro p e s m args below meth c H locs ls C hH hS hl
  have hX := C.2.2.2.2.2.2.2.2.2.1.2.2.2.2.2.2
  exact va_slen C.1 C.2.1 hX.1 (Nat.lt_of_lt_of_le hX.2 C.2.2.2.2.2.2.2.2.2.2.2) (Nat.not_le.mpr hX.2) hS hd (k p e s m args below meth c H locs ls C hH hS hl)
theorem v_sldS {i x : Int32} (hd : decode cc pc = .ok (.iaload, 1)) (hq : p_sc sL sx i = some x) (k : V l B D ac (v_EE B wa wb wt sb sL sx) y cc nL ret d mc ms cn sn σ I J F (pc + 1) (lv) (.int x :: st) Q) : V l B D ac (v_EE B wa wb wt sb sL sx) y cc nL ret d mc ms cn sn σ I J F (pc) (lv) (.int i :: .ref sb :: st) Q := by
  intro p e s m args below meth c H locs ls C hH hS hl
  have hX := C.2.2.2.2.2.2.2.2.2.1.2.2.2.2.2.2
  unfold p_sc at hq
  split at hq
  · next hc =>
    cases hq
    exact va_sld C.1 C.2.1 hX.1 (Nat.lt_of_lt_of_le hX.2 C.2.2.2.2.2.2.2.2.2.2.2) (Nat.not_le.mpr hX.2) hS hc hd (k p e s m args below meth c H locs ls C hH hS hl)
  · cases hq
end VF
set_option maxRecDepth 20000 in
theorem fl_most : Cond.fieldLink RX9 146 RX9 "MOST_OF_TERM" "[I" ∈ v_T := (v_w3 15 rfl rfl)
