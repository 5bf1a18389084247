set_option maxRecDepth 20000 in
theorem fl_J0_38 : Cond.fieldLink RJ0 38 RJ0 "COMPACT_STRINGS" "Z" ∈ v_T := (v_w3 84 rfl rfl)
set_option maxRecDepth 20000 in
theorem fl_J0_9 : Cond.fieldLink RJ0 9 RJ0 "value" "[B" ∈ v_T := (v_w8 44 rfl rfl)
set_option maxRecDepth 20000 in
theorem fl_J0_15 : Cond.fieldLink RJ0 15 RJ0 "coder" "B" ∈ v_T := (v_w8 45 rfl rfl)
set_option maxRecDepth 20000 in
theorem fl_J0_1053 : Cond.fieldLink RJ0 1053 RJ3 "SIOOBE_FORMATTER" "Ljava/util/function/BiFunction;" ∈ v_T := (v_w3 100 rfl rfl)
section VW
variable {l : Launch} {B wa wb wt sb sL : Nat} {sx : Nat → Int32} {D : va_G} {ac : Nat → ClassId} {y : MethodName} {cc : ByteArray} {nL : Nat} {ret : Option FieldType} {d mc ms cn sn : Nat} {σ : v_S} {I : v_I} {J : v_J} {F : v_F} {pc : Nat} {lv : List (Nat × Value)} {st : List Value} {Q : v_Q}
theorem v_gsZ (hd : decode cc pc = .ok (.getstatic 38, 3)) (hy : y.cls = RJ0) (k : V l B D ac (v_EE B wa wb wt sb sL sx) y cc nL ret d mc ms cn sn σ I J F (pc + 3) (lv) (.int 1 :: st) Q) : V l B D ac (v_EE B wa wb wt sb sL sx) y cc nL ret d mc ms cn sn σ I J F (pc) (lv) (st) Q := by
  intro p e s m args below meth c H locs ls C hH hS hl
  exact va_gets C.1 C.2.1 C.2.2.2.2.2.2.2.2.2.1.2.2.2.2.1 hS (by rw [← hy]; exact C.2.2.2.2.2.1) (C.2.2.2.2.1 _ fl_J0_38) (fun x h => h) hd (k p e s m args below meth c H locs ls C hH hS hl)
theorem v_gsF (hd : decode cc pc = .ok (.getstatic 1053, 3)) (hy : y.cls = RJ0) (k : ∀ e : Option Nat, V l B D ac (v_EE B wa wb wt sb sL sx) y cc nL ret d mc ms cn sn σ I J F (pc + 3) (lv) (va_rf e :: st) Q) : V l B D ac (v_EE B wa wb wt sb sL sx) y cc nL ret d mc ms cn sn σ I J F (pc) (lv) (st) Q := by
  intro p e s m args below meth c H locs ls C hH hS hl
  rcases C.2.2.2.2.2.2.2.2.2.1.2.2.2.2.2.1 with hz | ⟨t, hz⟩
  · exact va_gets C.1 C.2.1 hz hS (by rw [← hy]; exact C.2.2.2.2.2.1) (C.2.2.2.2.1 _ fl_J0_1053) (fun x h => h) hd (k none p e s m args below meth c H locs ls C hH hS hl)
  · exact va_gets C.1 C.2.1 hz hS (by rw [← hy]; exact C.2.2.2.2.2.1) (C.2.2.2.2.1 _ fl_J0_1053) (fun x h => h) hd (k (some t) p e s m args below meth c H locs ls C hH hS hl)
theorem v_getWv (hd : decode cc pc = .ok (.getfield 9, 3)) (hy : y.cls = RJ0) (k : V l B D ac (v_EE B wa wb wt sb sL sx) y cc nL ret d mc ms cn sn σ I J F (pc + 3) (lv) (.ref wb :: st) Q) : V l B D ac (v_EE B wa wb wt sb sL sx) y cc nL ret d mc ms cn sn σ I J F (pc) (lv) (.ref wa :: st) Q := by
  intro p e s m args below meth c H locs ls C hH hS hl
  exact vk_getf C.1 C.2.1 ((C.2.2.2.2.2.2.2.2.2.1.2.2.1.2.1 0 (by decide)).2.2.1) hS (by rw [← hy]; exact C.2.2.2.2.2.1) (C.2.2.2.2.1 _ fl_J0_9) (fun x h => h) hd (k p e s m args below meth c H locs ls C hH hS hl)
theorem v_getWc (hd : decode cc pc = .ok (.getfield 15, 3)) (hy : y.cls = RJ0) (k : V l B D ac (v_EE B wa wb wt sb sL sx) y cc nL ret d mc ms cn sn σ I J F (pc + 3) (lv) (.int 0 :: st) Q) : V l B D ac (v_EE B wa wb wt sb sL sx) y cc nL ret d mc ms cn sn σ I J F (pc) (lv) (.ref wa :: st) Q := by
  intro p e s m args below meth c H locs ls C hH hS hl
  exact vk_getf C.1 C.2.1 ((C.2.2.2.2.2.2.2.2.2.1.2.2.1.2.1 0 (by decide)).2.1) hS (by rw [← hy]; exact C.2.2.2.2.2.1) (C.2.2.2.2.1 _ fl_J0_15) (fun x h => h) hd (k p e s m args below meth c H locs ls C hH hS hl)
theorem v_alenW (hd : decode cc pc = .ok (.arraylength, 1)) (k : V l B D ac (v_EE B wa wb wt sb sL sx) y cc nL ret d mc ms cn sn σ I J F (pc + 1) (lv) (.int 123 :: st) Q) : V l B D ac (v_EE B wa wb wt sb sL sx) y cc nL ret d mc ms cn sn σ I J F (pc) (lv) (.ref wb :: st) Q := by
  intro p e s m args below meth c H locs ls C hH hS hl
  exact va_tlen C.1 C.2.1 ((C.2.2.2.2.2.2.2.2.2.1.2.2.1.2.1 0 (by decide)).2.2.2) hS rfl hd (k p e s m args below meth c H locs ls C hH hS hl)
theorem v_tbW {i x : Int32} (hd : decode cc pc = .ok (.baload, 1)) (hq : p_wd i = some x) (k : V l B D ac (v_EE B wa wb wt sb sL sx) y cc nL ret d mc ms cn sn σ I J F (pc + 1) (lv) (.int x :: st) Q) : V l B D ac (v_EE B wa wb wt sb sL sx) y cc nL ret d mc ms cn sn σ I J F (pc) (lv) (.int i :: .ref wb :: st) Q := by
  intro p e s m args below meth c H locs ls C hH hS hl
  unfold p_wd at hq
  split at hq
  · next hc =>
    cases hq
    exact va_tb C.1 C.2.1 ((C.2.2.2.2.2.2.2.2.2.1.2.2.1.2.1 0 (by decide)).2.2.2) hS hc rfl hd (k p e s m args below meth c H locs ls C hH hS hl)
  · cases hq
theorem v_callVO {y2 : MethodName} {cc2 : ByteArray} {nL2 d2 idx : Nat} {ret2 : Option FieldType} {As stk : List Value} {v : Value} (hc : v_R l B D ac (v_EE B wa wb wt sb sL sx) y2 cc2 nL2 ret2 d2 0 0 (.ref wa :: As) σ I J F (v_D (some v) σ I J F)) (cb : v_cal y2 cc2 nL2 ret2 As.length) (hw : Cond.methodLink y.cls idx y2 ∈ v_T) (vs : Cond.instanceMethod y2 ∈ v_T ∧ Cond.selects y2.cls y2 y2 ∈ v_T) (hy : y2.cls = "java/lang/String") (hd : decode cc pc = .ok (.invokevirtual idx, 3)) (hdd : d2 + 1 ≤ d) (hcn : cn ≤ mc) (hsn : sn ≤ ms) (hst : (st.map fun v => v.category).sum ≤ 8) (hs : stk = As.reverse ++ .ref wa :: st) (kk : V l B D ac (v_EE B wa wb wt sb sL sx) y cc nL ret d mc ms cn sn σ I J F (pc + 3) (lv) (v :: st) Q) : V l B D ac (v_EE B wa wb wt sb sL sx) y cc nL ret d mc ms cn sn σ I J F (pc) (lv) (stk) Q := by
  intro p e s m args below meth c H locs ls C hH hS hl
  subst hs
  refine v_after (mc2 := 0) (ms2 := 0) C hS hl (va_runV (As := As) (rest := st) ⟨C.1, C.2.1, C.2.2.1, C.2.2.2.2.2.1, C.2.2.2.2.1⟩ (hc d2 (Nat.le_refl _)) ⟨⟨rfl, rfl, hdd, by show 8 + (nL2 + 11) + (41 * d2 + 32) ≤ 41 * d + 32; have := cb.2.2.2.2; omega, pay_in C.2.2.2.2.1 (v_wsg cb), List.mem_cons_self, C.2.2.2.2.1 _ cb.1, C.2.2.2.2.1 _ cb.2.1, cb.2.2.1, cb.2.2.2.1, C.2.2.2.2.1 _ hw⟩, C.2.2.2.2.1 _ vs.1, C.2.2.2.2.1 _ vs.2⟩ ⟨v_blind, by rw [hy]; exact vk_recv C.2.2.2.2.2.2.2.2.2.1.2.2.1.2 (i := 0) (by decide) hS, fun U hU hW => ⟨rfl, by rw [hU]; exact hH, va_K.moved hW.alike C.2.2.2.2.2.2.2.2.1, C.2.2.2.2.2.2.2.2.2.2.1.1 s U hW (fun q hq => by rw [hU]; exact hS.2.1 q (Nat.lt_of_lt_of_le hq C.2.2.2.2.2.2.2.2.2.2.2) (Nat.not_le.mpr hq)) C.2.2.2.2.2.2.2.2.2.1, C.2.2.2.2.2.2.2.2.2.2.1⟩⟩ rfl rfl hl.1 rfl (lv_room hst) hd ⟨hcn, hsn⟩) (fun r σ' I' J' F' hq => by obtain ⟨rfl, rfl, rfl, rfl, rfl⟩ := hq; exact kk)
end VW
section VX
variable {l : Launch} {B wa wb wt sb sL : Nat} {sx : Nat → Int32} {D : va_G} {ac : Nat → ClassId} {S : v_S} {I : v_I} {J : v_J} {F : v_F}
theorem t_wcoder : v_R l B D ac (v_EE B wa wb wt sb sL sx) yJ0_coder_7d493 cJ0_coder_7d493 1 (some .byte) 1 0 0 [.ref wa] S I J F (v_D (some (.int 0)) S I J F) := by
  refine v_R.of (by decide) (Nat.le_of_ble_eq_true rfl) fun d hd => ?_
  refine v_sub [(0, .ref wa)] ⟨rfl, trivial⟩ ?_
  refine v_gsZ dJ0_coder_7d493_0 rfl ?_
  refine v_if_eq 13 dJ0_coder_7d493_3 (by decide) (fun c => absurd c (by decide)) (fun _ => ?_)
  refine v_aload_n dJ0_coder_7d493_6 rfl ?_
  refine v_getWc dJ0_coder_7d493_7 rfl ?_
  refine v_goto 14 dJ0_coder_7d493_10 (by decide) ?_
  exact v_zret dJ0_coder_7d493_14 rfl rfl (by decide) (by decide) ⟨rfl, rfl, rfl, rfl, rfl⟩
theorem t_wlatin : v_R l B D ac (v_EE B wa wb wt sb sL sx) yJ0_isLatin1_aae02 cJ0_isLatin1_aae02 1 (some .boolean) 1 0 0 [.ref wa] S I J F (v_D (some (.int 1)) S I J F) := by
  refine v_R.of (by decide) (Nat.le_of_ble_eq_true rfl) fun d hd => ?_
  refine v_sub [(0, .ref wa)] ⟨rfl, trivial⟩ ?_
  refine v_gsZ dJ0_isLatin1_aae02_0 rfl ?_
  refine v_if_eq 17 dJ0_isLatin1_aae02_3 (by decide) (fun c => absurd c (by decide)) (fun _ => ?_)
  refine v_aload_n dJ0_isLatin1_aae02_6 rfl ?_
  refine v_getWc dJ0_isLatin1_aae02_7 rfl ?_
  refine v_if_ne 17 dJ0_isLatin1_aae02_10 (by decide) (fun c => absurd rfl c) (fun _ => ?_)
  refine v_iconstE (1 : Int32) dJ0_isLatin1_aae02_13 (by decide) ?_
  refine v_goto 18 dJ0_isLatin1_aae02_14 (by decide) ?_
  exact v_zret dJ0_isLatin1_aae02_18 rfl rfl (by decide) (by decide) ⟨rfl, rfl, rfl, rfl, rfl⟩
theorem t_wlength : v_R l B D ac (v_EE B wa wb wt sb sL sx) yJ0_length_8abf5 cJ0_length_8abf5 1 (some .int) 2 0 0 [.ref wa] S I J F (v_D (some (.int 123)) S I J F) := by
  refine v_R.of (by decide) (Nat.le_of_ble_eq_true rfl) fun d hd => ?_
  refine v_sub [(0, .ref wa)] ⟨rfl, trivial⟩ ?_
  refine v_aload_n dJ0_length_8abf5_0 rfl ?_
  refine v_getWv dJ0_length_8abf5_1 rfl ?_
  refine v_alenW dJ0_length_8abf5_4 ?_
  refine v_aload_n dJ0_length_8abf5_5 rfl ?_
  refine v_callVO t_wcoder cal_J0_coder_7d493 ml_J0_335 sel_J0_coder_7d493 rfl dJ0_length_8abf5_6 (by omega) (by decide) (by decide) (Nat.le_of_ble_eq_true rfl) rfl ?_
  refine v_ishr dJ0_length_8abf5_9 ?_
  exact v_iret dJ0_length_8abf5_10 rfl (by decide) (by decide) ⟨by decide +kernel, rfl, rfl, rfl, rfl⟩
theorem t_wpre {i : Int32} {e : Option Nat} (h0 : ¬ i < 0) (h1 : i < 123) : v_R l B D ac (v_EE B wa wb wt sb sL sx) yJ3_checkIndex_8e157 cJ3_checkIndex_8e157 3 (some .int) 1 0 0 [.int i, .int 123, va_rf e] S I J F (v_D (some (.int i)) S I J F) := by
  refine v_R.of (by decide) (by rcases e with _ | _ <;> exact Nat.le_of_ble_eq_true rfl) fun d hd => ?_
  refine v_sub [(0, .int i), (1, .int 123)] (by rcases e with _ | _ <;> exact ⟨rfl, rfl, trivial⟩) ?_
  refine v_iload_n dJ3_checkIndex_8e157_0 rfl ?_
  refine v_if_lt 9 dJ3_checkIndex_8e157_1 (by decide) (fun c => absurd c h0) (fun _ => ?_)
  refine v_iload_n dJ3_checkIndex_8e157_4 rfl ?_
  refine v_iload_n dJ3_checkIndex_8e157_5 rfl ?_
  refine v_icmp_lt 16 dJ3_checkIndex_8e157_6 (by decide) (fun _ => ?_) (fun c => absurd h1 c)
  refine v_iload_n dJ3_checkIndex_8e157_16 rfl ?_
  exact v_iret dJ3_checkIndex_8e157_17 rfl (by decide) (by decide) ⟨rfl, rfl, rfl, rfl, rfl⟩
theorem t_wchk {i : Int32} (h0 : ¬ i < 0) (h1 : i < 123) : v_R l B D ac (v_EE B wa wb wt sb sL sx) yJ0_checkIndex_df160 cJ0_checkIndex_df160 2 none 2 0 0 [.int i, .int 123] S I J F (v_D none S I J F) := by
  refine v_R.of (by decide) (Nat.le_of_ble_eq_true rfl) fun d hd => ?_
  refine v_sub [(0, .int i), (1, .int 123)] ⟨rfl, rfl, trivial⟩ ?_
  refine v_iload_n dJ0_checkIndex_df160_0 rfl ?_
  refine v_iload_n dJ0_checkIndex_df160_1 rfl ?_
  refine v_gsF dJ0_checkIndex_df160_2 rfl (fun e => ?_)
  refine v_cSr (t_wpre (e := e) h0 h1) cal_J3_checkIndex_8e157 ml_J0_1059 sta_J3_checkIndex_8e157 dJ0_checkIndex_df160_5 (by omega) (by decide) (by decide) (Nat.le_of_ble_eq_true rfl) rfl ?_
  refine v_pop dJ0_checkIndex_df160_8 rfl ?_
  exact v_vret dJ0_checkIndex_df160_9 rfl (by decide) (by decide) ⟨rfl, rfl, rfl, rfl, rfl⟩
theorem p_wd_all : ∀ k : Nat, k < 123 → ((v_wordsT.getD k 0 &&& 255).toUInt32 % 65536).toInt32 = v_wordsT.getD k 0 := by decide +kernel
theorem p_wd_nar : ∀ k : Nat, k < 123 → narrow .char (.int (v_wordsT.getD k 0)) = .int (v_wordsT.getD k 0) := by decide +kernel
theorem p_wd_spec {i x : Int32} (h : p_wd i = some x) : ¬ i < 0 ∧ i.toNatClampNeg < 123 ∧ i < 123 ∧ x = v_wordsT.getD i.toNatClampNeg 0 := by
  unfold p_wd at h
  split at h
  · next hc =>
    cases h
    refine ⟨fun q => hc (Or.inl q), Nat.not_le.mp fun q => hc (Or.inr q), ?_, rfl⟩
    have h2 : i.toNatClampNeg < 123 := Nat.not_le.mp fun q => hc (Or.inr q)
    have h3 : (i.toInt.toNat : Int) < 123 := by have : i.toInt.toNat < 123 := h2; omega
    rw [Int32.lt_iff_toInt_lt]
    show i.toInt < 123
    omega
  · cases h
theorem t_wl1 {i x : Int32} (h : p_wd i = some x) : v_R l B D ac (v_EE B wa wb wt sb sL sx) yJ1_charAt_3b067 cJ1_charAt_3b067 2 (some .char) 3 0 0 [.ref wb, .int i] S I J F (v_D (some (.int x)) S I J F) := by
  obtain ⟨h0, h1, h2, h3⟩ := p_wd_spec h
  refine v_R.of (by decide) (Nat.le_of_ble_eq_true rfl) fun d hd => ?_
  refine v_sub [(0, .ref wb), (1, .int i)] ⟨rfl, rfl, trivial⟩ ?_
  refine v_iload_n dJ1_charAt_3b067_0 rfl ?_
  refine v_aload_n dJ1_charAt_3b067_1 rfl ?_
  refine v_alenW dJ1_charAt_3b067_2 ?_
  refine v_cSn (t_wchk h0 h2) cal_J0_checkIndex_df160 ml_J1_9 sta_J0_checkIndex_df160 dJ1_charAt_3b067_3 (by omega) (by decide) (by decide) (Nat.le_of_ble_eq_true rfl) rfl ?_
  refine v_aload_n dJ1_charAt_3b067_6 rfl ?_
  refine v_iload_n dJ1_charAt_3b067_7 rfl ?_
  refine v_tbW dJ1_charAt_3b067_8 h ?_
  refine v_sipush (255 : Int32) dJ1_charAt_3b067_9 (by decide) ?_
  refine v_iand dJ1_charAt_3b067_12 ?_
  refine v_i2c dJ1_charAt_3b067_13 ?_
  have e : ((x &&& 255).toUInt32 % 65536).toInt32 = x := by rw [h3]; exact p_wd_all _ h1
  rw [e]
  exact v_zret dJ1_charAt_3b067_14 rfl (by rw [h3]; exact p_wd_nar _ h1) (by decide) (by decide) ⟨rfl, rfl, rfl, rfl, rfl⟩
theorem t_wcharAt {i x : Int32} (h : p_wd i = some x) : v_R l B D ac (v_EE B wa wb wt sb sL sx) yJ0_charAt_5068e cJ0_charAt_5068e 2 (some .char) 4 0 0 [.ref wa, .int i] S I J F (v_D (some (.int x)) S I J F) := by
  obtain ⟨h0, h1, h2, h3⟩ := p_wd_spec h
  refine v_R.of (by decide) (Nat.le_of_ble_eq_true rfl) fun d hd => ?_
  refine v_sub [(0, .ref wa), (1, .int i)] ⟨rfl, rfl, trivial⟩ ?_
  refine v_aload_n dJ0_charAt_5068e_0 rfl ?_
  refine v_callVO t_wlatin cal_J0_isLatin1_aae02 ml_J0_492 sel_J0_isLatin1_aae02 rfl dJ0_charAt_5068e_1 (by omega) (by decide) (by decide) (Nat.le_of_ble_eq_true rfl) rfl ?_
  refine v_if_eq 16 dJ0_charAt_5068e_4 (by decide) (fun c => absurd c (by decide)) (fun _ => ?_)
  refine v_aload_n dJ0_charAt_5068e_7 rfl ?_
  refine v_getWv dJ0_charAt_5068e_8 rfl ?_
  refine v_iload_n dJ0_charAt_5068e_11 rfl ?_
  refine v_cSr (t_wl1 h) cal_J1_charAt_3b067 ml_J0_495 sta_J1_charAt_3b067 dJ0_charAt_5068e_12 (by omega) (by decide) (by decide) (Nat.le_of_ble_eq_true rfl) rfl ?_
  exact v_zret dJ0_charAt_5068e_15 rfl (by rw [h3]; exact p_wd_nar _ h1) (by decide) (by decide) ⟨rfl, rfl, rfl, rfl, rfl⟩
end VX
section VY
variable {l : Launch} {B wa wb wt sb sL : Nat} {sx : Nat → Int32} {D : va_G} {ac : Nat → ClassId} {y : MethodName} {cc : ByteArray} {nL : Nat} {ret : Option FieldType} {d mc ms cn sn : Nat} {σ : v_S} {I : v_I} {J : v_J} {F : v_F} {pc : Nat} {lv : List (Nat × Value)} {st : List Value} {Q : v_Q}
theorem v_lenW (hd : decode cc pc = .ok (.invokevirtual 95, 3)) (hy : y.cls = RX6) (hdd : 3 ≤ d) (hcn : cn ≤ mc) (hsn : sn ≤ ms) (hst : (st.map fun v => v.category).sum ≤ 8) (k : V l B D ac (v_EE B wa wb wt sb sL sx) y cc nL ret d mc ms cn sn σ I J F (pc + 3) (lv) (.int 123 :: st) Q) : V l B D ac (v_EE B wa wb wt sb sL sx) y cc nL ret d mc ms cn sn σ I J F (pc) (lv) (.ref wa :: st) Q :=
  v_callVO t_wlength cal_J0_length_8abf5 (by rw [hy]; exact ml_X6_95) sel_J0_length_8abf5 rfl hd hdd hcn hsn hst rfl k
theorem v_chW {i x : Int32} (hd : decode cc pc = .ok (.invokevirtual 101, 3)) (hq : p_wd i = some x) (hy : y.cls = RX6) (hdd : 5 ≤ d) (hcn : cn ≤ mc) (hsn : sn ≤ ms) (hst : (st.map fun v => v.category).sum ≤ 8) (k : V l B D ac (v_EE B wa wb wt sb sL sx) y cc nL ret d mc ms cn sn σ I J F (pc + 3) (lv) (.int x :: st) Q) : V l B D ac (v_EE B wa wb wt sb sL sx) y cc nL ret d mc ms cn sn σ I J F (pc) (lv) (.int i :: .ref wa :: st) Q :=
  v_callVO (t_wcharAt hq) cal_J0_charAt_5068e (by rw [hy]; exact ml_X6_101) sel_J0_charAt_5068e rfl hd hdd hcn hsn hst rfl k
end VY
