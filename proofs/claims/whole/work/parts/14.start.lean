theorem v_l1 {w : Cond} (i : Nat) (h : tables_1_1[i]? = some w) : w ∈ lw_tbl := by
  have h := List.mem_of_getElem? h
  exact List.mem_append_right _ (List.mem_append_left _ h)
theorem v_l2 {w : Cond} (i : Nat) (h : tables_1_2[i]? = some w) : w ∈ lw_tbl := by
  have h := List.mem_of_getElem? h
  exact List.mem_append_right _ (List.mem_append_right _ (List.mem_append_left _ h))
theorem v_l3 {w : Cond} (i : Nat) (h : tables_1_3[i]? = some w) : w ∈ lw_tbl := by
  have h := List.mem_of_getElem? h
  exact List.mem_append_right _ (List.mem_append_right _ (List.mem_append_right _ (List.mem_append_left _ h)))
theorem v_l4 {w : Cond} (i : Nat) (h : tables_1_4[i]? = some w) : w ∈ lw_tbl := by
  have h := List.mem_of_getElem? h
  exact List.mem_append_right _ (List.mem_append_right _ (List.mem_append_right _ (List.mem_append_right _ (List.mem_append_left _ h))))
theorem v_l5 {w : Cond} (i : Nat) (h : tables_1_5[i]? = some w) : w ∈ lw_tbl := by
  have h := List.mem_of_getElem? h
  exact List.mem_append_right _ (List.mem_append_right _ (List.mem_append_right _ (List.mem_append_right _ (List.mem_append_right _ (List.mem_append_left _ h)))))
theorem v_l6 {w : Cond} (i : Nat) (h : tables_1_6[i]? = some w) : w ∈ lw_tbl := by
  have h := List.mem_of_getElem? h
  exact List.mem_append_right _ (List.mem_append_right _ (List.mem_append_right _ (List.mem_append_right _ (List.mem_append_right _ (List.mem_append_right _ (List.mem_append_left _ h))))))
theorem v_l7 {w : Cond} (i : Nat) (h : tables_1_7[i]? = some w) : w ∈ lw_tbl := by
  have h := List.mem_of_getElem? h
  exact List.mem_append_right _ (List.mem_append_right _ (List.mem_append_right _ (List.mem_append_right _ (List.mem_append_right _ (List.mem_append_right _ (List.mem_append_right _ (List.mem_append_left _ h)))))))
theorem v_l8 {w : Cond} (i : Nat) (h : tables_1_8[i]? = some w) : w ∈ lw_tbl := by
  have h := List.mem_of_getElem? h
  exact List.mem_append_right _ (List.mem_append_right _ (List.mem_append_right _ (List.mem_append_right _ (List.mem_append_right _ (List.mem_append_right _ (List.mem_append_right _ (List.mem_append_right _ (h))))))))
theorem v_EE_env {B wa wb wt sb sL : Nat} {sx : Nat → Int32} : v_Env B (v_EE B wa wb wt sb sL sx) := by
  refine ⟨fun s U hW hq h => ?_, fun a U g mk h => ?_⟩
  · obtain ⟨h1, ⟨h2, h3, h4⟩, ⟨h5, h6⟩, ⟨h7, h8⟩, h9, h10, h11, h12⟩ := h
    have hk : ∀ a : Nat, a < s.heap.size → ¬ v_A B a → U.heap[a]? = s.heap[a]? := fun a _ h => hq a (Nat.not_le.mp h)
    refine ⟨fun w hw => ?_, ⟨h2.moved hW.alike, h3.moved hW.alike, h4.moved hW.alike⟩, ⟨h5.warm hW, (h6.moved hW.alike).kept hk⟩, ⟨(h7.moved hW.alike).kept hk, (h8.moved hW.alike).kept hk⟩, (h9.moved hW.alike).kept hk, (h10.moved hW.alike).kept hk, (h11.moved hW.alike).kept (hq _ h12), h12⟩
    have h := h1 w hw
    obtain ⟨q, -, rfl⟩ := List.mem_map.mp hw
    exact va_Nw.warmM hW h
  · obtain ⟨h1, ⟨h2, h3, h4⟩, ⟨h5, h6⟩, ⟨h7, h8⟩, h9, h10, h11, h12⟩ := h
    have ha : U.vm.Alike (U.calling g mk a).vm := Vm.Alike.refl U.vm
    refine ⟨fun w hw => ?_, ⟨h2.moved ha, h3.moved ha, h4.moved ha⟩, ⟨h5.same rfl, h6.moved ha⟩, ⟨h7.moved ha, h8.moved ha⟩, h9.moved ha, h10.moved ha, h11.moved ha, h12⟩
    have h := h1 w hw
    obtain ⟨q, -, rfl⟩ := List.mem_map.mp hw
    exact va_Nw.same rfl rfl h
def v_flat : List Cond := flatC (Jvm.Cond.and given_1 narrow_1)
theorem v_flat_el : ∀ j : Nat, j < 123 → v_flat[53 + j]? = some (Cond.eq (.elem (.field (Jvm.Term.string RX6 93) "java/lang/String" "value" "[B") (.int (Int32.ofNat j))) (.int (v_wordsT.getD j 0))) := by decide +kernel
theorem v_flat_mt : ∀ j : Nat, j < 4 → (Cond.eq (.elem (.static RX9 "MOST_OF_TERM" "[I") (.int (Int32.ofNat j))) (.int (([999, 10, 9, 9] : List Int32).getD j 0))) ∈ v_flat := by decide +kernel
theorem v_inl {ws : List Cond} (ps : List Nat) (h : ws.map some = ps.map (fun i => lw_tbl[i]?)) : ∀ w ∈ ws, w ∈ lw_tbl := by
  intro w hw
  have h1 : some w ∈ ps.map (fun i => lw_tbl[i]?) := by rw [← h]; exact List.mem_map_of_mem hw
  obtain ⟨i, -, hi⟩ := List.mem_map.mp h1
  exact List.mem_of_getElem? hi
theorem v_nests_in : ∀ w ∈ v_nests, w ∈ lw_tbl := v_inl [147, 153, 248, 270, 276, 291, 307, 319, 322, 413, 418, 863, 869] (by decide +kernel)
set_option maxRecDepth 20000 in
theorem v_ao_RX8 : Cond.arrayOver (.object RX8) ∈ lw_tbl := (v_l1 68 rfl)
set_option maxRecDepth 20000 in
theorem v_ao_RX3 : Cond.arrayOver (.object RX3) ∈ lw_tbl := (v_l1 136 rfl)
set_option maxRecDepth 20000 in
theorem v_ao_RX0 : Cond.arrayOver (.object RX0) ∈ lw_tbl := (v_l1 128 rfl)
set_option maxRecDepth 20000 in
theorem v_sr : Cond.stringRef RX6 93 "needs wants shuts touch coax tempt pass if to times or and not who want shy near all still minute hush mood done latest is " ∈ lw_tbl := (v_l3 75 rfl)
set_option maxRecDepth 20000 in
theorem v_ls_most : Cond.laysStatic RX9 "MOST_OF_TERM" "[I" ∈ lw_tbl := (v_l3 16 rfl)
set_option maxRecDepth 20000 in
theorem v_li_most : Cond.initialized RX9 ∈ lw_tbl := (v_l1 1 rfl)
set_option maxRecDepth 20000 in
theorem v_ls_comp : Cond.laysStatic RJ0 "COMPACT_STRINGS" "Z" ∈ lw_tbl := (v_l3 85 rfl)
set_option maxRecDepth 20000 in
theorem v_li_comp : Cond.initialized RJ0 ∈ lw_tbl := (v_l1 15 rfl)
set_option maxRecDepth 20000 in
theorem v_ls_form : Cond.laysStatic RJ3 "SIOOBE_FORMATTER" "Ljava/util/function/BiFunction;" ∈ lw_tbl := (v_l3 101 rfl)
set_option maxRecDepth 20000 in
theorem v_li_form : Cond.initialized RJ3 ∈ lw_tbl := (v_l1 17 rfl)
theorem v_arrs {args : Array Value} {s : State} (hts : ∀ w ∈ lw_tbl, w.before args s = true) : ∃ ac : Nat → ClassId, ∀ (k : Nat) (q : ClassId × FieldType), (v_tys ac)[k]? = some q → ArrOfT s q.1 q.2 ∧ va_RA s q.1 q.2 := by
  have hv : ∀ w ∈ v_T, w.before args s = true := fun w h => hts w (List.mem_filter.mp h).1
  obtain ⟨c0, k0, m0, a0, b0, d0⟩ := Cond.arrayClass_spec (hv _ ka_int)
  obtain ⟨c1, k1, m1, a1, b1, d1⟩ := Cond.arrayClass_spec (hv _ ka_byte)
  obtain ⟨c2, k2, m2, a2, b2, d2⟩ := Cond.arrayClass_spec (hv _ ka_boolean)
  obtain ⟨c3, k3, m3, a3, b3, d3⟩ := Cond.arrayClass_spec (hv _ ka_long)
  obtain ⟨m4, c4, k4, e4, -, b4, d4, a4⟩ := Cond.arrayOver_spec (hts _ v_ao_RX8)
  obtain ⟨m5, c5, k5, e5, -, b5, d5, a5⟩ := Cond.arrayOver_spec (hts _ v_ao_RX3)
  obtain ⟨m6, c6, k6, e6, -, b6, d6, a6⟩ := Cond.arrayOver_spec (hts _ v_ao_RX0)
  refine ⟨fun k => match k with | 0 => c0 | 1 => c1 | 2 => c2 | 3 => c3 | 4 => c4 | 5 => c5 | _ => c6, fun k q hq => ?_⟩
  have hlt : k < 7 := (List.getElem?_eq_some_iff.mp hq).1
  match k, hlt, hq with
  | 0, _, hq => cases hq; exact ⟨fun n z => ⟨fun k h => (by cases h), k0, b0, m0, d0⟩, a0⟩
  | 1, _, hq => cases hq; exact ⟨fun n z => ⟨fun k h => (by cases h), k1, b1, m1, d1⟩, a1⟩
  | 2, _, hq => cases hq; exact ⟨fun n z => ⟨fun k h => (by cases h), k2, b2, m2, d2⟩, a2⟩
  | 3, _, hq => cases hq; exact ⟨fun n z => ⟨fun k h => (by cases h), k3, b3, m3, d3⟩, a3⟩
  | 4, _, hq => cases hq; exact ⟨fun n z => ⟨fun k h => (by cases h), k4, b4, m4, d4⟩, k4, m4, b4, d4, e4, a4⟩
  | 5, _, hq => cases hq; exact ⟨fun n z => ⟨fun k h => (by cases h), k5, b5, m5, d5⟩, k5, m5, b5, d5, e5, a5⟩
  | 6, _, hq => cases hq; exact ⟨fun n z => ⟨fun k h => (by cases h), k6, b6, m6, d6⟩, k6, m6, b6, d6, e6, a6⟩
theorem v_clss {args : Array Value} {s : State} (hts : ∀ w ∈ lw_tbl, w.before args s = true) : ∃ D : va_G, ∀ (k : Nat) (q : vw_C), vwCl[k]? = some q → u_Kn s q.1 q.2.1 q.2.2 (D.1 k) (D.2 k) := by
  have hv : ∀ w ∈ v_T, w.before args s = true := fun w h => hts w (List.mem_filter.mp h).1
  obtain ⟨c0, i0, h0⟩ := u_known (C := RX0) (T := TX0) (N := v_n 0) (n := v_n 0) hv kc_0.2.2.1 (hv _ knt_0)
  obtain ⟨c1, i1, h1⟩ := u_known (C := RX1) (T := TX1) (N := v_n 1) (n := v_n 1) hv kc_1.2.2.1 (hv _ knt_1)
  obtain ⟨c2, i2, h2⟩ := u_known (C := RX2) (T := TX2) (N := v_n 2) (n := v_n 2) hv kc_2.2.2.1 (hv _ knt_2)
  obtain ⟨c3, i3, h3⟩ := u_known (C := RX3) (T := TX3) (N := v_n 3) (n := v_n 3) hv kc_3.2.2.1 (hv _ knt_3)
  obtain ⟨c4, i4, h4⟩ := u_known (C := RX4) (T := TX4) (N := v_n 4) (n := v_n 4) hv kc_4.2.2.1 (hv _ knt_4)
  obtain ⟨c5, i5, h5⟩ := u_known (C := RX5) (T := TX5) (N := v_n 5) (n := v_n 5) hv kc_5.2.2.1 (hv _ knt_5)
  obtain ⟨c6, i6, h6⟩ := u_known (C := RX6) (T := TX6) (N := v_n 6) (n := v_n 6) hv kc_6.2.2.1 (hv _ knt_6)
  obtain ⟨c7, i7, h7⟩ := u_known (C := RX7) (T := TX7) (N := v_n 7) (n := v_n 7) hv kc_7.2.2.1 (hv _ knt_7)
  obtain ⟨c8, i8, h8⟩ := u_known (C := RX8) (T := TX8) (N := v_n 8) (n := v_n 8) hv kc_8.2.2.1 (hv _ knt_8)
  obtain ⟨c9, i9, h9⟩ := u_known (C := RX9) (T := TX9) (N := v_n 9) (n := v_n 9) hv kc_9.2.2.1 (hv _ knt_9)
  obtain ⟨c10, i10, h10⟩ := u_known (C := RX10) (T := TX10) (N := v_n 10) (n := v_n 10) hv kc_10.2.2.1 (hv _ knt_10)
  refine ⟨(fun k => match k with | 0 => c0 | 1 => c1 | 2 => c2 | 3 => c3 | 4 => c4 | 5 => c5 | 6 => c6 | 7 => c7 | 8 => c8 | 9 => c9 | _ => c10, fun k => match k with | 0 => i0 | 1 => i1 | 2 => i2 | 3 => i3 | 4 => i4 | 5 => i5 | 6 => i6 | 7 => i7 | 8 => i8 | 9 => i9 | _ => i10), fun k q hq => ?_⟩
  have hlt : k < 11 := (List.getElem?_eq_some_iff.mp hq).1
  match k, hlt, hq with
  | 0, _, hq => cases hq; exact h0
  | 1, _, hq => cases hq; exact h1
  | 2, _, hq => cases hq; exact h2
  | 3, _, hq => cases hq; exact h3
  | 4, _, hq => cases hq; exact h4
  | 5, _, hq => cases hq; exact h5
  | 6, _, hq => cases hq; exact h6
  | 7, _, hq => cases hq; exact h7
  | 8, _, hq => cases hq; exact h8
  | 9, _, hq => cases hq; exact h9
  | 10, _, hq => cases hq; exact h10
theorem v_EE_start {s : State} {b L : Nat} {xs : Nat → Int32} (hts : ∀ w ∈ lw_tbl, w.before #[Value.ref b] s = true) (hX : va_X b L xs s s.heap) (hbl : b < s.heap.size) (hgv : (Jvm.Cond.and given_1 narrow_1).before #[Value.ref b] s = true) : ∃ wa wb wt : Nat, v_EE s.heap.size wa wb wt b L xs s := by
  have hs : ∀ c ∈ v_flat, c.before #[Value.ref b] s = true := flat_of_before _ hgv
  have hA : ∀ a : Nat, a < s.heap.size → ¬ v_A s.heap.size a := fun a h => Nat.not_le.mpr h
  obtain ⟨adK, adV, hSt, hev⟩ := vk_Sof (N := 1) (tm := fun _ => (Jvm.Term.string RX6 93)) (len := [123]) (byt := [v_wordsT]) (A := v_A s.heap.size) (args := #[Value.ref b]) (s := s) (fun i hi => by
      have : i = 0 := by omega
      subst this; decide) (fun i hi => hs _ (by decide +kernel)) (fun i hi => hs _ (by decide +kernel)) (fun i hi => hs _ (by decide +kernel)) (fun i hi => by
      have : i = 0 := by omega
      subst this; exact hs _ (by decide +kernel)) (fun i hi j hj => by
      have : i = 0 := by omega
      subst this
      exact hs _ (List.mem_of_getElem? (v_flat_el j hj))) (fun i j hi hj hij => by omega) hA
  obtain ⟨wt, ht, hT⟩ := va_Tof (tm := .static RX9 "MOST_OF_TERM" "[I") (ty := .int) (N := 4) (f := fun j => .int (([999, 10, 9, 9] : List Int32).getD j 0)) (A := v_A s.heap.size) (args := #[Value.ref b]) (s := s) (by decide) (hs _ (by decide +kernel)) (va_eqt (hs _ (by decide +kernel))) (fun j hj => va_eqt (hs _ (v_flat_mt j hj))) hA
  refine ⟨adK 0, adV 0, wt, fun w hw => ?_, ⟨va_AO.of (hts _ v_ao_RX8), va_AO.of (hts _ v_ao_RX3), va_AO.of (hts _ v_ao_RX0)⟩, ⟨vk_R.of (hts _ v_sr) (hev 0 (by decide)), ⟨fun i hi => ?_, fun i j hi hj _ => by omega⟩⟩, ⟨va_Zof (hts _ v_ls_most) (hts _ v_li_most) ht hA, hT⟩, va_Zof (hts _ v_ls_comp) (hts _ v_li_comp) (va_eqt (hs _ (by decide +kernel))) hA, va_Zqof (hts _ v_ls_form) (hts _ v_li_form) (hs _ (by decide +kernel)) hA, hX, hbl⟩
  · have h := hts w (v_nests_in w hw)
    obtain ⟨q, -, rfl⟩ := List.mem_map.mp hw
    exact va_Nw.of rfl h
  · have : i = 0 := by omega
    subst this
    exact hSt.1 0 hi
/-! THE CLAIM OUT OF ONE WALK OF THE LAW'S BODY. Your part is whole_start (and what it stands on); all else here is the same for every law, but numbers. -/
def R_law : String := "HedgeCouncilLaw"
def lw_P (b : Addr) (xs : List Int32) (args : Array Value) (s : State) : Prop := args = #[.ref b] ∧ s.IntsAt b xs ∧ xs.length ≤ 3072 ∧ (Jvm.Cond.and given_1 narrow_1).before args s = true
def lw_Q (_ : Array Value) (s : State) (o : Outcome) (t : State) : Prop := o = .returned (some (.int 1)) ∧ Framed s o t [] 600000 7302250
def lw_Z (below : List Frame) (a : Array Value) (s : State) : State → Prop := fun t => ∃ o, t.status = .running ∧ Ended t below o ∧ lw_Q a s o t
/-- the law's own end, with 1 on the stack, nothing written that was there before, its room as the claim has it -/
theorem lw_ret {p : Program} {l : Launch} {e : Env} {s : State} {m : MethodId} {below : List Frame} {meth : Method} {c : Code} {b : Nat} (hx : p.tables.exec = Jvm.exec) (hb : c.code = code) (hr : meth.sig.returnType = ret) (hlocks : meth.locks = false) {pc : Nat} {H : Heap} {ls : Array Slot} (hdg : decode code pc = .ok (.ireturn, 1)) : W p l e room_1 s m #[Value.ref b] below meth c H [] 600000 7302250 (lw_Z below #[Value.ref b] s) (F0 m pc ls [.int 1]) := by
  intro T hT X
  obtain ⟨fs, hret, hrun, hended, hW, hframe⟩ := X.leave (v := some (.int 1)) (hlocks := hlocks) (fun h => by rw [hr] at h; cases h)
  have hmeth' : T.vm.method? m = some meth := X.method'
  refine ⟨T.setFrames fs, ?_, .returned (some (.int 1)), hrun, hended, rfl, ⟨_, rfl⟩, hW, hframe⟩
  jvm_step X.here [X.here.top, hx, hb, hdg, hmeth', hr, ret, narrow_b1]
  (try refine ⟨rfl, ?_⟩); (try refine ⟨rfl, ?_⟩)
  first | (intro acts; rw [hret _ acts rfl rfl rfl]) | rw [hret _ _ rfl rfl rfl]
  exact Steps.refl _
/-- what holds at the law's entry: the machine, the code, the tables' words (any of lw_tbl by 'hts w (by decide +kernel)'), the script of L ints xs at the cell b, what the Statement gives of the start (any of its parts by flat_of_before) -/
def lw_At (p : Program) (s : State) (m : MethodId) (meth : Method) (c : Code) (b L : Nat) (xs : Nat → Int32) : Prop :=
  p.tables.exec = Jvm.exec ∧ c.code = code ∧ meth.sig.returnType = ret ∧ c.maxLocals = 4 ∧ s.vm.findClass R_law = some m.cls ∧ (∀ w ∈ lw_tbl, w.before #[Value.ref b] s = true) ∧ va_X b L xs s s.heap ∧ b < s.heap.size ∧ meth.locks = false ∧ (Jvm.Cond.and given_1 narrow_1).before #[Value.ref b] s = true

/-- the whole, out of the law's text in Lean -/
theorem whole_open {p : Program} {e : Env} {s : State} {m : MethodId} {below : List Frame} {meth : Method} {c : Code} (l : Launch) {b L : Nat} {xs : Nat → Int32} {r : Int32} (hp : f_L_law L xs [] (fun _ _ => 0) (fun _ _ => 0) (fun _ _ => none) = some r) (C0 : lw_At p s m meth c b L xs) : W p l e room_1 s m #[Value.ref b] below meth c s.heap [] 0 0 (lw_Z below #[Value.ref b] s) (entryFrame m ([Value.ref b] : List Value).toArray 4) := by
  obtain ⟨hx, hb, hr, hml, hown, hts, hX, hbl, hlocks, hgv⟩ := id C0
  obtain ⟨D, hD⟩ := v_clss hts
  obtain ⟨ac, hac⟩ := v_arrs hts
  obtain ⟨wa, wb, wt, hE⟩ := v_EE_start hts hX hbl hgv
  have hl := lv_entry ([.ref b]) (n := 4) (Nat.le_of_ble_eq_true rfl)
  rw [lg_entry_eq]
  have key := t_L_law (l := l) (B := s.heap.size) (D := D) (ac := ac) (wa := wa) (wb := wb) (wt := wt) (sb := b) (nm := meth.name) (Q := fun r _ _ _ _ => r = some (.int 1)) (fun _ _ _ _ => rfl) hp p e s m #[Value.ref b] below meth c s.heap [] _
    ⟨hx, hb, hml, hr, fun w h => hts w (List.mem_filter.mp h).1, hown, hlocks, rfl, ⟨hD, hac⟩, hE, v_EE_env, Nat.le_refl _⟩ ⟨by simp, fun k kd n h => by simp at h, fun k i _ => ⟨rfl, rfl, rfl⟩⟩ va_S.rf hl
  intro T hT X
  obtain ⟨t, a1, o, b1, b2, ⟨r', σ', I', J', F', ho, hQ, -⟩, L', hF, hL'⟩ := key T hT X
  refine ⟨t, a1, o, b1, b2, ?_, ?_⟩
  · rw [ho, hQ]
  · obtain ⟨f1, f2, f3⟩ := hF
    exact ⟨f1, f2, f3.weaken (fun y hy hlt => absurd hlt (Nat.not_lt.mpr (hL' y hy))) (Nat.le_refl _) (Nat.le_refl _)⟩
