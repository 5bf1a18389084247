theorem v_H.push {B : Nat} {D : va_G} {ac : Nat → ClassId} {σ : v_S} {I : v_I} {J : v_J} {F : v_F} {H H' : Heap} {kd n : Nat} (h : v_H B D ac σ I J F H) (hz : H'.size = B + σ.length + 1) (ho : ∀ q : Nat, q < B + σ.length → H'[q]? = H[q]?) (hn : va_at D vwCl (B + σ.length, v_E B ac I J F σ.length kd n) H') : v_H B D ac (σ ++ [(kd, n)]) I J F H' := by
  refine ⟨by rw [hz]; simp; omega, fun k kd' n' hk => ?_, fun k i hk => h.2.2 k i (by simp at hk; omega)⟩
  by_cases hl : k < σ.length
  · rw [List.getElem?_append_left hl] at hk
    exact (h.2.1 k kd' n' hk).kept (ho _ (by simp; omega))
  · rw [List.getElem?_append_right (by omega)] at hk
    have hzz : k - σ.length < 1 := (List.getElem?_eq_some_iff.mp hk).1
    have e : k = σ.length := by omega
    subst e
    simp at hk
    obtain ⟨rfl, rfl⟩ := hk
    exact hn

section VC
variable {l : Launch} {B : Nat} {D : va_G} {ac : Nat → ClassId} {E : State → Prop} {y : MethodName} {cc : ByteArray} {nL : Nat} {ret : Option FieldType} {d mc ms cn sn : Nat} {σ : v_S} {I : v_I} {J : v_J} {F : v_F} {pc : Nat} {lv : List (Nat × Value)} {st : List Value} {Q : v_Q}
theorem v_newa0 {x : Int32} (n : Nat) (hd : decode cc pc = .ok (.newarray .int, 2)) (hw : Cond.arrayClass .int ∈ v_T) (hx : ¬ x < 0) (hn : x.toNatClampNeg = n) (hb : n ≤ 60000000) (hcn : cn + 1 ≤ mc) (hsn : sn + n ≤ ms) (kk : V l B D ac E y cc nL ret d mc ms (cn + 1) (sn + n) (σ ++ [(20, n)]) I J F (pc + 2) (lv) (.ref (B + σ.length) :: st) Q) : V l B D ac E y cc nL ret d mc ms cn sn σ I J F (pc) (lv) (.int x :: st) Q := by
  intro p e s m args below meth c H locs ls C hH hS hl
  have hK := C.2.2.2.2.2.2.2.2.1
  have h0 : ∀ j : Nat, I σ.length j = 0 ∧ J σ.length j = 0 ∧ F σ.length j = none := fun j => hH.2.2 _ j (Nat.le_refl _)
  refine va_newaK (atype := .int) C.1 C.2.1 (C.2.2.2.2.1 _ hw) rfl hd rfl hx hn (by show n * 4 ≤ 536870912; omega) hcn hsn hH.1 fun H1 cA e1 z1 o1 hAr hNm => ?_
  have hcA : cA = ac 0 := by
    have h2 := (hK.2 0 (ac 0, .int) rfl).2
    exact Option.some.inj (hNm.symm.trans h2)
  subst hcA
  refine kk p e s m args below meth c H1 locs ls C (hH.push z1 o1 ?_) ⟨Nat.le_trans hS.1 (by rw [z1, hH.1]; omega), fun q h1 h2 => (o1 q (by rw [← hH.1]; exact Nat.lt_of_lt_of_le h1 hS.1)).trans (hS.2.1 q h1 h2), hS.2.2⟩ hl
  show H1[B + σ.length]? = some (vp_cell (ac 0) (n, .inl (I σ.length)))
  rw [e1, vp_cell_i]
  congr 2
  funext j
  rw [(h0 j).1]
  rfl
theorem v_newa1 {x : Int32} (n : Nat) (hd : decode cc pc = .ok (.newarray .byte, 2)) (hw : Cond.arrayClass .byte ∈ v_T) (hx : ¬ x < 0) (hn : x.toNatClampNeg = n) (hb : n ≤ 60000000) (hcn : cn + 1 ≤ mc) (hsn : sn + n ≤ ms) (kk : V l B D ac E y cc nL ret d mc ms (cn + 1) (sn + n) (σ ++ [(21, n)]) I J F (pc + 2) (lv) (.ref (B + σ.length) :: st) Q) : V l B D ac E y cc nL ret d mc ms cn sn σ I J F (pc) (lv) (.int x :: st) Q := by
  intro p e s m args below meth c H locs ls C hH hS hl
  have hK := C.2.2.2.2.2.2.2.2.1
  have h0 : ∀ j : Nat, I σ.length j = 0 ∧ J σ.length j = 0 ∧ F σ.length j = none := fun j => hH.2.2 _ j (Nat.le_refl _)
  refine va_newaK (atype := .byte) C.1 C.2.1 (C.2.2.2.2.1 _ hw) rfl hd rfl hx hn (by show n * 1 ≤ 536870912; omega) hcn hsn hH.1 fun H1 cA e1 z1 o1 hAr hNm => ?_
  have hcA : cA = ac 1 := by
    have h2 := (hK.2 1 (ac 1, .byte) rfl).2
    exact Option.some.inj (hNm.symm.trans h2)
  subst hcA
  refine kk p e s m args below meth c H1 locs ls C (hH.push z1 o1 ?_) ⟨Nat.le_trans hS.1 (by rw [z1, hH.1]; omega), fun q h1 h2 => (o1 q (by rw [← hH.1]; exact Nat.lt_of_lt_of_le h1 hS.1)).trans (hS.2.1 q h1 h2), hS.2.2⟩ hl
  show H1[B + σ.length]? = some (vp_cell (ac 1) (n, .inl (I σ.length)))
  rw [e1, vp_cell_i]
  congr 2
  funext j
  rw [(h0 j).1]
  rfl
theorem v_newa2 {x : Int32} (n : Nat) (hd : decode cc pc = .ok (.newarray .boolean, 2)) (hw : Cond.arrayClass .boolean ∈ v_T) (hx : ¬ x < 0) (hn : x.toNatClampNeg = n) (hb : n ≤ 60000000) (hcn : cn + 1 ≤ mc) (hsn : sn + n ≤ ms) (kk : V l B D ac E y cc nL ret d mc ms (cn + 1) (sn + n) (σ ++ [(22, n)]) I J F (pc + 2) (lv) (.ref (B + σ.length) :: st) Q) : V l B D ac E y cc nL ret d mc ms cn sn σ I J F (pc) (lv) (.int x :: st) Q := by
  intro p e s m args below meth c H locs ls C hH hS hl
  have hK := C.2.2.2.2.2.2.2.2.1
  have h0 : ∀ j : Nat, I σ.length j = 0 ∧ J σ.length j = 0 ∧ F σ.length j = none := fun j => hH.2.2 _ j (Nat.le_refl _)
  refine va_newaK (atype := .boolean) C.1 C.2.1 (C.2.2.2.2.1 _ hw) rfl hd rfl hx hn (by show n * 1 ≤ 536870912; omega) hcn hsn hH.1 fun H1 cA e1 z1 o1 hAr hNm => ?_
  have hcA : cA = ac 2 := by
    have h2 := (hK.2 2 (ac 2, .boolean) rfl).2
    exact Option.some.inj (hNm.symm.trans h2)
  subst hcA
  refine kk p e s m args below meth c H1 locs ls C (hH.push z1 o1 ?_) ⟨Nat.le_trans hS.1 (by rw [z1, hH.1]; omega), fun q h1 h2 => (o1 q (by rw [← hH.1]; exact Nat.lt_of_lt_of_le h1 hS.1)).trans (hS.2.1 q h1 h2), hS.2.2⟩ hl
  show H1[B + σ.length]? = some (vp_cell (ac 2) (n, .inl (I σ.length)))
  rw [e1, vp_cell_i]
  congr 2
  funext j
  rw [(h0 j).1]
  rfl
theorem v_newa3 {x : Int32} (n : Nat) (hd : decode cc pc = .ok (.newarray .long, 2)) (hw : Cond.arrayClass .long ∈ v_T) (hx : ¬ x < 0) (hn : x.toNatClampNeg = n) (hb : n ≤ 60000000) (hcn : cn + 1 ≤ mc) (hsn : sn + n ≤ ms) (kk : V l B D ac E y cc nL ret d mc ms (cn + 1) (sn + n) (σ ++ [(23, n)]) I J F (pc + 2) (lv) (.ref (B + σ.length) :: st) Q) : V l B D ac E y cc nL ret d mc ms cn sn σ I J F (pc) (lv) (.int x :: st) Q := by
  intro p e s m args below meth c H locs ls C hH hS hl
  have hK := C.2.2.2.2.2.2.2.2.1
  have h0 : ∀ j : Nat, I σ.length j = 0 ∧ J σ.length j = 0 ∧ F σ.length j = none := fun j => hH.2.2 _ j (Nat.le_refl _)
  refine va_newaK (atype := .long) C.1 C.2.1 (C.2.2.2.2.1 _ hw) rfl hd rfl hx hn (by show n * 8 ≤ 536870912; omega) hcn hsn hH.1 fun H1 cA e1 z1 o1 hAr hNm => ?_
  have hcA : cA = ac 3 := by
    have h2 := (hK.2 3 (ac 3, .long) rfl).2
    exact Option.some.inj (hNm.symm.trans h2)
  subst hcA
  refine kk p e s m args below meth c H1 locs ls C (hH.push z1 o1 ?_) ⟨Nat.le_trans hS.1 (by rw [z1, hH.1]; omega), fun q h1 h2 => (o1 q (by rw [← hH.1]; exact Nat.lt_of_lt_of_le h1 hS.1)).trans (hS.2.1 q h1 h2), hS.2.2⟩ hl
  show H1[B + σ.length]? = some (vp_cell (ac 3) (n, .inr (.inl (J σ.length))))
  rw [e1, vp_cell_l]
  congr 2
  funext j
  rw [(h0 j).2.1]
  rfl
theorem v_newq4 {x : Int32} {idx : Nat} (n : Nat) (hd : decode cc pc = .ok (.anewarray idx, 3)) (hw : Cond.classLink y.cls idx RX8 ∈ v_T) (hw2 : ∀ U : State, E U → va_AO RX8 U) (hx : ¬ x < 0) (hn : x.toNatClampNeg = n) (hb : n ≤ 60000000) (hcn : cn + 1 ≤ mc) (hsn : sn + n ≤ ms) (kk : V l B D ac E y cc nL ret d mc ms (cn + 1) (sn + n) (σ ++ [(24, n)]) I J F (pc + 3) (lv) (.ref (B + σ.length) :: st) Q) : V l B D ac E y cc nL ret d mc ms cn sn σ I J F (pc) (lv) (.int x :: st) Q := by
  intro p e s m args below meth c H locs ls C hH hS hl
  have hK := C.2.2.2.2.2.2.2.2.1
  have h0 : ∀ j : Nat, I σ.length j = 0 ∧ J σ.length j = 0 ∧ F σ.length j = none := fun j => hH.2.2 _ j (Nat.le_refl _)
  subst hn
  refine W.anew C.1 C.2.1 C.2.2.2.2.2.1 (C.2.2.2.2.1 _ hw) (va_AO.use (hw2 s C.2.2.2.2.2.2.2.2.2.1)) rfl hd rfl hx (by omega) hcn hsn fun cA kA comp f1 f2 f3 f4 => ?_
  have hcA : cA = ac 4 := by
    obtain ⟨-, -, -, -, -, h2⟩ := (hK.2 4 (ac 4, .object RX8) rfl).2
    exact Option.some.inj (f1.symm.trans h2)
  subst hcA
  generalize hH1 : H.push ({ cls := ac 4, slots := Array.replicate x.toNatClampNeg .null, vm := .none } : Cell) = H1
  have z1 : H1.size = H.size + 1 := by rw [← hH1, Array.size_push]
  have e1 : H1[H.size]? = some (arrV (ac 4) x.toNatClampNeg (fun _ => .null)) := by rw [← hH1, Array.getElem?_push_size, ← arrV_new]
  have o1 : ∀ q : Nat, q < H.size → H1[q]? = H[q]? := fun q hq => by rw [← hH1, Array.getElem?_push, if_neg (Nat.ne_of_lt hq)]
  rw [hH.1] at z1 e1 o1
  rw [show (Value.ref H.size) = .ref (B + σ.length) by rw [hH.1]]
  refine kk p e s m args below meth c H1 locs ls C (hH.push z1 o1 ?_) ⟨Nat.le_trans hS.1 (by rw [z1, hH.1]; omega), fun q h1 h2 => (o1 q (by rw [← hH.1]; exact Nat.lt_of_lt_of_le h1 hS.1)).trans (hS.2.1 q h1 h2), hS.2.2⟩ hl
  show H1[B + σ.length]? = some (vp_cell (ac 4) (x.toNatClampNeg, .inr (.inr (.inr (.inr (fun i => (F σ.length i).map (B + ·)))))))
  rw [e1, vp_cell_q]
  congr 2
  funext j
  rw [(h0 j).2.2]
  rfl
theorem v_newq5 {x : Int32} {idx : Nat} (n : Nat) (hd : decode cc pc = .ok (.anewarray idx, 3)) (hw : Cond.classLink y.cls idx RX3 ∈ v_T) (hw2 : ∀ U : State, E U → va_AO RX3 U) (hx : ¬ x < 0) (hn : x.toNatClampNeg = n) (hb : n ≤ 60000000) (hcn : cn + 1 ≤ mc) (hsn : sn + n ≤ ms) (kk : V l B D ac E y cc nL ret d mc ms (cn + 1) (sn + n) (σ ++ [(25, n)]) I J F (pc + 3) (lv) (.ref (B + σ.length) :: st) Q) : V l B D ac E y cc nL ret d mc ms cn sn σ I J F (pc) (lv) (.int x :: st) Q := by
  intro p e s m args below meth c H locs ls C hH hS hl
  have hK := C.2.2.2.2.2.2.2.2.1
  have h0 : ∀ j : Nat, I σ.length j = 0 ∧ J σ.length j = 0 ∧ F σ.length j = none := fun j => hH.2.2 _ j (Nat.le_refl _)
  subst hn
  refine W.anew C.1 C.2.1 C.2.2.2.2.2.1 (C.2.2.2.2.1 _ hw) (va_AO.use (hw2 s C.2.2.2.2.2.2.2.2.2.1)) rfl hd rfl hx (by omega) hcn hsn fun cA kA comp f1 f2 f3 f4 => ?_
  have hcA : cA = ac 5 := by
    obtain ⟨-, -, -, -, -, h2⟩ := (hK.2 5 (ac 5, .object RX3) rfl).2
    exact Option.some.inj (f1.symm.trans h2)
  subst hcA
  generalize hH1 : H.push ({ cls := ac 5, slots := Array.replicate x.toNatClampNeg .null, vm := .none } : Cell) = H1
  have z1 : H1.size = H.size + 1 := by rw [← hH1, Array.size_push]
  have e1 : H1[H.size]? = some (arrV (ac 5) x.toNatClampNeg (fun _ => .null)) := by rw [← hH1, Array.getElem?_push_size, ← arrV_new]
  have o1 : ∀ q : Nat, q < H.size → H1[q]? = H[q]? := fun q hq => by rw [← hH1, Array.getElem?_push, if_neg (Nat.ne_of_lt hq)]
  rw [hH.1] at z1 e1 o1
  rw [show (Value.ref H.size) = .ref (B + σ.length) by rw [hH.1]]
  refine kk p e s m args below meth c H1 locs ls C (hH.push z1 o1 ?_) ⟨Nat.le_trans hS.1 (by rw [z1, hH.1]; omega), fun q h1 h2 => (o1 q (by rw [← hH.1]; exact Nat.lt_of_lt_of_le h1 hS.1)).trans (hS.2.1 q h1 h2), hS.2.2⟩ hl
  show H1[B + σ.length]? = some (vp_cell (ac 5) (x.toNatClampNeg, .inr (.inr (.inr (.inr (fun i => (F σ.length i).map (B + ·)))))))
  rw [e1, vp_cell_q]
  congr 2
  funext j
  rw [(h0 j).2.2]
  rfl
theorem v_newq6 {x : Int32} {idx : Nat} (n : Nat) (hd : decode cc pc = .ok (.anewarray idx, 3)) (hw : Cond.classLink y.cls idx RX0 ∈ v_T) (hw2 : ∀ U : State, E U → va_AO RX0 U) (hx : ¬ x < 0) (hn : x.toNatClampNeg = n) (hb : n ≤ 60000000) (hcn : cn + 1 ≤ mc) (hsn : sn + n ≤ ms) (kk : V l B D ac E y cc nL ret d mc ms (cn + 1) (sn + n) (σ ++ [(26, n)]) I J F (pc + 3) (lv) (.ref (B + σ.length) :: st) Q) : V l B D ac E y cc nL ret d mc ms cn sn σ I J F (pc) (lv) (.int x :: st) Q := by
  intro p e s m args below meth c H locs ls C hH hS hl
  have hK := C.2.2.2.2.2.2.2.2.1
  have h0 : ∀ j : Nat, I σ.length j = 0 ∧ J σ.length j = 0 ∧ F σ.length j = none := fun j => hH.2.2 _ j (Nat.le_refl _)
  subst hn
  refine W.anew C.1 C.2.1 C.2.2.2.2.2.1 (C.2.2.2.2.1 _ hw) (va_AO.use (hw2 s C.2.2.2.2.2.2.2.2.2.1)) rfl hd rfl hx (by omega) hcn hsn fun cA kA comp f1 f2 f3 f4 => ?_
  have hcA : cA = ac 6 := by
    obtain ⟨-, -, -, -, -, h2⟩ := (hK.2 6 (ac 6, .object RX0) rfl).2
    exact Option.some.inj (f1.symm.trans h2)
  subst hcA
  generalize hH1 : H.push ({ cls := ac 6, slots := Array.replicate x.toNatClampNeg .null, vm := .none } : Cell) = H1
  have z1 : H1.size = H.size + 1 := by rw [← hH1, Array.size_push]
  have e1 : H1[H.size]? = some (arrV (ac 6) x.toNatClampNeg (fun _ => .null)) := by rw [← hH1, Array.getElem?_push_size, ← arrV_new]
  have o1 : ∀ q : Nat, q < H.size → H1[q]? = H[q]? := fun q hq => by rw [← hH1, Array.getElem?_push, if_neg (Nat.ne_of_lt hq)]
  rw [hH.1] at z1 e1 o1
  rw [show (Value.ref H.size) = .ref (B + σ.length) by rw [hH.1]]
  refine kk p e s m args below meth c H1 locs ls C (hH.push z1 o1 ?_) ⟨Nat.le_trans hS.1 (by rw [z1, hH.1]; omega), fun q h1 h2 => (o1 q (by rw [← hH.1]; exact Nat.lt_of_lt_of_le h1 hS.1)).trans (hS.2.1 q h1 h2), hS.2.2⟩ hl
  show H1[B + σ.length]? = some (vp_cell (ac 6) (x.toNatClampNeg, .inr (.inr (.inr (.inr (fun i => (F σ.length i).map (B + ·)))))))
  rw [e1, vp_cell_q]
  congr 2
  funext j
  rw [(h0 j).2.2]
  rfl
theorem v_new {idx kd : Nat} {Cn : String} {T : u_T} (hd : decode cc pc = .ok (.new idx, 3)) (hc : v_cls kd Cn T) (hw : Cond.classLink y.cls idx Cn ∈ v_T) (hw2 : Cond.instantiable Cn (v_n kd) ∈ v_T) (hw3 : Cond.initialized Cn ∈ v_T) (hdf : ∀ j, j < v_n kd → defaultValue (v_fty kd j) = if v_isR kd j = true then .null else .int 0) (hcn : cn + 1 ≤ mc) (hsn : sn + v_n kd ≤ ms) (kk : V l B D ac E y cc nL ret d mc ms (cn + 1) (sn + v_n kd) (σ ++ [(kd, v_n kd)]) I J F (pc + 3) (lv) (.ref (B + σ.length) :: st) Q) : V l B D ac E y cc nL ret d mc ms cn sn σ I J F (pc) (lv) (st) Q := by
  intro p e s m args below meth c H locs ls C hH hS hl
  have hK := C.2.2.2.2.2.2.2.2.1
  have h0 : ∀ j : Nat, I σ.length j = 0 ∧ J σ.length j = 0 ∧ F σ.length j = none := fun j => hH.2.2 _ j (Nat.le_refl _)
  obtain ⟨hlt, hcl, hin, hty, hnm⟩ := hc
  have hKn := hK.1 kd _ hcl
  refine W.newcK C.1 C.2.1 C.2.2.2.2.2.1 (C.2.2.2.2.1 _ hw) (C.2.2.2.2.1 _ hw2) (C.2.2.2.2.1 _ hw3) rfl hd hcn hsn hKn.2.1 hH.1 fun H1 kC hkC e1 z1 o1 => ?_
  refine kk p e s m args below meth c H1 locs ls C (hH.push z1 o1 ?_) ⟨Nat.le_trans hS.1 (by rw [z1, hH.1]; omega), fun q h1 h2 => (o1 q (by rw [← hH.1]; exact Nat.lt_of_lt_of_le h1 hS.1)).trans (hS.2.1 q h1 h2), hS.2.2⟩ hl
  rw [v_E_obj hlt]
  refine ⟨_, hcl, (u_born (v_fty kd) C.2.2.2.2.1 hin hKn hkC e1 hty).to (fun j hj => ?_)⟩
  rw [v_fs_V hj, hdf j hj, (h0 j).1, (h0 j).2.2]
  rfl
theorem v_objInit {idx a : Nat} (hd : decode cc pc = .ok (.invokespecial idx, 3)) (hw : Cond.methodLink y.cls idx Lib.objectInit ∈ v_T) (hw2 : Cond.instanceMethod Lib.objectInit ∈ v_T) (hw3 : Cond.code Lib.objectInit ⟨#[0xb1]⟩ 1 none ∈ v_T) (hdd : 1 ≤ d) (hst : (st.map fun v => v.category).sum ≤ 8) (k : V l B D ac E y cc nL ret d mc ms cn sn σ I J F (pc + 3) (lv) (st) Q) : V l B D ac E y cc nL ret d mc ms cn sn σ I J F (pc) (lv) (.ref a :: st) Q := by
  intro p e s m args below meth c H locs ls C hH hS hl
  exact W.objInit C.1 C.2.1 C.2.2.2.2.2.1 (C.2.2.2.2.1 _ hw) (C.2.2.2.2.1 _ hw2) (C.2.2.2.2.1 _ hw3) rfl (hl.1.trans C.2.2.1.symm) rfl hd hdd (by show 2 * 0 + _ + 12 ≤ 41 * d + 32; omega) (k p e s m args below meth c H locs ls C hH hS hl)
/-- behind a call: the callee's memory is ours -/
theorem v_after {mc2 ms2 : Nat} {Q2 : v_Q} {stk : List Value} {a : Array Value} {p : Program} {e : Env} {s : State} {m : MethodId} {args : Array Value} {below : List Frame} {meth : Method} {c : Code} {H : Heap} {locs : List Loc} {ls : Array Slot} (C : v_C B D ac E y cc nL ret p s m args meth c) (hS : va_S (v_A B) s.heap H locs) (hl : lv_has ls nL lv)
    (run : va_Run p l e (v_rm d mc ms) s m args below meth c H locs cn sn mc2 ms2 (F0 m pc ls stk) st (v_Qc B D ac Q2 a) (v_A B))
    (kk : ∀ (r : Option Value) (σ' : v_S) (I' : v_I) (J' : v_J) (F' : v_F), Q2 r σ' I' J' F' → V l B D ac E y cc nL ret d mc ms (cn + mc2) (sn + ms2) σ' I' J' F' (pc + 3) (lv) (r.toList ++ st) Q) : W p l e (v_rm d mc ms) s m args below meth c H locs cn sn (MQ below (v_Qc B D ac Q) args s mc ms (v_A B)) (F0 m pc ls stk) := by
  intro T hT X
  obtain ⟨v, st₀, t, T', L, h0, X', hL, e1, e2, ⟨r, σ', I', J', F', ho, hQ, hH', hF'⟩, stp⟩ := run T hT X
  cases ho
  have hz := hF'.1
  have hk := hF'.2
  rw [h0] at hz hk
  obtain ⟨t2, a1, b1⟩ := kk _ σ' I' J' F' hQ p e s m args below meth c T'.heap (locs ++ L) ls C (by rw [e1]; exact hH') ⟨Nat.le_trans hS.1 (by rw [e1]; exact hz), fun q h1 h2 => by rw [e1, hk q (Nat.lt_of_lt_of_le h1 hS.1) h2]; exact hS.2.1 q h1 h2, fun q hq => by
      rcases List.mem_append.mp hq with h | h
      · exact hS.2.2 q h
      · exact hL q h⟩ hl T' rfl X'
  exact ⟨t2, stp t2 a1, b1⟩
theorem v_callV {y2 : MethodName} {cc2 : ByteArray} {nL2 d2 mc2 ms2 idx : Nat} {ret2 : Option FieldType} {k : Nat} {As stk : List Value} {Q2 : v_Q} (hc : v_R l B D ac E y2 cc2 nL2 ret2 d2 mc2 ms2 (.ref (B + k) :: As) σ I J F Q2) (cb : v_cal y2 cc2 nL2 ret2 As.length) (hw : Cond.methodLink y.cls idx y2 ∈ v_T) {kd n : Nat} (vs : Cond.instanceMethod y2 ∈ v_T ∧ Cond.selects y2.cls y2 y2 ∈ v_T) (hσ : σ[k]? = some (kd, n)) (hk : kd < 20 ∧ ∃ T : u_T, vwCl[kd]? = some (y2.cls, T, v_n kd)) (hd : decode cc pc = .ok (.invokevirtual idx, 3)) (hdd : d2 + 1 ≤ d) (hcn : cn + mc2 ≤ mc) (hsn : sn + ms2 ≤ ms) (hst : (st.map fun v => v.category).sum ≤ 8) (hs : stk = As.reverse ++ .ref (B + k) :: st) (kk : ∀ (r : Option Value) (σ' : v_S) (I' : v_I) (J' : v_J) (F' : v_F), Q2 r σ' I' J' F' → V l B D ac E y cc nL ret d mc ms (cn + mc2) (sn + ms2) σ' I' J' F' (pc + 3) (lv) (r.toList ++ st) Q) : V l B D ac E y cc nL ret d mc ms cn sn σ I J F (pc) (lv) (stk) Q := by
  intro p e s m args below meth c H locs ls C hH hS hl
  subst hs
  refine v_after C hS hl (va_runV (As := As) (rest := st) ⟨C.1, C.2.1, C.2.2.1, C.2.2.2.2.2.1, C.2.2.2.2.1⟩ (hc d2 (Nat.le_refl _)) ⟨⟨rfl, rfl, hdd, by show 8 + (nL2 + 11) + (41 * d2 + 32) ≤ 41 * d + 32; have := cb.2.2.2.2; omega, pay_in C.2.2.2.2.1 (v_wsg cb), List.mem_cons_self, C.2.2.2.2.1 _ cb.1, C.2.2.2.2.1 _ cb.2.1, cb.2.2.1, cb.2.2.2.1, C.2.2.2.2.1 _ hw⟩, C.2.2.2.2.1 _ vs.1, C.2.2.2.2.1 _ vs.2⟩ ⟨v_blind, (by have hat := hH.2.1 k kd n hσ; rw [v_E_obj hk.1] at hat; obtain ⟨r, h1, cell, g1, g2, g3, -⟩ := hat; obtain ⟨T, hcl⟩ := hk.2; exact ⟨cell, g1, by rw [g3]; rfl, by rw [g2]; exact (C.2.2.2.2.2.2.2.2.1.1 kd _ hcl).2.1⟩), fun U hU hW => ⟨rfl, by rw [hU]; exact hH, va_K.moved hW.alike C.2.2.2.2.2.2.2.2.1, C.2.2.2.2.2.2.2.2.2.2.1.1 s U hW (fun q hq => by rw [hU]; exact hS.2.1 q (Nat.lt_of_lt_of_le hq C.2.2.2.2.2.2.2.2.2.2.2) (Nat.not_le.mpr hq)) C.2.2.2.2.2.2.2.2.2.1, C.2.2.2.2.2.2.2.2.2.2.1⟩⟩ rfl rfl hl.1 rfl (lv_room hst) hd ⟨hcn, hsn⟩) kk
theorem v_callVd {y2 : MethodName} {cc2 : ByteArray} {nL2 d2 mc2 ms2 idx : Nat} {ret2 : Option FieldType} {k : Nat} {As stk : List Value} {r2 : Option Value} {σ2 : v_S} {I2 : v_I} {J2 : v_J} {F2 : v_F} (hc : v_R l B D ac E y2 cc2 nL2 ret2 d2 mc2 ms2 (.ref (B + k) :: As) σ I J F (v_D r2 σ2 I2 J2 F2)) (cb : v_cal y2 cc2 nL2 ret2 As.length) (hw : Cond.methodLink y.cls idx y2 ∈ v_T) {kd n : Nat} (vs : Cond.instanceMethod y2 ∈ v_T ∧ Cond.selects y2.cls y2 y2 ∈ v_T) (hσ : σ[k]? = some (kd, n)) (hk : kd < 20 ∧ ∃ T : u_T, vwCl[kd]? = some (y2.cls, T, v_n kd)) (hd : decode cc pc = .ok (.invokevirtual idx, 3)) (hdd : d2 + 1 ≤ d) (hcn : cn + mc2 ≤ mc) (hsn : sn + ms2 ≤ ms) (hst : (st.map fun v => v.category).sum ≤ 8) (hs : stk = As.reverse ++ .ref (B + k) :: st) (kk : V l B D ac E y cc nL ret d mc ms (cn + mc2) (sn + ms2) σ2 I2 J2 F2 (pc + 3) (lv) (r2.toList ++ st) Q) : V l B D ac E y cc nL ret d mc ms cn sn σ I J F (pc) (lv) (stk) Q := v_callV hc cb hw vs hσ hk hd hdd hcn hsn hst hs (fun r σ' I' J' F' hq => by obtain ⟨rfl, rfl, rfl, rfl, rfl⟩ := hq; exact kk)
theorem v_callVN {y2 : MethodName} {cc2 : ByteArray} {nL2 d2 mc2 ms2 idx : Nat} {ret2 : Option FieldType} {host : String} {k : Nat} {As stk : List Value} {Q2 : v_Q} (hc : v_R l B D ac E y2 cc2 nL2 ret2 d2 mc2 ms2 (.ref (B + k) :: As) σ I J F Q2) (cb : v_cal y2 cc2 nL2 ret2 As.length) (hw : ∀ U : State, E U → va_Nw (Cond.methodLinkNest y.cls idx y2 host) U) {kd n : Nat} (vs : Cond.instanceMethod y2 ∈ v_T ∧ Cond.selects y2.cls y2 y2 ∈ v_T) (hσ : σ[k]? = some (kd, n)) (hk : kd < 20 ∧ ∃ T : u_T, vwCl[kd]? = some (y2.cls, T, v_n kd)) (hd : decode cc pc = .ok (.invokevirtual idx, 3)) (hdd : d2 + 1 ≤ d) (hcn : cn + mc2 ≤ mc) (hsn : sn + ms2 ≤ ms) (hst : (st.map fun v => v.category).sum ≤ 8) (hs : stk = As.reverse ++ .ref (B + k) :: st) (kk : ∀ (r : Option Value) (σ' : v_S) (I' : v_I) (J' : v_J) (F' : v_F), Q2 r σ' I' J' F' → V l B D ac E y cc nL ret d mc ms (cn + mc2) (sn + ms2) σ' I' J' F' (pc + 3) (lv) (r.toList ++ st) Q) : V l B D ac E y cc nL ret d mc ms cn sn σ I J F (pc) (lv) (stk) Q := by
  intro p e s m args below meth c H locs ls C hH hS hl
  subst hs
  refine v_after C hS hl (va_runVN (As := As) (rest := st) ⟨C.1, C.2.1, C.2.2.1, C.2.2.2.2.2.1, C.2.2.2.2.1⟩ (hc d2 (Nat.le_refl _)) ⟨⟨⟨rfl, rfl, hdd, by show 8 + (nL2 + 11) + (41 * d2 + 32) ≤ 41 * d + 32; have := cb.2.2.2.2; omega, pay_in C.2.2.2.2.1 (v_wsg cb), List.mem_cons_self⟩, C.2.2.2.2.1 _ cb.1, C.2.2.2.2.1 _ cb.2.1, cb.2.2.1, cb.2.2.2.1, va_Nw.use rfl (hw s C.2.2.2.2.2.2.2.2.2.1)⟩, C.2.2.2.2.1 _ vs.1, C.2.2.2.2.1 _ vs.2⟩ ⟨v_blind, (by have hat := hH.2.1 k kd n hσ; rw [v_E_obj hk.1] at hat; obtain ⟨r, h1, cell, g1, g2, g3, -⟩ := hat; obtain ⟨T, hcl⟩ := hk.2; exact ⟨cell, g1, by rw [g3]; rfl, by rw [g2]; exact (C.2.2.2.2.2.2.2.2.1.1 kd _ hcl).2.1⟩), fun U hU hW => ⟨rfl, by rw [hU]; exact hH, va_K.moved hW.alike C.2.2.2.2.2.2.2.2.1, C.2.2.2.2.2.2.2.2.2.2.1.1 s U hW (fun q hq => by rw [hU]; exact hS.2.1 q (Nat.lt_of_lt_of_le hq C.2.2.2.2.2.2.2.2.2.2.2) (Nat.not_le.mpr hq)) C.2.2.2.2.2.2.2.2.2.1, C.2.2.2.2.2.2.2.2.2.2.1⟩⟩ rfl rfl hl.1 rfl (lv_room hst) hd ⟨hcn, hsn⟩) kk
theorem v_callVNd {y2 : MethodName} {cc2 : ByteArray} {nL2 d2 mc2 ms2 idx : Nat} {ret2 : Option FieldType} {host : String} {k : Nat} {As stk : List Value} {r2 : Option Value} {σ2 : v_S} {I2 : v_I} {J2 : v_J} {F2 : v_F} (hc : v_R l B D ac E y2 cc2 nL2 ret2 d2 mc2 ms2 (.ref (B + k) :: As) σ I J F (v_D r2 σ2 I2 J2 F2)) (cb : v_cal y2 cc2 nL2 ret2 As.length) (hw : ∀ U : State, E U → va_Nw (Cond.methodLinkNest y.cls idx y2 host) U) {kd n : Nat} (vs : Cond.instanceMethod y2 ∈ v_T ∧ Cond.selects y2.cls y2 y2 ∈ v_T) (hσ : σ[k]? = some (kd, n)) (hk : kd < 20 ∧ ∃ T : u_T, vwCl[kd]? = some (y2.cls, T, v_n kd)) (hd : decode cc pc = .ok (.invokevirtual idx, 3)) (hdd : d2 + 1 ≤ d) (hcn : cn + mc2 ≤ mc) (hsn : sn + ms2 ≤ ms) (hst : (st.map fun v => v.category).sum ≤ 8) (hs : stk = As.reverse ++ .ref (B + k) :: st) (kk : V l B D ac E y cc nL ret d mc ms (cn + mc2) (sn + ms2) σ2 I2 J2 F2 (pc + 3) (lv) (r2.toList ++ st) Q) : V l B D ac E y cc nL ret d mc ms cn sn σ I J F (pc) (lv) (stk) Q := v_callVN hc cb hw vs hσ hk hd hdd hcn hsn hst hs (fun r σ' I' J' F' hq => by obtain ⟨rfl, rfl, rfl, rfl, rfl⟩ := hq; exact kk)
theorem v_callS {y2 : MethodName} {cc2 : ByteArray} {nL2 d2 mc2 ms2 idx : Nat} {ret2 : Option FieldType} {As stk : List Value} {Q2 : v_Q} (hc : v_R l B D ac E y2 cc2 nL2 ret2 d2 mc2 ms2 As σ I J F Q2) (cb : v_cal y2 cc2 nL2 ret2 As.length) (hw : Cond.methodLink y.cls idx y2 ∈ v_T) (vs : Cond.static y2 ∈ v_T) (hd : decode cc pc = .ok (.invokestatic idx, 3)) (hdd : d2 + 1 ≤ d) (hcn : cn + mc2 ≤ mc) (hsn : sn + ms2 ≤ ms) (hst : (st.map fun v => v.category).sum ≤ 8) (hs : stk = As.reverse ++ st) (kk : ∀ (r : Option Value) (σ' : v_S) (I' : v_I) (J' : v_J) (F' : v_F), Q2 r σ' I' J' F' → V l B D ac E y cc nL ret d mc ms (cn + mc2) (sn + ms2) σ' I' J' F' (pc + 3) (lv) (r.toList ++ st) Q) : V l B D ac E y cc nL ret d mc ms cn sn σ I J F (pc) (lv) (stk) Q := by
  intro p e s m args below meth c H locs ls C hH hS hl
  subst hs
  refine v_after C hS hl (va_runS (As := As) (rest := st) ⟨C.1, C.2.1, C.2.2.1, C.2.2.2.2.2.1, C.2.2.2.2.1⟩ (hc d2 (Nat.le_refl _)) ⟨⟨rfl, rfl, hdd, by show 8 + (nL2 + 11) + (41 * d2 + 32) ≤ 41 * d + 32; have := cb.2.2.2.2; omega, pay_in C.2.2.2.2.1 (v_wsg cb), List.mem_cons_self, C.2.2.2.2.1 _ cb.1, C.2.2.2.2.1 _ cb.2.1, cb.2.2.1, cb.2.2.2.1, C.2.2.2.2.1 _ hw⟩, C.2.2.2.2.1 _ vs⟩ ⟨v_blind, fun U hU hW => ⟨rfl, by rw [hU]; exact hH, va_K.moved hW.alike C.2.2.2.2.2.2.2.2.1, C.2.2.2.2.2.2.2.2.2.2.1.1 s U hW (fun q hq => by rw [hU]; exact hS.2.1 q (Nat.lt_of_lt_of_le hq C.2.2.2.2.2.2.2.2.2.2.2) (Nat.not_le.mpr hq)) C.2.2.2.2.2.2.2.2.2.1, C.2.2.2.2.2.2.2.2.2.2.1⟩⟩ rfl rfl hl.1 rfl (lv_room hst) hd ⟨hcn, hsn⟩) kk
theorem v_callSd {y2 : MethodName} {cc2 : ByteArray} {nL2 d2 mc2 ms2 idx : Nat} {ret2 : Option FieldType} {As stk : List Value} {r2 : Option Value} {σ2 : v_S} {I2 : v_I} {J2 : v_J} {F2 : v_F} (hc : v_R l B D ac E y2 cc2 nL2 ret2 d2 mc2 ms2 As σ I J F (v_D r2 σ2 I2 J2 F2)) (cb : v_cal y2 cc2 nL2 ret2 As.length) (hw : Cond.methodLink y.cls idx y2 ∈ v_T) (vs : Cond.static y2 ∈ v_T) (hd : decode cc pc = .ok (.invokestatic idx, 3)) (hdd : d2 + 1 ≤ d) (hcn : cn + mc2 ≤ mc) (hsn : sn + ms2 ≤ ms) (hst : (st.map fun v => v.category).sum ≤ 8) (hs : stk = As.reverse ++ st) (kk : V l B D ac E y cc nL ret d mc ms (cn + mc2) (sn + ms2) σ2 I2 J2 F2 (pc + 3) (lv) (r2.toList ++ st) Q) : V l B D ac E y cc nL ret d mc ms cn sn σ I J F (pc) (lv) (stk) Q := v_callS hc cb hw vs hd hdd hcn hsn hst hs (fun r σ' I' J' F' hq => by obtain ⟨rfl, rfl, rfl, rfl, rfl⟩ := hq; exact kk)
theorem v_callSN {y2 : MethodName} {cc2 : ByteArray} {nL2 d2 mc2 ms2 idx : Nat} {ret2 : Option FieldType} {host : String} {As stk : List Value} {Q2 : v_Q} (hc : v_R l B D ac E y2 cc2 nL2 ret2 d2 mc2 ms2 As σ I J F Q2) (cb : v_cal y2 cc2 nL2 ret2 As.length) (hw : ∀ U : State, E U → va_Nw (Cond.methodLinkNest y.cls idx y2 host) U) (vs : Cond.static y2 ∈ v_T) (hd : decode cc pc = .ok (.invokestatic idx, 3)) (hdd : d2 + 1 ≤ d) (hcn : cn + mc2 ≤ mc) (hsn : sn + ms2 ≤ ms) (hst : (st.map fun v => v.category).sum ≤ 8) (hs : stk = As.reverse ++ st) (kk : ∀ (r : Option Value) (σ' : v_S) (I' : v_I) (J' : v_J) (F' : v_F), Q2 r σ' I' J' F' → V l B D ac E y cc nL ret d mc ms (cn + mc2) (sn + ms2) σ' I' J' F' (pc + 3) (lv) (r.toList ++ st) Q) : V l B D ac E y cc nL ret d mc ms cn sn σ I J F (pc) (lv) (stk) Q := by
  intro p e s m args below meth c H locs ls C hH hS hl
  subst hs
  refine v_after C hS hl (va_runSN (As := As) (rest := st) ⟨C.1, C.2.1, C.2.2.1, C.2.2.2.2.2.1, C.2.2.2.2.1⟩ (hc d2 (Nat.le_refl _)) ⟨⟨⟨rfl, rfl, hdd, by show 8 + (nL2 + 11) + (41 * d2 + 32) ≤ 41 * d + 32; have := cb.2.2.2.2; omega, pay_in C.2.2.2.2.1 (v_wsg cb), List.mem_cons_self⟩, C.2.2.2.2.1 _ cb.1, C.2.2.2.2.1 _ cb.2.1, cb.2.2.1, cb.2.2.2.1, va_Nw.use rfl (hw s C.2.2.2.2.2.2.2.2.2.1)⟩, C.2.2.2.2.1 _ vs, trivial⟩ ⟨v_blind, fun U hU hW => ⟨rfl, by rw [hU]; exact hH, va_K.moved hW.alike C.2.2.2.2.2.2.2.2.1, C.2.2.2.2.2.2.2.2.2.2.1.1 s U hW (fun q hq => by rw [hU]; exact hS.2.1 q (Nat.lt_of_lt_of_le hq C.2.2.2.2.2.2.2.2.2.2.2) (Nat.not_le.mpr hq)) C.2.2.2.2.2.2.2.2.2.1, C.2.2.2.2.2.2.2.2.2.2.1⟩⟩ rfl rfl hl.1 rfl (lv_room hst) hd ⟨hcn, hsn⟩) kk
theorem v_callSNd {y2 : MethodName} {cc2 : ByteArray} {nL2 d2 mc2 ms2 idx : Nat} {ret2 : Option FieldType} {host : String} {As stk : List Value} {r2 : Option Value} {σ2 : v_S} {I2 : v_I} {J2 : v_J} {F2 : v_F} (hc : v_R l B D ac E y2 cc2 nL2 ret2 d2 mc2 ms2 As σ I J F (v_D r2 σ2 I2 J2 F2)) (cb : v_cal y2 cc2 nL2 ret2 As.length) (hw : ∀ U : State, E U → va_Nw (Cond.methodLinkNest y.cls idx y2 host) U) (vs : Cond.static y2 ∈ v_T) (hd : decode cc pc = .ok (.invokestatic idx, 3)) (hdd : d2 + 1 ≤ d) (hcn : cn + mc2 ≤ mc) (hsn : sn + ms2 ≤ ms) (hst : (st.map fun v => v.category).sum ≤ 8) (hs : stk = As.reverse ++ st) (kk : V l B D ac E y cc nL ret d mc ms (cn + mc2) (sn + ms2) σ2 I2 J2 F2 (pc + 3) (lv) (r2.toList ++ st) Q) : V l B D ac E y cc nL ret d mc ms cn sn σ I J F (pc) (lv) (stk) Q := v_callSN hc cb hw vs hd hdd hcn hsn hst hs (fun r σ' I' J' F' hq => by obtain ⟨rfl, rfl, rfl, rfl, rfl⟩ := hq; exact kk)
theorem v_callI {y2 : MethodName} {cc2 : ByteArray} {nL2 d2 mc2 ms2 idx : Nat} {k : Nat} {As stk : List Value} {Q2 : v_Q} (hc : v_R l B D ac E y2 cc2 nL2 none d2 mc2 ms2 (.ref (B + k) :: As) σ I J F Q2) (cb : v_cal y2 cc2 nL2 none As.length) (hw : Cond.methodLink y.cls idx y2 ∈ v_T) (vs : Cond.instanceMethod y2 ∈ v_T) (hy : y2.name = "<init>") (hd : decode cc pc = .ok (.invokespecial idx, 3)) (hdd : d2 + 1 ≤ d) (hcn : cn + mc2 ≤ mc) (hsn : sn + ms2 ≤ ms) (hst : (st.map fun v => v.category).sum ≤ 8) (hs : stk = As.reverse ++ .ref (B + k) :: st) (kk : ∀ (r : Option Value) (σ' : v_S) (I' : v_I) (J' : v_J) (F' : v_F), Q2 r σ' I' J' F' → V l B D ac E y cc nL ret d mc ms (cn + mc2) (sn + ms2) σ' I' J' F' (pc + 3) (lv) (r.toList ++ st) Q) : V l B D ac E y cc nL ret d mc ms cn sn σ I J F (pc) (lv) (stk) Q := by
  intro p e s m args below meth c H locs ls C hH hS hl
  subst hs
  refine v_after C hS hl (va_runI (As := As) (rest := st) ⟨C.1, C.2.1, C.2.2.1, C.2.2.2.2.2.1, C.2.2.2.2.1⟩ (hc d2 (Nat.le_refl _)) ⟨⟨rfl, rfl, hdd, by show 8 + (nL2 + 11) + (41 * d2 + 32) ≤ 41 * d + 32; have := cb.2.2.2.2; omega, pay_in C.2.2.2.2.1 (v_wsg cb), List.mem_cons_self, C.2.2.2.2.1 _ cb.1, C.2.2.2.2.1 _ cb.2.1, cb.2.2.1, cb.2.2.2.1, C.2.2.2.2.1 _ hw⟩, hy, C.2.2.2.2.1 _ vs⟩ ⟨v_blind, fun U hU hW => ⟨rfl, by rw [hU]; exact hH, va_K.moved hW.alike C.2.2.2.2.2.2.2.2.1, C.2.2.2.2.2.2.2.2.2.2.1.1 s U hW (fun q hq => by rw [hU]; exact hS.2.1 q (Nat.lt_of_lt_of_le hq C.2.2.2.2.2.2.2.2.2.2.2) (Nat.not_le.mpr hq)) C.2.2.2.2.2.2.2.2.2.1, C.2.2.2.2.2.2.2.2.2.2.1⟩⟩ rfl rfl hl.1 rfl (lv_room hst) hd ⟨hcn, hsn⟩) kk
theorem v_callId {y2 : MethodName} {cc2 : ByteArray} {nL2 d2 mc2 ms2 idx : Nat} {k : Nat} {As stk : List Value} {r2 : Option Value} {σ2 : v_S} {I2 : v_I} {J2 : v_J} {F2 : v_F} (hc : v_R l B D ac E y2 cc2 nL2 none d2 mc2 ms2 (.ref (B + k) :: As) σ I J F (v_D r2 σ2 I2 J2 F2)) (cb : v_cal y2 cc2 nL2 none As.length) (hw : Cond.methodLink y.cls idx y2 ∈ v_T) (vs : Cond.instanceMethod y2 ∈ v_T) (hy : y2.name = "<init>") (hd : decode cc pc = .ok (.invokespecial idx, 3)) (hdd : d2 + 1 ≤ d) (hcn : cn + mc2 ≤ mc) (hsn : sn + ms2 ≤ ms) (hst : (st.map fun v => v.category).sum ≤ 8) (hs : stk = As.reverse ++ .ref (B + k) :: st) (kk : V l B D ac E y cc nL ret d mc ms (cn + mc2) (sn + ms2) σ2 I2 J2 F2 (pc + 3) (lv) (r2.toList ++ st) Q) : V l B D ac E y cc nL ret d mc ms cn sn σ I J F (pc) (lv) (stk) Q := v_callI hc cb hw vs hy hd hdd hcn hsn hst hs (fun r σ' I' J' F' hq => by obtain ⟨rfl, rfl, rfl, rfl, rfl⟩ := hq; exact kk)
theorem v_callIN {y2 : MethodName} {cc2 : ByteArray} {nL2 d2 mc2 ms2 idx : Nat} {host : String} {k : Nat} {As stk : List Value} {Q2 : v_Q} (hc : v_R l B D ac E y2 cc2 nL2 none d2 mc2 ms2 (.ref (B + k) :: As) σ I J F Q2) (cb : v_cal y2 cc2 nL2 none As.length) (hw : ∀ U : State, E U → va_Nw (Cond.methodLinkNest y.cls idx y2 host) U) (vs : Cond.instanceMethod y2 ∈ v_T) (hy : y2.name = "<init>") (hd : decode cc pc = .ok (.invokespecial idx, 3)) (hdd : d2 + 1 ≤ d) (hcn : cn + mc2 ≤ mc) (hsn : sn + ms2 ≤ ms) (hst : (st.map fun v => v.category).sum ≤ 8) (hs : stk = As.reverse ++ .ref (B + k) :: st) (kk : ∀ (r : Option Value) (σ' : v_S) (I' : v_I) (J' : v_J) (F' : v_F), Q2 r σ' I' J' F' → V l B D ac E y cc nL ret d mc ms (cn + mc2) (sn + ms2) σ' I' J' F' (pc + 3) (lv) (r.toList ++ st) Q) : V l B D ac E y cc nL ret d mc ms cn sn σ I J F (pc) (lv) (stk) Q := by
  intro p e s m args below meth c H locs ls C hH hS hl
  subst hs
  refine v_after C hS hl (va_runIN (As := As) (rest := st) ⟨C.1, C.2.1, C.2.2.1, C.2.2.2.2.2.1, C.2.2.2.2.1⟩ (hc d2 (Nat.le_refl _)) ⟨⟨⟨rfl, rfl, hdd, by show 8 + (nL2 + 11) + (41 * d2 + 32) ≤ 41 * d + 32; have := cb.2.2.2.2; omega, pay_in C.2.2.2.2.1 (v_wsg cb), List.mem_cons_self⟩, C.2.2.2.2.1 _ cb.1, C.2.2.2.2.1 _ cb.2.1, cb.2.2.1, cb.2.2.2.1, va_Nw.use rfl (hw s C.2.2.2.2.2.2.2.2.2.1)⟩, hy, C.2.2.2.2.1 _ vs⟩ ⟨v_blind, fun U hU hW => ⟨rfl, by rw [hU]; exact hH, va_K.moved hW.alike C.2.2.2.2.2.2.2.2.1, C.2.2.2.2.2.2.2.2.2.2.1.1 s U hW (fun q hq => by rw [hU]; exact hS.2.1 q (Nat.lt_of_lt_of_le hq C.2.2.2.2.2.2.2.2.2.2.2) (Nat.not_le.mpr hq)) C.2.2.2.2.2.2.2.2.2.1, C.2.2.2.2.2.2.2.2.2.2.1⟩⟩ rfl rfl hl.1 rfl (lv_room hst) hd ⟨hcn, hsn⟩) kk
theorem v_callINd {y2 : MethodName} {cc2 : ByteArray} {nL2 d2 mc2 ms2 idx : Nat} {host : String} {k : Nat} {As stk : List Value} {r2 : Option Value} {σ2 : v_S} {I2 : v_I} {J2 : v_J} {F2 : v_F} (hc : v_R l B D ac E y2 cc2 nL2 none d2 mc2 ms2 (.ref (B + k) :: As) σ I J F (v_D r2 σ2 I2 J2 F2)) (cb : v_cal y2 cc2 nL2 none As.length) (hw : ∀ U : State, E U → va_Nw (Cond.methodLinkNest y.cls idx y2 host) U) (vs : Cond.instanceMethod y2 ∈ v_T) (hy : y2.name = "<init>") (hd : decode cc pc = .ok (.invokespecial idx, 3)) (hdd : d2 + 1 ≤ d) (hcn : cn + mc2 ≤ mc) (hsn : sn + ms2 ≤ ms) (hst : (st.map fun v => v.category).sum ≤ 8) (hs : stk = As.reverse ++ .ref (B + k) :: st) (kk : V l B D ac E y cc nL ret d mc ms (cn + mc2) (sn + ms2) σ2 I2 J2 F2 (pc + 3) (lv) (r2.toList ++ st) Q) : V l B D ac E y cc nL ret d mc ms cn sn σ I J F (pc) (lv) (stk) Q := v_callIN hc cb hw vs hy hd hdd hcn hsn hst hs (fun r σ' I' J' F' hq => by obtain ⟨rfl, rfl, rfl, rfl, rfl⟩ := hq; exact kk)
end VC
