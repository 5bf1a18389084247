def v_T : List Cond := lw_tbl.filter goodWord
theorem v_w {w : Cond} (i : Nat) (h : lw_tbl[i]? = some w) (g : goodWord w = true) : w ∈ v_T := List.mem_filter.mpr ⟨List.mem_of_getElem? h, g⟩
theorem v_ins {ws : List Cond} (ps : List Nat) (h : ws.map some = ps.map (fun i => lw_tbl[i]?)) (g : ws.all goodWord = true) : ∀ w ∈ ws, w ∈ v_T := by
  intro w hw
  have h1 : some w ∈ ps.map (fun i => lw_tbl[i]?) := by rw [← h]; exact List.mem_map_of_mem hw
  obtain ⟨i, -, hi⟩ := List.mem_map.mp h1
  exact v_w i hi (List.all_eq_true.mp g w hw)
theorem v_good : GoodIn v_T v_T := fun w h => ⟨h, good_of_word (List.mem_filter.mp h).2⟩
abbrev v_I : Type := Nat → Nat → Int32
abbrev v_J : Type := Nat → Nat → Int64
abbrev v_F : Type := Nat → Nat → Option Nat
abbrev v_S : Type := List (Nat × Nat)
/-- one place of memory gets another value -/
def v_up {α : Type} (f : Nat → Nat → α) (k i : Nat) (x : α) : Nat → Nat → α := fun a j => if a = k ∧ j = i then x else f a j
theorem v_up_at {α : Type} (f : Nat → Nat → α) (k i : Nat) (x : α) : v_up f k i x k i = x := by simp [v_up]
theorem v_up_ne {α : Type} (f : Nat → Nat → α) {k i a j : Nat} (x : α) (h : ¬ (a = k ∧ j = i)) : v_up f k i x a j = f a j := by simp [v_up, h]
def v_fty : Nat → Nat → FieldType := fun kd => match kd with
  | 0 => tyX0 | 1 => tyX1 | 2 => tyX2 | 3 => tyX3 | 4 => tyX4 | 5 => tyX5 | 6 => tyX6 | 7 => tyX7 | 8 => tyX8 | 9 => tyX9 | _ => tyX10
def v_n : Nat → Nat := fun kd => match kd with
  | 0 => 13 | 1 => 4 | 2 => 3 | 3 => 4 | 4 => 4 | 5 => 2 | 6 => 10 | 7 => 2 | 8 => 9 | 9 => 18 | _ => 48
def v_isR (kd i : Nat) : Bool := match v_fty kd i with
  | .object _ => true
  | .array _ => true
  | _ => false
/-- array classes: 0 int, 1 byte, 2 boolean, 3 long, 4 Text, 5 Moment, 6 Chamber -/
def v_tys (ac : Nat → ClassId) : List (ClassId × FieldType) := [(ac 0, .int), (ac 1, .byte), (ac 2, .boolean), (ac 3, .long), (ac 4, .object RX8), (ac 5, .object RX3), (ac 6, .object RX0)]
def v_rf (B : Nat) (r : Option Nat) : Value := va_rf (r.map (B + ·))
def v_fs (B : Nat) (I : v_I) (F : v_F) (k kd n : Nat) : List Value := (List.range n).map (fun i => if v_isR kd i = true then v_rf B (F k i) else .int (I k i))
def v_E (B : Nat) (ac : Nat → ClassId) (I : v_I) (J : v_J) (F : v_F) (k kd n : Nat) : va_E :=
  if kd < 20 then .inr (kd, v_fs B I F k kd n)
  else if kd < 23 then .inl (ac (kd - 20), n, .inl (I k))
  else if kd = 23 then .inl (ac 3, n, .inr (.inl (J k)))
  else .inl (ac (kd - 20), n, .inr (.inr (.inr (.inr (fun i => (F k i).map (B + ·))))))
def v_H (B : Nat) (D : va_G) (ac : Nat → ClassId) (σ : v_S) (I : v_I) (J : v_J) (F : v_F) (H : Heap) : Prop :=
  H.size = B + σ.length ∧ (∀ k kd n : Nat, σ[k]? = some (kd, n) → va_at D vwCl (B + k, v_E B ac I J F k kd n) H) ∧ ∀ k i : Nat, σ.length ≤ k → I k i = 0 ∧ J k i = 0 ∧ F k i = none
/-- what is asked of the old heap and of the machine's tables, whatever it is: it stays -/
def v_Env (B : Nat) (E : State → Prop) : Prop := (∀ s U : State, s.WarmedH U.vm → (∀ q : Nat, q < B → U.heap[q]? = s.heap[q]?) → E s → E U) ∧ ∀ (a : Array Value) (U : State) (g : JFrame) (mk : MethodId), E U → E (U.calling g mk a)
def v_C (B : Nat) (D : va_G) (ac : Nat → ClassId) (E : State → Prop) (y : MethodName) (cc : ByteArray) (nL : Nat) (ret : Option FieldType) (p : Program) (s : State) (m : MethodId) (args : Array Value) (meth : Method) (c : Code) : Prop :=
  p.tables.exec = Jvm.exec ∧ c.code = cc ∧ c.maxLocals = nL ∧ meth.sig.returnType = ret ∧ (∀ w ∈ v_T, w.before args s = true) ∧ s.vm.findClass y.cls = some m.cls ∧ meth.locks = false ∧ meth.name = y.name ∧ va_K D vwCl (v_tys ac) s ∧ E s ∧ v_Env B E ∧ B ≤ s.heap.size
abbrev v_A (B : Nat) : Nat → Prop := fun q => B ≤ q
abbrev v_Q : Type := Option Value → v_S → v_I → v_J → v_F → Prop
def v_Qc (B : Nat) (D : va_G) (ac : Nat → ClassId) (Q : v_Q) : Array Value → State → Outcome → State → Prop := fun _ st o t =>
  ∃ (r : Option Value) (σ : v_S) (I : v_I) (J : v_J) (F : v_F), o = .returned r ∧ Q r σ I J F ∧ v_H B D ac σ I J F t.heap ∧ va_F (v_A B) st t
abbrev v_rm (d mc ms : Nat) : Room := { frames := d, cells := mc, slots := ms, locals := 41 * d + 32 }
def V (l : Launch) (B : Nat) (D : va_G) (ac : Nat → ClassId) (E : State → Prop) (y : MethodName) (cc : ByteArray) (nL : Nat) (ret : Option FieldType) (d mc ms cn sn : Nat) (σ : v_S) (I : v_I) (J : v_J) (F : v_F) (pc : Nat) (lv : List (Nat × Value)) (st : List Value) (Q : v_Q) : Prop :=
  ∀ (p : Program) (e : Env) (s : State) (m : MethodId) (args : Array Value) (below : List Frame) (meth : Method) (c : Code) (H : Heap) (locs : List Loc) (ls : Array Slot),
    v_C B D ac E y cc nL ret p s m args meth c → v_H B D ac σ I J F H → va_S (v_A B) s.heap H locs → lv_has ls nL lv →
    W p l e (v_rm d mc ms) s m args below meth c H locs cn sn (MQ below (v_Qc B D ac Q) args s mc ms (v_A B)) (F0 m pc ls st)
def v_ws (y : MethodName) (cc : ByteArray) (nL : Nat) (ret : Option FieldType) : List Cond := .code y cc nL ret :: v_T
def v_Pc (B : Nat) (D : va_G) (ac : Nat → ClassId) (E : State → Prop) (av : List Value) (σ : v_S) (I : v_I) (J : v_J) (F : v_F) : Array Value → State → Prop := fun a U => a = av.toArray ∧ v_H B D ac σ I J F U.heap ∧ va_K D vwCl (v_tys ac) U ∧ E U ∧ v_Env B E
/-- a method's contract: run on these arguments over this memory it returns, and Q -/
def v_R (l : Launch) (B : Nat) (D : va_G) (ac : Nat → ClassId) (E : State → Prop) (y : MethodName) (cc : ByteArray) (nL : Nat) (ret : Option FieldType) (d mc ms : Nat) (av : List Value) (σ : v_S) (I : v_I) (J : v_J) (F : v_F) (Q : v_Q) : Prop :=
  ∀ d' : Nat, d ≤ d' → Met l y (v_ws y cc nL ret) (v_rm d' mc ms) (v_Pc B D ac E av σ I J F) (v_Qc B D ac Q) mc ms (v_A B)
/-- the same with one outcome -/
def v_D (r : Option Value) (σ : v_S) (I : v_I) (J : v_J) (F : v_F) : v_Q := fun r' σ' I' J' F' => r' = r ∧ σ' = σ ∧ I' = I ∧ J' = J ∧ F' = F
def v_lk (lv : List (Nat × Value)) (i : Nat) : Option Value := match lv with
  | [] => none
  | (j, v) :: t => if j = i then some v else v_lk t i
theorem v_lk_mem : ∀ {lv : List (Nat × Value)} {i : Nat} {v : Value}, v_lk lv i = some v → (i, v) ∈ lv
  | [], _, _, h => by cases h
  | (j, w) :: t, i, v, h => by
    unfold v_lk at h
    split at h
    · next e => cases h; subst e; exact List.mem_cons_self
    · exact List.mem_cons_of_mem _ (v_lk_mem h)
theorem v_lk_at {ls : Array Slot} {nL : Nat} {lv : List (Nat × Value)} {i : Nat} {v : Value} (hl : lv_has ls nL lv) (h : v_lk lv i = some v) : ls[i]? = some (.val v) := hl.2.2 (i, v) (v_lk_mem h)
def v_all (lv : List (Nat × Value)) : List (Nat × Value) → Prop
  | [] => True
  | (i, v) :: t => v_lk lv i = some v ∧ v_all lv t
theorem v_all_has {ls : Array Slot} {nL : Nat} {lv : List (Nat × Value)} (hl : lv_has ls nL lv) : ∀ {lv' : List (Nat × Value)}, v_all lv lv' → lv_has ls nL lv'
  | [], _ => ⟨hl.1, hl.2.1, fun _ h => by cases h⟩
  | (i, v) :: t, h => ⟨hl.1, hl.2.1, fun q hq => by
    rcases List.mem_cons.mp hq with e | e
    · subst e; exact v_lk_at hl h.1
    · exact (v_all_has hl h.2).2.2 q e⟩

section VL
variable {l : Launch} {B : Nat} {D : va_G} {ac : Nat → ClassId} {E : State → Prop} {y : MethodName} {cc : ByteArray} {nL : Nat} {ret : Option FieldType} {d mc ms cn sn : Nat} {σ : v_S} {I : v_I} {J : v_J} {F : v_F} {pc : Nat} {lv : List (Nat × Value)} {st : List Value} {Q : v_Q}
theorem v_R.of {av : List Value} (hy : plainName y.cls = true) (hn : (lg_sl av).length ≤ nL) (k : ∀ d' : Nat, d ≤ d' → V l B D ac E y cc nL ret d' mc ms 0 0 σ I J F 0 (lv_args 0 av) [] Q) : v_R l B D ac E y cc nL ret d mc ms av σ I J F Q := by
  intro d' hd
  refine Met.ofW (cc := cc) (maxL := nL) (ret := ret) hy rfl ?_
  intro p e s m args below meth c s₁ Bd hml hv
  obtain ⟨rfl, hH, hK, hE, hEn⟩ := hv
  have hts := atoms_spec (ws := v_ws y cc nL ret) Bd.pre
  have hl := lv_entry av (n := nL) hn
  rw [lg_entry_eq]
  exact k d' hd p e s m _ below meth c s.heap [] _ ⟨Bd.exec, Bd.bytes, hml, Bd.returns, fun w h => hts w (List.mem_cons_of_mem _ h), findClass_of_methodNamed Bd.named, Bd.notSynchronized, (name_of_methodNamed Bd.named Bd.method).1, hK, hE, hEn, by rw [hH.1]; omega⟩ hH va_S.rf hl
theorem v_R.mono {d0 : Nat} {av : List Value} (h : v_R l B D ac E y cc nL ret d0 mc ms av σ I J F Q) (hd : d0 ≤ d) : v_R l B D ac E y cc nL ret d mc ms av σ I J F Q := fun d' h' => h d' (Nat.le_trans hd h')
theorem v_conv {Q' : v_Q} (h : V l B D ac E y cc nL ret d mc ms cn sn σ I J F (pc) (lv) (st) Q') (hq : ∀ r σ I J F, Q' r σ I J F → Q r σ I J F) : V l B D ac E y cc nL ret d mc ms cn sn σ I J F (pc) (lv) (st) Q := by
  intro p e s m args below meth c H locs ls C hH hS hl
  intro T hT X
  obtain ⟨t, a1, o, b1, b2, ⟨r, σ', I', J', F', h1, h2, h3⟩, b4⟩ := h p e s m args below meth c H locs ls C hH hS hl T hT X
  exact ⟨t, a1, o, b1, b2, ⟨r, σ', I', J', F', h1, hq _ _ _ _ _ h2, h3⟩, b4⟩
theorem v_sub (lv' : List (Nat × Value)) (h : v_all lv lv') (k : V l B D ac E y cc nL ret d mc ms cn sn σ I J F (pc) (lv') (st) Q) : V l B D ac E y cc nL ret d mc ms cn sn σ I J F (pc) (lv) (st) Q := by
  intro p e s m args below meth c H locs ls C hH hS hl
  exact k p e s m args below meth c H locs ls C hH hS (v_all_has hl h)
theorem v_iconst {n : Int} (hd : decode cc pc = .ok (.iconst n, 1)) (k : V l B D ac E y cc nL ret d mc ms cn sn σ I J F (pc + 1) (lv) (.int (Int32.ofInt n) :: st) Q) : V l B D ac E y cc nL ret d mc ms cn sn σ I J F (pc) (lv) (st) Q := by
  intro p e s m args below meth c H locs ls C hH hS hl
  exact lv_iconst C.1 C.2.1 hd rfl (k p e s m args below meth c H locs ls C hH hS hl)
theorem v_iconstE {n : Int} (x : Int32) (hd : decode cc pc = .ok (.iconst n, 1)) (hv : Int32.ofInt n = x) (k : V l B D ac E y cc nL ret d mc ms cn sn σ I J F (pc + 1) (lv) (.int x :: st) Q) : V l B D ac E y cc nL ret d mc ms cn sn σ I J F (pc) (lv) (st) Q := by
  intro p e s m args below meth c H locs ls C hH hS hl
  exact lv_iconst C.1 C.2.1 hd hv (k p e s m args below meth c H locs ls C hH hS hl)
theorem v_bipush {n : Int} (x : Int32) (hd : decode cc pc = .ok (.bipush n, 2)) (hv : (Int8.ofInt n).toInt32 = x) (k : V l B D ac E y cc nL ret d mc ms cn sn σ I J F (pc + 2) (lv) (.int x :: st) Q) : V l B D ac E y cc nL ret d mc ms cn sn σ I J F (pc) (lv) (st) Q := by
  intro p e s m args below meth c H locs ls C hH hS hl
  exact lv_bipush C.1 C.2.1 hd hv (k p e s m args below meth c H locs ls C hH hS hl)
theorem v_sipush {n : Int} (x : Int32) (hd : decode cc pc = .ok (.sipush n, 3)) (hv : (Int16.ofInt n).toInt32 = x) (k : V l B D ac E y cc nL ret d mc ms cn sn σ I J F (pc + 3) (lv) (.int x :: st) Q) : V l B D ac E y cc nL ret d mc ms cn sn σ I J F (pc) (lv) (st) Q := by
  intro p e s m args below meth c H locs ls C hH hS hl
  exact lv_sipush C.1 C.2.1 hd hv (k p e s m args below meth c H locs ls C hH hS hl)
theorem v_lconst {n : Fin 2} (x : Int64) (hd : decode cc pc = .ok (.lconst n, 1)) (hv : Int64.ofNat (n : Nat) = x) (k : V l B D ac E y cc nL ret d mc ms cn sn σ I J F (pc + 1) (lv) (.long x :: st) Q) : V l B D ac E y cc nL ret d mc ms cn sn σ I J F (pc) (lv) (st) Q := by
  intro p e s m args below meth c H locs ls C hH hS hl
  exact lv_lconst C.1 C.2.1 hd hv (k p e s m args below meth c H locs ls C hH hS hl)
theorem v_null  (hd : decode cc pc = .ok (.aconst_null, 1)) (k : V l B D ac E y cc nL ret d mc ms cn sn σ I J F (pc + 1) (lv) (.null :: st) Q) : V l B D ac E y cc nL ret d mc ms cn sn σ I J F (pc) (lv) (st) Q := by
  intro p e s m args below meth c H locs ls C hH hS hl
  exact lv_null C.1 C.2.1 hd (k p e s m args below meth c H locs ls C hH hS hl)
theorem v_iload_n {n : Fin 4} {x : Int32} (hd : decode cc pc = .ok (.iload_n n, 1)) (hv : v_lk lv (n : Nat) = some (.int x)) (k : V l B D ac E y cc nL ret d mc ms cn sn σ I J F (pc + 1) (lv) (.int x :: st) Q) : V l B D ac E y cc nL ret d mc ms cn sn σ I J F (pc) (lv) (st) Q := by
  intro p e s m args below meth c H locs ls C hH hS hl
  exact lv_iload_n C.1 C.2.1 hd rfl (v_lk_at hl hv) (k p e s m args below meth c H locs ls C hH hS hl)
theorem v_iload {i : Nat} {x : Int32} (hd : decode cc pc = .ok (.iload i, 2)) (hv : v_lk lv i = some (.int x)) (k : V l B D ac E y cc nL ret d mc ms cn sn σ I J F (pc + 2) (lv) (.int x :: st) Q) : V l B D ac E y cc nL ret d mc ms cn sn σ I J F (pc) (lv) (st) Q := by
  intro p e s m args below meth c H locs ls C hH hS hl
  exact lv_iload C.1 C.2.1 hd (v_lk_at hl hv) (k p e s m args below meth c H locs ls C hH hS hl)
theorem v_lload_n {n : Fin 4} {x : Int64} (hd : decode cc pc = .ok (.lload_n n, 1)) (hv : v_lk lv (n : Nat) = some (.long x)) (k : V l B D ac E y cc nL ret d mc ms cn sn σ I J F (pc + 1) (lv) (.long x :: st) Q) : V l B D ac E y cc nL ret d mc ms cn sn σ I J F (pc) (lv) (st) Q := by
  intro p e s m args below meth c H locs ls C hH hS hl
  exact lv_lload_n C.1 C.2.1 hd rfl (v_lk_at hl hv) (k p e s m args below meth c H locs ls C hH hS hl)
theorem v_lload {i : Nat} {x : Int64} (hd : decode cc pc = .ok (.lload i, 2)) (hv : v_lk lv i = some (.long x)) (k : V l B D ac E y cc nL ret d mc ms cn sn σ I J F (pc + 2) (lv) (.long x :: st) Q) : V l B D ac E y cc nL ret d mc ms cn sn σ I J F (pc) (lv) (st) Q := by
  intro p e s m args below meth c H locs ls C hH hS hl
  exact lv_lload C.1 C.2.1 hd (v_lk_at hl hv) (k p e s m args below meth c H locs ls C hH hS hl)
theorem v_aload_n {n : Fin 4} {x : Nat} (hd : decode cc pc = .ok (.aload_n n, 1)) (hv : v_lk lv (n : Nat) = some (.ref x)) (k : V l B D ac E y cc nL ret d mc ms cn sn σ I J F (pc + 1) (lv) (.ref x :: st) Q) : V l B D ac E y cc nL ret d mc ms cn sn σ I J F (pc) (lv) (st) Q := by
  intro p e s m args below meth c H locs ls C hH hS hl
  exact lv_aload_n C.1 C.2.1 hd rfl (v_lk_at hl hv) (k p e s m args below meth c H locs ls C hH hS hl)
theorem v_aload {i : Nat} {x : Nat} (hd : decode cc pc = .ok (.aload i, 2)) (hv : v_lk lv i = some (.ref x)) (k : V l B D ac E y cc nL ret d mc ms cn sn σ I J F (pc + 2) (lv) (.ref x :: st) Q) : V l B D ac E y cc nL ret d mc ms cn sn σ I J F (pc) (lv) (st) Q := by
  intro p e s m args below meth c H locs ls C hH hS hl
  exact lv_aload C.1 C.2.1 hd (v_lk_at hl hv) (k p e s m args below meth c H locs ls C hH hS hl)
theorem v_aload_nN {n : Fin 4} (hd : decode cc pc = .ok (.aload_n n, 1)) (hv : v_lk lv (n : Nat) = some .null) (k : V l B D ac E y cc nL ret d mc ms cn sn σ I J F (pc + 1) (lv) (.null :: st) Q) : V l B D ac E y cc nL ret d mc ms cn sn σ I J F (pc) (lv) (st) Q := by
  intro p e s m args below meth c H locs ls C hH hS hl
  exact lv_aload_nN C.1 C.2.1 hd rfl (v_lk_at hl hv) (k p e s m args below meth c H locs ls C hH hS hl)
theorem v_aloadN {i : Nat} (hd : decode cc pc = .ok (.aload i, 2)) (hv : v_lk lv i = some .null) (k : V l B D ac E y cc nL ret d mc ms cn sn σ I J F (pc + 2) (lv) (.null :: st) Q) : V l B D ac E y cc nL ret d mc ms cn sn σ I J F (pc) (lv) (st) Q := by
  intro p e s m args below meth c H locs ls C hH hS hl
  exact lv_aloadN C.1 C.2.1 hd (v_lk_at hl hv) (k p e s m args below meth c H locs ls C hH hS hl)
theorem v_istore_n {n : Fin 4} {x : Int32} (hd : decode cc pc = .ok (.istore_n n, 1)) (hn : (n : Nat) < nL) (k : V l B D ac E y cc nL ret d mc ms cn sn σ I J F (pc + 1) (((n : Nat), Value.int x) :: lv.filter (fun q => !(q.1 == (n : Nat)) && !(q.1 + 1 == (n : Nat) && q.2.category == 2))) (st) Q) : V l B D ac E y cc nL ret d mc ms cn sn σ I J F (pc) (lv) (Value.int x :: st) Q := by
  intro p e s m args below meth c H locs ls C hH hS hl
  exact lv_istore_n C.1 C.2.1 hd rfl hl hn rfl (fun ls hl => k p e s m args below meth c H locs ls C hH hS hl)
theorem v_istore {i : Nat} {x : Int32} (hd : decode cc pc = .ok (.istore i, 2)) (hn : i < nL) (k : V l B D ac E y cc nL ret d mc ms cn sn σ I J F (pc + 2) ((i, Value.int x) :: lv.filter (fun q => !(q.1 == i) && !(q.1 + 1 == i && q.2.category == 2))) (st) Q) : V l B D ac E y cc nL ret d mc ms cn sn σ I J F (pc) (lv) (Value.int x :: st) Q := by
  intro p e s m args below meth c H locs ls C hH hS hl
  exact lv_istore C.1 C.2.1 hd hl hn rfl (fun ls hl => k p e s m args below meth c H locs ls C hH hS hl)
theorem v_astore_n {n : Fin 4} {x : Nat} (hd : decode cc pc = .ok (.astore_n n, 1)) (hn : (n : Nat) < nL) (k : V l B D ac E y cc nL ret d mc ms cn sn σ I J F (pc + 1) (((n : Nat), Value.ref x) :: lv.filter (fun q => !(q.1 == (n : Nat)) && !(q.1 + 1 == (n : Nat) && q.2.category == 2))) (st) Q) : V l B D ac E y cc nL ret d mc ms cn sn σ I J F (pc) (lv) (Value.ref x :: st) Q := by
  intro p e s m args below meth c H locs ls C hH hS hl
  exact lv_astore_n C.1 C.2.1 hd rfl hl hn rfl (fun ls hl => k p e s m args below meth c H locs ls C hH hS hl)
theorem v_astore {i : Nat} {x : Nat} (hd : decode cc pc = .ok (.astore i, 2)) (hn : i < nL) (k : V l B D ac E y cc nL ret d mc ms cn sn σ I J F (pc + 2) ((i, Value.ref x) :: lv.filter (fun q => !(q.1 == i) && !(q.1 + 1 == i && q.2.category == 2))) (st) Q) : V l B D ac E y cc nL ret d mc ms cn sn σ I J F (pc) (lv) (Value.ref x :: st) Q := by
  intro p e s m args below meth c H locs ls C hH hS hl
  exact lv_astore C.1 C.2.1 hd hl hn rfl (fun ls hl => k p e s m args below meth c H locs ls C hH hS hl)
theorem v_astore_nN {n : Fin 4} (hd : decode cc pc = .ok (.astore_n n, 1)) (hn : (n : Nat) < nL) (k : V l B D ac E y cc nL ret d mc ms cn sn σ I J F (pc + 1) (((n : Nat), Value.null) :: lv.filter (fun q => !(q.1 == (n : Nat)) && !(q.1 + 1 == (n : Nat) && q.2.category == 2))) (st) Q) : V l B D ac E y cc nL ret d mc ms cn sn σ I J F (pc) (lv) (Value.null :: st) Q := by
  intro p e s m args below meth c H locs ls C hH hS hl
  exact lv_astore_nN C.1 C.2.1 hd rfl hl hn rfl (fun ls hl => k p e s m args below meth c H locs ls C hH hS hl)
theorem v_astoreN {i : Nat} (hd : decode cc pc = .ok (.astore i, 2)) (hn : i < nL) (k : V l B D ac E y cc nL ret d mc ms cn sn σ I J F (pc + 2) ((i, Value.null) :: lv.filter (fun q => !(q.1 == i) && !(q.1 + 1 == i && q.2.category == 2))) (st) Q) : V l B D ac E y cc nL ret d mc ms cn sn σ I J F (pc) (lv) (Value.null :: st) Q := by
  intro p e s m args below meth c H locs ls C hH hS hl
  exact lv_astoreN C.1 C.2.1 hd hl hn rfl (fun ls hl => k p e s m args below meth c H locs ls C hH hS hl)
theorem v_lstore_n {n : Fin 4} {x : Int64} (hd : decode cc pc = .ok (.lstore_n n, 1)) (hn : ((n : Nat)) + 1 < nL) (k : V l B D ac E y cc nL ret d mc ms cn sn σ I J F (pc + 1) (((n : Nat), Value.long x) :: lv.filter (fun q => !(q.1 == (n : Nat)) && (!(q.1 == (n : Nat) + 1) && !(q.1 + 1 == (n : Nat) && q.2.category == 2)))) (st) Q) : V l B D ac E y cc nL ret d mc ms cn sn σ I J F (pc) (lv) (Value.long x :: st) Q := by
  intro p e s m args below meth c H locs ls C hH hS hl
  exact lv_lstore_n C.1 C.2.1 hd rfl hl hn rfl (fun ls hl => k p e s m args below meth c H locs ls C hH hS hl)
theorem v_lstore {i : Nat} {x : Int64} (hd : decode cc pc = .ok (.lstore i, 2)) (hn : (i) + 1 < nL) (k : V l B D ac E y cc nL ret d mc ms cn sn σ I J F (pc + 2) ((i, Value.long x) :: lv.filter (fun q => !(q.1 == i) && (!(q.1 == i + 1) && !(q.1 + 1 == i && q.2.category == 2)))) (st) Q) : V l B D ac E y cc nL ret d mc ms cn sn σ I J F (pc) (lv) (Value.long x :: st) Q := by
  intro p e s m args below meth c H locs ls C hH hS hl
  exact lv_lstore C.1 C.2.1 hd hl hn rfl (fun ls hl => k p e s m args below meth c H locs ls C hH hS hl)
theorem v_lk_place : ∀ {lv : List (Nat × Value)} {i : Nat} {v : Value}, v_lk lv i = some v → ∃ k : Nat, lv[k]? = some (i, v) := fun h => List.getElem?_of_mem (v_lk_mem h)
theorem v_iinc {i : Nat} {n : Int} {x : Int32} (hd : decode cc pc = .ok (.iinc i n, 3)) (hv : v_lk lv i = some (.int x)) (hn : i < nL) (k : V l B D ac E y cc nL ret d mc ms cn sn σ I J F (pc + 3) ((i, Value.int (x + Int32.ofInt n)) :: lv.filter (fun q => !(q.1 == i) && !(q.1 + 1 == i && q.2.category == 2))) (st) Q) : V l B D ac E y cc nL ret d mc ms cn sn σ I J F (pc) (lv) (st) Q := by
  intro p e s m args below meth c H locs ls C hH hS hl
  obtain ⟨kp, hkp⟩ := v_lk_place hv
  exact lv_iinc C.1 C.2.1 hd hl hkp rfl hn rfl (fun ls hl => k p e s m args below meth c H locs ls C hH hS hl)
theorem v_iadd {x z : Int32} (hd : decode cc pc = .ok (.iadd, 1)) (k : V l B D ac E y cc nL ret d mc ms cn sn σ I J F (pc + 1) (lv) (.int (x + z) :: st) Q) : V l B D ac E y cc nL ret d mc ms cn sn σ I J F (pc) (lv) (.int z :: .int x :: st) Q := by
  intro p e s m args below meth c H locs ls C hH hS hl
  exact lv_iadd C.1 C.2.1 hd (k p e s m args below meth c H locs ls C hH hS hl)
theorem v_isub {x z : Int32} (hd : decode cc pc = .ok (.isub, 1)) (k : V l B D ac E y cc nL ret d mc ms cn sn σ I J F (pc + 1) (lv) (.int (x - z) :: st) Q) : V l B D ac E y cc nL ret d mc ms cn sn σ I J F (pc) (lv) (.int z :: .int x :: st) Q := by
  intro p e s m args below meth c H locs ls C hH hS hl
  exact lv_isub C.1 C.2.1 hd (k p e s m args below meth c H locs ls C hH hS hl)
theorem v_imul {x z : Int32} (hd : decode cc pc = .ok (.imul, 1)) (k : V l B D ac E y cc nL ret d mc ms cn sn σ I J F (pc + 1) (lv) (.int (x * z) :: st) Q) : V l B D ac E y cc nL ret d mc ms cn sn σ I J F (pc) (lv) (.int z :: .int x :: st) Q := by
  intro p e s m args below meth c H locs ls C hH hS hl
  exact lv_imul C.1 C.2.1 hd (k p e s m args below meth c H locs ls C hH hS hl)
theorem v_iand {x z : Int32} (hd : decode cc pc = .ok (.iand, 1)) (k : V l B D ac E y cc nL ret d mc ms cn sn σ I J F (pc + 1) (lv) (.int (x &&& z) :: st) Q) : V l B D ac E y cc nL ret d mc ms cn sn σ I J F (pc) (lv) (.int z :: .int x :: st) Q := by
  intro p e s m args below meth c H locs ls C hH hS hl
  exact lv_iand C.1 C.2.1 hd (k p e s m args below meth c H locs ls C hH hS hl)
theorem v_ior {x z : Int32} (hd : decode cc pc = .ok (.ior, 1)) (k : V l B D ac E y cc nL ret d mc ms cn sn σ I J F (pc + 1) (lv) (.int (x ||| z) :: st) Q) : V l B D ac E y cc nL ret d mc ms cn sn σ I J F (pc) (lv) (.int z :: .int x :: st) Q := by
  intro p e s m args below meth c H locs ls C hH hS hl
  exact lv_ior C.1 C.2.1 hd (k p e s m args below meth c H locs ls C hH hS hl)
theorem v_ixor {x z : Int32} (hd : decode cc pc = .ok (.ixor, 1)) (k : V l B D ac E y cc nL ret d mc ms cn sn σ I J F (pc + 1) (lv) (.int (x ^^^ z) :: st) Q) : V l B D ac E y cc nL ret d mc ms cn sn σ I J F (pc) (lv) (.int z :: .int x :: st) Q := by
  intro p e s m args below meth c H locs ls C hH hS hl
  exact lv_ixor C.1 C.2.1 hd (k p e s m args below meth c H locs ls C hH hS hl)
theorem v_idiv {x z : Int32} (hd : decode cc pc = .ok (.idiv, 1)) (hne : ¬ z = 0) (k : V l B D ac E y cc nL ret d mc ms cn sn σ I J F (pc + 1) (lv) (.int (x / z) :: st) Q) : V l B D ac E y cc nL ret d mc ms cn sn σ I J F (pc) (lv) (.int z :: .int x :: st) Q := by
  intro p e s m args below meth c H locs ls C hH hS hl
  exact lv_idiv C.1 C.2.1 hd hne (k p e s m args below meth c H locs ls C hH hS hl)
theorem v_irem {x z : Int32} (hd : decode cc pc = .ok (.irem, 1)) (hne : ¬ z = 0) (k : V l B D ac E y cc nL ret d mc ms cn sn σ I J F (pc + 1) (lv) (.int (x - x / z * z) :: st) Q) : V l B D ac E y cc nL ret d mc ms cn sn σ I J F (pc) (lv) (.int z :: .int x :: st) Q := by
  intro p e s m args below meth c H locs ls C hH hS hl
  exact lv_irem C.1 C.2.1 hd hne (k p e s m args below meth c H locs ls C hH hS hl)
theorem v_ineg {x : Int32} (hd : decode cc pc = .ok (.ineg, 1)) (k : V l B D ac E y cc nL ret d mc ms cn sn σ I J F (pc + 1) (lv) (.int (-x) :: st) Q) : V l B D ac E y cc nL ret d mc ms cn sn σ I J F (pc) (lv) (.int x :: st) Q := by
  intro p e s m args below meth c H locs ls C hH hS hl
  exact lv_ineg C.1 C.2.1 hd (k p e s m args below meth c H locs ls C hH hS hl)
theorem v_ladd {x z : Int64} (hd : decode cc pc = .ok (.ladd, 1)) (k : V l B D ac E y cc nL ret d mc ms cn sn σ I J F (pc + 1) (lv) (.long (x + z) :: st) Q) : V l B D ac E y cc nL ret d mc ms cn sn σ I J F (pc) (lv) (.long z :: .long x :: st) Q := by
  intro p e s m args below meth c H locs ls C hH hS hl
  exact lv_ladd C.1 C.2.1 hd (k p e s m args below meth c H locs ls C hH hS hl)
theorem v_lsub {x z : Int64} (hd : decode cc pc = .ok (.lsub, 1)) (k : V l B D ac E y cc nL ret d mc ms cn sn σ I J F (pc + 1) (lv) (.long (x - z) :: st) Q) : V l B D ac E y cc nL ret d mc ms cn sn σ I J F (pc) (lv) (.long z :: .long x :: st) Q := by
  intro p e s m args below meth c H locs ls C hH hS hl
  exact lv_lsub C.1 C.2.1 hd (k p e s m args below meth c H locs ls C hH hS hl)
theorem v_lmul {x z : Int64} (hd : decode cc pc = .ok (.lmul, 1)) (k : V l B D ac E y cc nL ret d mc ms cn sn σ I J F (pc + 1) (lv) (.long (x * z) :: st) Q) : V l B D ac E y cc nL ret d mc ms cn sn σ I J F (pc) (lv) (.long z :: .long x :: st) Q := by
  intro p e s m args below meth c H locs ls C hH hS hl
  exact lv_lmul C.1 C.2.1 hd (k p e s m args below meth c H locs ls C hH hS hl)
theorem v_ldiv {x z : Int64} (hd : decode cc pc = .ok (.ldiv, 1)) (hne : ¬ z = 0) (k : V l B D ac E y cc nL ret d mc ms cn sn σ I J F (pc + 1) (lv) (.long (x / z) :: st) Q) : V l B D ac E y cc nL ret d mc ms cn sn σ I J F (pc) (lv) (.long z :: .long x :: st) Q := by
  intro p e s m args below meth c H locs ls C hH hS hl
  exact lv_ldiv C.1 C.2.1 hd hne (k p e s m args below meth c H locs ls C hH hS hl)
theorem v_lrem {x z : Int64} (hd : decode cc pc = .ok (.lrem, 1)) (hne : ¬ z = 0) (k : V l B D ac E y cc nL ret d mc ms cn sn σ I J F (pc + 1) (lv) (.long (x - x / z * z) :: st) Q) : V l B D ac E y cc nL ret d mc ms cn sn σ I J F (pc) (lv) (.long z :: .long x :: st) Q := by
  intro p e s m args below meth c H locs ls C hH hS hl
  exact lv_lrem C.1 C.2.1 hd hne (k p e s m args below meth c H locs ls C hH hS hl)
theorem v_i2l {x : Int32} (hd : decode cc pc = .ok (.i2l, 1)) (k : V l B D ac E y cc nL ret d mc ms cn sn σ I J F (pc + 1) (lv) (.long x.toInt64 :: st) Q) : V l B D ac E y cc nL ret d mc ms cn sn σ I J F (pc) (lv) (.int x :: st) Q := by
  intro p e s m args below meth c H locs ls C hH hS hl
  exact lv_i2l C.1 C.2.1 hd rfl (k p e s m args below meth c H locs ls C hH hS hl)
theorem v_l2i {x : Int64} (hd : decode cc pc = .ok (.l2i, 1)) (k : V l B D ac E y cc nL ret d mc ms cn sn σ I J F (pc + 1) (lv) (.int x.toInt32 :: st) Q) : V l B D ac E y cc nL ret d mc ms cn sn σ I J F (pc) (lv) (.long x :: st) Q := by
  intro p e s m args below meth c H locs ls C hH hS hl
  exact lv_l2i C.1 C.2.1 hd rfl (k p e s m args below meth c H locs ls C hH hS hl)
theorem v_i2b {x : Int32} (hd : decode cc pc = .ok (.i2b, 1)) (k : V l B D ac E y cc nL ret d mc ms cn sn σ I J F (pc + 1) (lv) (.int x.toInt8.toInt32 :: st) Q) : V l B D ac E y cc nL ret d mc ms cn sn σ I J F (pc) (lv) (.int x :: st) Q := by
  intro p e s m args below meth c H locs ls C hH hS hl
  exact lv_i2b C.1 C.2.1 hd rfl (k p e s m args below meth c H locs ls C hH hS hl)
theorem v_i2c {x : Int32} (hd : decode cc pc = .ok (.i2c, 1)) (k : V l B D ac E y cc nL ret d mc ms cn sn σ I J F (pc + 1) (lv) (.int (x.toUInt32 % 65536).toInt32 :: st) Q) : V l B D ac E y cc nL ret d mc ms cn sn σ I J F (pc) (lv) (.int x :: st) Q := by
  intro p e s m args below meth c H locs ls C hH hS hl
  exact lv_i2c C.1 C.2.1 hd rfl (k p e s m args below meth c H locs ls C hH hS hl)
theorem v_iushr {x z : Int32} (hd : decode cc pc = .ok (.iushr, 1)) (k : V l B D ac E y cc nL ret d mc ms cn sn σ I J F (pc + 1) (lv) (.int (x.toUInt32 >>> (z.toUInt32 &&& Int32.toUInt32 31)).toInt32 :: st) Q) : V l B D ac E y cc nL ret d mc ms cn sn σ I J F (pc) (lv) (.int z :: .int x :: st) Q := by
  intro p e s m args below meth c H locs ls C hH hS hl
  exact lv_iushr C.1 C.2.1 hd rfl (k p e s m args below meth c H locs ls C hH hS hl)
theorem v_lcmp {x z : Int64} (hd : decode cc pc = .ok (.lcmp, 1)) (k : V l B D ac E y cc nL ret d mc ms cn sn σ I J F (pc + 1) (lv) (.int (lg_cmp x z) :: st) Q) : V l B D ac E y cc nL ret d mc ms cn sn σ I J F (pc) (lv) (.long z :: .long x :: st) Q := by
  intro p e s m args below meth c H locs ls C hH hS hl
  exact W.lcmp C.1 C.2.1 hd (k p e s m args below meth c H locs ls C hH hS hl)
theorem v_dup {v : Value} (hd : decode cc pc = .ok (.dup, 1)) (hv : v.category = 1) (k : V l B D ac E y cc nL ret d mc ms cn sn σ I J F (pc + 1) (lv) (v :: v :: st) Q) : V l B D ac E y cc nL ret d mc ms cn sn σ I J F (pc) (lv) (v :: st) Q := by
  intro p e s m args below meth c H locs ls C hH hS hl
  exact lv_dup C.1 C.2.1 hd hv (k p e s m args below meth c H locs ls C hH hS hl)
theorem v_pop {v : Value} (hd : decode cc pc = .ok (.pop, 1)) (hv : v.category = 1) (k : V l B D ac E y cc nL ret d mc ms cn sn σ I J F (pc + 1) (lv) (st) Q) : V l B D ac E y cc nL ret d mc ms cn sn σ I J F (pc) (lv) (v :: st) Q := by
  intro p e s m args below meth c H locs ls C hH hS hl
  exact lv_pop C.1 C.2.1 hd hv (k p e s m args below meth c H locs ls C hH hS hl)
theorem v_dup2 {v u : Value} (hd : decode cc pc = .ok (.dup2, 1)) (hv : v.category = 1) (hu : u.category = 1) (k : V l B D ac E y cc nL ret d mc ms cn sn σ I J F (pc + 1) (lv) (v :: u :: v :: u :: st) Q) : V l B D ac E y cc nL ret d mc ms cn sn σ I J F (pc) (lv) (v :: u :: st) Q := by
  intro p e s m args below meth c H locs ls C hH hS hl
  exact lv_dup2_11 C.1 C.2.1 hd hv hu (k p e s m args below meth c H locs ls C hH hS hl)
theorem v_dup_x1 {v u : Value} (hd : decode cc pc = .ok (.dup_x1, 1)) (hv : v.category = 1) (hu : u.category = 1) (k : V l B D ac E y cc nL ret d mc ms cn sn σ I J F (pc + 1) (lv) (v :: u :: v :: st) Q) : V l B D ac E y cc nL ret d mc ms cn sn σ I J F (pc) (lv) (v :: u :: st) Q := by
  intro p e s m args below meth c H locs ls C hH hS hl
  exact lv_dup_x1 C.1 C.2.1 hd hv hu (k p e s m args below meth c H locs ls C hH hS hl)
theorem v_dup2L {x : Int64} (hd : decode cc pc = .ok (.dup2, 1)) (k : V l B D ac E y cc nL ret d mc ms cn sn σ I J F (pc + 1) (lv) (.long x :: .long x :: st) Q) : V l B D ac E y cc nL ret d mc ms cn sn σ I J F (pc) (lv) (.long x :: st) Q := by
  intro p e s m args below meth c H locs ls C hH hS hl
  exact lv_dup2_2 C.1 C.2.1 hd rfl (k p e s m args below meth c H locs ls C hH hS hl)
theorem v_ishl {x z : Int32} (hd : decode cc pc = .ok (.ishl, 1)) (k : V l B D ac E y cc nL ret d mc ms cn sn σ I J F (pc + 1) (lv) (.int (x <<< (z &&& 31)) :: st) Q) : V l B D ac E y cc nL ret d mc ms cn sn σ I J F (pc) (lv) (.int z :: .int x :: st) Q := by
  intro p e s m args below meth c H locs ls C hH hS hl
  exact lv_ishl C.1 C.2.1 hd (k p e s m args below meth c H locs ls C hH hS hl)
theorem v_ishr {x z : Int32} (hd : decode cc pc = .ok (.ishr, 1)) (k : V l B D ac E y cc nL ret d mc ms cn sn σ I J F (pc + 1) (lv) (.int (x >>> (z &&& 31)) :: st) Q) : V l B D ac E y cc nL ret d mc ms cn sn σ I J F (pc) (lv) (.int z :: .int x :: st) Q := by
  intro p e s m args below meth c H locs ls C hH hS hl
  exact lv_ishr C.1 C.2.1 hd (k p e s m args below meth c H locs ls C hH hS hl)
theorem v_ldc {idx : Nat} (x : Int32) (hd : decode cc pc = .ok (.ldc idx, 2)) (hw : Cond.constant y.cls idx x ∈ v_T) (k : V l B D ac E y cc nL ret d mc ms cn sn σ I J F (pc + 2) (lv) (.int x :: st) Q) : V l B D ac E y cc nL ret d mc ms cn sn σ I J F (pc) (lv) (st) Q := by
  intro p e s m args below meth c H locs ls C hH hS hl
  exact lv_ldc C.1 C.2.1 C.2.2.2.2.2.1 (C.2.2.2.2.1 _ hw) hd (k p e s m args below meth c H locs ls C hH hS hl)
theorem v_ldcw {idx : Nat} (x : Int32) (hd : decode cc pc = .ok (.ldc_w idx, 3)) (hw : Cond.constant y.cls idx x ∈ v_T) (k : V l B D ac E y cc nL ret d mc ms cn sn σ I J F (pc + 3) (lv) (.int x :: st) Q) : V l B D ac E y cc nL ret d mc ms cn sn σ I J F (pc) (lv) (st) Q := by
  intro p e s m args below meth c H locs ls C hH hS hl
  exact lv_ldcw C.1 C.2.1 C.2.2.2.2.2.1 (C.2.2.2.2.1 _ hw) hd (k p e s m args below meth c H locs ls C hH hS hl)
theorem v_ldc2 {idx : Nat} (x : Int64) (hd : decode cc pc = .ok (.ldc2_w idx, 3)) (hw : Cond.constantLong y.cls idx x ∈ v_T) (k : V l B D ac E y cc nL ret d mc ms cn sn σ I J F (pc + 3) (lv) (.long x :: st) Q) : V l B D ac E y cc nL ret d mc ms cn sn σ I J F (pc) (lv) (st) Q := by
  intro p e s m args below meth c H locs ls C hH hS hl
  exact lv_ldc2 C.1 C.2.1 C.2.2.2.2.2.1 (C.2.2.2.2.1 _ hw) hd (k p e s m args below meth c H locs ls C hH hS hl)
theorem v_if_eq {x : Int32} {off : Int} (tgt : Nat) (hd : decode cc pc = .ok (.ifCond .eq off, 3)) (ht : (pc : Int) + off = (tgt : Int)) (kt : x = 0 → V l B D ac E y cc nL ret d mc ms cn sn σ I J F (tgt) (lv) (st) Q) (kf : ¬ x = 0 → V l B D ac E y cc nL ret d mc ms cn sn σ I J F (pc + 3) (lv) (st) Q) : V l B D ac E y cc nL ret d mc ms cn sn σ I J F (pc) (lv) (.int x :: st) Q := by
  intro p e s m args below meth c H locs ls C hH hS hl
  exact lv_if_eq C.1 C.2.1 hd ht (fun q => kt q p e s m args below meth c H locs ls C hH hS hl) (fun q => kf q p e s m args below meth c H locs ls C hH hS hl)
theorem v_icmp_eq {x z : Int32} {off : Int} (tgt : Nat) (hd : decode cc pc = .ok (.if_icmp .eq off, 3)) (ht : (pc : Int) + off = (tgt : Int)) (kt : x = z → V l B D ac E y cc nL ret d mc ms cn sn σ I J F (tgt) (lv) (st) Q) (kf : ¬ x = z → V l B D ac E y cc nL ret d mc ms cn sn σ I J F (pc + 3) (lv) (st) Q) : V l B D ac E y cc nL ret d mc ms cn sn σ I J F (pc) (lv) (.int z :: .int x :: st) Q := by
  intro p e s m args below meth c H locs ls C hH hS hl
  exact lv_icmp_eq C.1 C.2.1 hd ht (fun q => kt q p e s m args below meth c H locs ls C hH hS hl) (fun q => kf q p e s m args below meth c H locs ls C hH hS hl)
theorem v_if_ne {x : Int32} {off : Int} (tgt : Nat) (hd : decode cc pc = .ok (.ifCond .ne off, 3)) (ht : (pc : Int) + off = (tgt : Int)) (kt : ¬ x = 0 → V l B D ac E y cc nL ret d mc ms cn sn σ I J F (tgt) (lv) (st) Q) (kf : x = 0 → V l B D ac E y cc nL ret d mc ms cn sn σ I J F (pc + 3) (lv) (st) Q) : V l B D ac E y cc nL ret d mc ms cn sn σ I J F (pc) (lv) (.int x :: st) Q := by
  intro p e s m args below meth c H locs ls C hH hS hl
  exact lv_if_ne C.1 C.2.1 hd ht (fun q => kt q p e s m args below meth c H locs ls C hH hS hl) (fun q => kf q p e s m args below meth c H locs ls C hH hS hl)
theorem v_icmp_ne {x z : Int32} {off : Int} (tgt : Nat) (hd : decode cc pc = .ok (.if_icmp .ne off, 3)) (ht : (pc : Int) + off = (tgt : Int)) (kt : ¬ x = z → V l B D ac E y cc nL ret d mc ms cn sn σ I J F (tgt) (lv) (st) Q) (kf : x = z → V l B D ac E y cc nL ret d mc ms cn sn σ I J F (pc + 3) (lv) (st) Q) : V l B D ac E y cc nL ret d mc ms cn sn σ I J F (pc) (lv) (.int z :: .int x :: st) Q := by
  intro p e s m args below meth c H locs ls C hH hS hl
  exact lv_icmp_ne C.1 C.2.1 hd ht (fun q => kt q p e s m args below meth c H locs ls C hH hS hl) (fun q => kf q p e s m args below meth c H locs ls C hH hS hl)
theorem v_if_lt {x : Int32} {off : Int} (tgt : Nat) (hd : decode cc pc = .ok (.ifCond .lt off, 3)) (ht : (pc : Int) + off = (tgt : Int)) (kt : x < 0 → V l B D ac E y cc nL ret d mc ms cn sn σ I J F (tgt) (lv) (st) Q) (kf : ¬ x < 0 → V l B D ac E y cc nL ret d mc ms cn sn σ I J F (pc + 3) (lv) (st) Q) : V l B D ac E y cc nL ret d mc ms cn sn σ I J F (pc) (lv) (.int x :: st) Q := by
  intro p e s m args below meth c H locs ls C hH hS hl
  exact lv_if_lt C.1 C.2.1 hd ht (fun q => kt q p e s m args below meth c H locs ls C hH hS hl) (fun q => kf q p e s m args below meth c H locs ls C hH hS hl)
theorem v_icmp_lt {x z : Int32} {off : Int} (tgt : Nat) (hd : decode cc pc = .ok (.if_icmp .lt off, 3)) (ht : (pc : Int) + off = (tgt : Int)) (kt : x < z → V l B D ac E y cc nL ret d mc ms cn sn σ I J F (tgt) (lv) (st) Q) (kf : ¬ x < z → V l B D ac E y cc nL ret d mc ms cn sn σ I J F (pc + 3) (lv) (st) Q) : V l B D ac E y cc nL ret d mc ms cn sn σ I J F (pc) (lv) (.int z :: .int x :: st) Q := by
  intro p e s m args below meth c H locs ls C hH hS hl
  exact lv_icmp_lt C.1 C.2.1 hd ht (fun q => kt q p e s m args below meth c H locs ls C hH hS hl) (fun q => kf q p e s m args below meth c H locs ls C hH hS hl)
theorem v_if_ge {x : Int32} {off : Int} (tgt : Nat) (hd : decode cc pc = .ok (.ifCond .ge off, 3)) (ht : (pc : Int) + off = (tgt : Int)) (kt : 0 ≤ x → V l B D ac E y cc nL ret d mc ms cn sn σ I J F (tgt) (lv) (st) Q) (kf : ¬ 0 ≤ x → V l B D ac E y cc nL ret d mc ms cn sn σ I J F (pc + 3) (lv) (st) Q) : V l B D ac E y cc nL ret d mc ms cn sn σ I J F (pc) (lv) (.int x :: st) Q := by
  intro p e s m args below meth c H locs ls C hH hS hl
  exact lv_if_ge C.1 C.2.1 hd ht (fun q => kt q p e s m args below meth c H locs ls C hH hS hl) (fun q => kf q p e s m args below meth c H locs ls C hH hS hl)
theorem v_icmp_ge {x z : Int32} {off : Int} (tgt : Nat) (hd : decode cc pc = .ok (.if_icmp .ge off, 3)) (ht : (pc : Int) + off = (tgt : Int)) (kt : z ≤ x → V l B D ac E y cc nL ret d mc ms cn sn σ I J F (tgt) (lv) (st) Q) (kf : ¬ z ≤ x → V l B D ac E y cc nL ret d mc ms cn sn σ I J F (pc + 3) (lv) (st) Q) : V l B D ac E y cc nL ret d mc ms cn sn σ I J F (pc) (lv) (.int z :: .int x :: st) Q := by
  intro p e s m args below meth c H locs ls C hH hS hl
  exact lv_icmp_ge C.1 C.2.1 hd ht (fun q => kt q p e s m args below meth c H locs ls C hH hS hl) (fun q => kf q p e s m args below meth c H locs ls C hH hS hl)
theorem v_if_gt {x : Int32} {off : Int} (tgt : Nat) (hd : decode cc pc = .ok (.ifCond .gt off, 3)) (ht : (pc : Int) + off = (tgt : Int)) (kt : 0 < x → V l B D ac E y cc nL ret d mc ms cn sn σ I J F (tgt) (lv) (st) Q) (kf : ¬ 0 < x → V l B D ac E y cc nL ret d mc ms cn sn σ I J F (pc + 3) (lv) (st) Q) : V l B D ac E y cc nL ret d mc ms cn sn σ I J F (pc) (lv) (.int x :: st) Q := by
  intro p e s m args below meth c H locs ls C hH hS hl
  exact lv_if_gt C.1 C.2.1 hd ht (fun q => kt q p e s m args below meth c H locs ls C hH hS hl) (fun q => kf q p e s m args below meth c H locs ls C hH hS hl)
theorem v_icmp_gt {x z : Int32} {off : Int} (tgt : Nat) (hd : decode cc pc = .ok (.if_icmp .gt off, 3)) (ht : (pc : Int) + off = (tgt : Int)) (kt : z < x → V l B D ac E y cc nL ret d mc ms cn sn σ I J F (tgt) (lv) (st) Q) (kf : ¬ z < x → V l B D ac E y cc nL ret d mc ms cn sn σ I J F (pc + 3) (lv) (st) Q) : V l B D ac E y cc nL ret d mc ms cn sn σ I J F (pc) (lv) (.int z :: .int x :: st) Q := by
  intro p e s m args below meth c H locs ls C hH hS hl
  exact lv_icmp_gt C.1 C.2.1 hd ht (fun q => kt q p e s m args below meth c H locs ls C hH hS hl) (fun q => kf q p e s m args below meth c H locs ls C hH hS hl)
theorem v_if_le {x : Int32} {off : Int} (tgt : Nat) (hd : decode cc pc = .ok (.ifCond .le off, 3)) (ht : (pc : Int) + off = (tgt : Int)) (kt : x ≤ 0 → V l B D ac E y cc nL ret d mc ms cn sn σ I J F (tgt) (lv) (st) Q) (kf : ¬ x ≤ 0 → V l B D ac E y cc nL ret d mc ms cn sn σ I J F (pc + 3) (lv) (st) Q) : V l B D ac E y cc nL ret d mc ms cn sn σ I J F (pc) (lv) (.int x :: st) Q := by
  intro p e s m args below meth c H locs ls C hH hS hl
  exact lv_if_le C.1 C.2.1 hd ht (fun q => kt q p e s m args below meth c H locs ls C hH hS hl) (fun q => kf q p e s m args below meth c H locs ls C hH hS hl)
theorem v_icmp_le {x z : Int32} {off : Int} (tgt : Nat) (hd : decode cc pc = .ok (.if_icmp .le off, 3)) (ht : (pc : Int) + off = (tgt : Int)) (kt : x ≤ z → V l B D ac E y cc nL ret d mc ms cn sn σ I J F (tgt) (lv) (st) Q) (kf : ¬ x ≤ z → V l B D ac E y cc nL ret d mc ms cn sn σ I J F (pc + 3) (lv) (st) Q) : V l B D ac E y cc nL ret d mc ms cn sn σ I J F (pc) (lv) (.int z :: .int x :: st) Q := by
  intro p e s m args below meth c H locs ls C hH hS hl
  exact lv_icmp_le C.1 C.2.1 hd ht (fun q => kt q p e s m args below meth c H locs ls C hH hS hl) (fun q => kf q p e s m args below meth c H locs ls C hH hS hl)
theorem v_goto {off : Int} (tgt : Nat) (hd : decode cc pc = .ok (.goto off, 3)) (ht : (pc : Int) + off = (tgt : Int)) (k : V l B D ac E y cc nL ret d mc ms cn sn σ I J F (tgt) (lv) (st) Q) : V l B D ac E y cc nL ret d mc ms cn sn σ I J F (pc) (lv) (st) Q := by
  intro p e s m args below meth c H locs ls C hH hS hl
  exact lv_goto C.1 C.2.1 hd ht (k p e s m args below meth c H locs ls C hH hS hl)
theorem v_ifnonnull {x : Nat} {off : Int} (tgt : Nat) (hd : decode cc pc = .ok (.ifnonnull off, 3)) (ht : (pc : Int) + off = (tgt : Int)) (k : V l B D ac E y cc nL ret d mc ms cn sn σ I J F (tgt) (lv) (st) Q) : V l B D ac E y cc nL ret d mc ms cn sn σ I J F (pc) (lv) (.ref x :: st) Q := by
  intro p e s m args below meth c H locs ls C hH hS hl
  exact lv_ifnonnull C.1 C.2.1 hd ht (k p e s m args below meth c H locs ls C hH hS hl)
theorem v_ifnonnullN {off : Int} (hd : decode cc pc = .ok (.ifnonnull off, 3)) (k : V l B D ac E y cc nL ret d mc ms cn sn σ I J F (pc + 3) (lv) (st) Q) : V l B D ac E y cc nL ret d mc ms cn sn σ I J F (pc) (lv) (.null :: st) Q := by
  intro p e s m args below meth c H locs ls C hH hS hl
  exact lv_ifnonnullN C.1 C.2.1 hd (k p e s m args below meth c H locs ls C hH hS hl)
theorem v_ifnull {x : Nat} {off : Int} (hd : decode cc pc = .ok (.ifnull off, 3)) (k : V l B D ac E y cc nL ret d mc ms cn sn σ I J F (pc + 3) (lv) (st) Q) : V l B D ac E y cc nL ret d mc ms cn sn σ I J F (pc) (lv) (.ref x :: st) Q := by
  intro p e s m args below meth c H locs ls C hH hS hl
  exact lv_ifnull C.1 C.2.1 hd (k p e s m args below meth c H locs ls C hH hS hl)
theorem v_ifnullN {off : Int} (tgt : Nat) (hd : decode cc pc = .ok (.ifnull off, 3)) (ht : (pc : Int) + off = (tgt : Int)) (k : V l B D ac E y cc nL ret d mc ms cn sn σ I J F (tgt) (lv) (st) Q) : V l B D ac E y cc nL ret d mc ms cn sn σ I J F (pc) (lv) (.null :: st) Q := by
  intro p e s m args below meth c H locs ls C hH hS hl
  exact lv_ifnullN C.1 C.2.1 hd ht (k p e s m args below meth c H locs ls C hH hS hl)
theorem v_tableOut {dflt lo hi : Int} {offs : Array Int} {len : Nat} {x : Int32} (tgt : Nat) (hd : decode cc pc = .ok (.tableswitch dflt lo hi offs, len)) (h : x.toInt < lo ∨ hi < x.toInt) (ht : (pc : Int) + dflt = (tgt : Int)) (k : V l B D ac E y cc nL ret d mc ms cn sn σ I J F (tgt) (lv) (st) Q) : V l B D ac E y cc nL ret d mc ms cn sn σ I J F (pc) (lv) (.int x :: st) Q := by
  intro p e s m args below meth c H locs ls C hH hS hl
  exact lv_tableOut C.1 C.2.1 hd h ht (k p e s m args below meth c H locs ls C hH hS hl)
theorem v_tableIn {dflt lo hi : Int} {offs : Array Int} {len : Nat} {x : Int32} {off : Int} (tgt : Nat) (hd : decode cc pc = .ok (.tableswitch dflt lo hi offs, len)) (h1 : ¬ x.toInt < lo) (h2 : ¬ hi < x.toInt) (ho : offs[(x.toInt - lo).toNat]? = some off) (ht : (pc : Int) + off = (tgt : Int)) (k : V l B D ac E y cc nL ret d mc ms cn sn σ I J F (tgt) (lv) (st) Q) : V l B D ac E y cc nL ret d mc ms cn sn σ I J F (pc) (lv) (.int x :: st) Q := by
  intro p e s m args below meth c H locs ls C hH hS hl
  exact lv_tableIn C.1 C.2.1 hd h1 h2 ho ht (k p e s m args below meth c H locs ls C hH hS hl)
theorem v_lookup {dflt : Int} {ps : Array (Int × Int)} {len : Nat} {x : Int32} {off : Int} (tgt : Nat) (hd : decode cc pc = .ok (.lookupswitch dflt ps, len)) (hp : (ps.toList.zip (ps.toList.drop 1)).all (fun (a, next) => a.1 < next.1) = true) (ho : Op.lookupswitch.offset ps.toList dflt x.toInt = off) (ht : (pc : Int) + off = (tgt : Int)) (k : V l B D ac E y cc nL ret d mc ms cn sn σ I J F (tgt) (lv) (st) Q) : V l B D ac E y cc nL ret d mc ms cn sn σ I J F (pc) (lv) (.int x :: st) Q := by
  intro p e s m args below meth c H locs ls C hH hS hl
  exact lv_lookup C.1 C.2.1 hd hp ho ht (k p e s m args below meth c H locs ls C hH hS hl)
theorem v_iret {x : Int32} (hd : decode cc pc = .ok (.ireturn, 1)) (hr : ret = some .int) (hcn : cn ≤ mc) (hsn : sn ≤ ms) (hq : Q (some (.int x)) σ I J F) : V l B D ac E y cc nL ret d mc ms cn sn σ I J F (pc) (lv) ([.int x]) Q := by
  intro p e s m args below meth c H locs ls C hH hS hl
  refine W.widen hcn hsn ?_
  exact W.iret C.1 C.2.1 (C.2.2.2.1.trans hr) (fun t ht _ => ⟨_, σ, I, J, F, rfl, hq, by rw [ht]; exact hH, hS.F ht⟩) hS.2.2 hd C.2.2.2.2.2.2.1
theorem v_zret {x : Int32} {ty : FieldType} (hd : decode cc pc = .ok (.ireturn, 1)) (hr : ret = some ty) (hn : narrow ty (.int x) = .int x) (hcn : cn ≤ mc) (hsn : sn ≤ ms) (hq : Q (some (.int x)) σ I J F) : V l B D ac E y cc nL ret d mc ms cn sn σ I J F (pc) (lv) ([.int x]) Q := by
  intro p e s m args below meth c H locs ls C hH hS hl
  refine W.widen hcn hsn ?_
  exact W.zret C.1 C.2.1 (C.2.2.2.1.trans hr) hn (fun t ht _ => ⟨_, σ, I, J, F, rfl, hq, by rw [ht]; exact hH, hS.F ht⟩) hS.2.2 hd C.2.2.2.2.2.2.1
theorem v_lret {x : Int64} (hd : decode cc pc = .ok (.lreturn, 1)) (hr : ret = some .long) (hcn : cn ≤ mc) (hsn : sn ≤ ms) (hq : Q (some (.long x)) σ I J F) : V l B D ac E y cc nL ret d mc ms cn sn σ I J F (pc) (lv) ([.long x]) Q := by
  intro p e s m args below meth c H locs ls C hH hS hl
  refine W.widen hcn hsn ?_
  exact W.lret C.1 C.2.1 (C.2.2.2.1.trans hr) (fun t ht _ => ⟨_, σ, I, J, F, rfl, hq, by rw [ht]; exact hH, hS.F ht⟩) hS.2.2 hd C.2.2.2.2.2.2.1
theorem v_aret {v : Value} {rt : FieldType} (hd : decode cc pc = .ok (.areturn, 1)) (hr : ret = some rt) (hrt : (∃ n, rt = .object n) ∨ ∃ t, rt = .array t) (hv : v = .null ∨ ∃ a, v = .ref a) (hcn : cn ≤ mc) (hsn : sn ≤ ms) (hq : Q (some v) σ I J F) : V l B D ac E y cc nL ret d mc ms cn sn σ I J F (pc) (lv) ([v]) Q := by
  intro p e s m args below meth c H locs ls C hH hS hl
  refine W.widen hcn hsn ?_
  exact W.aret C.1 C.2.1 (C.2.2.2.1.trans hr) hrt hv (fun t ht _ => ⟨_, σ, I, J, F, rfl, hq, by rw [ht]; exact hH, hS.F ht⟩) hS.2.2 hd C.2.2.2.2.2.2.1
theorem v_vret (hd : decode cc pc = .ok (.return_, 1)) (hr : ret = none) (hcn : cn ≤ mc) (hsn : sn ≤ ms) (hq : Q none σ I J F) : V l B D ac E y cc nL ret d mc ms cn sn σ I J F (pc) (lv) ([]) Q := by
  intro p e s m args below meth c H locs ls C hH hS hl
  refine W.widen hcn hsn ?_
  exact W.vret C.1 C.2.1 (C.2.2.2.1.trans hr) (fun t ht _ => ⟨_, σ, I, J, F, rfl, hq, by rw [ht]; exact hH, hS.F ht⟩) hS.2.2 hd C.2.2.2.2.2.2.1
end VL
