theorem v_E_same {B : Nat} {ac : Nat → ClassId} {I I' : v_I} {J J' : v_J} {F F' : v_F} {k : Nat} (h1 : I' k = I k) (h2 : J' k = J k) (h3 : F' k = F k) (kd n : Nat) : v_E B ac I' J' F' k kd n = v_E B ac I J F k kd n := by
  simp only [v_E, v_fs, h1, h2, h3]
theorem v_H.set {B : Nat} {D : va_G} {ac : Nat → ClassId} {σ : v_S} {I I' : v_I} {J J' : v_J} {F F' : v_F} {H H' : Heap} {k kd n : Nat} (h : v_H B D ac σ I J F H) (hσ : σ[k]? = some (kd, n)) (hz : H'.size = H.size) (ho : ∀ q : Nat, q ≠ B + k → H'[q]? = H[q]?) (hn : va_at D vwCl (B + k, v_E B ac I' J' F' k kd n) H')
    (hE : ∀ k' : Nat, k' ≠ k → I' k' = I k' ∧ J' k' = J k' ∧ F' k' = F k') : v_H B D ac σ I' J' F' H' := by
  refine ⟨hz.trans h.1, fun k' kd' n' hk' => ?_, fun k' i hk' => ?_⟩
  · by_cases e : k' = k
    · subst e
      cases hσ.symm.trans hk'
      exact hn
    · obtain ⟨e1, e2, e3⟩ := hE k' e
      rw [v_E_same e1 e2 e3]
      exact (h.2.1 k' kd' n' hk').kept (ho _ (by simp; omega))
  · have hlt : k < σ.length := (List.getElem?_eq_some_iff.mp hσ).1
    obtain ⟨e1, e2, e3⟩ := hE k' (by omega)
    rw [e1, e2, e3]
    exact h.2.2 k' i hk'
theorem v_up_row {α : Type} (f : Nat → Nat → α) (k i : Nat) (x : α) {k' : Nat} (h : k' ≠ k) : v_up f k i x k' = f k' := by
  funext j
  simp [v_up, h]
theorem v_up_own {α : Type} (f : Nat → Nat → α) (k i : Nat) (x : α) : v_up f k i x k = fun j => if j = i then x else f k j := by
  funext j
  simp [v_up]
theorem v_fs_at {B : Nat} {I : v_I} {F : v_F} {k kd n i : Nat} (hi : i < n) : (v_fs B I F k kd n)[i]? = some (if v_isR kd i = true then v_rf B (F k i) else .int (I k i)) := by
  simp [v_fs, hi]
theorem v_fs_V {B : Nat} {I : v_I} {F : v_F} {k kd n i : Nat} (hi : i < n) : vp_V (v_fs B I F k kd n) i = if v_isR kd i = true then v_rf B (F k i) else .int (I k i) := by
  simp [vp_V, v_fs_at hi, List.getD_eq_getElem?_getD]
theorem v_E_obj {B : Nat} {ac : Nat → ClassId} {I : v_I} {J : v_J} {F : v_F} {k kd n : Nat} (h : kd < 20) : v_E B ac I J F k kd n = .inr (kd, v_fs B I F k kd n) := by
  simp [v_E, h]
def v_cls (kd : Nat) (C : String) (T : u_T) : Prop := kd < 20 ∧ vwCl[kd]? = some (C, T, v_n kd) ∧ (∀ w ∈ u_ws C T (v_n kd), w ∈ v_T) ∧ (∀ k, k < v_n kd → parseFieldDescriptor (T k).2.2.1 = some (v_fty kd k)) ∧ (∀ a, a < v_n kd → ∀ b, b < v_n kd → a ≠ b → (T a).2.1 ≠ (T b).2.1)
/-- field i of class kd, by a pool entry of 'own'; fin: it is final -/
def v_fld (own : String) (idx kd i : Nat) (fin : Bool) : Prop := ∃ (C : String) (T : u_T), v_cls kd C T ∧ i < v_n kd ∧ (T i).1 = C ∧ (T i).2.2.2 = fin ∧ Cond.fieldLink own idx C (T i).2.1 (T i).2.2.1 ∈ v_T
/-- a method that may be called: its code, its class, how many parameters -/
def v_cal (y : MethodName) (cc : ByteArray) (nL : Nat) (ret : Option FieldType) (n : Nat) : Prop := Cond.code y cc nL ret ∈ v_T ∧ Cond.initialized y.cls ∈ v_T ∧ (y.cls ≠ "java/lang/invoke/MethodHandle" ∧ y.cls ≠ "java/lang/invoke/VarHandle") ∧ (∀ sig, parseMethodDescriptor y.desc = some sig → n = sig.parameters.length) ∧ nL ≤ 21
theorem v_cal.mk {y : MethodName} {cc : ByteArray} {nL : Nat} {ret : Option FieldType} {n : Nat} (h1 : Cond.code y cc nL ret ∈ v_T) (h2 : Cond.initialized y.cls ∈ v_T) (h3 : y.cls ≠ "java/lang/invoke/MethodHandle" ∧ y.cls ≠ "java/lang/invoke/VarHandle" ∧ (parseMethodDescriptor y.desc).map (fun d => d.parameters.length) = some n ∧ nL ≤ 21) : v_cal y cc nL ret n := by
  refine ⟨h1, h2, ⟨h3.1, h3.2.1⟩, fun sig h => ?_, h3.2.2.2⟩
  have h4 := h3.2.2.1
  rw [h] at h4
  exact (Option.some.inj h4).symm
theorem v_wsg {y : MethodName} {cc : ByteArray} {nL : Nat} {ret : Option FieldType} {n : Nat} (h : v_cal y cc nL ret n) : GoodIn v_T (v_ws y cc nL ret) := fun w hw => by
  rcases List.mem_cons.mp hw with e | e
  · subst e; exact v_good _ h.1
  · exact v_good w e
theorem v_blind {B : Nat} {D : va_G} {ac : Nat → ClassId} {E : State → Prop} {av : List Value} {σ : v_S} {I : v_I} {J : v_J} {F : v_F} : FrameBlind (v_Pc B D ac E av σ I J F) := fun a U g mk q => by
  obtain ⟨h1, h2, h3, h4, h5⟩ := q
  exact ⟨h1, h2, va_K.moved (u := U) (U := U.calling g mk a) (Vm.Alike.refl U.vm) h3, h5.2 a U g mk h4, h5⟩

section VH
variable {l : Launch} {B : Nat} {D : va_G} {ac : Nat → ClassId} {E : State → Prop} {y : MethodName} {cc : ByteArray} {nL : Nat} {ret : Option FieldType} {d mc ms cn sn : Nat} {σ : v_S} {I : v_I} {J : v_J} {F : v_F} {pc : Nat} {lv : List (Nat × Value)} {st : List Value} {Q : v_Q}
theorem v_getI {idx k kd i : Nat} {fin : Bool} (hr : v_isR kd i = false) (hf : v_fld y.cls idx kd i fin) (hd : decode cc pc = .ok (.getfield idx, 3)) (hσ : σ[k]? = some (kd, v_n kd)) (kk : V l B D ac E y cc nL ret d mc ms cn sn σ I J F (pc + 3) (lv) (.int (I k i) :: st) Q) : V l B D ac E y cc nL ret d mc ms cn sn σ I J F (pc) (lv) (.ref (B + k) :: st) Q := by
  intro p e s m args below meth c H locs ls C hH hS hl
  obtain ⟨Cn, T, ⟨hlt, hc, hin, hty, hnm⟩, hi, hT, -, hlk⟩ := hf
  have hat := hH.2.1 k kd _ hσ
  rw [v_E_obj hlt] at hat
  exact va_get (own := y.cls) (ref := Cn) (C := Cn) (T := T) (N := v_n kd) (ci := kd) (D := D) (cl := vwCl) (tys := v_tys ac) (ws := [(B + k, .inr (kd, v_fs B I F k kd (v_n kd)))]) C.1 C.2.1 C.2.2.2.2.1 hin C.2.2.2.2.2.1 C.2.2.2.2.2.2.2.2.1 (fun j q h => by
    cases j with
    | zero => cases h; exact hat
    | succ j => cases h) 0 rfl hc i hi (C.2.2.2.2.1 _ hlk) (fun x h => by rw [hT] at h; exact h) (v := .int (I k i)) (by rw [v_fs_at hi]; simp [hr]) hd (kk p e s m args below meth c H locs ls C hH hS hl)
theorem v_getR {idx k kd i : Nat} {fin : Bool} {a : Nat} (hF : F k i = some a) (hr : v_isR kd i = true) (hf : v_fld y.cls idx kd i fin) (hd : decode cc pc = .ok (.getfield idx, 3)) (hσ : σ[k]? = some (kd, v_n kd)) (kk : V l B D ac E y cc nL ret d mc ms cn sn σ I J F (pc + 3) (lv) (.ref (B + a) :: st) Q) : V l B D ac E y cc nL ret d mc ms cn sn σ I J F (pc) (lv) (.ref (B + k) :: st) Q := by
  intro p e s m args below meth c H locs ls C hH hS hl
  obtain ⟨Cn, T, ⟨hlt, hc, hin, hty, hnm⟩, hi, hT, -, hlk⟩ := hf
  have hat := hH.2.1 k kd _ hσ
  rw [v_E_obj hlt] at hat
  exact va_get (own := y.cls) (ref := Cn) (C := Cn) (T := T) (N := v_n kd) (ci := kd) (D := D) (cl := vwCl) (tys := v_tys ac) (ws := [(B + k, .inr (kd, v_fs B I F k kd (v_n kd)))]) C.1 C.2.1 C.2.2.2.2.1 hin C.2.2.2.2.2.1 C.2.2.2.2.2.2.2.2.1 (fun j q h => by
    cases j with
    | zero => cases h; exact hat
    | succ j => cases h) 0 rfl hc i hi (C.2.2.2.2.1 _ hlk) (fun x h => by rw [hT] at h; exact h) (v := .ref (B + a)) (by rw [v_fs_at hi]; simp [hr, hF, v_rf, va_rf]) hd (kk p e s m args below meth c H locs ls C hH hS hl)
theorem v_getN {idx k kd i : Nat} {fin : Bool} (hF : F k i = none) (hr : v_isR kd i = true) (hf : v_fld y.cls idx kd i fin) (hd : decode cc pc = .ok (.getfield idx, 3)) (hσ : σ[k]? = some (kd, v_n kd)) (kk : V l B D ac E y cc nL ret d mc ms cn sn σ I J F (pc + 3) (lv) (.null :: st) Q) : V l B D ac E y cc nL ret d mc ms cn sn σ I J F (pc) (lv) (.ref (B + k) :: st) Q := by
  intro p e s m args below meth c H locs ls C hH hS hl
  obtain ⟨Cn, T, ⟨hlt, hc, hin, hty, hnm⟩, hi, hT, -, hlk⟩ := hf
  have hat := hH.2.1 k kd _ hσ
  rw [v_E_obj hlt] at hat
  exact va_get (own := y.cls) (ref := Cn) (C := Cn) (T := T) (N := v_n kd) (ci := kd) (D := D) (cl := vwCl) (tys := v_tys ac) (ws := [(B + k, .inr (kd, v_fs B I F k kd (v_n kd)))]) C.1 C.2.1 C.2.2.2.2.1 hin C.2.2.2.2.2.1 C.2.2.2.2.2.2.2.2.1 (fun j q h => by
    cases j with
    | zero => cases h; exact hat
    | succ j => cases h) 0 rfl hc i hi (C.2.2.2.2.1 _ hlk) (fun x h => by rw [hT] at h; exact h) (v := .null) (by rw [v_fs_at hi]; simp [hr, hF, v_rf, va_rf]) hd (kk p e s m args below meth c H locs ls C hH hS hl)
theorem v_putI {idx k kd i : Nat} {x : Int32} (hr : v_isR kd i = false) (hf : v_fld y.cls idx kd i false) (hd : decode cc pc = .ok (.putfield idx, 3)) (hσ : σ[k]? = some (kd, v_n kd)) (hn : narrow (v_fty kd i) (.int x) = .int x) (hfit : fits (v_fty kd i) (.int x) = true) (kk : V l B D ac E y cc nL ret d mc ms cn sn σ (v_up I k i x) J F (pc + 3) (lv) (st) Q) : V l B D ac E y cc nL ret d mc ms cn sn σ I J F (pc) (lv) (.int x :: .ref (B + k) :: st) Q := by
  intro p e s m args below meth c H locs ls C hH hS hl
  obtain ⟨Cn, T, ⟨hlt, hc, hin, hty, hnm⟩, hi, hT, hfin, hlk⟩ := hf
  have hat := hH.2.1 k kd _ hσ
  rw [v_E_obj hlt] at hat
  have hK := C.2.2.2.2.2.2.2.2.1
  have hap := va_apart (own := y.cls) C.2.2.2.2.1 hin (v_fty kd) hty hnm hK hc
  obtain ⟨r, h1, cell, q1, q2, q3, q4⟩ := hat
  have hr' : r = (Cn, T, v_n kd) := Option.some.inj (h1.symm.trans hc)
  subst hr'
  obtain ⟨hSl, hfc, kC, hkC, hkind⟩ := hK.1 kd _ hc
  obtain ⟨cf, kf, fi, f, hif, hsl⟩ := hSl i hi
  have hlay := C.2.2.2.2.1 _ (hin _ (u_in_lay hi))
  unfold u_lay at hlay
  rw [if_neg (by rw [hfin]; decide)] at hlay
  have hst := (u_facts hfc hkC (u_lays C.2.2.2.2.1 hin hi) hif).1
  have h6 := u_store hfc hkC hkind hlay hif (hty i hi) hn hfit
  refine W.putK C.1 C.2.1 (f := f) ⟨C.2.2.2.2.2.1, C.2.2.2.2.1 _ hlk, ⟨_, _, _, by rw [hT] at hif; exact hif⟩, hst⟩ (by rw [q2]; exact h6) q1 q3 (by rw [hsl]; exact k2_hasslot (q4 i hi)) rfl rfl hd fun H' e1 e2 e3 => ?_
  rw [hsl] at e1 ⊢
  refine kk p e s m args below meth c H' _ ls C (hH.set hσ e2 e3 ?_ (fun k' hk' => ⟨by first | rfl | exact v_up_row _ _ _ _ hk', rfl, by first | rfl | exact v_up_row _ _ _ _ hk'⟩)) (hS.put e2 e3 (by simp [v_A])) hl
  rw [v_E_obj hlt]
  refine ⟨_, hc, t_OB.to (V := updV (vp_V (v_fs B I F k kd (v_n kd))) i (.int x)) ⟨_, e1, q2, q3, t_set q4 hap hi _⟩ (fun j hj => ?_)⟩
  rw [v_fs_V hj]
  by_cases hji : j = i
  · subst hji
    simp [updV, hr, v_up, v_rf, va_rf]
  · simp [updV, hji, v_fs_V hj, v_up]
theorem v_putR {idx k kd i : Nat} {a : Nat} (hr : v_isR kd i = true) (hf : v_fld y.cls idx kd i false) (hd : decode cc pc = .ok (.putfield idx, 3)) (hσ : σ[k]? = some (kd, v_n kd)) (hn : narrow (v_fty kd i) (.ref (B + a)) = .ref (B + a)) (hfit : fits (v_fty kd i) (.ref (B + a)) = true) (kk : V l B D ac E y cc nL ret d mc ms cn sn σ I J (v_up F k i (some a)) (pc + 3) (lv) (st) Q) : V l B D ac E y cc nL ret d mc ms cn sn σ I J F (pc) (lv) (.ref (B + a) :: .ref (B + k) :: st) Q := by
  intro p e s m args below meth c H locs ls C hH hS hl
  obtain ⟨Cn, T, ⟨hlt, hc, hin, hty, hnm⟩, hi, hT, hfin, hlk⟩ := hf
  have hat := hH.2.1 k kd _ hσ
  rw [v_E_obj hlt] at hat
  have hK := C.2.2.2.2.2.2.2.2.1
  have hap := va_apart (own := y.cls) C.2.2.2.2.1 hin (v_fty kd) hty hnm hK hc
  obtain ⟨r, h1, cell, q1, q2, q3, q4⟩ := hat
  have hr' : r = (Cn, T, v_n kd) := Option.some.inj (h1.symm.trans hc)
  subst hr'
  obtain ⟨hSl, hfc, kC, hkC, hkind⟩ := hK.1 kd _ hc
  obtain ⟨cf, kf, fi, f, hif, hsl⟩ := hSl i hi
  have hlay := C.2.2.2.2.1 _ (hin _ (u_in_lay hi))
  unfold u_lay at hlay
  rw [if_neg (by rw [hfin]; decide)] at hlay
  have hst := (u_facts hfc hkC (u_lays C.2.2.2.2.1 hin hi) hif).1
  have h6 := u_store hfc hkC hkind hlay hif (hty i hi) hn hfit
  refine W.putK C.1 C.2.1 (f := f) ⟨C.2.2.2.2.2.1, C.2.2.2.2.1 _ hlk, ⟨_, _, _, by rw [hT] at hif; exact hif⟩, hst⟩ (by rw [q2]; exact h6) q1 q3 (by rw [hsl]; exact k2_hasslot (q4 i hi)) rfl rfl hd fun H' e1 e2 e3 => ?_
  rw [hsl] at e1 ⊢
  refine kk p e s m args below meth c H' _ ls C (hH.set hσ e2 e3 ?_ (fun k' hk' => ⟨by first | rfl | exact v_up_row _ _ _ _ hk', rfl, by first | rfl | exact v_up_row _ _ _ _ hk'⟩)) (hS.put e2 e3 (by simp [v_A])) hl
  rw [v_E_obj hlt]
  refine ⟨_, hc, t_OB.to (V := updV (vp_V (v_fs B I F k kd (v_n kd))) i (.ref (B + a))) ⟨_, e1, q2, q3, t_set q4 hap hi _⟩ (fun j hj => ?_)⟩
  rw [v_fs_V hj]
  by_cases hji : j = i
  · subst hji
    simp [updV, hr, v_up, v_rf, va_rf]
  · simp [updV, hji, v_fs_V hj, v_up]
theorem v_putIF {idx k kd i : Nat} {x : Int32} (hr : v_isR kd i = false) (hf : v_fld y.cls idx kd i true) (hin2 : y.name = "<init>") (hown : ∀ (C : String) (T : u_T), vwCl[kd]? = some (C, T, v_n kd) → C = y.cls) (hd : decode cc pc = .ok (.putfield idx, 3)) (hσ : σ[k]? = some (kd, v_n kd)) (hn : narrow (v_fty kd i) (.int x) = .int x) (hfit : fits (v_fty kd i) (.int x) = true) (kk : V l B D ac E y cc nL ret d mc ms cn sn σ (v_up I k i x) J F (pc + 3) (lv) (st) Q) : V l B D ac E y cc nL ret d mc ms cn sn σ I J F (pc) (lv) (.int x :: .ref (B + k) :: st) Q := by
  intro p e s m args below meth c H locs ls C hH hS hl
  obtain ⟨Cn, T, ⟨hlt, hc, hin, hty, hnm⟩, hi, hT, hfin, hlk⟩ := hf
  have hown := hown Cn T hc
  have hat := hH.2.1 k kd _ hσ
  rw [v_E_obj hlt] at hat
  have hK := C.2.2.2.2.2.2.2.2.1
  have hap := va_apart (own := y.cls) C.2.2.2.2.1 hin (v_fty kd) hty hnm hK hc
  obtain ⟨r, h1, cell, q1, q2, q3, q4⟩ := hat
  have hr' : r = (Cn, T, v_n kd) := Option.some.inj (h1.symm.trans hc)
  subst hr'
  obtain ⟨hSl, hfc, kC, hkC, hkind⟩ := hK.1 kd _ hc
  obtain ⟨cf, kf, fi, f, hif, hsl⟩ := hSl i hi
  have hlay := C.2.2.2.2.1 _ (hin _ (u_in_lay hi))
  unfold u_lay at hlay
  rw [if_pos hfin] at hlay
  have hst := (u_facts hfc hkC (u_lays C.2.2.2.2.1 hin hi) hif).1
  have hcf : m.cls = cf := by
    obtain ⟨_, _, c', _, _, _, -, -, hf', -, -, -, hown2, -⟩ := Cond.laysFinal_spec hlay
    have e1 : c' = cf := by have := hif.symm.trans hf'; simp at this; exact this.1.symm
    rw [hT, hown] at hown2
    rw [← e1]; exact Option.some.inj (C.2.2.2.2.2.1.symm.trans hown2)
  have h6 := u_fits hfc hkC hkind (Or.inr hlay) hif (hty i hi) hn hfit
  refine W.putFinK C.1 C.2.1 C.2.2.2.2.2.1 (C.2.2.2.2.1 _ hlk) (by rw [hT] at hif; exact hif) hst hcf (C.2.2.2.2.2.2.2.1.trans hin2) (by rw [q2]; exact h6) q1 q3 (by rw [hsl]; exact k2_hasslot (q4 i hi)) rfl rfl hd fun H' e1 e2 e3 => ?_
  rw [hsl] at e1 ⊢
  refine kk p e s m args below meth c H' _ ls C (hH.set hσ e2 e3 ?_ (fun k' hk' => ⟨by first | rfl | exact v_up_row _ _ _ _ hk', rfl, by first | rfl | exact v_up_row _ _ _ _ hk'⟩)) (hS.put e2 e3 (by simp [v_A])) hl
  rw [v_E_obj hlt]
  refine ⟨_, hc, t_OB.to (V := updV (vp_V (v_fs B I F k kd (v_n kd))) i (.int x)) ⟨_, e1, q2, q3, t_set q4 hap hi _⟩ (fun j hj => ?_)⟩
  rw [v_fs_V hj]
  by_cases hji : j = i
  · subst hji
    simp [updV, hr, v_up, v_rf, va_rf]
  · simp [updV, hji, v_fs_V hj, v_up]
theorem v_putRF {idx k kd i : Nat} {a : Nat} (hr : v_isR kd i = true) (hf : v_fld y.cls idx kd i true) (hin2 : y.name = "<init>") (hown : ∀ (C : String) (T : u_T), vwCl[kd]? = some (C, T, v_n kd) → C = y.cls) (hd : decode cc pc = .ok (.putfield idx, 3)) (hσ : σ[k]? = some (kd, v_n kd)) (hn : narrow (v_fty kd i) (.ref (B + a)) = .ref (B + a)) (hfit : fits (v_fty kd i) (.ref (B + a)) = true) (kk : V l B D ac E y cc nL ret d mc ms cn sn σ I J (v_up F k i (some a)) (pc + 3) (lv) (st) Q) : V l B D ac E y cc nL ret d mc ms cn sn σ I J F (pc) (lv) (.ref (B + a) :: .ref (B + k) :: st) Q := by
  intro p e s m args below meth c H locs ls C hH hS hl
  obtain ⟨Cn, T, ⟨hlt, hc, hin, hty, hnm⟩, hi, hT, hfin, hlk⟩ := hf
  have hown := hown Cn T hc
  have hat := hH.2.1 k kd _ hσ
  rw [v_E_obj hlt] at hat
  have hK := C.2.2.2.2.2.2.2.2.1
  have hap := va_apart (own := y.cls) C.2.2.2.2.1 hin (v_fty kd) hty hnm hK hc
  obtain ⟨r, h1, cell, q1, q2, q3, q4⟩ := hat
  have hr' : r = (Cn, T, v_n kd) := Option.some.inj (h1.symm.trans hc)
  subst hr'
  obtain ⟨hSl, hfc, kC, hkC, hkind⟩ := hK.1 kd _ hc
  obtain ⟨cf, kf, fi, f, hif, hsl⟩ := hSl i hi
  have hlay := C.2.2.2.2.1 _ (hin _ (u_in_lay hi))
  unfold u_lay at hlay
  rw [if_pos hfin] at hlay
  have hst := (u_facts hfc hkC (u_lays C.2.2.2.2.1 hin hi) hif).1
  have hcf : m.cls = cf := by
    obtain ⟨_, _, c', _, _, _, -, -, hf', -, -, -, hown2, -⟩ := Cond.laysFinal_spec hlay
    have e1 : c' = cf := by have := hif.symm.trans hf'; simp at this; exact this.1.symm
    rw [hT, hown] at hown2
    rw [← e1]; exact Option.some.inj (C.2.2.2.2.2.1.symm.trans hown2)
  have h6 := u_fits hfc hkC hkind (Or.inr hlay) hif (hty i hi) hn hfit
  refine W.putFinK C.1 C.2.1 C.2.2.2.2.2.1 (C.2.2.2.2.1 _ hlk) (by rw [hT] at hif; exact hif) hst hcf (C.2.2.2.2.2.2.2.1.trans hin2) (by rw [q2]; exact h6) q1 q3 (by rw [hsl]; exact k2_hasslot (q4 i hi)) rfl rfl hd fun H' e1 e2 e3 => ?_
  rw [hsl] at e1 ⊢
  refine kk p e s m args below meth c H' _ ls C (hH.set hσ e2 e3 ?_ (fun k' hk' => ⟨by first | rfl | exact v_up_row _ _ _ _ hk', rfl, by first | rfl | exact v_up_row _ _ _ _ hk'⟩)) (hS.put e2 e3 (by simp [v_A])) hl
  rw [v_E_obj hlt]
  refine ⟨_, hc, t_OB.to (V := updV (vp_V (v_fs B I F k kd (v_n kd))) i (.ref (B + a))) ⟨_, e1, q2, q3, t_set q4 hap hi _⟩ (fun j hj => ?_)⟩
  rw [v_fs_V hj]
  by_cases hji : j = i
  · subst hji
    simp [updV, hr, v_up, v_rf, va_rf]
  · simp [updV, hji, v_fs_V hj, v_up]
theorem v_iald {k n : Nat} {i : Int32} (hd : decode cc pc = .ok (.iaload, 1)) (hσ : σ[k]? = some (20, n)) (hin : vp_in i n) (kk : V l B D ac E y cc nL ret d mc ms cn sn σ I J F (pc + 1) (lv) (.int (I k i.toNatClampNeg) :: st) Q) : V l B D ac E y cc nL ret d mc ms cn sn σ I J F (pc) (lv) (.int i :: .ref (B + k) :: st) Q := by
  intro p e s m args below meth c H locs ls C hH hS hl
  have hat : va_at D vwCl (B + k, .inl (ac 0, n, .inl (I k))) H := hH.2.1 k 20 n hσ
  exact va_iald (D := D) (cl := vwCl) (tys := v_tys ac) (ws := [(B + k, .inl (ac 0, n, .inl (I k)))]) C.1 C.2.1 C.2.2.2.2.2.2.2.2.1 (fun j q h => by
    cases j with
    | zero => cases h; exact hat
    | succ j => cases h) 0 0 rfl rfl hin hd (kk p e s m args below meth c H locs ls C hH hS hl)
theorem v_bald {k n : Nat} {i : Int32} (hd : decode cc pc = .ok (.baload, 1)) (hσ : σ[k]? = some (21, n)) (hin : vp_in i n) (kk : V l B D ac E y cc nL ret d mc ms cn sn σ I J F (pc + 1) (lv) (.int (I k i.toNatClampNeg) :: st) Q) : V l B D ac E y cc nL ret d mc ms cn sn σ I J F (pc) (lv) (.int i :: .ref (B + k) :: st) Q := by
  intro p e s m args below meth c H locs ls C hH hS hl
  have hat : va_at D vwCl (B + k, .inl (ac 1, n, .inl (I k))) H := hH.2.1 k 21 n hσ
  exact va_bald (D := D) (cl := vwCl) (tys := v_tys ac) (ws := [(B + k, .inl (ac 1, n, .inl (I k)))]) C.1 C.2.1 C.2.2.2.2.2.2.2.2.1 (fun j q h => by
    cases j with
    | zero => cases h; exact hat
    | succ j => cases h) 0 1 rfl rfl hin hd (kk p e s m args below meth c H locs ls C hH hS hl)
theorem v_zald {k n : Nat} {i : Int32} (hd : decode cc pc = .ok (.baload, 1)) (hσ : σ[k]? = some (22, n)) (hin : vp_in i n) (kk : V l B D ac E y cc nL ret d mc ms cn sn σ I J F (pc + 1) (lv) (.int (I k i.toNatClampNeg) :: st) Q) : V l B D ac E y cc nL ret d mc ms cn sn σ I J F (pc) (lv) (.int i :: .ref (B + k) :: st) Q := by
  intro p e s m args below meth c H locs ls C hH hS hl
  have hat : va_at D vwCl (B + k, .inl (ac 2, n, .inl (I k))) H := hH.2.1 k 22 n hσ
  exact va_zald (D := D) (cl := vwCl) (tys := v_tys ac) (ws := [(B + k, .inl (ac 2, n, .inl (I k)))]) C.1 C.2.1 C.2.2.2.2.2.2.2.2.1 (fun j q h => by
    cases j with
    | zero => cases h; exact hat
    | succ j => cases h) 0 2 rfl rfl hin hd (kk p e s m args below meth c H locs ls C hH hS hl)
theorem v_lald {k n : Nat} {i : Int32} (hd : decode cc pc = .ok (.laload, 1)) (hσ : σ[k]? = some (23, n)) (hin : vp_in i n) (kk : V l B D ac E y cc nL ret d mc ms cn sn σ I J F (pc + 1) (lv) (.long (J k i.toNatClampNeg) :: st) Q) : V l B D ac E y cc nL ret d mc ms cn sn σ I J F (pc) (lv) (.int i :: .ref (B + k) :: st) Q := by
  intro p e s m args below meth c H locs ls C hH hS hl
  have hat : va_at D vwCl (B + k, .inl (ac 3, n, .inr (.inl (J k)))) H := hH.2.1 k 23 n hσ
  exact va_lald (D := D) (cl := vwCl) (tys := v_tys ac) (ws := [(B + k, .inl (ac 3, n, .inr (.inl (J k))))]) C.1 C.2.1 C.2.2.2.2.2.2.2.2.1 (fun j q h => by
    cases j with
    | zero => cases h; exact hat
    | succ j => cases h) 0 3 rfl rfl hin hd (kk p e s m args below meth c H locs ls C hH hS hl)
theorem v_aald4 {k n : Nat} {i : Int32} {a : Nat} (hF : F k i.toNatClampNeg = some a) (hd : decode cc pc = .ok (.aaload, 1)) (hσ : σ[k]? = some (24, n)) (hin : vp_in i n) (kk : V l B D ac E y cc nL ret d mc ms cn sn σ I J F (pc + 1) (lv) (.ref (B + a) :: st) Q) : V l B D ac E y cc nL ret d mc ms cn sn σ I J F (pc) (lv) (.int i :: .ref (B + k) :: st) Q := by
  intro p e s m args below meth c H locs ls C hH hS hl
  have hat : va_at D vwCl (B + k, .inl (ac 4, n, .inr (.inr (.inr (.inr (fun i => (F k i).map (B + ·))))))) H := hH.2.1 k 24 n hσ
  refine va_aldq (C := RX8) (D := D) (cl := vwCl) (tys := v_tys ac) (ws := [(B + k, .inl (ac 4, n, .inr (.inr (.inr (.inr (fun i => (F k i).map (B + ·)))))))]) C.1 C.2.1 C.2.2.2.2.2.2.2.2.1 (fun j q h => by
    cases j with
    | zero => cases h; exact hat
    | succ j => cases h) 0 4 rfl rfl hin hd ?_
  rw [hF]
  exact kk p e s m args below meth c H locs ls C hH hS hl
theorem v_aald5 {k n : Nat} {i : Int32} {a : Nat} (hF : F k i.toNatClampNeg = some a) (hd : decode cc pc = .ok (.aaload, 1)) (hσ : σ[k]? = some (25, n)) (hin : vp_in i n) (kk : V l B D ac E y cc nL ret d mc ms cn sn σ I J F (pc + 1) (lv) (.ref (B + a) :: st) Q) : V l B D ac E y cc nL ret d mc ms cn sn σ I J F (pc) (lv) (.int i :: .ref (B + k) :: st) Q := by
  intro p e s m args below meth c H locs ls C hH hS hl
  have hat : va_at D vwCl (B + k, .inl (ac 5, n, .inr (.inr (.inr (.inr (fun i => (F k i).map (B + ·))))))) H := hH.2.1 k 25 n hσ
  refine va_aldq (C := RX3) (D := D) (cl := vwCl) (tys := v_tys ac) (ws := [(B + k, .inl (ac 5, n, .inr (.inr (.inr (.inr (fun i => (F k i).map (B + ·)))))))]) C.1 C.2.1 C.2.2.2.2.2.2.2.2.1 (fun j q h => by
    cases j with
    | zero => cases h; exact hat
    | succ j => cases h) 0 5 rfl rfl hin hd ?_
  rw [hF]
  exact kk p e s m args below meth c H locs ls C hH hS hl
theorem v_aald6 {k n : Nat} {i : Int32} {a : Nat} (hF : F k i.toNatClampNeg = some a) (hd : decode cc pc = .ok (.aaload, 1)) (hσ : σ[k]? = some (26, n)) (hin : vp_in i n) (kk : V l B D ac E y cc nL ret d mc ms cn sn σ I J F (pc + 1) (lv) (.ref (B + a) :: st) Q) : V l B D ac E y cc nL ret d mc ms cn sn σ I J F (pc) (lv) (.int i :: .ref (B + k) :: st) Q := by
  intro p e s m args below meth c H locs ls C hH hS hl
  have hat : va_at D vwCl (B + k, .inl (ac 6, n, .inr (.inr (.inr (.inr (fun i => (F k i).map (B + ·))))))) H := hH.2.1 k 26 n hσ
  refine va_aldq (C := RX0) (D := D) (cl := vwCl) (tys := v_tys ac) (ws := [(B + k, .inl (ac 6, n, .inr (.inr (.inr (.inr (fun i => (F k i).map (B + ·)))))))]) C.1 C.2.1 C.2.2.2.2.2.2.2.2.1 (fun j q h => by
    cases j with
    | zero => cases h; exact hat
    | succ j => cases h) 0 6 rfl rfl hin hd ?_
  rw [hF]
  exact kk p e s m args below meth c H locs ls C hH hS hl
theorem v_aaldN4 {k n : Nat} {i : Int32} (hF : F k i.toNatClampNeg = none) (hd : decode cc pc = .ok (.aaload, 1)) (hσ : σ[k]? = some (24, n)) (hin : vp_in i n) (kk : V l B D ac E y cc nL ret d mc ms cn sn σ I J F (pc + 1) (lv) (.null :: st) Q) : V l B D ac E y cc nL ret d mc ms cn sn σ I J F (pc) (lv) (.int i :: .ref (B + k) :: st) Q := by
  intro p e s m args below meth c H locs ls C hH hS hl
  have hat : va_at D vwCl (B + k, .inl (ac 4, n, .inr (.inr (.inr (.inr (fun i => (F k i).map (B + ·))))))) H := hH.2.1 k 24 n hσ
  refine va_aldq (C := RX8) (D := D) (cl := vwCl) (tys := v_tys ac) (ws := [(B + k, .inl (ac 4, n, .inr (.inr (.inr (.inr (fun i => (F k i).map (B + ·)))))))]) C.1 C.2.1 C.2.2.2.2.2.2.2.2.1 (fun j q h => by
    cases j with
    | zero => cases h; exact hat
    | succ j => cases h) 0 4 rfl rfl hin hd ?_
  rw [hF]
  exact kk p e s m args below meth c H locs ls C hH hS hl
theorem v_aaldN5 {k n : Nat} {i : Int32} (hF : F k i.toNatClampNeg = none) (hd : decode cc pc = .ok (.aaload, 1)) (hσ : σ[k]? = some (25, n)) (hin : vp_in i n) (kk : V l B D ac E y cc nL ret d mc ms cn sn σ I J F (pc + 1) (lv) (.null :: st) Q) : V l B D ac E y cc nL ret d mc ms cn sn σ I J F (pc) (lv) (.int i :: .ref (B + k) :: st) Q := by
  intro p e s m args below meth c H locs ls C hH hS hl
  have hat : va_at D vwCl (B + k, .inl (ac 5, n, .inr (.inr (.inr (.inr (fun i => (F k i).map (B + ·))))))) H := hH.2.1 k 25 n hσ
  refine va_aldq (C := RX3) (D := D) (cl := vwCl) (tys := v_tys ac) (ws := [(B + k, .inl (ac 5, n, .inr (.inr (.inr (.inr (fun i => (F k i).map (B + ·)))))))]) C.1 C.2.1 C.2.2.2.2.2.2.2.2.1 (fun j q h => by
    cases j with
    | zero => cases h; exact hat
    | succ j => cases h) 0 5 rfl rfl hin hd ?_
  rw [hF]
  exact kk p e s m args below meth c H locs ls C hH hS hl
theorem v_aaldN6 {k n : Nat} {i : Int32} (hF : F k i.toNatClampNeg = none) (hd : decode cc pc = .ok (.aaload, 1)) (hσ : σ[k]? = some (26, n)) (hin : vp_in i n) (kk : V l B D ac E y cc nL ret d mc ms cn sn σ I J F (pc + 1) (lv) (.null :: st) Q) : V l B D ac E y cc nL ret d mc ms cn sn σ I J F (pc) (lv) (.int i :: .ref (B + k) :: st) Q := by
  intro p e s m args below meth c H locs ls C hH hS hl
  have hat : va_at D vwCl (B + k, .inl (ac 6, n, .inr (.inr (.inr (.inr (fun i => (F k i).map (B + ·))))))) H := hH.2.1 k 26 n hσ
  refine va_aldq (C := RX0) (D := D) (cl := vwCl) (tys := v_tys ac) (ws := [(B + k, .inl (ac 6, n, .inr (.inr (.inr (.inr (fun i => (F k i).map (B + ·)))))))]) C.1 C.2.1 C.2.2.2.2.2.2.2.2.1 (fun j q h => by
    cases j with
    | zero => cases h; exact hat
    | succ j => cases h) 0 6 rfl rfl hin hd ?_
  rw [hF]
  exact kk p e s m args below meth c H locs ls C hH hS hl
theorem v_alenI {k n : Nat} (hd : decode cc pc = .ok (.arraylength, 1)) (hσ : σ[k]? = some (20, n)) (kk : V l B D ac E y cc nL ret d mc ms cn sn σ I J F (pc + 1) (lv) (.int (Int32.ofNat n) :: st) Q) : V l B D ac E y cc nL ret d mc ms cn sn σ I J F (pc) (lv) (.ref (B + k) :: st) Q := by
  intro p e s m args below meth c H locs ls C hH hS hl
  have hat : va_at D vwCl (B + k, .inl (ac 0, n, .inl (I k))) H := hH.2.1 k 20 n hσ
  exact va_alen (D := D) (cl := vwCl) (tys := v_tys ac) (ws := [(B + k, .inl (ac 0, n, .inl (I k)))]) C.1 C.2.1 C.2.2.2.2.2.2.2.2.1 (fun j q h => by
    cases j with
    | zero => cases h; exact hat
    | succ j => cases h) 0 0 rfl (ty := .int) rfl rfl hd (kk p e s m args below meth c H locs ls C hH hS hl)
theorem v_alenB {k n : Nat} (hd : decode cc pc = .ok (.arraylength, 1)) (hσ : σ[k]? = some (21, n)) (kk : V l B D ac E y cc nL ret d mc ms cn sn σ I J F (pc + 1) (lv) (.int (Int32.ofNat n) :: st) Q) : V l B D ac E y cc nL ret d mc ms cn sn σ I J F (pc) (lv) (.ref (B + k) :: st) Q := by
  intro p e s m args below meth c H locs ls C hH hS hl
  have hat : va_at D vwCl (B + k, .inl (ac 1, n, .inl (I k))) H := hH.2.1 k 21 n hσ
  exact va_alen (D := D) (cl := vwCl) (tys := v_tys ac) (ws := [(B + k, .inl (ac 1, n, .inl (I k)))]) C.1 C.2.1 C.2.2.2.2.2.2.2.2.1 (fun j q h => by
    cases j with
    | zero => cases h; exact hat
    | succ j => cases h) 0 1 rfl (ty := .byte) rfl rfl hd (kk p e s m args below meth c H locs ls C hH hS hl)
theorem v_alenJ {k n : Nat} (hd : decode cc pc = .ok (.arraylength, 1)) (hσ : σ[k]? = some (23, n)) (kk : V l B D ac E y cc nL ret d mc ms cn sn σ I J F (pc + 1) (lv) (.int (Int32.ofNat n) :: st) Q) : V l B D ac E y cc nL ret d mc ms cn sn σ I J F (pc) (lv) (.ref (B + k) :: st) Q := by
  intro p e s m args below meth c H locs ls C hH hS hl
  have hat : va_at D vwCl (B + k, .inl (ac 3, n, .inr (.inl (J k)))) H := hH.2.1 k 23 n hσ
  exact va_alen (D := D) (cl := vwCl) (tys := v_tys ac) (ws := [(B + k, .inl (ac 3, n, .inr (.inl (J k))))]) C.1 C.2.1 C.2.2.2.2.2.2.2.2.1 (fun j q h => by
    cases j with
    | zero => cases h; exact hat
    | succ j => cases h) 0 3 rfl (ty := .long) rfl rfl hd (kk p e s m args below meth c H locs ls C hH hS hl)
theorem v_iast {k n : Nat} {i : Int32} {x : Int32} (hd : decode cc pc = .ok (.iastore, 1)) (hσ : σ[k]? = some (20, n)) (hin : vp_in i n) (kk : V l B D ac E y cc nL ret d mc ms cn sn σ (v_up I k i.toNatClampNeg x) J F (pc + 1) (lv) (st) Q) : V l B D ac E y cc nL ret d mc ms cn sn σ I J F (pc) (lv) (.int x :: .int i :: .ref (B + k) :: st) Q := by
  intro p e s m args below meth c H locs ls C hH hS hl
  have hat : H[B + k]? = some (vp_cell (ac 0) (n, .inl (I k))) := hH.2.1 k 20 n hσ
  have hK := C.2.2.2.2.2.2.2.2.1
  refine W.iast C.1 C.2.1 hat ((hK.2 0 (ac 0, .int) rfl).1 n (fun j => .int (I k j))) (fun q => by cases q) (by show ¬ (i < 0 ∨ (arrV _ _ _).slots.size ≤ _); rw [arrV_size]; exact hin) rfl rfl hd fun H1 eq1 z oq => ?_
  refine kk p e s m args below meth c H1 _ ls C (hH.set hσ z oq ?_ (fun k' hk' => ⟨by first | rfl | exact v_up_row _ _ _ _ hk', by first | rfl | exact v_up_row _ _ _ _ hk', rfl⟩)) (hS.put z oq (by simp [v_A])) hl
  show H1[B + k]? = some (vp_cell (ac 0) (n, .inl ((v_up I k i.toNatClampNeg x) k)))
  rw [eq1, vp_cell_i, vp_cell_i, arrV_store, v_up_own]
  congr 2
  funext q
  by_cases hq : q = i.toNatClampNeg
  · subst hq
    simp [updV]
  · simp [updV, hq]
theorem v_bast {k n : Nat} {i : Int32} {x : Int32} (hd : decode cc pc = .ok (.bastore, 1)) (hσ : σ[k]? = some (21, n)) (hin : vp_in i n) (kk : V l B D ac E y cc nL ret d mc ms cn sn σ (v_up I k i.toNatClampNeg (vp_nar .byte x)) J F (pc + 1) (lv) (st) Q) : V l B D ac E y cc nL ret d mc ms cn sn σ I J F (pc) (lv) (.int x :: .int i :: .ref (B + k) :: st) Q := by
  intro p e s m args below meth c H locs ls C hH hS hl
  have hat : H[B + k]? = some (vp_cell (ac 1) (n, .inl (I k))) := hH.2.1 k 21 n hσ
  have hK := C.2.2.2.2.2.2.2.2.1
  refine W.bast C.1 C.2.1 hat ((hK.2 1 (ac 1, .byte) rfl).1 n (fun j => .int (I k j))) (fun q => by cases q) (by show ¬ (i < 0 ∨ (arrV _ _ _).slots.size ≤ _); rw [arrV_size]; exact hin) rfl rfl hd fun H1 eq1 z oq => ?_
  refine kk p e s m args below meth c H1 _ ls C (hH.set hσ z oq ?_ (fun k' hk' => ⟨by first | rfl | exact v_up_row _ _ _ _ hk', by first | rfl | exact v_up_row _ _ _ _ hk', rfl⟩)) (hS.put z oq (by simp [v_A])) hl
  show H1[B + k]? = some (vp_cell (ac 1) (n, .inl ((v_up I k i.toNatClampNeg (vp_nar .byte x)) k)))
  rw [eq1, vp_cell_i, vp_cell_i, arrV_store, v_up_own]
  congr 2
  funext q
  by_cases hq : q = i.toNatClampNeg
  · subst hq
    simp [updV]; rfl
  · simp [updV, hq]
theorem v_zast {k n : Nat} {i : Int32} {x : Int32} (hd : decode cc pc = .ok (.bastore, 1)) (hσ : σ[k]? = some (22, n)) (hin : vp_in i n) (kk : V l B D ac E y cc nL ret d mc ms cn sn σ (v_up I k i.toNatClampNeg (vp_nar .boolean x)) J F (pc + 1) (lv) (st) Q) : V l B D ac E y cc nL ret d mc ms cn sn σ I J F (pc) (lv) (.int x :: .int i :: .ref (B + k) :: st) Q := by
  intro p e s m args below meth c H locs ls C hH hS hl
  have hat : H[B + k]? = some (vp_cell (ac 2) (n, .inl (I k))) := hH.2.1 k 22 n hσ
  have hK := C.2.2.2.2.2.2.2.2.1
  refine W.zast C.1 C.2.1 hat ((hK.2 2 (ac 2, .boolean) rfl).1 n (fun j => .int (I k j))) (fun q => by cases q) (by show ¬ (i < 0 ∨ (arrV _ _ _).slots.size ≤ _); rw [arrV_size]; exact hin) rfl rfl hd fun H1 eq1 z oq => ?_
  refine kk p e s m args below meth c H1 _ ls C (hH.set hσ z oq ?_ (fun k' hk' => ⟨by first | rfl | exact v_up_row _ _ _ _ hk', by first | rfl | exact v_up_row _ _ _ _ hk', rfl⟩)) (hS.put z oq (by simp [v_A])) hl
  show H1[B + k]? = some (vp_cell (ac 2) (n, .inl ((v_up I k i.toNatClampNeg (vp_nar .boolean x)) k)))
  rw [eq1, vp_cell_i, vp_cell_i, arrV_store, v_up_own]
  congr 2
  funext q
  by_cases hq : q = i.toNatClampNeg
  · subst hq
    simp [updV]; rfl
  · simp [updV, hq]
theorem v_last {k n : Nat} {i : Int32} {x : Int64} (hd : decode cc pc = .ok (.lastore, 1)) (hσ : σ[k]? = some (23, n)) (hin : vp_in i n) (kk : V l B D ac E y cc nL ret d mc ms cn sn σ I (v_up J k i.toNatClampNeg x) F (pc + 1) (lv) (st) Q) : V l B D ac E y cc nL ret d mc ms cn sn σ I J F (pc) (lv) (.long x :: .int i :: .ref (B + k) :: st) Q := by
  intro p e s m args below meth c H locs ls C hH hS hl
  have hat : H[B + k]? = some (vp_cell (ac 3) (n, .inr (.inl (J k)))) := hH.2.1 k 23 n hσ
  have hK := C.2.2.2.2.2.2.2.2.1
  refine W.last C.1 C.2.1 hat ((hK.2 3 (ac 3, .long) rfl).1 n (fun j => .long (J k j))) (fun q => by cases q) (by show ¬ (i < 0 ∨ (arrV _ _ _).slots.size ≤ _); rw [arrV_size]; exact hin) rfl rfl hd fun H1 eq1 z oq => ?_
  refine kk p e s m args below meth c H1 _ ls C (hH.set hσ z oq ?_ (fun k' hk' => ⟨by first | rfl | exact v_up_row _ _ _ _ hk', by first | rfl | exact v_up_row _ _ _ _ hk', rfl⟩)) (hS.put z oq (by simp [v_A])) hl
  show H1[B + k]? = some (vp_cell (ac 3) (n, .inr (.inl ((v_up J k i.toNatClampNeg x) k))))
  rw [eq1, vp_cell_l, vp_cell_l, arrV_store, v_up_own]
  congr 2
  funext q
  by_cases hq : q = i.toNatClampNeg
  · subst hq
    simp [updV]
  · simp [updV, hq]
theorem v_aast4 {k n a nn : Nat} {i : Int32} (hd : decode cc pc = .ok (.aastore, 1)) (hσ : σ[k]? = some (24, n)) (ha : σ[a]? = some (8, nn)) (hin : vp_in i n) (kk : V l B D ac E y cc nL ret d mc ms cn sn σ I J (v_up F k i.toNatClampNeg (some a)) (pc + 1) (lv) (st) Q) : V l B D ac E y cc nL ret d mc ms cn sn σ I J F (pc) (lv) (.ref (B + a) :: .int i :: .ref (B + k) :: st) Q := by
  intro p e s m args below meth c H locs ls C hH hS hl
  have hat : H[B + k]? = some (vp_cell (ac 4) (n, .inr (.inr (.inr (.inr (fun i => (F k i).map (B + ·))))))) := hH.2.1 k 24 n hσ
  have hK := C.2.2.2.2.2.2.2.2.1
  have hlt : i.toNatClampNeg < n := Nat.not_le.mp fun q => hin (Or.inr q)
  have h0 : ¬ i < 0 := fun q => hin (Or.inl q)
  have hv := hH.2.1 a 8 nn ha
  rw [v_E_obj (by decide)] at hv
  obtain ⟨r', hr', cellV, g1, g2, g3, -⟩ := hv
  have hcls := (hK.1 8 (RX8, TX8, v_n 8) rfl).2
  obtain ⟨kA, comp, k1, k2, k3, -⟩ := (hK.2 4 (ac 4, .object RX8) rfl).2
  have hcomp : comp = D.1 8 := Option.some.inj (k3.symm.trans hcls.1)
  subst hcomp
  obtain ⟨kC, hkC, -⟩ := id hcls.2
  refine W.aast C.1 C.2.1 hat (fun q h => by cases h) (fun h => by cases h) k1 k2 rfl hkC ⟨h0, by show _ < (arrV _ _ _).slots.size; rw [arrV_size]; exact hlt⟩ g1 (fun q h => by rw [g3] at h; cases h) (by rw [g2]; exact hkC) (by rw [g2]; exact va_assign hcls) rfl rfl hd fun H1 eq1 z oq => ?_
  refine kk p e s m args below meth c H1 _ ls C (hH.set hσ z oq ?_ (fun k' hk' => ⟨rfl, rfl, v_up_row _ _ _ _ hk'⟩)) (hS.put z oq (by simp [v_A])) hl
  show H1[B + k]? = some (vp_cell (ac 4) (n, .inr (.inr (.inr (.inr (fun j => (v_up F k i.toNatClampNeg (some a) k j).map (B + ·)))))))
  rw [eq1, vp_cell_q, vp_cell_q, arrV_store, v_up_own]
  congr 2
  funext q
  by_cases hq : q = i.toNatClampNeg
  · subst hq
    simp [updV, va_rf]
  · simp [updV, hq]
theorem v_aastN4 {k n : Nat} {i : Int32} (hd : decode cc pc = .ok (.aastore, 1)) (hσ : σ[k]? = some (24, n)) (hin : vp_in i n) (kk : V l B D ac E y cc nL ret d mc ms cn sn σ I J (v_up F k i.toNatClampNeg none) (pc + 1) (lv) (st) Q) : V l B D ac E y cc nL ret d mc ms cn sn σ I J F (pc) (lv) (.null :: .int i :: .ref (B + k) :: st) Q := by
  intro p e s m args below meth c H locs ls C hH hS hl
  have hat : H[B + k]? = some (vp_cell (ac 4) (n, .inr (.inr (.inr (.inr (fun i => (F k i).map (B + ·))))))) := hH.2.1 k 24 n hσ
  have hK := C.2.2.2.2.2.2.2.2.1
  refine va_WaastN (C := RX8) C.1 C.2.1 hat ((hK.2 4 (ac 4, .object RX8) rfl).1 n (fun j => va_rf ((F k j).map (B + ·)))) (fun h => by cases h) (by show ¬ (i < 0 ∨ (arrV _ _ _).slots.size ≤ _); rw [arrV_size]; exact hin) rfl rfl hd fun H1 eq1 z oq => ?_
  refine kk p e s m args below meth c H1 _ ls C (hH.set hσ z oq ?_ (fun k' hk' => ⟨rfl, rfl, v_up_row _ _ _ _ hk'⟩)) (hS.put z oq (by simp [v_A])) hl
  show H1[B + k]? = some (vp_cell (ac 4) (n, .inr (.inr (.inr (.inr (fun j => (v_up F k i.toNatClampNeg none k j).map (B + ·)))))))
  rw [eq1, vp_cell_q, vp_cell_q, arrV_store, v_up_own]
  congr 2
  funext q
  by_cases hq : q = i.toNatClampNeg
  · subst hq
    simp [updV, va_rf]
  · simp [updV, hq]
theorem v_aast5 {k n a nn : Nat} {i : Int32} (hd : decode cc pc = .ok (.aastore, 1)) (hσ : σ[k]? = some (25, n)) (ha : σ[a]? = some (3, nn)) (hin : vp_in i n) (kk : V l B D ac E y cc nL ret d mc ms cn sn σ I J (v_up F k i.toNatClampNeg (some a)) (pc + 1) (lv) (st) Q) : V l B D ac E y cc nL ret d mc ms cn sn σ I J F (pc) (lv) (.ref (B + a) :: .int i :: .ref (B + k) :: st) Q := by
  intro p e s m args below meth c H locs ls C hH hS hl
  have hat : H[B + k]? = some (vp_cell (ac 5) (n, .inr (.inr (.inr (.inr (fun i => (F k i).map (B + ·))))))) := hH.2.1 k 25 n hσ
  have hK := C.2.2.2.2.2.2.2.2.1
  have hlt : i.toNatClampNeg < n := Nat.not_le.mp fun q => hin (Or.inr q)
  have h0 : ¬ i < 0 := fun q => hin (Or.inl q)
  have hv := hH.2.1 a 3 nn ha
  rw [v_E_obj (by decide)] at hv
  obtain ⟨r', hr', cellV, g1, g2, g3, -⟩ := hv
  have hcls := (hK.1 3 (RX3, TX3, v_n 3) rfl).2
  obtain ⟨kA, comp, k1, k2, k3, -⟩ := (hK.2 5 (ac 5, .object RX3) rfl).2
  have hcomp : comp = D.1 3 := Option.some.inj (k3.symm.trans hcls.1)
  subst hcomp
  obtain ⟨kC, hkC, -⟩ := id hcls.2
  refine W.aast C.1 C.2.1 hat (fun q h => by cases h) (fun h => by cases h) k1 k2 rfl hkC ⟨h0, by show _ < (arrV _ _ _).slots.size; rw [arrV_size]; exact hlt⟩ g1 (fun q h => by rw [g3] at h; cases h) (by rw [g2]; exact hkC) (by rw [g2]; exact va_assign hcls) rfl rfl hd fun H1 eq1 z oq => ?_
  refine kk p e s m args below meth c H1 _ ls C (hH.set hσ z oq ?_ (fun k' hk' => ⟨rfl, rfl, v_up_row _ _ _ _ hk'⟩)) (hS.put z oq (by simp [v_A])) hl
  show H1[B + k]? = some (vp_cell (ac 5) (n, .inr (.inr (.inr (.inr (fun j => (v_up F k i.toNatClampNeg (some a) k j).map (B + ·)))))))
  rw [eq1, vp_cell_q, vp_cell_q, arrV_store, v_up_own]
  congr 2
  funext q
  by_cases hq : q = i.toNatClampNeg
  · subst hq
    simp [updV, va_rf]
  · simp [updV, hq]
theorem v_aastN5 {k n : Nat} {i : Int32} (hd : decode cc pc = .ok (.aastore, 1)) (hσ : σ[k]? = some (25, n)) (hin : vp_in i n) (kk : V l B D ac E y cc nL ret d mc ms cn sn σ I J (v_up F k i.toNatClampNeg none) (pc + 1) (lv) (st) Q) : V l B D ac E y cc nL ret d mc ms cn sn σ I J F (pc) (lv) (.null :: .int i :: .ref (B + k) :: st) Q := by
  intro p e s m args below meth c H locs ls C hH hS hl
  have hat : H[B + k]? = some (vp_cell (ac 5) (n, .inr (.inr (.inr (.inr (fun i => (F k i).map (B + ·))))))) := hH.2.1 k 25 n hσ
  have hK := C.2.2.2.2.2.2.2.2.1
  refine va_WaastN (C := RX3) C.1 C.2.1 hat ((hK.2 5 (ac 5, .object RX3) rfl).1 n (fun j => va_rf ((F k j).map (B + ·)))) (fun h => by cases h) (by show ¬ (i < 0 ∨ (arrV _ _ _).slots.size ≤ _); rw [arrV_size]; exact hin) rfl rfl hd fun H1 eq1 z oq => ?_
  refine kk p e s m args below meth c H1 _ ls C (hH.set hσ z oq ?_ (fun k' hk' => ⟨rfl, rfl, v_up_row _ _ _ _ hk'⟩)) (hS.put z oq (by simp [v_A])) hl
  show H1[B + k]? = some (vp_cell (ac 5) (n, .inr (.inr (.inr (.inr (fun j => (v_up F k i.toNatClampNeg none k j).map (B + ·)))))))
  rw [eq1, vp_cell_q, vp_cell_q, arrV_store, v_up_own]
  congr 2
  funext q
  by_cases hq : q = i.toNatClampNeg
  · subst hq
    simp [updV, va_rf]
  · simp [updV, hq]
theorem v_aast6 {k n a nn : Nat} {i : Int32} (hd : decode cc pc = .ok (.aastore, 1)) (hσ : σ[k]? = some (26, n)) (ha : σ[a]? = some (0, nn)) (hin : vp_in i n) (kk : V l B D ac E y cc nL ret d mc ms cn sn σ I J (v_up F k i.toNatClampNeg (some a)) (pc + 1) (lv) (st) Q) : V l B D ac E y cc nL ret d mc ms cn sn σ I J F (pc) (lv) (.ref (B + a) :: .int i :: .ref (B + k) :: st) Q := by
  intro p e s m args below meth c H locs ls C hH hS hl
  have hat : H[B + k]? = some (vp_cell (ac 6) (n, .inr (.inr (.inr (.inr (fun i => (F k i).map (B + ·))))))) := hH.2.1 k 26 n hσ
  have hK := C.2.2.2.2.2.2.2.2.1
  have hlt : i.toNatClampNeg < n := Nat.not_le.mp fun q => hin (Or.inr q)
  have h0 : ¬ i < 0 := fun q => hin (Or.inl q)
  have hv := hH.2.1 a 0 nn ha
  rw [v_E_obj (by decide)] at hv
  obtain ⟨r', hr', cellV, g1, g2, g3, -⟩ := hv
  have hcls := (hK.1 0 (RX0, TX0, v_n 0) rfl).2
  obtain ⟨kA, comp, k1, k2, k3, -⟩ := (hK.2 6 (ac 6, .object RX0) rfl).2
  have hcomp : comp = D.1 0 := Option.some.inj (k3.symm.trans hcls.1)
  subst hcomp
  obtain ⟨kC, hkC, -⟩ := id hcls.2
  refine W.aast C.1 C.2.1 hat (fun q h => by cases h) (fun h => by cases h) k1 k2 rfl hkC ⟨h0, by show _ < (arrV _ _ _).slots.size; rw [arrV_size]; exact hlt⟩ g1 (fun q h => by rw [g3] at h; cases h) (by rw [g2]; exact hkC) (by rw [g2]; exact va_assign hcls) rfl rfl hd fun H1 eq1 z oq => ?_
  refine kk p e s m args below meth c H1 _ ls C (hH.set hσ z oq ?_ (fun k' hk' => ⟨rfl, rfl, v_up_row _ _ _ _ hk'⟩)) (hS.put z oq (by simp [v_A])) hl
  show H1[B + k]? = some (vp_cell (ac 6) (n, .inr (.inr (.inr (.inr (fun j => (v_up F k i.toNatClampNeg (some a) k j).map (B + ·)))))))
  rw [eq1, vp_cell_q, vp_cell_q, arrV_store, v_up_own]
  congr 2
  funext q
  by_cases hq : q = i.toNatClampNeg
  · subst hq
    simp [updV, va_rf]
  · simp [updV, hq]
theorem v_aastN6 {k n : Nat} {i : Int32} (hd : decode cc pc = .ok (.aastore, 1)) (hσ : σ[k]? = some (26, n)) (hin : vp_in i n) (kk : V l B D ac E y cc nL ret d mc ms cn sn σ I J (v_up F k i.toNatClampNeg none) (pc + 1) (lv) (st) Q) : V l B D ac E y cc nL ret d mc ms cn sn σ I J F (pc) (lv) (.null :: .int i :: .ref (B + k) :: st) Q := by
  intro p e s m args below meth c H locs ls C hH hS hl
  have hat : H[B + k]? = some (vp_cell (ac 6) (n, .inr (.inr (.inr (.inr (fun i => (F k i).map (B + ·))))))) := hH.2.1 k 26 n hσ
  have hK := C.2.2.2.2.2.2.2.2.1
  refine va_WaastN (C := RX0) C.1 C.2.1 hat ((hK.2 6 (ac 6, .object RX0) rfl).1 n (fun j => va_rf ((F k j).map (B + ·)))) (fun h => by cases h) (by show ¬ (i < 0 ∨ (arrV _ _ _).slots.size ≤ _); rw [arrV_size]; exact hin) rfl rfl hd fun H1 eq1 z oq => ?_
  refine kk p e s m args below meth c H1 _ ls C (hH.set hσ z oq ?_ (fun k' hk' => ⟨rfl, rfl, v_up_row _ _ _ _ hk'⟩)) (hS.put z oq (by simp [v_A])) hl
  show H1[B + k]? = some (vp_cell (ac 6) (n, .inr (.inr (.inr (.inr (fun j => (v_up F k i.toNatClampNeg none k j).map (B + ·)))))))
  rw [eq1, vp_cell_q, vp_cell_q, arrV_store, v_up_own]
  congr 2
  funext q
  by_cases hq : q = i.toNatClampNeg
  · subst hq
    simp [updV, va_rf]
  · simp [updV, hq]
end VH
