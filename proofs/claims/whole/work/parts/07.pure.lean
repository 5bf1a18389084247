/-! pure words: what a method's text in Lean is made of -/
def p_let {α β : Type} (x : α) (k : α → Option β) : Option β := k x
theorem p_let_elim {α β : Type} {x : α} {k : α → Option β} {r : β} (h : p_let x k = some r) : ∃ y, y = x ∧ k y = some r := ⟨x, rfl, h⟩
theorem p_bind_elim {α β : Type} {x : Option α} {k : α → Option β} {r : β} (h : x.bind k = some r) : ∃ y, x = some y ∧ k y = some r := Option.bind_eq_some_iff.mp h
def p_ob (S : v_S) (kd a : Nat) : Option Unit := if S[a]? = some (kd, v_n kd) then some () else none
theorem p_ob_spec {S : v_S} {kd a : Nat} {u : Unit} (h : p_ob S kd a = some u) : S[a]? = some (kd, v_n kd) := by
  unfold p_ob at h
  split at h
  · assumption
  · cases h
def p_ix (S : v_S) (kd a : Nat) (i : Int32) : Option Nat := match S[a]? with
  | some q => if q.1 = kd ∧ ¬ (i < 0 ∨ q.2 ≤ i.toNatClampNeg) then some i.toNatClampNeg else none
  | none => none
theorem p_ix_spec {S : v_S} {kd a j : Nat} {i : Int32} (h : p_ix S kd a i = some j) : ∃ n, S[a]? = some (kd, n) ∧ vp_in i n ∧ j = i.toNatClampNeg := by
  unfold p_ix at h
  split at h
  · next q hq =>
    split at h
    · next hc => obtain ⟨k, n⟩ := q; obtain ⟨rfl, h2⟩ := hc; cases h; exact ⟨n, hq, h2, rfl⟩
    · cases h
  · cases h
def p_len (S : v_S) (kd a : Nat) : Option Int32 := match S[a]? with
  | some q => if q.1 = kd then some (Int32.ofNat q.2) else none
  | none => none
theorem p_len_spec {S : v_S} {kd a : Nat} {x : Int32} (h : p_len S kd a = some x) : ∃ n, S[a]? = some (kd, n) ∧ x = Int32.ofNat n := by
  unfold p_len at h
  split at h
  · next q hq =>
    split at h
    · next hc => obtain ⟨k, n⟩ := q; cases hc; cases h; exact ⟨n, hq, rfl⟩
    · cases h
  · cases h
def p_nn (x : Int32) (bd : Nat) : Option Nat := if ¬ x < 0 ∧ x.toNatClampNeg ≤ bd then some x.toNatClampNeg else none
theorem p_nn_spec {x : Int32} {bd n : Nat} (h : p_nn x bd = some n) : ¬ x < 0 ∧ x.toNatClampNeg = n ∧ n ≤ bd := by
  unfold p_nn at h
  split at h
  · next hc => cases h; exact ⟨hc.1, rfl, hc.2⟩
  · cases h
/-- an object of a class, or null -/
def p_oq (S : v_S) (kd : Nat) (e : Option Nat) : Option Unit := match e with
  | none => some ()
  | some a => p_ob S kd a
def p_bl (x : Int32) : Option Unit := if x = 0 ∨ x = 1 then some () else none
theorem p_bl_spec {x : Int32} {u : Unit} (h : p_bl x = some u) : narrow .boolean (.int x) = .int x ∧ fits .boolean (.int x) = true := by
  unfold p_bl at h
  split at h
  · next hc => rcases hc with rfl | rfl <;> exact ⟨rfl, rfl⟩
  · cases h
def p_nz32 (x : Int32) : Option Unit := if x = 0 then none else some ()
def p_nz64 (x : Int64) : Option Unit := if x = 0 then none else some ()
theorem p_nz32_spec {x : Int32} {u : Unit} (h : p_nz32 x = some u) : ¬ x = 0 := by unfold p_nz32 at h; split at h; cases h; assumption
theorem p_nz64_spec {x : Int64} {u : Unit} (h : p_nz64 x = some u) : ¬ x = 0 := by unfold p_nz64 at h; split at h; cases h; assumption
/-- a stretch of ints copied -/
def p_cpy (I : v_I) (a b sp dp n : Nat) : v_I := fun k j => if k = b then va_cpy (I a) (I b) sp dp n j else I k j
def p_cp (S : v_S) (a b : Nat) (sp dp n : Int32) : Option Unit := match S[a]?, S[b]? with
  | some p, some q => if p.1 = 20 ∧ q.1 = 20 ∧ ¬ sp < 0 ∧ ¬ dp < 0 ∧ ¬ n < 0 ∧ sp.toNatClampNeg + n.toNatClampNeg ≤ p.2 ∧ dp.toNatClampNeg + n.toNatClampNeg ≤ q.2 then some () else none
  | _, _ => none
theorem p_cp_spec {S : v_S} {a b : Nat} {sp dp n : Int32} {u : Unit} (h : p_cp S a b sp dp n = some u) : ∃ n0 n1, S[a]? = some (20, n0) ∧ S[b]? = some (20, n1) ∧ ¬ sp < 0 ∧ ¬ dp < 0 ∧ ¬ n < 0 ∧ sp.toNatClampNeg + n.toNatClampNeg ≤ n0 ∧ dp.toNatClampNeg + n.toNatClampNeg ≤ n1 := by
  unfold p_cp at h
  split at h
  · next p q hp hq =>
    split at h
    · next hc => obtain ⟨k, n0⟩ := p; obtain ⟨k1, n1⟩ := q; obtain ⟨rfl, rfl, hc⟩ := hc; exact ⟨n0, n1, hp, hq, hc⟩
    · cases h
  · cases h
/-- loops: the body goes on or leaves -/
def v_loop {α β : Type} (body : α → Option (α ⊕ β)) : Nat → α → Option β
  | 0, _ => none
  | n + 1, s => match body s with
    | none => none
    | some (.inl t) => v_loop body n t
    | some (.inr r) => some r
theorem FU_is : ∃ n : Nat, n = 100000 := ⟨_, rfl⟩
/-- how often a loop may go round: a number that nothing unfolds -/
noncomputable def FU : Nat := Classical.choose FU_is
theorem FU_eq : FU = 100000 := Classical.choose_spec FU_is
def v_K {α β : Type} (P : α → Prop) (E : β → Prop) : α ⊕ β → Prop
  | .inl s => P s
  | .inr r => E r
theorem v_loopV {α β : Type} {body : α → Option (α ⊕ β)} (P : α → Prop) (E : β → Prop) (step : ∀ s x, body s = some x → v_K P E x → P s) {r : β} (hr : E r) : ∀ {n : Nat} {s : α}, v_loop body n s = some r → P s
  | 0, _, h => by cases h
  | n + 1, s, h => by
    unfold v_loop at h
    split at h
    · cases h
    · next t e => exact step s _ e (v_loopV P E step hr h)
    · next q e => cases h; exact step s _ e hr
/-- the same, with what each time costs -/
theorem v_loopC {α β : Type} {body : α → Option (α ⊕ β)} (P : Nat → α → Prop) (E : β → Prop) (step : ∀ n s x, body s = some x → v_K (P n) E x → P (n + 1) s) {r : β} (hr : E r) : ∀ {n : Nat} {s : α}, v_loop body n s = some r → P n s
  | 0, _, h => by cases h
  | n + 1, s, h => by
    unfold v_loop at h
    split at h
    · cases h
    · next t e => exact step n s _ e (v_loopC P E step hr h)
    · next q e => cases h; exact step n s _ e hr
theorem p_app {S S2 T : v_S} {a : Nat} {x : Nat × Nat} (h : S2 = S ++ T) (q : S[a]? = some x) : S2[a]? = some x := by
  subst h
  rw [List.getElem?_append_left (List.getElem?_eq_some_iff.mp q).1]
  exact q
theorem p_fresh {S S2 : v_S} {x : Nat × Nat} (h : S2 = S ++ [x]) : S2[S.length]? = some x := by
  subst h
  simp
theorem p_sw_out {lo hi : Int} {x : Int32} (h : ∀ k : Int, lo ≤ k → k ≤ hi → ¬ x = Int32.ofInt k) : x.toInt < lo ∨ hi < x.toInt := by
  by_cases h1 : x.toInt < lo
  · exact Or.inl h1
  · by_cases h2 : hi < x.toInt
    · exact Or.inr h2
    · exact absurd (Int32.ofInt_toInt x).symm (h x.toInt (by omega) (by omega))
theorem v_rf_cat (B : Nat) (e : Option Nat) : (v_rf B e).category = 1 := by cases e <;> rfl

section VP
variable {l : Launch} {B : Nat} {D : va_G} {ac : Nat → ClassId} {E : State → Prop} {y : MethodName} {cc : ByteArray} {nL : Nat} {ret : Option FieldType} {d mc ms cn sn : Nat} {σ : v_S} {I : v_I} {J : v_J} {F : v_F} {pc : Nat} {lv : List (Nat × Value)} {st : List Value} {Q : v_Q}
theorem v_widen {cn' sn' : Nat} (h1 : cn ≤ cn') (h2 : sn ≤ sn') (k : V l B D ac E y cc nL ret d mc ms cn' sn' σ I J F (pc) (lv) (st) Q) : V l B D ac E y cc nL ret d mc ms cn sn σ I J F (pc) (lv) (st) Q := by
  intro p e s m args below meth c H locs ls C hH hS hl
  exact W.widen h1 h2 (k p e s m args below meth c H locs ls C hH hS hl)
theorem v_ialdP {k j : Nat} {i : Int32} (hd : decode cc pc = .ok (.iaload, 1)) (hq : p_ix σ 20 k i = some j) (kk : V l B D ac E y cc nL ret d mc ms cn sn σ I J F (pc + 1) (lv) (.int (I k j) :: st) Q) : V l B D ac E y cc nL ret d mc ms cn sn σ I J F (pc) (lv) (.int i :: .ref (B + k) :: st) Q := by
  obtain ⟨n, h1, h2, rfl⟩ := p_ix_spec hq
  exact v_iald hd h1 h2 kk
theorem v_baldP {k j : Nat} {i : Int32} (hd : decode cc pc = .ok (.baload, 1)) (hq : p_ix σ 21 k i = some j) (kk : V l B D ac E y cc nL ret d mc ms cn sn σ I J F (pc + 1) (lv) (.int (I k j) :: st) Q) : V l B D ac E y cc nL ret d mc ms cn sn σ I J F (pc) (lv) (.int i :: .ref (B + k) :: st) Q := by
  obtain ⟨n, h1, h2, rfl⟩ := p_ix_spec hq
  exact v_bald hd h1 h2 kk
theorem v_zaldP {k j : Nat} {i : Int32} (hd : decode cc pc = .ok (.baload, 1)) (hq : p_ix σ 22 k i = some j) (kk : V l B D ac E y cc nL ret d mc ms cn sn σ I J F (pc + 1) (lv) (.int (I k j) :: st) Q) : V l B D ac E y cc nL ret d mc ms cn sn σ I J F (pc) (lv) (.int i :: .ref (B + k) :: st) Q := by
  obtain ⟨n, h1, h2, rfl⟩ := p_ix_spec hq
  exact v_zald hd h1 h2 kk
theorem v_laldP {k j : Nat} {i : Int32} (hd : decode cc pc = .ok (.laload, 1)) (hq : p_ix σ 23 k i = some j) (kk : V l B D ac E y cc nL ret d mc ms cn sn σ I J F (pc + 1) (lv) (.long (J k j) :: st) Q) : V l B D ac E y cc nL ret d mc ms cn sn σ I J F (pc) (lv) (.int i :: .ref (B + k) :: st) Q := by
  obtain ⟨n, h1, h2, rfl⟩ := p_ix_spec hq
  exact v_lald hd h1 h2 kk
theorem v_aaldP4 {k j : Nat} {i : Int32} (hd : decode cc pc = .ok (.aaload, 1)) (hq : p_ix σ 24 k i = some j) (kk : V l B D ac E y cc nL ret d mc ms cn sn σ I J F (pc + 1) (lv) (v_rf B (F k j) :: st) Q) : V l B D ac E y cc nL ret d mc ms cn sn σ I J F (pc) (lv) (.int i :: .ref (B + k) :: st) Q := by
  obtain ⟨n, h1, h2, rfl⟩ := p_ix_spec hq
  rcases he : F k i.toNatClampNeg with _ | a
  · rw [he] at kk; exact v_aaldN4 he hd h1 h2 kk
  · rw [he] at kk; exact v_aald4 he hd h1 h2 kk
theorem v_aaldP5 {k j : Nat} {i : Int32} (hd : decode cc pc = .ok (.aaload, 1)) (hq : p_ix σ 25 k i = some j) (kk : V l B D ac E y cc nL ret d mc ms cn sn σ I J F (pc + 1) (lv) (v_rf B (F k j) :: st) Q) : V l B D ac E y cc nL ret d mc ms cn sn σ I J F (pc) (lv) (.int i :: .ref (B + k) :: st) Q := by
  obtain ⟨n, h1, h2, rfl⟩ := p_ix_spec hq
  rcases he : F k i.toNatClampNeg with _ | a
  · rw [he] at kk; exact v_aaldN5 he hd h1 h2 kk
  · rw [he] at kk; exact v_aald5 he hd h1 h2 kk
theorem v_aaldP6 {k j : Nat} {i : Int32} (hd : decode cc pc = .ok (.aaload, 1)) (hq : p_ix σ 26 k i = some j) (kk : V l B D ac E y cc nL ret d mc ms cn sn σ I J F (pc + 1) (lv) (v_rf B (F k j) :: st) Q) : V l B D ac E y cc nL ret d mc ms cn sn σ I J F (pc) (lv) (.int i :: .ref (B + k) :: st) Q := by
  obtain ⟨n, h1, h2, rfl⟩ := p_ix_spec hq
  rcases he : F k i.toNatClampNeg with _ | a
  · rw [he] at kk; exact v_aaldN6 he hd h1 h2 kk
  · rw [he] at kk; exact v_aald6 he hd h1 h2 kk
theorem v_iastP {k j : Nat} {i : Int32} {x : Int32} (hd : decode cc pc = .ok (.iastore, 1)) (hq : p_ix σ 20 k i = some j) (kk : V l B D ac E y cc nL ret d mc ms cn sn σ (v_up I k j x) J F (pc + 1) (lv) (st) Q) : V l B D ac E y cc nL ret d mc ms cn sn σ I J F (pc) (lv) (.int x :: .int i :: .ref (B + k) :: st) Q := by
  obtain ⟨n, h1, h2, rfl⟩ := p_ix_spec hq
  exact v_iast hd h1 h2 kk
theorem v_bastP {k j : Nat} {i : Int32} {x : Int32} (hd : decode cc pc = .ok (.bastore, 1)) (hq : p_ix σ 21 k i = some j) (kk : V l B D ac E y cc nL ret d mc ms cn sn σ (v_up I k j (vp_nar .byte x)) J F (pc + 1) (lv) (st) Q) : V l B D ac E y cc nL ret d mc ms cn sn σ I J F (pc) (lv) (.int x :: .int i :: .ref (B + k) :: st) Q := by
  obtain ⟨n, h1, h2, rfl⟩ := p_ix_spec hq
  exact v_bast hd h1 h2 kk
theorem v_zastP {k j : Nat} {i : Int32} {x : Int32} (hd : decode cc pc = .ok (.bastore, 1)) (hq : p_ix σ 22 k i = some j) (kk : V l B D ac E y cc nL ret d mc ms cn sn σ (v_up I k j (vp_nar .boolean x)) J F (pc + 1) (lv) (st) Q) : V l B D ac E y cc nL ret d mc ms cn sn σ I J F (pc) (lv) (.int x :: .int i :: .ref (B + k) :: st) Q := by
  obtain ⟨n, h1, h2, rfl⟩ := p_ix_spec hq
  exact v_zast hd h1 h2 kk
theorem v_lastP {k j : Nat} {i : Int32} {x : Int64} (hd : decode cc pc = .ok (.lastore, 1)) (hq : p_ix σ 23 k i = some j) (kk : V l B D ac E y cc nL ret d mc ms cn sn σ I (v_up J k j x) F (pc + 1) (lv) (st) Q) : V l B D ac E y cc nL ret d mc ms cn sn σ I J F (pc) (lv) (.long x :: .int i :: .ref (B + k) :: st) Q := by
  obtain ⟨n, h1, h2, rfl⟩ := p_ix_spec hq
  exact v_last hd h1 h2 kk
theorem v_aastP4 {k j : Nat} {e : Option Nat} {i : Int32} {u : Unit} (hd : decode cc pc = .ok (.aastore, 1)) (hq : p_ix σ 24 k i = some j) (ho : p_oq σ 8 e = some u) (kk : V l B D ac E y cc nL ret d mc ms cn sn σ I J (v_up F k j e) (pc + 1) (lv) (st) Q) : V l B D ac E y cc nL ret d mc ms cn sn σ I J F (pc) (lv) (v_rf B e :: .int i :: .ref (B + k) :: st) Q := by
  obtain ⟨n, h1, h2, rfl⟩ := p_ix_spec hq
  rcases e with _ | a
  · exact v_aastN4 hd h1 h2 kk
  · exact v_aast4 hd h1 (p_ob_spec ho) h2 kk
theorem v_aastP5 {k j : Nat} {e : Option Nat} {i : Int32} {u : Unit} (hd : decode cc pc = .ok (.aastore, 1)) (hq : p_ix σ 25 k i = some j) (ho : p_oq σ 3 e = some u) (kk : V l B D ac E y cc nL ret d mc ms cn sn σ I J (v_up F k j e) (pc + 1) (lv) (st) Q) : V l B D ac E y cc nL ret d mc ms cn sn σ I J F (pc) (lv) (v_rf B e :: .int i :: .ref (B + k) :: st) Q := by
  obtain ⟨n, h1, h2, rfl⟩ := p_ix_spec hq
  rcases e with _ | a
  · exact v_aastN5 hd h1 h2 kk
  · exact v_aast5 hd h1 (p_ob_spec ho) h2 kk
theorem v_aastP6 {k j : Nat} {e : Option Nat} {i : Int32} {u : Unit} (hd : decode cc pc = .ok (.aastore, 1)) (hq : p_ix σ 26 k i = some j) (ho : p_oq σ 0 e = some u) (kk : V l B D ac E y cc nL ret d mc ms cn sn σ I J (v_up F k j e) (pc + 1) (lv) (st) Q) : V l B D ac E y cc nL ret d mc ms cn sn σ I J F (pc) (lv) (v_rf B e :: .int i :: .ref (B + k) :: st) Q := by
  obtain ⟨n, h1, h2, rfl⟩ := p_ix_spec hq
  rcases e with _ | a
  · exact v_aastN6 hd h1 h2 kk
  · exact v_aast6 hd h1 (p_ob_spec ho) h2 kk
theorem v_alenPI {k : Nat} {x : Int32} (hd : decode cc pc = .ok (.arraylength, 1)) (hq : p_len σ 20 k = some x) (kk : V l B D ac E y cc nL ret d mc ms cn sn σ I J F (pc + 1) (lv) (.int x :: st) Q) : V l B D ac E y cc nL ret d mc ms cn sn σ I J F (pc) (lv) (.ref (B + k) :: st) Q := by
  obtain ⟨n, h1, rfl⟩ := p_len_spec hq
  exact v_alenI hd h1 kk
theorem v_alenPB {k : Nat} {x : Int32} (hd : decode cc pc = .ok (.arraylength, 1)) (hq : p_len σ 21 k = some x) (kk : V l B D ac E y cc nL ret d mc ms cn sn σ I J F (pc + 1) (lv) (.int x :: st) Q) : V l B D ac E y cc nL ret d mc ms cn sn σ I J F (pc) (lv) (.ref (B + k) :: st) Q := by
  obtain ⟨n, h1, rfl⟩ := p_len_spec hq
  exact v_alenB hd h1 kk
theorem v_alenPJ {k : Nat} {x : Int32} (hd : decode cc pc = .ok (.arraylength, 1)) (hq : p_len σ 23 k = some x) (kk : V l B D ac E y cc nL ret d mc ms cn sn σ I J F (pc + 1) (lv) (.int x :: st) Q) : V l B D ac E y cc nL ret d mc ms cn sn σ I J F (pc) (lv) (.ref (B + k) :: st) Q := by
  obtain ⟨n, h1, rfl⟩ := p_len_spec hq
  exact v_alenJ hd h1 kk
theorem v_aload_nQ {n : Fin 4} {e : Option Nat} (hd : decode cc pc = .ok (.aload_n n, 1)) (hv : v_lk lv (n : Nat) = some (v_rf B e)) (k : V l B D ac E y cc nL ret d mc ms cn sn σ I J F (pc + 1) (lv) (v_rf B e :: st) Q) : V l B D ac E y cc nL ret d mc ms cn sn σ I J F (pc) (lv) (st) Q := by
  rcases e with _ | a
  · exact v_aload_nN hd hv k
  · exact v_aload_n hd hv k
theorem v_aloadQ {i : Nat} {e : Option Nat} (hd : decode cc pc = .ok (.aload i, 2)) (hv : v_lk lv i = some (v_rf B e)) (k : V l B D ac E y cc nL ret d mc ms cn sn σ I J F (pc + 2) (lv) (v_rf B e :: st) Q) : V l B D ac E y cc nL ret d mc ms cn sn σ I J F (pc) (lv) (st) Q := by
  rcases e with _ | a
  · exact v_aloadN hd hv k
  · exact v_aload hd hv k
theorem v_astore_nQ {n : Fin 4} {e : Option Nat} (hd : decode cc pc = .ok (.astore_n n, 1)) (hn : (n : Nat) < nL) (k : V l B D ac E y cc nL ret d mc ms cn sn σ I J F (pc + 1) (((n : Nat), v_rf B e) :: lv.filter (fun q => !(q.1 == (n : Nat)) && !(q.1 + 1 == (n : Nat) && q.2.category == 2))) (st) Q) : V l B D ac E y cc nL ret d mc ms cn sn σ I J F (pc) (lv) (v_rf B e :: st) Q := by
  rcases e with _ | a
  · exact v_astore_nN hd hn k
  · exact v_astore_n hd hn k
theorem v_astoreQ {i : Nat} {e : Option Nat} (hd : decode cc pc = .ok (.astore i, 2)) (hn : i < nL) (k : V l B D ac E y cc nL ret d mc ms cn sn σ I J F (pc + 2) ((i, v_rf B e) :: lv.filter (fun q => !(q.1 == i) && !(q.1 + 1 == i && q.2.category == 2))) (st) Q) : V l B D ac E y cc nL ret d mc ms cn sn σ I J F (pc) (lv) (v_rf B e :: st) Q := by
  rcases e with _ | a
  · exact v_astoreN hd hn k
  · exact v_astore hd hn k
theorem v_aretQ {e : Option Nat} {rt : FieldType} (hd : decode cc pc = .ok (.areturn, 1)) (hr : ret = some rt) (hrt : (∃ n, rt = .object n) ∨ ∃ t, rt = .array t) (hcn : cn ≤ mc) (hsn : sn ≤ ms) (hq : Q (some (v_rf B e)) σ I J F) : V l B D ac E y cc nL ret d mc ms cn sn σ I J F (pc) (lv) ([v_rf B e]) Q :=
  v_aret hd hr hrt (by rcases e with _ | a; exact Or.inl rfl; exact Or.inr ⟨_, rfl⟩) hcn hsn hq
theorem v_swIn {dflt lo hi : Int} {offs : Array Int} {len : Nat} {x : Int32} {off : Int} (tgt : Nat) (lit : Int32) (hx : x = lit) (hd : decode cc pc = .ok (.tableswitch dflt lo hi offs, len)) (h1 : ¬ lit.toInt < lo) (h2 : ¬ hi < lit.toInt) (ho : offs[(lit.toInt - lo).toNat]? = some off) (ht : (pc : Int) + off = (tgt : Int)) (k : V l B D ac E y cc nL ret d mc ms cn sn σ I J F (tgt) (lv) (st) Q) : V l B D ac E y cc nL ret d mc ms cn sn σ I J F (pc) (lv) (.int x :: st) Q := by
  subst hx
  exact v_tableIn tgt hd h1 h2 ho ht k
theorem v_lkIn {dflt : Int} {ps : Array (Int × Int)} {len : Nat} {x : Int32} {off : Int} (tgt : Nat) (lit : Int32) (hx : x = lit) (hd : decode cc pc = .ok (.lookupswitch dflt ps, len)) (hp : (ps.toList.zip (ps.toList.drop 1)).all (fun (a, next) => a.1 < next.1) = true) (ho : Op.lookupswitch.offset ps.toList dflt lit.toInt = off) (ht : (pc : Int) + off = (tgt : Int)) (k : V l B D ac E y cc nL ret d mc ms cn sn σ I J F (tgt) (lv) (st) Q) : V l B D ac E y cc nL ret d mc ms cn sn σ I J F (pc) (lv) (.int x :: st) Q := by
  subst hx
  exact v_lookup tgt hd hp ho ht k
theorem v_cVn {y2 : MethodName} {cc2 : ByteArray} {nL2 d2 idx : Nat} {ret2 : Option FieldType} {k : Nat} {As stk : List Value} {σ2 : v_S} {I2 : v_I} {J2 : v_J} {F2 : v_F} (hc : v_R l B D ac E y2 cc2 nL2 ret2 d2 0 0 (.ref (B + k) :: As) σ I J F (v_D none σ2 I2 J2 F2)) (cb : v_cal y2 cc2 nL2 ret2 As.length) (hw : Cond.methodLink y.cls idx y2 ∈ v_T) {kd n : Nat} (vs : Cond.instanceMethod y2 ∈ v_T ∧ Cond.selects y2.cls y2 y2 ∈ v_T) (hσ : σ[k]? = some (kd, n)) (hk : kd < 20 ∧ ∃ T : u_T, vwCl[kd]? = some (y2.cls, T, v_n kd)) (hd : decode cc pc = .ok (.invokevirtual idx, 3)) (hdd : d2 + 1 ≤ d) (hcn : cn ≤ mc) (hsn : sn ≤ ms) (hst : (st.map fun v => v.category).sum ≤ 8) (hs : stk = As.reverse ++ .ref (B + k) :: st) (kk : V l B D ac E y cc nL ret d mc ms cn sn σ2 I2 J2 F2 (pc + 3) (lv) (st) Q) : V l B D ac E y cc nL ret d mc ms cn sn σ I J F (pc) (lv) (stk) Q := v_callVd hc cb hw vs hσ hk hd hdd hcn hsn hst hs kk
theorem v_cVr {y2 : MethodName} {cc2 : ByteArray} {nL2 d2 idx : Nat} {ret2 : Option FieldType} {k : Nat} {As stk : List Value} {v : Value} {σ2 : v_S} {I2 : v_I} {J2 : v_J} {F2 : v_F} (hc : v_R l B D ac E y2 cc2 nL2 ret2 d2 0 0 (.ref (B + k) :: As) σ I J F (v_D (some v) σ2 I2 J2 F2)) (cb : v_cal y2 cc2 nL2 ret2 As.length) (hw : Cond.methodLink y.cls idx y2 ∈ v_T) {kd n : Nat} (vs : Cond.instanceMethod y2 ∈ v_T ∧ Cond.selects y2.cls y2 y2 ∈ v_T) (hσ : σ[k]? = some (kd, n)) (hk : kd < 20 ∧ ∃ T : u_T, vwCl[kd]? = some (y2.cls, T, v_n kd)) (hd : decode cc pc = .ok (.invokevirtual idx, 3)) (hdd : d2 + 1 ≤ d) (hcn : cn ≤ mc) (hsn : sn ≤ ms) (hst : (st.map fun v => v.category).sum ≤ 8) (hs : stk = As.reverse ++ .ref (B + k) :: st) (kk : V l B D ac E y cc nL ret d mc ms cn sn σ2 I2 J2 F2 (pc + 3) (lv) (v :: st) Q) : V l B D ac E y cc nL ret d mc ms cn sn σ I J F (pc) (lv) (stk) Q := v_callVd hc cb hw vs hσ hk hd hdd hcn hsn hst hs kk
theorem v_cVnc {y2 : MethodName} {cc2 : ByteArray} {nL2 d2 mc2 ms2 idx : Nat} {ret2 : Option FieldType} {k : Nat} {As stk : List Value} {σ2 : v_S} {I2 : v_I} {J2 : v_J} {F2 : v_F} (hc : v_R l B D ac E y2 cc2 nL2 ret2 d2 mc2 ms2 (.ref (B + k) :: As) σ I J F (v_D none σ2 I2 J2 F2)) (cb : v_cal y2 cc2 nL2 ret2 As.length) (hw : Cond.methodLink y.cls idx y2 ∈ v_T) {kd n : Nat} (vs : Cond.instanceMethod y2 ∈ v_T ∧ Cond.selects y2.cls y2 y2 ∈ v_T) (hσ : σ[k]? = some (kd, n)) (hk : kd < 20 ∧ ∃ T : u_T, vwCl[kd]? = some (y2.cls, T, v_n kd)) (hd : decode cc pc = .ok (.invokevirtual idx, 3)) (hdd : d2 + 1 ≤ d) (hcn : cn + mc2 ≤ mc) (hsn : sn + ms2 ≤ ms) (hst : (st.map fun v => v.category).sum ≤ 8) (hs : stk = As.reverse ++ .ref (B + k) :: st) (kk : V l B D ac E y cc nL ret d mc ms (cn + mc2) (sn + ms2) σ2 I2 J2 F2 (pc + 3) (lv) (st) Q) : V l B D ac E y cc nL ret d mc ms cn sn σ I J F (pc) (lv) (stk) Q := v_callVd hc cb hw vs hσ hk hd hdd hcn hsn hst hs kk
theorem v_cVrc {y2 : MethodName} {cc2 : ByteArray} {nL2 d2 mc2 ms2 idx : Nat} {ret2 : Option FieldType} {k : Nat} {As stk : List Value} {v : Value} {σ2 : v_S} {I2 : v_I} {J2 : v_J} {F2 : v_F} (hc : v_R l B D ac E y2 cc2 nL2 ret2 d2 mc2 ms2 (.ref (B + k) :: As) σ I J F (v_D (some v) σ2 I2 J2 F2)) (cb : v_cal y2 cc2 nL2 ret2 As.length) (hw : Cond.methodLink y.cls idx y2 ∈ v_T) {kd n : Nat} (vs : Cond.instanceMethod y2 ∈ v_T ∧ Cond.selects y2.cls y2 y2 ∈ v_T) (hσ : σ[k]? = some (kd, n)) (hk : kd < 20 ∧ ∃ T : u_T, vwCl[kd]? = some (y2.cls, T, v_n kd)) (hd : decode cc pc = .ok (.invokevirtual idx, 3)) (hdd : d2 + 1 ≤ d) (hcn : cn + mc2 ≤ mc) (hsn : sn + ms2 ≤ ms) (hst : (st.map fun v => v.category).sum ≤ 8) (hs : stk = As.reverse ++ .ref (B + k) :: st) (kk : V l B D ac E y cc nL ret d mc ms (cn + mc2) (sn + ms2) σ2 I2 J2 F2 (pc + 3) (lv) (v :: st) Q) : V l B D ac E y cc nL ret d mc ms cn sn σ I J F (pc) (lv) (stk) Q := v_callVd hc cb hw vs hσ hk hd hdd hcn hsn hst hs kk
theorem v_cSn {y2 : MethodName} {cc2 : ByteArray} {nL2 d2 idx : Nat} {ret2 : Option FieldType} {As stk : List Value} {σ2 : v_S} {I2 : v_I} {J2 : v_J} {F2 : v_F} (hc : v_R l B D ac E y2 cc2 nL2 ret2 d2 0 0 As σ I J F (v_D none σ2 I2 J2 F2)) (cb : v_cal y2 cc2 nL2 ret2 As.length) (hw : Cond.methodLink y.cls idx y2 ∈ v_T) (vs : Cond.static y2 ∈ v_T) (hd : decode cc pc = .ok (.invokestatic idx, 3)) (hdd : d2 + 1 ≤ d) (hcn : cn ≤ mc) (hsn : sn ≤ ms) (hst : (st.map fun v => v.category).sum ≤ 8) (hs : stk = As.reverse ++ st) (kk : V l B D ac E y cc nL ret d mc ms cn sn σ2 I2 J2 F2 (pc + 3) (lv) (st) Q) : V l B D ac E y cc nL ret d mc ms cn sn σ I J F (pc) (lv) (stk) Q := v_callSd hc cb hw vs hd hdd hcn hsn hst hs kk
theorem v_cSr {y2 : MethodName} {cc2 : ByteArray} {nL2 d2 idx : Nat} {ret2 : Option FieldType} {As stk : List Value} {v : Value} {σ2 : v_S} {I2 : v_I} {J2 : v_J} {F2 : v_F} (hc : v_R l B D ac E y2 cc2 nL2 ret2 d2 0 0 As σ I J F (v_D (some v) σ2 I2 J2 F2)) (cb : v_cal y2 cc2 nL2 ret2 As.length) (hw : Cond.methodLink y.cls idx y2 ∈ v_T) (vs : Cond.static y2 ∈ v_T) (hd : decode cc pc = .ok (.invokestatic idx, 3)) (hdd : d2 + 1 ≤ d) (hcn : cn ≤ mc) (hsn : sn ≤ ms) (hst : (st.map fun v => v.category).sum ≤ 8) (hs : stk = As.reverse ++ st) (kk : V l B D ac E y cc nL ret d mc ms cn sn σ2 I2 J2 F2 (pc + 3) (lv) (v :: st) Q) : V l B D ac E y cc nL ret d mc ms cn sn σ I J F (pc) (lv) (stk) Q := v_callSd hc cb hw vs hd hdd hcn hsn hst hs kk
theorem v_cSnc {y2 : MethodName} {cc2 : ByteArray} {nL2 d2 mc2 ms2 idx : Nat} {ret2 : Option FieldType} {As stk : List Value} {σ2 : v_S} {I2 : v_I} {J2 : v_J} {F2 : v_F} (hc : v_R l B D ac E y2 cc2 nL2 ret2 d2 mc2 ms2 As σ I J F (v_D none σ2 I2 J2 F2)) (cb : v_cal y2 cc2 nL2 ret2 As.length) (hw : Cond.methodLink y.cls idx y2 ∈ v_T) (vs : Cond.static y2 ∈ v_T) (hd : decode cc pc = .ok (.invokestatic idx, 3)) (hdd : d2 + 1 ≤ d) (hcn : cn + mc2 ≤ mc) (hsn : sn + ms2 ≤ ms) (hst : (st.map fun v => v.category).sum ≤ 8) (hs : stk = As.reverse ++ st) (kk : V l B D ac E y cc nL ret d mc ms (cn + mc2) (sn + ms2) σ2 I2 J2 F2 (pc + 3) (lv) (st) Q) : V l B D ac E y cc nL ret d mc ms cn sn σ I J F (pc) (lv) (stk) Q := v_callSd hc cb hw vs hd hdd hcn hsn hst hs kk
theorem v_cSrc {y2 : MethodName} {cc2 : ByteArray} {nL2 d2 mc2 ms2 idx : Nat} {ret2 : Option FieldType} {As stk : List Value} {v : Value} {σ2 : v_S} {I2 : v_I} {J2 : v_J} {F2 : v_F} (hc : v_R l B D ac E y2 cc2 nL2 ret2 d2 mc2 ms2 As σ I J F (v_D (some v) σ2 I2 J2 F2)) (cb : v_cal y2 cc2 nL2 ret2 As.length) (hw : Cond.methodLink y.cls idx y2 ∈ v_T) (vs : Cond.static y2 ∈ v_T) (hd : decode cc pc = .ok (.invokestatic idx, 3)) (hdd : d2 + 1 ≤ d) (hcn : cn + mc2 ≤ mc) (hsn : sn + ms2 ≤ ms) (hst : (st.map fun v => v.category).sum ≤ 8) (hs : stk = As.reverse ++ st) (kk : V l B D ac E y cc nL ret d mc ms (cn + mc2) (sn + ms2) σ2 I2 J2 F2 (pc + 3) (lv) (v :: st) Q) : V l B D ac E y cc nL ret d mc ms cn sn σ I J F (pc) (lv) (stk) Q := v_callSd hc cb hw vs hd hdd hcn hsn hst hs kk
theorem v_cSNn {y2 : MethodName} {cc2 : ByteArray} {nL2 d2 idx : Nat} {ret2 : Option FieldType} {host : String} {As stk : List Value} {σ2 : v_S} {I2 : v_I} {J2 : v_J} {F2 : v_F} (hc : v_R l B D ac E y2 cc2 nL2 ret2 d2 0 0 As σ I J F (v_D none σ2 I2 J2 F2)) (cb : v_cal y2 cc2 nL2 ret2 As.length) (hw : ∀ U : State, E U → va_Nw (Cond.methodLinkNest y.cls idx y2 host) U) (vs : Cond.static y2 ∈ v_T) (hd : decode cc pc = .ok (.invokestatic idx, 3)) (hdd : d2 + 1 ≤ d) (hcn : cn ≤ mc) (hsn : sn ≤ ms) (hst : (st.map fun v => v.category).sum ≤ 8) (hs : stk = As.reverse ++ st) (kk : V l B D ac E y cc nL ret d mc ms cn sn σ2 I2 J2 F2 (pc + 3) (lv) (st) Q) : V l B D ac E y cc nL ret d mc ms cn sn σ I J F (pc) (lv) (stk) Q := v_callSNd hc cb hw vs hd hdd hcn hsn hst hs kk
theorem v_cSNr {y2 : MethodName} {cc2 : ByteArray} {nL2 d2 idx : Nat} {ret2 : Option FieldType} {host : String} {As stk : List Value} {v : Value} {σ2 : v_S} {I2 : v_I} {J2 : v_J} {F2 : v_F} (hc : v_R l B D ac E y2 cc2 nL2 ret2 d2 0 0 As σ I J F (v_D (some v) σ2 I2 J2 F2)) (cb : v_cal y2 cc2 nL2 ret2 As.length) (hw : ∀ U : State, E U → va_Nw (Cond.methodLinkNest y.cls idx y2 host) U) (vs : Cond.static y2 ∈ v_T) (hd : decode cc pc = .ok (.invokestatic idx, 3)) (hdd : d2 + 1 ≤ d) (hcn : cn ≤ mc) (hsn : sn ≤ ms) (hst : (st.map fun v => v.category).sum ≤ 8) (hs : stk = As.reverse ++ st) (kk : V l B D ac E y cc nL ret d mc ms cn sn σ2 I2 J2 F2 (pc + 3) (lv) (v :: st) Q) : V l B D ac E y cc nL ret d mc ms cn sn σ I J F (pc) (lv) (stk) Q := v_callSNd hc cb hw vs hd hdd hcn hsn hst hs kk
theorem v_cSNnc {y2 : MethodName} {cc2 : ByteArray} {nL2 d2 mc2 ms2 idx : Nat} {ret2 : Option FieldType} {host : String} {As stk : List Value} {σ2 : v_S} {I2 : v_I} {J2 : v_J} {F2 : v_F} (hc : v_R l B D ac E y2 cc2 nL2 ret2 d2 mc2 ms2 As σ I J F (v_D none σ2 I2 J2 F2)) (cb : v_cal y2 cc2 nL2 ret2 As.length) (hw : ∀ U : State, E U → va_Nw (Cond.methodLinkNest y.cls idx y2 host) U) (vs : Cond.static y2 ∈ v_T) (hd : decode cc pc = .ok (.invokestatic idx, 3)) (hdd : d2 + 1 ≤ d) (hcn : cn + mc2 ≤ mc) (hsn : sn + ms2 ≤ ms) (hst : (st.map fun v => v.category).sum ≤ 8) (hs : stk = As.reverse ++ st) (kk : V l B D ac E y cc nL ret d mc ms (cn + mc2) (sn + ms2) σ2 I2 J2 F2 (pc + 3) (lv) (st) Q) : V l B D ac E y cc nL ret d mc ms cn sn σ I J F (pc) (lv) (stk) Q := v_callSNd hc cb hw vs hd hdd hcn hsn hst hs kk
theorem v_cSNrc {y2 : MethodName} {cc2 : ByteArray} {nL2 d2 mc2 ms2 idx : Nat} {ret2 : Option FieldType} {host : String} {As stk : List Value} {v : Value} {σ2 : v_S} {I2 : v_I} {J2 : v_J} {F2 : v_F} (hc : v_R l B D ac E y2 cc2 nL2 ret2 d2 mc2 ms2 As σ I J F (v_D (some v) σ2 I2 J2 F2)) (cb : v_cal y2 cc2 nL2 ret2 As.length) (hw : ∀ U : State, E U → va_Nw (Cond.methodLinkNest y.cls idx y2 host) U) (vs : Cond.static y2 ∈ v_T) (hd : decode cc pc = .ok (.invokestatic idx, 3)) (hdd : d2 + 1 ≤ d) (hcn : cn + mc2 ≤ mc) (hsn : sn + ms2 ≤ ms) (hst : (st.map fun v => v.category).sum ≤ 8) (hs : stk = As.reverse ++ st) (kk : V l B D ac E y cc nL ret d mc ms (cn + mc2) (sn + ms2) σ2 I2 J2 F2 (pc + 3) (lv) (v :: st) Q) : V l B D ac E y cc nL ret d mc ms cn sn σ I J F (pc) (lv) (stk) Q := v_callSNd hc cb hw vs hd hdd hcn hsn hst hs kk
theorem v_cIn {y2 : MethodName} {cc2 : ByteArray} {nL2 d2 idx : Nat} {k : Nat} {As stk : List Value} {σ2 : v_S} {I2 : v_I} {J2 : v_J} {F2 : v_F} (hc : v_R l B D ac E y2 cc2 nL2 none d2 0 0 (.ref (B + k) :: As) σ I J F (v_D none σ2 I2 J2 F2)) (cb : v_cal y2 cc2 nL2 none As.length) (hw : Cond.methodLink y.cls idx y2 ∈ v_T) (vs : Cond.instanceMethod y2 ∈ v_T) (hy : y2.name = "<init>") (hd : decode cc pc = .ok (.invokespecial idx, 3)) (hdd : d2 + 1 ≤ d) (hcn : cn ≤ mc) (hsn : sn ≤ ms) (hst : (st.map fun v => v.category).sum ≤ 8) (hs : stk = As.reverse ++ .ref (B + k) :: st) (kk : V l B D ac E y cc nL ret d mc ms cn sn σ2 I2 J2 F2 (pc + 3) (lv) (st) Q) : V l B D ac E y cc nL ret d mc ms cn sn σ I J F (pc) (lv) (stk) Q := v_callId hc cb hw vs hy hd hdd hcn hsn hst hs kk
theorem v_cInc {y2 : MethodName} {cc2 : ByteArray} {nL2 d2 mc2 ms2 idx : Nat} {k : Nat} {As stk : List Value} {σ2 : v_S} {I2 : v_I} {J2 : v_J} {F2 : v_F} (hc : v_R l B D ac E y2 cc2 nL2 none d2 mc2 ms2 (.ref (B + k) :: As) σ I J F (v_D none σ2 I2 J2 F2)) (cb : v_cal y2 cc2 nL2 none As.length) (hw : Cond.methodLink y.cls idx y2 ∈ v_T) (vs : Cond.instanceMethod y2 ∈ v_T) (hy : y2.name = "<init>") (hd : decode cc pc = .ok (.invokespecial idx, 3)) (hdd : d2 + 1 ≤ d) (hcn : cn + mc2 ≤ mc) (hsn : sn + ms2 ≤ ms) (hst : (st.map fun v => v.category).sum ≤ 8) (hs : stk = As.reverse ++ .ref (B + k) :: st) (kk : V l B D ac E y cc nL ret d mc ms (cn + mc2) (sn + ms2) σ2 I2 J2 F2 (pc + 3) (lv) (st) Q) : V l B D ac E y cc nL ret d mc ms cn sn σ I J F (pc) (lv) (stk) Q := v_callId hc cb hw vs hy hd hdd hcn hsn hst hs kk
theorem v_cINn {y2 : MethodName} {cc2 : ByteArray} {nL2 d2 idx : Nat} {host : String} {k : Nat} {As stk : List Value} {σ2 : v_S} {I2 : v_I} {J2 : v_J} {F2 : v_F} (hc : v_R l B D ac E y2 cc2 nL2 none d2 0 0 (.ref (B + k) :: As) σ I J F (v_D none σ2 I2 J2 F2)) (cb : v_cal y2 cc2 nL2 none As.length) (hw : ∀ U : State, E U → va_Nw (Cond.methodLinkNest y.cls idx y2 host) U) (vs : Cond.instanceMethod y2 ∈ v_T) (hy : y2.name = "<init>") (hd : decode cc pc = .ok (.invokespecial idx, 3)) (hdd : d2 + 1 ≤ d) (hcn : cn ≤ mc) (hsn : sn ≤ ms) (hst : (st.map fun v => v.category).sum ≤ 8) (hs : stk = As.reverse ++ .ref (B + k) :: st) (kk : V l B D ac E y cc nL ret d mc ms cn sn σ2 I2 J2 F2 (pc + 3) (lv) (st) Q) : V l B D ac E y cc nL ret d mc ms cn sn σ I J F (pc) (lv) (stk) Q := v_callINd hc cb hw vs hy hd hdd hcn hsn hst hs kk
theorem v_cINnc {y2 : MethodName} {cc2 : ByteArray} {nL2 d2 mc2 ms2 idx : Nat} {host : String} {k : Nat} {As stk : List Value} {σ2 : v_S} {I2 : v_I} {J2 : v_J} {F2 : v_F} (hc : v_R l B D ac E y2 cc2 nL2 none d2 mc2 ms2 (.ref (B + k) :: As) σ I J F (v_D none σ2 I2 J2 F2)) (cb : v_cal y2 cc2 nL2 none As.length) (hw : ∀ U : State, E U → va_Nw (Cond.methodLinkNest y.cls idx y2 host) U) (vs : Cond.instanceMethod y2 ∈ v_T) (hy : y2.name = "<init>") (hd : decode cc pc = .ok (.invokespecial idx, 3)) (hdd : d2 + 1 ≤ d) (hcn : cn + mc2 ≤ mc) (hsn : sn + ms2 ≤ ms) (hst : (st.map fun v => v.category).sum ≤ 8) (hs : stk = As.reverse ++ .ref (B + k) :: st) (kk : V l B D ac E y cc nL ret d mc ms (cn + mc2) (sn + ms2) σ2 I2 J2 F2 (pc + 3) (lv) (st) Q) : V l B D ac E y cc nL ret d mc ms cn sn σ I J F (pc) (lv) (stk) Q := v_callINd hc cb hw vs hy hd hdd hcn hsn hst hs kk

theorem v_iincE {i : Nat} {n : Int} {x : Int32} (v : Int32) (hd : decode cc pc = .ok (.iinc i n, 3)) (hv0 : Int32.ofInt n = v) (hv : v_lk lv i = some (.int x)) (hn : i < nL) (k : V l B D ac E y cc nL ret d mc ms cn sn σ I J F (pc + 3) ((i, Value.int (x + v)) :: lv.filter (fun q => !(q.1 == i) && !(q.1 + 1 == i && q.2.category == 2))) (st) Q) : V l B D ac E y cc nL ret d mc ms cn sn σ I J F (pc) (lv) (st) Q := by
  subst hv0
  exact v_iinc hd hv hn k
end VP
def p_nul {β : Type} (e : Option Nat) (x : Option β) (k : Nat → Option β) : Option β := match e with
  | none => x
  | some a => k a
theorem p_nul_elim {β : Type} {e : Option Nat} {x : Option β} {k : Nat → Option β} {r : β} (h : p_nul e x k = some r) : (e = none ∧ x = some r) ∨ ∃ a, e = some a ∧ k a = some r := by
  cases e with
  | none => exact Or.inl ⟨rfl, h⟩
  | some a => exact Or.inr ⟨a, rfl, h⟩
def p_mt (i : Int32) : Option Int32 := if ¬ (i < 0 ∨ 4 ≤ i.toNatClampNeg) then some (([999, 10, 9, 9] : List Int32).getD i.toNatClampNeg 0) else none
