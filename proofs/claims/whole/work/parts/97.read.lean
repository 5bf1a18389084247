noncomputable section sp97
variable {c v : Nat → Int32} {pl : Nat → Nat} {o : Bool} {z : Nat} {S : v_S} {F : v_F}
/-! steps that stand whatever stands beside them -/
def Sg (C : Nat → Int32) (a b h : Nat) (d : Den) : Prop := ∀ C' : Nat → Int32, (∀ i, a ≤ i → i < b → C' i = C i) → seg C' a b h d
theorem Sg_cg {C C' : Nat → Int32} {a b h : Nat} {d : Den} (s : Sg C a b h d) (e : ∀ i, a ≤ i → i < b → C' i = C i) : Sg C' a b h d := fun C'' q => s C'' (fun i h1 h2 => (q i h1 h2).trans (e i h1 h2))
theorem Sg_mono {C : Nat → Int32} {a b h h' : Nat} {d : Den} (s : Sg C a b h d) (q : h ≤ h') : Sg C a b h' d := fun C' e => seg_mono (s C' e) q
theorem Sg_num {C : Nat → Int32} {a : Nat} {w : Int32} (h1 : C a &&& 15 = 1) (h2 : C a >>> 4 = w) : Sg C a (a + 1) 1 (d_num w) := fun C' e => seg_num (by rw [e a (by omega) (by omega)]; exact h1) (by rw [e a (by omega) (by omega)]; exact h2)
theorem Sg_word {C : Nat → Int32} {a w : Nat} (h1 : C a &&& 15 = 2) (h2 : C a >>> 4 = nI w) (h3 : w < 36) : Sg C a (a + 1) 1 (d_word w) := fun C' e => seg_word (by rw [e a (by omega) (by omega)]; exact h1) (by rw [e a (by omega) (by omega)]; exact h2) h3
theorem Sg_join {C : Nat → Int32} {a b e h h' s H : Nat} {d1 d2 : Den} (s1 : Sg C a b h d1) (s2 : Sg C b e h' d2) (hh : 1 ≤ h') (hab : a ≤ b) (hbe : b ≤ e) (h3 : C e &&& 15 = nI s) (hs : 6 ≤ s ∧ s ≤ 13) (hH : h ≤ H ∧ h' + 1 ≤ H) : Sg C a (e + 1) H (d_join (nI s) d1 d2) := fun C' q =>
  seg_mono (seg_join (s1 C' (fun i _ _ => q i (by omega) (by omega))) (s2 C' (fun i _ _ => q i (by omega) (by omega))) hh hbe (by rw [q e (by omega) (by omega)]; exact h3) hs) (by omega)
theorem Sg_not {C : Nat → Int32} {a b h : Nat} {d : Den} (s1 : Sg C a b h d) (hh : 1 ≤ h) (hab : a ≤ b) (h3 : C b &&& 15 = 3) : Sg C a (b + 1) h (d_not d) := fun C' q =>
  seg_not (s1 C' (fun i _ _ => q i (by omega) (by omega))) hh (by rw [q b (by omega) (by omega)]; exact h3)
theorem Sg_and {C : Nat → Int32} {a b e h : Nat} {d1 d2 : Den} (s1 : Sg C a b h d1) (s2 : Sg C (b + 1) e h d2) (hh : 1 ≤ h) (hab : a ≤ b) (hbe : b + 1 ≤ e) (he : e < 2 ^ 31) (h3 : C b &&& 15 = 4) (h4 : C b >>> 4 = nI e) : Sg C a e h (d_and d1 d2) := fun C' q =>
  seg_and (s1 C' (fun i _ _ => q i (by omega) (by omega))) (s2 C' (fun i _ _ => q i (by omega) (by omega))) hh hbe he (by rw [q b (by omega) (by omega)]; exact h3) (by rw [q b (by omega) (by omega)]; exact h4)
theorem Sg_or {C : Nat → Int32} {a b e h : Nat} {d1 d2 : Den} (s1 : Sg C a b h d1) (s2 : Sg C (b + 1) e h d2) (hh : 1 ≤ h) (hab : a ≤ b) (hbe : b + 1 ≤ e) (he : e < 2 ^ 31) (h3 : C b &&& 15 = 5) (h4 : C b >>> 4 = nI e) : Sg C a e h (d_or d1 d2) := fun C' q =>
  seg_or (s1 C' (fun i _ _ => q i (by omega) (by omega))) (s2 C' (fun i _ _ => q i (by omega) (by omega))) hh hbe he (by rw [q b (by omega) (by omega)]; exact h3) (by rw [q b (by omega) (by omega)]; exact h4)
theorem st_num (x : Int32) : d_still (d_num x) := fun _ _ _ => rfl
theorem st_word {w : Nat} (h5 : w ≠ 5) (h6 : w ≠ 6) : d_still (d_word w) := fun u w' h => by unfold d_word; rw [h w h5 h6]
theorem st_join {s : Int32} {a b : Den} (ha : d_still a) (hb : d_still b) : d_still (d_join s a b) := fun u w h => by unfold d_join; rw [ha u w h, hb u w h]
theorem st_and {a b : Den} (ha : d_still a) (hb : d_still b) : d_still (d_and a b) := fun u w h => by unfold d_and; rw [ha u w h, hb u w h]
theorem st_or {a b : Den} (ha : d_still a) (hb : d_still b) : d_still (d_or a b) := fun u w h => by unfold d_or; rw [ha u w h, hb u w h]
theorem st_not {a : Den} (ha : d_still a) : d_still (d_not a) := fun u w h => by unfold d_not; rw [ha u w h]
/-! the class's reader: all that it goes by; where it stands; what it doesn't touch -/
def Cb (I : v_I) (c v : Nat → Int32) (pl : Nat → Nat) (o : Bool) (z : Nat) : Prop :=
  z ≤ 400 ∧ I 30 3 = nI z ∧ (∀ p, p ≤ z → tkr (I 38 p) (c p) (v p)) ∧ cz c z ∧ (∀ p, p ≤ z → I 39 p = nI (pl p) ∧ pl p ≤ 400) ∧ I 30 6 = bI o
def Cd (I : v_I) (p n d s : Nat) : Prop := I 30 4 = nI p ∧ I 30 5 = I 38 p ∧ I 30 7 = nI n ∧ I 30 8 = nI d ∧ I 31 1 = nI s ∧ I 30 9 = -1 ∧ (I 31 2 = 0 ∨ I 31 2 = 1)
def Cf (s : Nat) (I I' : v_I) : Prop := ∀ a j, ¬ (a = 30 ∧ 4 ≤ j ∧ j ≠ 6) → ¬ (a = 31 ∧ (j = 1 ∨ j = 2)) → ¬ (a = 37 ∧ s ≤ j) → I' a j = I a j
def Ce (I : v_I) (s e : Nat) : Prop := I 30 9 = nI e ∧ ∃ s', s ≤ s' ∧ s' ≤ 436 ∧ I 31 1 = nI s'
theorem Cf_refl (s : Nat) (I : v_I) : Cf s I I := fun _ _ _ _ _ => rfl
theorem Cf_trans {s t : Nat} {I I' I'' : v_I} (h : Cf s I I') (h' : Cf t I' I'') (q : s ≤ t) : Cf s I I'' := fun a j h1 h2 h3 => (h' a j h1 h2 (by omega)).trans (h a j h1 h2 h3)
theorem Cf_up {s : Nat} {I I' : v_I} (h : Cf s I I') {a j : Nat} (x : Int32) (q : (a = 30 ∧ 4 ≤ j ∧ j ≠ 6) ∨ (a = 31 ∧ (j = 1 ∨ j = 2)) ∨ (a = 37 ∧ s ≤ j)) : Cf s I (v_up I' a j x) := fun b i h1 h2 h3 => by
  rw [v_up_ne _ _ (by omega)]
  exact h b i h1 h2 h3
theorem Cf_code {s : Nat} {I I' : v_I} (h : Cf s I I') {i : Nat} (q : i < s) : I' 37 i = I 37 i := h 37 i (by omega) (by omega) (by omega)
theorem Cb_f {s : Nat} {I I' : v_I} (h : Cf s I I') (B : Cb I c v pl o z) : Cb I' c v pl o z := by
  obtain ⟨b1, b2, b3, b4, b5, b6⟩ := B
  have e : ∀ a j, a ≠ 31 → a ≠ 37 → (a ≠ 30 ∨ j = 3 ∨ j = 6) → I' a j = I a j := fun a j h1 h2 h3 => h a j (by omega) (by omega) (by omega)
  refine ⟨b1, ?_, fun p hp => ?_, b4, fun p hp => ?_, ?_⟩
  · rw [e 30 3 (by decide) (by decide) (by omega)]; exact b2
  · rw [e 38 p (by decide) (by decide) (by omega)]; exact b3 p hp
  · rw [e 39 p (by decide) (by decide) (by omega)]; exact b5 p hp
  · rw [e 30 6 (by decide) (by decide) (by omega)]; exact b6
/-- the next TOKEN -/
def nxt (I : v_I) (p : Nat) : v_I := v_up (v_up I 30 4 (nI (p + 1))) 30 5 (I 38 (p + 1))
theorem nxt_row (I : v_I) (p : Nat) {a : Nat} (h : a ≠ 30) : nxt I p a = I a := by
  unfold nxt
  rw [v_up_row _ _ _ _ h, v_up_row _ _ _ _ h]
theorem c_next {I : v_I} {p n d s : Nat} (B : Cb I c v pl o z) (D : Cd I p n d s) (hp : p < z) : h_X6_nextToken S I F = some (nxt I p) := by
  have hz := B.1
  unfold h_X6_nextToken
  rw [if_neg (by rw [B.2.1, D.1]; exact nI_ge hp (by omega)), p_le, D.1, ← nI_succ]
  unfold h_X6_nextToken_J21
  rw [v_up_at, p_in_nI (by omega) (by decide), p_bs, p_le, w_row _ _ _ _ (by decide)]
  rfl
theorem Cd_next {I : v_I} {p n d s : Nat} (D : Cd I p n d s) : Cd (nxt I p) (p + 1) n d s := by
  obtain ⟨d1, d2, d3, d4, d5, d6, d7⟩ := D
  refine ⟨by simp [nxt, v_up], by simp [nxt, v_up], by simp [nxt, v_up, d3], by simp [nxt, v_up, d4], by simp [nxt, v_up, d5], by simp [nxt, v_up, d6], ?_⟩
  rw [nxt_row I p (by decide)]; exact d7
theorem Cf_next (s : Nat) (I : v_I) (p : Nat) : Cf s I (nxt I p) := Cf_up (Cf_up (Cf_refl s I) _ (by omega)) _ (by omega)
theorem c_take {I : v_I} {p n d s : Nat} (B : Cb I c v pl o z) (D : Cd I p n d s) {x m : Int32} (hx : I 38 p = x ↔ c p = m) (hm : m ≠ 0) : h_X6_take S I F x = some (if c p = m then (1, nxt I p) else (0, I)) := by
  unfold h_X6_take
  rw [D.2.1]
  by_cases h : c p = m
  · rw [if_pos (hx.mpr h), if_pos h, c_next B D (cz_lt' B.2.2.2.1 h hm), p_bs]
  · rw [if_neg (fun q => h (hx.mp q)), if_neg h]
theorem c_flt {I : v_I} {p n d s : Nat} (B : Cb I c v pl o z) (D : Cd I p n d s) (hp : p ≤ z) (hs : s ≤ 436) : ∃ I', h_X6_faultHere S I F = some (0, I') ∧ Cf s I I' ∧ Ce I' s (pl p) := by
  have hz := B.1
  refine ⟨v_up I 30 9 (nI (pl p)), ?_, Cf_up (Cf_refl s I) _ (by omega), v_up_at _ _ _ _, s, Nat.le_refl s, hs, ?_⟩
  · unfold h_X6_faultHere
    rw [D.1, p_in_nI (by omega) (by decide), p_bs, p_le, (B.2.2.2.2.1 p hp).1]
  · rw [w_row _ _ _ _ (by decide)]; exact D.2.2.2.2.1
/-! steps are added -/
def pk (w k : Int32) : Int32 := (w <<< ((4 : Int32) &&& 31)) ||| k
theorem pk_ok : ∀ w, w < 1024 → ∀ k, k < 16 → (pk (nI w) (nI k) &&& 15 = nI k ∧ pk (nI w) (nI k) >>> 4 = nI w) := by decide +kernel
def ast (I : v_I) (s k w : Nat) : v_I := v_up (v_up I 37 s (pk (nI w) (nI k))) 31 1 (nI (s + 1))
theorem cr_step {I : v_I} {s : Nat} (hS : p_SS S) (hF : p_FF F) (h1 : I 31 1 = nI s) (hs : s < 436) (k w : Nat) : f_X8_addStep S I F 31 (nI k) (nI w) = some (nI s, ast I s k w) := by
  unfold f_X8_addStep
  simp only [p_bs, p_le, p_obS hS (a := 31) (kd := 8) rfl, p_FS hF (a := 31) (i := 8) (b := 37) (by decide), p_lenS hS (a := 37) (kd := 20) (n := 436) (x := 436) rfl rfl, p_ixS hS (a := 37) (kd := 20) (n := 436) rfl, h1]
  rw [if_neg (show ¬ (436 : Int32) ≤ nI s from i_nle (a := 436) rfl rfl hs (by omega)), p_in_nI hs (by decide), p_bs, w_row _ _ _ _ (show (31 : Nat) ≠ 37 by decide), h1, ← nI_succ]
  rfl
theorem Cf_step (I : v_I) (s k w : Nat) : Cf s I (ast I s k w) := Cf_up (Cf_up (Cf_refl s I) _ (by omega)) _ (by omega)
theorem Cd_step {I : v_I} {p n d s : Nat} (D : Cd I p n d s) (k w : Nat) : Cd (ast I s k w) p n d (s + 1) := by
  obtain ⟨d1, d2, d3, d4, d5, d6, d7⟩ := D
  refine ⟨by simp [ast, v_up, d1], by simp [ast, v_up, d2], by simp [ast, v_up, d3], by simp [ast, v_up, d4], by simp [ast, v_up], by simp [ast, v_up, d6], ?_⟩
  have : ast I s k w 31 2 = I 31 2 := by simp [ast, v_up]
  rw [this]; exact d7
theorem st_2 (I : v_I) (s k w : Nat) : ast I s k w 31 2 = I 31 2 := by simp [ast, v_up]
theorem st_at (I : v_I) (s k w : Nat) : ast I s k w 37 s = pk (nI w) (nI k) := by simp [ast, v_up]
theorem st_lt (I : v_I) (s k w : Nat) {i : Nat} (h : i < s) : ast I s k w 37 i = I 37 i := Cf_code (Cf_step I s k w) h
theorem c_stepE {I : v_I} {s e : Nat} (hS : p_SS S) (hF : p_FF F) (E : Ce I s e) (k w : Int32) : ∃ x I', f_X8_addStep S I F 31 k w = some (x, I') ∧ Cf s I I' ∧ Ce I' s e := by
  obtain ⟨e1, s', h1, h2, h3⟩ := E
  unfold f_X8_addStep
  simp only [p_bs, p_le, p_obS hS (a := 31) (kd := 8) rfl, p_FS hF (a := 31) (i := 8) (b := 37) (by decide), p_lenS hS (a := 37) (kd := 20) (n := 436) (x := 436) rfl rfl, p_ixS hS (a := 37) (kd := 20) (n := 436) rfl, h3]
  by_cases h : s' = 436
  · subst h
    rw [if_pos (show (436 : Int32) ≤ nI 436 by decide)]
    exact ⟨_, _, rfl, Cf_refl _ _, e1, 436, h1, by omega, h3⟩
  · rw [if_neg (show ¬ (436 : Int32) ≤ nI s' from i_nle (a := 436) rfl rfl (by omega) (by omega)), p_in_nI (show s' < 436 by omega) (by decide), p_bs, w_row _ _ _ _ (show (31 : Nat) ≠ 37 by decide), h3, ← nI_succ]
    refine ⟨_, _, rfl, Cf_up (Cf_up (Cf_refl s I) _ (by omega)) _ (by omega), ?_, s' + 1, by omega, by omega, v_up_at _ _ _ _⟩
    rw [w_row _ _ _ _ (by decide), w_row _ _ _ _ (by decide)]; exact e1
theorem c_aim {I : v_I} {s t : Nat} (hS : p_SS S) (hF : p_FF F) (h1 : I 31 1 = nI s) (ht : t < 436) : f_X8_aimHere S I F 31 (nI t) = some (v_up I 37 t (pk (nI s) (I 37 t &&& 15))) := by
  unfold f_X8_aimHere
  rw [if_neg (nI_pos (by omega))]
  simp only [p_bs, p_le, p_obS hS (a := 31) (kd := 8) rfl, p_FS hF (a := 31) (i := 8) (b := 37) (by decide), p_lenS hS (a := 37) (kd := 20) (n := 436) (x := 436) rfl rfl, p_ixS hS (a := 37) (kd := 20) (n := 436) rfl, h1]
  rw [if_neg (show ¬ (436 : Int32) ≤ nI t from i_nle (a := 436) rfl rfl ht (by omega)), p_in_nI ht (by decide), p_bs, p_bs]
  rfl
/-! it reads as told -/
def Rok (pl : Nat → Nat) (z : Nat) (f : Option (Int32 × v_I)) (I : v_I) (p dp s h : Nat) (x : PR) : Prop :=
  (∀ e, x = .inl e → e ≤ z ∧ ∃ I', f = some (0, I') ∧ Cf s I I' ∧ Ce I' s (pl e)) ∧
  (∀ r, x = .inr r → r.2.1 ≤ 50 ∧ ∃ I' s', f = some (1, I') ∧ Cf s I I' ∧ Cd I' r.1 r.2.1 dp s' ∧ s ≤ s' ∧ s' + p ≤ s + r.1 ∧ Sg (I' 37) s s' h r.2.2 ∧ (I' 31 2 = 0 → I 31 2 = 0 ∧ d_still r.2.2))
def okC (c v : Nat → Int32) (pl : Nat → Nat) (o : Bool) (z dp h : Nat) (f : v_I → Option (Int32 × v_I)) (item : Nat → Nat → PR) : Prop :=
  ∀ I p n s, Cb I c v pl o z → Cd I p n dp s → p ≤ z → n ≤ 50 → s ≤ p + 35 → Rok pl z (f I) I p dp s h (item p n)
/-- a loop's pass, as told -/
def Rst (pl : Nat → Nat) (z : Nat) (f : Option ((Int32 × Int32 × v_I) ⊕ (Int32 × Int32 × v_I))) (i : Nat) (I : v_I) (p dp a s H : Nat) (d : Den) (g : Den → Den → Den) (x : PR) : Prop :=
  (∀ e, x = .inl e → e ≤ z ∧ ∃ I', f = some (.inl (0, nI (i + 1), I')) ∧ Cf s I I' ∧ Ce I' s (pl e)) ∧
  (∀ r, x = .inr r → r.2.1 ≤ 50 ∧ ∃ I' s', f = some (.inl (1, nI (i + 1), I')) ∧ Cf s I I' ∧ Cd I' r.1 r.2.1 dp s' ∧ s ≤ s' ∧ s' + p ≤ s + r.1 ∧ Sg (I' 37) a s' H (g d r.2.2) ∧ (I' 31 2 = 0 → I 31 2 = 0 ∧ (d_still d → d_still (g d r.2.2))))
theorem c_chl {dp H : Nat} {op : Int32 → Option (Den → Den → Den)} {item : Nat → Nat → PR} {body : Int32 × Int32 × v_I → Option ((Int32 × Int32 × v_I) ⊕ (Int32 × Int32 × v_I))} (h0 : op 0 = none) (hm : mo z item)
    (hb : ∀ i I p n s, i < 400 → Cb I c v pl o z → Cd I p n dp s → p ≤ z → op (c p) = none → body (1, nI i, I) = some (.inr (1, nI i, I)))
    (hs : ∀ i I p n s a d g, i < 400 → Cb I c v pl o z → Cd I p n dp s → p < z → n ≤ 50 → s ≤ p + 35 → a ≤ s → op (c p) = some g → Sg (I 37) a s H d → Rst pl z (body (1, nI i, I)) i I p dp a s H d g (item (p + 1) n))
    (hx : ∀ i I, body (0, i, I) = some (.inr (0, i, I))) (he : ∀ I, body (1, 400, I) = some (.inr (1, 400, I))) :
    ∀ (f i m : Nat) (I : v_I) (p n s a : Nat) (d : Den), i + f = 400 → f + 2 ≤ m → Cb I c v pl o z → Cd I p n dp s → p ≤ z → n ≤ 50 → s ≤ p + 35 → a ≤ s → Sg (I 37) a s H d →
      (∀ e, sp_chl c op item f p n d = .inl e → e ≤ z ∧ ∃ k I', v_loop body m (1, nI i, I) = some (0, k, I') ∧ Cf s I I' ∧ Ce I' s (pl e)) ∧
      (∀ r, sp_chl c op item f p n d = .inr r → r.2.1 ≤ 50 ∧ ∃ k I' s', v_loop body m (1, nI i, I) = some (1, k, I') ∧ Cf s I I' ∧ Cd I' r.1 r.2.1 dp s' ∧ s ≤ s' ∧ s' + p ≤ s + r.1 ∧ Sg (I' 37) a s' H r.2.2 ∧ (I' 31 2 = 0 → I 31 2 = 0 ∧ (d_still d → d_still r.2.2))) := by
  intro f
  induction f with
  | zero =>
    intro i m I p n s a d hi hm' B D hp hn hsp ha hg
    obtain ⟨m, rfl⟩ : ∃ k, m = k + 1 := ⟨m - 1, by omega⟩
    have : i = 400 := by omega
    subst this
    unfold sp_chl
    refine ⟨(fun e h => by cases h), fun r h => ?_⟩
    cases h
    refine ⟨hn, 400, I, s, ?_, Cf_refl _ _, D, Nat.le_refl _, Nat.le_refl _, hg, fun q => ⟨q, id⟩⟩
    have := he I
    rw [show (400 : Int32) = nI 400 from rfl] at this
    simp only [v_loop, this]
    rfl
  | succ f ih =>
    intro i m I p n s a d hi hm' B D hp hn hsp ha hg
    obtain ⟨m, rfl⟩ : ∃ k, m = k + 1 := ⟨m - 1, by omega⟩
    unfold sp_chl
    cases h1 : op (c p) with
    | none =>
      refine ⟨(fun e h => by cases h), fun r h => ?_⟩
      cases h
      refine ⟨hn, nI i, I, s, ?_, Cf_refl _ _, D, Nat.le_refl _, Nat.le_refl _, hg, fun q => ⟨q, id⟩⟩
      simp only [v_loop, hb i I p n s (by omega) B D hp h1]
    | some g =>
      have hlt : p < z := cz_lt B.2.2.2.1 (fun q => by rw [q, h0] at h1; cases h1)
      dsimp only
      obtain ⟨i1, i2⟩ := hs i I p n s a d g (by omega) B D hlt hn hsp ha h1 hg
      cases h2 : item (p + 1) n with
      | inl e =>
        obtain ⟨he', I', e1, e2, e3⟩ := i1 e h2
        refine ⟨fun e' h => ?_, (fun r h => by cases h)⟩
        cases h
        refine ⟨he', nI (i + 1), I', ?_, e2, e3⟩
        obtain ⟨m, rfl⟩ : ∃ k, m = k + 1 := ⟨m - 1, by omega⟩
        simp only [v_loop, e1, hx]
      | inr r =>
        obtain ⟨hn', I', s', e1, e2, e3, e4, e5, e6, e7⟩ := i2 r h2
        have hr := hm _ _ _ h2
        have eq : v_loop body (m + 1) (1, nI i, I) = v_loop body m (1, nI (i + 1), I') := by simp only [v_loop, e1]
        rw [eq]
        obtain ⟨k1, k2⟩ := ih (i + 1) m I' r.1 r.2.1 s' a (g d r.2.2) (by omega) (by omega) (Cb_f e2 B) e3 hr.2 hn' (by omega) (by omega) e6
        refine ⟨fun e h => ?_, fun u h => ?_⟩
        · obtain ⟨a1, k, I2, a2, a3, a4, s2, a5, a6, a7⟩ := k1 e h
          exact ⟨a1, k, I2, a2, Cf_trans e2 a3 e4, a4, s2, by omega, a6, a7⟩
        · obtain ⟨a1, k, I2, s2, a2, a3, a4, a5, a6, a7, a8⟩ := k2 u h
          exact ⟨a1, k, I2, s2, a2, Cf_trans e2 a3 e4, a4, by omega, by omega, a7, fun q => ⟨(e7 (a8 q).1).1, fun w => (a8 q).2 ((e7 (a8 q).1).2 w)⟩⟩
theorem c_chn {dp h H : Nat} {op : Int32 → Option (Den → Den → Den)} {item : Nat → Nat → PR} {body : Int32 × Int32 × v_I → Option ((Int32 × Int32 × v_I) ⊕ (Int32 × Int32 × v_I))} {f1 : v_I → Option (Int32 × v_I)} (h0 : op 0 = none) (hm : mo z item) (hH : h ≤ H)
    (hb : ∀ i I p n s, i < 400 → Cb I c v pl o z → Cd I p n dp s → p ≤ z → op (c p) = none → body (1, nI i, I) = some (.inr (1, nI i, I)))
    (hs : ∀ i I p n s a d g, i < 400 → Cb I c v pl o z → Cd I p n dp s → p < z → n ≤ 50 → s ≤ p + 35 → a ≤ s → op (c p) = some g → Sg (I 37) a s H d → Rst pl z (body (1, nI i, I)) i I p dp a s H d g (item (p + 1) n))
    (hx : ∀ i I, body (0, i, I) = some (.inr (0, i, I))) (he : ∀ I, body (1, 400, I) = some (.inr (1, 400, I))) (hi : okC c v pl o z dp h f1 item) :
    okC c v pl o z dp H (fun I => (f1 I).bind fun r => (v_loop body FU (r.1, 0, r.2)).bind fun q => (p_bl q.1).bind fun _ => some (q.1, q.2.2)) (sp_chn c op item) := by
  intro I p n s B D hp hn hsp
  obtain ⟨i1, i2⟩ := hi I p n s B D hp hn hsp
  unfold Rok sp_chn
  dsimp only
  cases h2 : item p n with
  | inl e =>
    obtain ⟨he', I', e1, e2, e3⟩ := i1 e h2
    refine ⟨fun e' h => ?_, (fun r h => by cases h)⟩
    cases h
    refine ⟨he', I', ?_, e2, e3⟩
    have : v_loop body FU (0, 0, I') = some (0, 0, I') := by
      obtain ⟨m, hF⟩ : ∃ k, FU = k + 1 := ⟨FU - 1, by rw [FU_eq]⟩
      rw [hF]
      simp only [v_loop, hx]
    rw [e1, p_bs]; dsimp only
    rw [this, p_bs]
    rfl
  | inr r =>
    obtain ⟨hn', I', s', e1, e2, e3, e4, e5, e6, e7⟩ := i2 r h2
    have hr := hm _ _ _ h2
    obtain ⟨k1, k2⟩ := c_chl h0 hm hb hs hx he 400 0 FU I' r.1 r.2.1 s' s r.2.2 (by omega) (by rw [FU_eq]; omega) (Cb_f e2 B) e3 hr.2 hn' (by omega) e4 (Sg_mono e6 hH)
    rw [show nI 0 = (0 : Int32) from rfl] at k1 k2
    dsimp only
    refine ⟨fun e h => ?_, fun u h => ?_⟩
    · obtain ⟨a1, k, I2, a2, a3, a4, s2, a5, a6, a7⟩ := k1 e h
      refine ⟨a1, I2, ?_, Cf_trans e2 a3 e4, a4, s2, by omega, a6, a7⟩
      rw [e1, p_bs]; dsimp only
      rw [a2, p_bs]
      rfl
    · obtain ⟨a1, k, I2, s2, a2, a3, a4, a5, a6, a7, a8⟩ := k2 u h
      refine ⟨a1, I2, s2, ?_, Cf_trans e2 a3 e4, a4, by omega, by omega, a7, fun q => ⟨(e7 (a8 q).1).1, (a8 q).2 (e7 (a8 q).1).2⟩⟩
      rw [e1, p_bs]; dsimp only
      rw [a2, p_bs]
      rfl
end sp97
