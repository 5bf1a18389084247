noncomputable section sp98d
variable {c v : Nat → Int32} {pl : Nat → Nat} {o : Bool} {z : Nat} {S : v_S} {F : v_F}
/-! the class reads CLAUSES, a TEXT -/
def cdS (C : Nat → Int32) (s : Nat) (a : Int32) (o : Option Den) : Prop := match o with
  | none => a = -1
  | some d => ∃ q b h : Nat, q ≤ b ∧ b < s ∧ h ≤ 30 ∧ a = nI q ∧ Sg C q b h d ∧ C b &&& 15 = 0
theorem cdS_cg {C C' : Nat → Int32} {s s' : Nat} {a : Int32} {o : Option Den} (h : cdS C s a o) (hs : s ≤ s') (e : ∀ i, i < s → C' i = C i) : cdS C' s' a o := by
  cases o with
  | none => exact h
  | some d =>
    obtain ⟨q, b, k, h1, h2, h3, h4, h5, h6⟩ := h
    exact ⟨q, b, k, h1, by omega, h3, h4, Sg_cg h5 (fun i _ hi => e i (by omega)), by rw [e b h2]; exact h6⟩
theorem cdS_R {C : Nat → Int32} {s : Nat} {a : Int32} {o : Option Den} (h : cdS C s a o) (hs : s ≤ 436) {C' : Nat → Int32} (e : ∀ i, i < s → C' i = C i) : cd_R C' s a o := by
  cases o with
  | none => exact h
  | some d =>
    obtain ⟨q, b, k, h1, h2, h3, h4, h5, h6⟩ := h
    exact ⟨q, by omega, h4, fun vals => seg_end (h5 C' (fun i _ hi => e i (by omega))) h3 h2 (by rw [e b h2]; exact h6) vals⟩
def ck (I : v_I) (i s : Nat) (x : Cls) : Prop := I 32 i = x.1 ∧ cdS (I 37) s (I 33 i) x.2.1 ∧ cdS (I 37) s (I 34 i) x.2.2.1 ∧ cdS (I 37) s (I 35 i) x.2.2.2.1 ∧ I 36 i = x.2.2.2.2
def sl1 (x : Cls) : Prop := (∀ d, x.2.1 = some d → d_still d) ∧ (∀ d, x.2.2.2.1 = some d → d_still d)
def Pc (I : v_I) (k s : Nat) (x : Cls) : Prop := I 31 0 = nI (k + 1) ∧ ck I k s x ∧ (I 31 2 = 0 → sl1 x)
def Cg (k s : Nat) (I I' : v_I) : Prop := ∀ a j, ¬ (a = 30 ∧ 4 ≤ j ∧ j ≠ 6) → a ≠ 31 → ¬ (32 ≤ a ∧ a ≤ 36 ∧ k ≤ j) → ¬ (a = 37 ∧ s ≤ j) → I' a j = I a j
theorem Cg_f {k s : Nat} {I I' : v_I} (h : Cf s I I') : Cg k s I I' := fun a j h1 h2 h3 h4 => h a j h1 (by omega) h4
theorem Cg_refl (k s : Nat) (I : v_I) : Cg k s I I := fun _ _ _ _ _ _ => rfl
theorem Cg_trans {k k' s t : Nat} {I I' I'' : v_I} (h : Cg k s I I') (h' : Cg k' t I' I'') (q : s ≤ t) (qk : k ≤ k') : Cg k s I I'' := fun a j h1 h2 h3 h4 => (h' a j h1 h2 (by omega) (by omega)).trans (h a j h1 h2 h3 h4)
theorem Cg_up {k s : Nat} {I I' : v_I} (h : Cg k s I I') {a j : Nat} (x : Int32) (q : (a = 30 ∧ 4 ≤ j ∧ j ≠ 6) ∨ a = 31 ∨ (32 ≤ a ∧ a ≤ 36 ∧ k ≤ j) ∨ (a = 37 ∧ s ≤ j)) : Cg k s I (v_up I' a j x) := fun b i h1 h2 h3 h4 => by
  rw [v_up_ne _ _ (by omega)]
  exact h b i h1 h2 h3 h4
theorem Cb_g {k s : Nat} {I I' : v_I} (h : Cg k s I I') (B : Cb I c v pl o z) : Cb I' c v pl o z := by
  obtain ⟨b1, b2, b3, b4, b5, b6⟩ := B
  refine ⟨b1, ?_, fun p hp => ?_, b4, fun p hp => ?_, ?_⟩
  · rw [h 30 3 (by omega) (by omega) (by omega) (by omega)]; exact b2
  · rw [h 38 p (by omega) (by omega) (by omega) (by omega)]; exact b3 p hp
  · rw [h 39 p (by omega) (by omega) (by omega) (by omega)]; exact b5 p hp
  · rw [h 30 6 (by omega) (by omega) (by omega) (by omega)]; exact b6
theorem Cd_row {I : v_I} {p n d s : Nat} (D : Cd I p n d s) {a : Nat} (ha : a ≠ 30 ∧ a ≠ 31 ∧ a ≠ 38) (t : Nat) (x : Int32) : Cd (v_up I a t x) p n d s := by
  unfold Cd
  rw [w_row _ _ _ _ (show (30 : Nat) ≠ a by omega), w_row _ _ _ _ (show (31 : Nat) ≠ a by omega), w_row _ _ _ _ (show (38 : Nat) ≠ a by omega)]
  exact D
/-- a clause, as told, with so many steps more than TOKENS -/
def Rcl (pl : Nat → Nat) (z : Nat) (f : Option (Int32 × v_I)) (I : v_I) (p k s j : Nat) (x : CR) : Prop :=
  (∀ e, x = .inl e → e ≤ z ∧ ∃ I', f = some (0, I') ∧ Cg k s I I' ∧ I' 30 9 = nI (pl e)) ∧
  (∀ r, x = .inr r → r.2.1 ≤ 50 ∧ r.1 ≤ z ∧ ∃ I' s', f = some (1, I') ∧ Cg k s I I' ∧ Cd I' r.1 r.2.1 0 s' ∧ s ≤ s' ∧ s' + p ≤ s + r.1 + j ∧ Pc I' k s' r.2.2 ∧ (I' 31 2 = 0 → I 31 2 = 0))
theorem Rcl_flt {I : v_I} {p n k s j : Nat} (B : Cb I c v pl o z) (D : Cd I p n 0 s) (hp : p ≤ z) (hs : s ≤ 436) : Rcl pl z ((h_X6_faultHere S I F).bind fun r => (p_bl r.1).bind fun _ => some (r.1, r.2)) I p k s j (.inl p) := by
  obtain ⟨I', e1, e2, e3⟩ := c_flt (S := S) (F := F) B D hp hs
  refine ⟨fun e h => ?_, (fun r h => by cases h)⟩
  cases h
  refine ⟨hp, I', ?_, Cg_f e2, e3.1⟩
  rw [e1, p_bs]
  rfl
/-- a SUM, a TEST, its end behind it -/
theorem c_end {dp h p n s : Nat} {I : v_I} {item : Nat → Nat → PR} {f : v_I → Option (Int32 × v_I)} (hS : p_SS S) (hF : p_FF F) (hi : okC c v pl o z dp h f item) (hm : mo z item) (B : Cb I c v pl o z) (D : Cd I p n dp s) (hp : p ≤ z) (hn : n ≤ 50) (hsp : s ≤ p + 35) :
    (∀ e, item p n = .inl e → e ≤ z ∧ ∃ J x I', f I = some (0, J) ∧ f_X8_addStep S J F 31 0 0 = some (x, I') ∧ Cf s I I' ∧ I' 30 9 = nI (pl e)) ∧
    (∀ r, item p n = .inr r → r.2.1 ≤ 50 ∧ r.1 ≤ z ∧ ∃ J x I' s', f I = some (1, J) ∧ f_X8_addStep S J F 31 0 0 = some (x, I') ∧ Cf s I I' ∧ Cd I' r.1 r.2.1 dp s' ∧ s ≤ s' ∧ s' + p ≤ s + r.1 + 1 ∧ (∃ b, s ≤ b ∧ b < s' ∧ Sg (I' 37) s b h r.2.2 ∧ I' 37 b &&& 15 = 0) ∧ (I' 31 2 = 0 → I 31 2 = 0 ∧ d_still r.2.2)) := by
  have hz := B.1
  obtain ⟨i1, i2⟩ := hi I p n s B D hp hn hsp
  refine ⟨fun e h2 => ?_, fun r h2 => ?_⟩
  · obtain ⟨he, J, e1, e2, e3⟩ := i1 e h2
    obtain ⟨x, I', a1, a2, a3⟩ := c_stepE (S := S) (F := F) hS hF e3 0 0
    exact ⟨he, J, x, I', e1, a1, Cf_trans e2 a2 (Nat.le_refl _), a3.1⟩
  · obtain ⟨hn', J, s', e1, e2, e3, e4, e5, e6, e7⟩ := i2 r h2
    have hr := hm _ _ _ h2
    have c1 := cr_step (S := S) (F := F) hS hF e3.2.2.2.2.1 (by omega) 0 0
    rw [show nI 0 = (0 : Int32) from rfl] at c1
    have pkk := pk_ok 0 (by omega) 0 (by omega)
    refine ⟨hn', hr.2, J, _, _, s' + 1, e1, c1, Cf_trans e2 (Cf_step J s' 0 0) e4, Cd_step e3 0 0, by omega, by omega, ⟨s', e4, by omega, Sg_cg e6 (fun i h1 h2 => st_lt _ _ _ _ h2), by rw [st_at]; exact pkk.1⟩, fun q => ?_⟩
    rw [st_2] at q
    exact e7 q
theorem k_in {k : Nat} (h : k < 12) : p_in 12 (nI k) = some k := p_in_nI h (by decide)
/-- "if" -/
theorem c_if {I : v_I} {p n k s : Nat} {kd tm : Int32} {a b : Option Den} (hS : p_SS S) (hF : p_FF F) (B : Cb I c v pl o z) (D : Cd I p n 0 s) (hp : p ≤ z) (hn : n ≤ 50) (hsp : s ≤ p + 35) (hk : k < 12) (P : Pc I k s (kd, a, b, none, tm)) : Rcl pl z (h_X6_readClause_J112 S F I (nI k) 1) I p k s 1 (sp_if c v o p n kd a b tm) := by
  have hz := B.1
  unfold sp_if h_X6_readClause_J112
  rw [if_neg (by decide), c_take B D (tk_if (B.2.2.1 p hp)) (by decide), p_bs]
  by_cases q : c p = 4
  · have hlt := cz_lt' B.2.2.2.1 q (by decide)
    rw [if_pos q, if_pos q]
    dsimp only
    rw [if_neg (by decide), k_in hk, p_bs, p_le]
    have DN := Cd_next D
    rw [DN.2.2.2.2.1]
    have g1 : Cg k s I (v_up (nxt I p) 35 k (nI s)) := Cg_up (Cg_f (Cf_next s I p)) _ (by omega)
    have D1 := Cd_row DN (a := 35) (by decide) k (nI s)
    have x2 : v_up (nxt I p) 35 k (nI s) 31 = I 31 := by rw [w_row _ _ _ _ (by decide), nxt_row _ _ (by decide)]
    have xr : ∀ a, a ≠ 30 → a ≠ 35 → v_up (nxt I p) 35 k (nI s) a = I a := fun a h1 h2 => by rw [w_row _ _ _ _ h2, nxt_row _ _ h1]
    have x35 : v_up (nxt I p) 35 k (nI s) 35 k = nI s := w_at _ _ _ _
    generalize v_up (nxt I p) 35 k (nI s) = A at g1 D1 x2 xr x35
    obtain ⟨k1, k2⟩ := c_end hS hF (c_test (v := v) (pl := pl) (o := o) hS hF B.2.2.2.1 8 (by omega) GNN (by rw [GN_eq]; omega)) (mo_test B.2.2.2.1 8) (Cb_g g1 B) D1 (by omega) hn (by omega)
    cases h2 : sp_test c v o 8 (p + 1) n with
    | inl e =>
      obtain ⟨he, J, x, I', e1, e2, e3, e4⟩ := k1 e h2
      refine ⟨fun e' h => ?_, (fun r h => by cases h)⟩
      cases h
      refine ⟨he, I', ?_, Cg_trans g1 (Cg_f (k := k) e3) (Nat.le_refl _) (Nat.le_refl _), e4⟩
      rw [e1, p_bs]; dsimp only
      rw [e2, p_bs]; rfl
    | inr r =>
      obtain ⟨hn', hr, J, x, I', s', e1, e2, e3, e4, e5, e6, ⟨b', f1, f2, f3, f4⟩, e8⟩ := k2 r h2
      refine ⟨(fun e h => by cases h), fun u h => ?_⟩
      cases h
      have yr : ∀ a, a ≠ 30 → a ≠ 31 → a ≠ 37 → I' a = A a := fun a h1 h2 h3 => funext fun j => e3 a j (by omega) (by omega) (by omega)
      have yc : ∀ i, i < s → I' 37 i = I 37 i := fun i hi => by rw [Cf_code e3 hi, xr 37 (by decide) (by decide)]
      obtain ⟨p1, ⟨p2, p3, p4, p5, p6⟩, p7⟩ := P
      refine ⟨hn', hr, I', s', ?_, Cg_trans g1 (Cg_f (k := k) e3) (Nat.le_refl _) (Nat.le_refl _), e4, e5, by dsimp only; omega, ⟨?_, ⟨?_, ?_, ?_, ?_, ?_⟩, fun w => ?_⟩, fun w => ?_⟩
      · rw [e1, p_bs]; dsimp only
        rw [e2, p_bs]; rfl
      · rw [e3 31 0 (by omega) (by omega) (by omega), x2]; exact p1
      · rw [yr 32 (by decide) (by decide) (by decide), xr 32 (by decide) (by decide)]; exact p2
      · rw [yr 33 (by decide) (by decide) (by decide), xr 33 (by decide) (by decide)]; exact cdS_cg p3 e5 yc
      · rw [yr 34 (by decide) (by decide) (by decide), xr 34 (by decide) (by decide)]; exact cdS_cg p4 e5 yc
      · rw [yr 35 (by decide) (by decide) (by decide), x35]
        exact ⟨s, b', _, f1, f2, by omega, rfl, f3, f4⟩
      · rw [yr 36 (by decide) (by decide) (by decide), xr 36 (by decide) (by decide)]; exact p6
      · have := e8 w
        rw [x2] at this
        refine ⟨(p7 this.1).1, fun d hd => ?_⟩
        cases hd
        exact this.2
      · have := e8 w
        rw [x2] at this
        exact this.1
  · rw [if_neg q, if_neg q]
    dsimp only
    rw [if_pos rfl]
    refine ⟨(fun e h => by cases h), fun u h => ?_⟩
    cases h
    exact ⟨hn, hp, I, s, rfl, Cg_refl _ _ _, D, Nat.le_refl _, by dsimp only; omega, P, id⟩
theorem c_ifX (I : v_I) (y : Int32) : h_X6_readClause_J112 S F I y 0 = some (0, I) := by
  unfold h_X6_readClause_J112
  rw [if_pos rfl]; rfl
/-- what comes behind -/
theorem Rcl_then {f : Option (Int32 × v_I)} {I A : v_I} {p p' k s s' j j' : Nat} {x : CR} (h : Rcl pl z f A p' k s' j x) (g : Cg k s I A) (hs : s ≤ s') (hj : s' + p + j ≤ s + p' + j') (h2 : A 31 2 = 0 → I 31 2 = 0) : Rcl pl z f I p k s j' x := by
  refine ⟨fun e he => ?_, fun r hr => ?_⟩
  · obtain ⟨a, I', b1, b2, b3⟩ := h.1 e he
    exact ⟨a, I', b1, Cg_trans g b2 hs (Nat.le_refl _), b3⟩
  · obtain ⟨a, a', I', t, b1, b2, b3, b4, b5, b6, b7⟩ := h.2 r hr
    exact ⟨a, a', I', t, b1, Cg_trans g b2 hs (Nat.le_refl _), b3, by omega, by omega, b6, fun w => h2 (b7 w)⟩
/-- a SUM laid into a row -/
theorem c_sumK {I : v_I} {p n k s q j : Nat} {g : Int32 × v_I → Option (Int32 × v_I)} {x : Nat × Nat × Den → CR} (hS : p_SS S) (hF : p_FF F) (B : Cb I c v pl o z) (D : Cd I p n 0 s) (hp : p ≤ z) (hn : n ≤ 50) (hsp : s ≤ p + 35) (hk : k < 12) (hq : q = 33 ∨ q = 34)
    (gX : ∀ J, g (0, J) = some (0, J)) (hg : ∀ r I' s', sp_sum c v o 8 p n = .inr r → r.2.1 ≤ 50 → r.1 ≤ z → Cg k s I I' → (∀ a, a ≠ 30 → a ≠ 31 → a ≠ 37 → a ≠ q → I' a = I a) → (∀ i, i < s → I' 37 i = I 37 i) → I' 31 0 = I 31 0 → cdS (I' 37) s' (I' q k) (some r.2.2) → Cd I' r.1 r.2.1 0 s' → s ≤ s' → s' + p ≤ s + r.1 + 1 → (I' 31 2 = 0 → I 31 2 = 0 ∧ d_still r.2.2) → Rcl pl z (g (1, I')) I p k s j (x r)) :
    Rcl pl z ((p_in 12 (nI k)).bind fun j_2 => p_let (v_up I q j_2 (I 31 1)) fun I_3 => (gh_X6_readTest GNN 4 0 S I_3 F).bind fun r_5 => (f_X8_addStep S r_5.2 F 31 (0 : Int32) (0 : Int32)).bind fun r_7 => g (r_5.1, r_7.2)) I p k s j (match sp_sum c v o 8 p n with | .inl e => .inl e | .inr r => x r) := by
  have hz := B.1
  rw [k_in hk, p_bs, p_le, D.2.2.2.2.1]
  have hq' : q ≠ 30 ∧ q ≠ 31 ∧ q ≠ 38 := by omega
  have g1 : Cg k s I (v_up I q k (nI s)) := Cg_up (Cg_refl _ _ _) _ (by omega)
  have D1 := Cd_row D (a := q) hq' k (nI s)
  have xr : ∀ a, a ≠ q → v_up I q k (nI s) a = I a := fun a h1 => w_row _ _ _ _ h1
  have xq : v_up I q k (nI s) q k = nI s := w_at _ _ _ _
  generalize v_up I q k (nI s) = A at g1 D1 xr xq
  obtain ⟨k1, k2⟩ := c_end hS hF (c_sum (v := v) (pl := pl) (o := o) hS hF B.2.2.2.1 8 (by omega) GNN (by rw [GN_eq]; omega)) (mo_sum B.2.2.2.1 8) (Cb_g g1 B) D1 hp hn (by omega)
  cases h2 : sp_sum c v o 8 p n with
  | inl e =>
    obtain ⟨he, J, x, I', e1, e2, e3, e4⟩ := k1 e h2
    refine ⟨fun e' h => ?_, (fun r h => by cases h)⟩
    cases h
    refine ⟨he, I', ?_, Cg_trans g1 (Cg_f (k := k) e3) (Nat.le_refl _) (Nat.le_refl _), e4⟩
    rw [e1, p_bs]; dsimp only
    rw [e2, p_bs]; exact gX _
  | inr r =>
    obtain ⟨hn', hr, J, y, I', s', e1, e2, e3, e4, e5, e6, ⟨b', f1, f2, f3, f4⟩, e8⟩ := k2 r h2
    have yr : ∀ a, a ≠ 30 → a ≠ 31 → a ≠ 37 → I' a = A a := fun a h1 h2 h3 => funext fun j => e3 a j (by omega) (by omega) (by omega)
    have := hg r I' s' h2 hn' hr (Cg_trans g1 (Cg_f (k := k) e3) (Nat.le_refl _) (Nat.le_refl _)) (fun a h1 h2 h3 h4 => by rw [yr a h1 h2 h3, xr a h4]) (fun i hi => by rw [Cf_code e3 hi, xr 37 (by omega)]) (by rw [e3 31 0 (by omega) (by omega) (by omega), xr 31 (by omega)]) (by
      rw [yr q (by omega) (by omega) (by omega), xq]
      exact ⟨s, b', _, f1, f2, by omega, rfl, f3, f4⟩) e4 e5 (by omega) (fun w => by have := e8 w; rw [xr 31 (by omega)] at this; exact this)
    rw [e1, p_bs]; dsimp only
    rw [e2, p_bs]
    exact this
/-- room for a CLAUSE -/
theorem c_addC {I : v_I} {p n k s : Nat} (hS : p_SS S) (hF : p_FF F) (D : Cd I p n 0 s) (h0 : I 31 0 = nI k) (hk : k < 12) (kd : Int32) : ∃ I', f_X8_addClause S I F 31 kd = some (1, I') ∧ Cg k s I I' ∧ Cd I' p n 0 s ∧ Pc I' k s (kd, none, none, none, 1) ∧ I' 31 2 = I 31 2 := by
  unfold f_X8_addClause
  simp only [p_bs, p_le, p_obS hS (a := 31) (kd := 8) rfl, p_FS hF (a := 31) (i := 3) (b := 32) (by decide), p_FS hF (a := 31) (i := 4) (b := 33) (by decide), p_FS hF (a := 31) (i := 5) (b := 34) (by decide), p_FS hF (a := 31) (i := 6) (b := 35) (by decide), p_FS hF (a := 31) (i := 7) (b := 36) (by decide), p_lenS hS (a := 32) (kd := 20) (n := 12) (x := 12) rfl rfl, p_ixS hS (a := 32) (kd := 20) (n := 12) rfl, p_ixS hS (a := 33) (kd := 20) (n := 12) rfl, p_ixS hS (a := 34) (kd := 20) (n := 12) rfl, p_ixS hS (a := 35) (kd := 20) (n := 12) rfl, p_ixS hS (a := 36) (kd := 20) (n := 12) rfl]
  have e31 : ∀ (J : v_I) (a j : Nat) (x : Int32), a ≠ 31 → v_up J a j x 31 0 = J 31 0 := fun J a j x h => by rw [w_row _ _ _ _ (fun q => h q.symm)]
  rw [h0, if_pos (show nI k < 12 from i_lt rfl (b := 12) rfl hk (by omega)), k_in hk]
  simp only [p_bs, e31 _ 32 _ _ (by decide), e31 _ 33 _ _ (by decide), e31 _ 34 _ _ (by decide), e31 _ 35 _ _ (by decide), e31 _ 36 _ _ (by decide), h0, k_in hk, ← nI_succ]
  refine ⟨_, rfl, ?_, ?_, ⟨?_, ⟨?_, ?_, ?_, ?_, ?_⟩, fun _ => ⟨fun d h => (by cases h), fun d h => (by cases h)⟩⟩, ?_⟩
  · exact Cg_up (Cg_up (Cg_up (Cg_up (Cg_up (Cg_up (Cg_refl k s I) _ (by omega)) _ (by omega)) _ (by omega)) _ (by omega)) _ (by omega)) _ (by omega)
  · have D5 := Cd_row (Cd_row (Cd_row (Cd_row (Cd_row D (a := 32) (by decide) k kd) (a := 33) (by decide) k (-1)) (a := 34) (by decide) k (-1)) (a := 35) (by decide) k (-1)) (a := 36) (by decide) k 1
    obtain ⟨d1, d2, d3, d4, d5, d6, d7⟩ := D5
    refine ⟨by rw [w_row _ _ _ _ (by decide)]; exact d1, by rw [w_row _ _ _ _ (by decide), w_row _ _ _ _ (by decide)]; exact d2, by rw [w_row _ _ _ _ (by decide)]; exact d3, by rw [w_row _ _ _ _ (by decide)]; exact d4, by rw [w_ne _ _ _ _ (by decide)]; exact d5, by rw [w_row _ _ _ _ (by decide)]; exact d6, by rw [w_ne _ _ _ _ (by decide)]; exact d7⟩
  · exact v_up_at _ _ _ _
  · simp [v_up]
  · show _ = (-1 : Int32); simp [v_up]
  · show _ = (-1 : Int32); simp [v_up]
  · show _ = (-1 : Int32); simp [v_up]
  · simp [v_up]
  · simp [v_up]
theorem c_addX {I : v_I} (hS : p_SS S) (hF : p_FF F) (h0 : I 31 0 = nI 12) (kd : Int32) : f_X8_addClause S I F 31 kd = some (0, I) := by
  unfold f_X8_addClause
  simp only [p_bs, p_le, p_obS hS (a := 31) (kd := 8) rfl, p_FS hF (a := 31) (i := 3) (b := 32) (by decide), p_lenS hS (a := 32) (kd := 20) (n := 12) (x := 12) rfl rfl]
  rw [h0, if_neg (by decide)]
end sp98d
