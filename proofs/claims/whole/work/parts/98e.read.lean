noncomputable section sp98e
variable {c v : Nat → Int32} {pl : Nat → Nat} {o : Bool} {z : Nat} {S : v_S} {F : v_F}
theorem Pc_row {I A : v_I} {k s : Nat} {x : Cls} (h : ∀ a, a ≠ 30 → A a = I a) (P : Pc I k s x) : Pc A k s x := by
  unfold Pc ck
  rw [h 31 (by decide), h 32 (by decide), h 33 (by decide), h 34 (by decide), h 35 (by decide), h 36 (by decide), h 37 (by decide)]
  exact P
theorem cx_cl1 : ∀ a, a < 356 → cxv a → (((cxt a < 256 ∨ 258 < cxt a) ∧ ¬ (a = 1 ∨ a = 2 ∨ a = 3)) ∨ (¬ cxt a < 256 ∧ ¬ 258 < cxt a ∧ (a = 1 ∨ a = 2 ∨ a = 3))) := by decide +kernel
theorem cx_cl2 : ∀ a, a < 356 → ¬ (a = 1 ∨ a = 2 ∨ a = 3) → (¬ (nI a = 1 ∨ nI a = 2) ∧ ¬ nI a = 3) := by decide +kernel
theorem cx_co1 : ∀ a, a < 356 → cxv a → (((cxt a < 259 ∨ 262 < cxt a) ∧ ¬ (a = 20 ∨ a = 21 ∨ a = 22 ∨ a = 24)) ∨ (¬ cxt a < 259 ∧ ¬ 262 < cxt a ∧ (a = 20 ∨ a = 21 ∨ a = 22 ∨ a = 24))) := by decide +kernel
theorem cx_co2 : ∀ a, a < 356 → ¬ (a = 20 ∨ a = 21 ∨ a = 22 ∨ a = 24) → (¬ nI a = 22 ∧ ¬ (nI a = 20 ∨ nI a = 21) ∧ ¬ nI a = 24) := by decide +kernel
theorem tk_cl {x y u : Int32} (T : tkr x y u) : ((x < 256 ∨ 258 < x) ∧ ¬ (y = 1 ∨ y = 2) ∧ ¬ y = 3) ∨ (¬ x < 256 ∧ ¬ 258 < x ∧ (((y = 1 ∨ y = 2) ∧ x - 256 = y - 1 ∧ y - 1 ≠ 2) ∨ (¬ (y = 1 ∨ y = 2) ∧ y = 3 ∧ x - 256 = 2))) := by
  rcases T with ⟨a, ha, rfl, rfl⟩ | ⟨rfl, n, hn, rfl, rfl⟩
  · have ha' : a < 356 := by unfold cxv at ha; omega
    rcases cx_cl1 a ha' ha with ⟨h1, h2⟩ | ⟨h1, h2, h3⟩
    · exact .inl ⟨h1, cx_cl2 a ha' h2⟩
    · refine .inr ⟨h1, h2, ?_⟩
      rcases h3 with rfl | rfl | rfl
      · exact .inl (by decide)
      · exact .inl (by decide)
      · exact .inr (by decide)
  · refine .inl ⟨?_, by decide, by decide⟩
    by_cases q : n ≤ 1000
    · rw [if_pos q]; exact .inr (i_lt (a := 258) rfl rfl (by omega) (by omega))
    · rw [if_neg q]; exact .inl (by decide)
theorem tk_co {x y u : Int32} (T : tkr x y u) : ((x < 259 ∨ 262 < x) ∧ ¬ y = 22 ∧ ¬ (y = 20 ∨ y = 21) ∧ ¬ y = 24) ∨ (¬ x < 259 ∧ ¬ 262 < x ∧ ((y = 22 ∧ x - 259 = 2) ∨ (¬ y = 22 ∧ (y = 20 ∨ y = 21) ∧ x - 259 = y - 20 ∧ y - 20 ≠ 2 ∧ y - 20 ≠ 3) ∨ (¬ y = 22 ∧ ¬ (y = 20 ∨ y = 21) ∧ y = 24 ∧ x - 259 = 3))) := by
  rcases T with ⟨a, ha, rfl, rfl⟩ | ⟨rfl, n, hn, rfl, rfl⟩
  · have ha' : a < 356 := by unfold cxv at ha; omega
    rcases cx_co1 a ha' ha with ⟨h1, h2⟩ | ⟨h1, h2, h3⟩
    · exact .inl ⟨h1, cx_co2 a ha' h2⟩
    · refine .inr ⟨h1, h2, ?_⟩
      rcases h3 with rfl | rfl | rfl | rfl
      · exact .inr (.inl (by decide))
      · exact .inr (.inl (by decide))
      · exact .inl (by decide)
      · exact .inr (.inr (by decide))
  · refine .inl ⟨?_, by decide, by decide, by decide⟩
    by_cases q : n ≤ 1000
    · rw [if_pos q]; exact .inr (i_lt (a := 262) rfl rfl (by omega) (by omega))
    · rw [if_neg q]; exact .inl (by decide)
/-- a CLAUSE has begun -/
theorem c_beg {I : v_I} {p n k s : Nat} (hS : p_SS S) (hF : p_FF F) (B : Cb I c v pl o z) (D : Cd I p n 0 s) (h0 : I 31 0 = nI k) (hk : k < 12) (hp : p < z) {y1 z0 kd : Int32} (h1 : ¬ I 38 p < y1) (h2 : ¬ z0 < I 38 p) (h3 : I 38 p - y1 = kd) :
    ∃ A, Cg k s I A ∧ Cd A (p + 1) n 0 s ∧ Pc A k s (kd, none, none, none, 1) ∧ A 31 2 = I 31 2 ∧ h_X6_readClause_J33 S F I y1 z0 = if A 30 6 = (0 : Int32) then (h_X6_readLaw S A F (nI k) kd).bind fun r_18 => h_X6_readClause_J112 S F r_18.2 (nI k) r_18.1 else (h_X6_readOrder S A F (nI k) kd).bind fun r_34 => h_X6_readClause_J112 S F r_34.2 (nI k) r_34.1 := by
  obtain ⟨J, a1, a2, a3, a4, a5⟩ := c_addC (S := S) (F := F) hS hF D h0 hk kd
  refine ⟨nxt J p, Cg_trans a2 (Cg_f (k := k) (Cf_next s J p)) (Nat.le_refl _) (Nat.le_refl _), Cd_next a3, Pc_row (fun a h => nxt_row _ _ h) a4, by rw [nxt_row _ _ (by decide)]; exact a5, ?_⟩
  unfold h_X6_readClause_J33
  rw [p_le, D.2.1, if_neg h1, if_neg h2, h3, a1, p_bs]
  dsimp only
  rw [if_neg (by decide), c_next (Cb_g a2 B) a3 hp, p_bs, p_le, nxt_row _ _ (show (31 : Nat) ≠ 30 by decide), a4.1, nI_pred]
theorem c_badC {I : v_I} {p n k s : Nat} (B : Cb I c v pl o z) (D : Cd I p n 0 s) (hp : p ≤ z) (hs : s ≤ 436) {y1 z0 : Int32} (h : I 38 p < y1 ∨ z0 < I 38 p) : Rcl pl z (h_X6_readClause_J33 S F I y1 z0) I p k s 3 (.inl p) := by
  unfold h_X6_readClause_J33 h_X6_readClause_J68
  rw [p_le, D.2.1]
  by_cases q : I 38 p < y1
  · rw [if_pos q]; exact Rcl_flt B D hp hs
  · rw [if_neg q, if_pos (h.resolve_left q)]; exact Rcl_flt B D hp hs
theorem c_law1 {I : v_I} {p n k s : Nat} (hS : p_SS S) (hF : p_FF F) (B : Cb I c v pl false z) (D : Cd I p n 0 s) (h0 : I 31 0 = nI k) (hk : k < 12) (hp : p ≤ z) (hn : n ≤ 50) (hsp : s ≤ p + 33) : Rcl pl z (h_X6_readClause S I F) I p k s 3 (sp_law1 c v p n) := by
  have hz := B.1
  have T := B.2.2.1 p hp
  unfold h_X6_readClause h_X6_readClause_J16
  rw [if_pos (by rw [B.2.2.2.2.2]; rfl), if_pos (by rw [B.2.2.2.2.2]; rfl)]
  unfold sp_law1
  rcases tk_cl T with ⟨t1, t2, t3⟩ | ⟨t1, t2, ⟨t3, t4, t5⟩ | ⟨t3, t4, t5⟩⟩
  · rw [if_neg t2, if_neg t3]
    exact c_badC B D hp (by omega) t1
  · have hlt : p < z := cz_lt B.2.2.2.1 (fun q => by rw [q] at t3; exact absurd t3 (by decide))
    rw [if_pos t3]
    obtain ⟨A, a1, a2, a3, a4, a5⟩ := c_beg (S := S) (F := F) hS hF B D h0 hk hlt t1 t2 t4
    have BA := Cb_g a1 B
    rw [a5, if_pos (by rw [BA.2.2.2.2.2]; rfl)]
    have e0 : ((h_X6_readLaw S A F (nI k) (c p - 1)).bind fun r_18 => h_X6_readClause_J112 S F r_18.2 (nI k) r_18.1) = (p_in 12 (nI k)).bind fun j_2 => p_let (v_up A 33 j_2 (A 31 1)) fun I_3 => (gh_X6_readTest GNN 4 0 S I_3 F).bind fun r_5 => (f_X8_addStep S r_5.2 F 31 (0 : Int32) (0 : Int32)).bind fun r_7 => (fun r : Int32 × v_I => (p_bl r.1).bind fun _ => h_X6_readClause_J112 S F r.2 (nI k) r.1) (r_5.1, r_7.2) := by
      unfold h_X6_readLaw
      rw [if_neg t5]
      simp only [k_in hk, p_bs, p_le, Option.bind_assoc]
    rw [e0]
    refine Rcl_then (p' := p + 1) (s' := s) (j := 2) ?_ a1 (Nat.le_refl _) (by omega) (by rw [a4]; exact id)
    refine c_sumK (g := fun r => (p_bl r.1).bind fun _ => h_X6_readClause_J112 S F r.2 (nI k) r.1) (x := fun r => sp_if c v false r.1 r.2.1 (c p - 1) (some r.2.2) none 1) hS hF BA a2 (by omega) hn (by omega) hk (.inl rfl) (fun J => ?_) (fun r I' s' hr hn' hz' g1 g2 g3 g4 g5 g6 g7 g8 g9 => ?_)
    · show (p_bl 0).bind _ = _
      rw [show p_bl 0 = some () from rfl, p_bs]
      exact c_ifX J _
    · show Rcl pl z ((p_bl 1).bind _) A (p + 1) k s 2 _
      rw [show p_bl 1 = some () from rfl, p_bs]
      dsimp only
      obtain ⟨p1, ⟨p2, p3, p4, p5, p6⟩, p7⟩ := a3
      refine Rcl_then (j := 1) (c_if hS hF (Cb_g g1 BA) g6 hz' hn' (by omega) hk ⟨?_, ⟨?_, g5, ?_, ?_, ?_⟩, fun w => ⟨fun d hd => ?_, fun d hd => (by cases hd)⟩⟩) g1 g7 (by omega) (fun w => (g9 w).1)
      · rw [g4]; exact p1
      · rw [g2 32 (by decide) (by decide) (by decide) (by decide)]; exact p2
      · rw [g2 34 (by decide) (by decide) (by decide) (by decide)]; exact p4
      · rw [g2 35 (by decide) (by decide) (by decide) (by decide)]; exact p5
      · rw [g2 36 (by decide) (by decide) (by decide) (by decide)]; exact p6
      · cases hd
        exact (g9 w).2
  · have hlt := cz_lt' B.2.2.2.1 t4 (by decide)
    rw [if_neg t3, if_pos t4]
    obtain ⟨A, a1, a2, a3, a4, a5⟩ := c_beg (S := S) (F := F) hS hF B D h0 hk hlt t1 t2 t5
    have BA := Cb_g a1 B
    rw [a5, if_pos (by rw [BA.2.2.2.2.2]; rfl)]
    unfold h_X6_readLaw
    rw [if_pos rfl, p_bs]
    dsimp only
    exact Rcl_then (j := 1) (c_if hS hF BA a2 (by omega) hn (by omega) hk a3) a1 (Nat.le_refl _) (by omega) (by rw [a4]; exact id)
/-- "times" -/
theorem c_tim {I : v_I} {p n k s : Nat} {kd : Int32} {a b : Option Den} (hS : p_SS S) (hF : p_FF F) (B : Cb I c v pl true z) (D : Cd I p n 0 s) (hp : p ≤ z) (hn : n ≤ 50) (hsp : s ≤ p + 35) (hk : k < 12) (P : Pc I k s (kd, a, b, none, 1)) : Rcl pl z ((h_X6_readOrder_J93 S F I (nI k) 1).bind fun r => h_X6_readClause_J112 S F r.2 (nI k) r.1) I p k s 1 (sp_times c v p n kd a b) := by
  have hz := B.1
  unfold h_X6_readOrder_J93 sp_times
  rw [if_neg (by decide), c_take B D (tk_tim (B.2.2.1 p hp)) (by decide), p_bs]
  by_cases q : c p = 25
  · have hlt := cz_lt' B.2.2.2.1 q (by decide)
    rw [if_pos q, if_pos q]
    dsimp only
    rw [if_neg (by decide)]
    have DN := Cd_next D
    have gN : Cg k s I (nxt I p) := Cg_f (Cf_next s I p)
    have BN := Cb_g gN B
    have xr : ∀ a, a ≠ 30 → nxt I p a = I a := fun a h => nxt_row _ _ h
    generalize nxt I p = A at DN gN BN xr
    have T := BN.2.2.1 (p + 1) (by omega)
    rw [← DN.2.1] at T
    have N := tk_num (S := S) T (m := 20) (by omega)
    rw [show nI 20 = (20 : Int32) from rfl] at N
    rw [N, p_bs]
    by_cases w : c (p + 1) = 50 ∧ v (p + 1) ≤ 20
    · rw [if_pos w]
      by_cases w1 : 1 ≤ v (p + 1)
      · have hlt' := cz_lt' B.2.2.2.1 w.1 (by decide)
        rw [if_pos w1, if_pos ⟨w.1, w1, w.2⟩, k_in hk, p_bs, p_le]
        have D1 := Cd_row DN (a := 36) (by decide) k (v (p + 1))
        have g1 : Cg k s I (v_up A 36 k (v (p + 1))) := Cg_up gN _ (by omega)
        rw [c_next (Cb_g g1 B) D1 hlt', p_bs]
        have e : ∀ J : v_I, (((p_bl 1).bind fun _ => some ((1 : Int32), J)).bind fun r => h_X6_readClause_J112 S F r.2 (nI k) r.1) = h_X6_readClause_J112 S F J (nI k) 1 := fun J => rfl
        rw [e]
        have g2 : Cg k s I (nxt (v_up A 36 k (v (p + 1))) (p + 1)) := Cg_trans g1 (Cg_f (k := k) (Cf_next s _ _)) (Nat.le_refl _) (Nat.le_refl _)
        have yr : ∀ a, a ≠ 30 → a ≠ 36 → nxt (v_up A 36 k (v (p + 1))) (p + 1) a = I a := fun a h1 h2 => by rw [nxt_row _ _ h1, w_row _ _ _ _ h2, xr a h1]
        have y6 : nxt (v_up A 36 k (v (p + 1))) (p + 1) 36 k = v (p + 1) := by rw [nxt_row _ _ (by decide), w_at]
        have D2 := Cd_next D1
        generalize nxt (v_up A 36 k (v (p + 1))) (p + 1) = K at g2 yr y6 D2
        obtain ⟨p1, ⟨p2, p3, p4, p5, p6⟩, p7⟩ := P
        refine Rcl_then (j := 1) (c_if hS hF (Cb_g g2 B) D2 (by omega) hn (by omega) hk ⟨?_, ⟨?_, ?_, ?_, ?_, ?_⟩, ?_⟩) g2 (Nat.le_refl _) (by omega) (by rw [yr 31 (by decide) (by decide)]; exact id)
        · rw [yr 31 (by decide) (by decide)]; exact p1
        · rw [yr 32 (by decide) (by decide)]; exact p2
        · rw [yr 33 (by decide) (by decide), yr 37 (by decide) (by decide)]; exact p3
        · rw [yr 34 (by decide) (by decide), yr 37 (by decide) (by decide)]; exact p4
        · rw [yr 35 (by decide) (by decide), yr 37 (by decide) (by decide)]; exact p5
        · exact y6
        · rw [yr 31 (by decide) (by decide)]; exact p7
      · rw [if_neg w1, if_neg (fun u => w1 u.2.1)]
        obtain ⟨L, l1, l2, l3⟩ := c_flt (S := S) (F := F) BN DN (by omega) (by omega)
        refine ⟨fun e h => ?_, (fun r h => by cases h)⟩
        cases h
        refine ⟨by omega, L, ?_, Cg_trans gN (Cg_f (k := k) l2) (Nat.le_refl _) (Nat.le_refl _), l3.1⟩
        rw [l1, p_bs]
        exact c_ifX L _
    · rw [if_neg w, if_neg (by decide), if_neg (fun u => w ⟨u.1, u.2.2⟩)]
      obtain ⟨L, l1, l2, l3⟩ := c_flt (S := S) (F := F) BN DN (by omega) (by omega)
      refine ⟨fun e h => ?_, (fun r h => by cases h)⟩
      cases h
      refine ⟨by omega, L, ?_, Cg_trans gN (Cg_f (k := k) l2) (Nat.le_refl _) (Nat.le_refl _), l3.1⟩
      rw [l1, p_bs]
      exact c_ifX L _
  · rw [if_neg q, if_neg q]
    dsimp only
    rw [if_pos rfl]
    exact c_if hS hF B D hp hn hsp hk P
theorem c_timX (I : v_I) (y : Int32) : ((h_X6_readOrder_J93 S F I y 0).bind fun r => h_X6_readClause_J112 S F r.2 y r.1) = some (0, I) := by
  unfold h_X6_readOrder_J93
  rw [if_pos rfl]
  show h_X6_readClause_J112 S F I y 0 = _
  exact c_ifX I y
theorem c_ord1 {I : v_I} {p n k s : Nat} (hS : p_SS S) (hF : p_FF F) (B : Cb I c v pl true z) (D : Cd I p n 0 s) (h0 : I 31 0 = nI k) (hk : k < 12) (hp : p ≤ z) (hn : n ≤ 50) (hsp : s ≤ p + 33) : Rcl pl z (h_X6_readClause S I F) I p k s 3 (sp_ord1 c v p n) := by
  have hz := B.1
  have T := B.2.2.1 p hp
  unfold h_X6_readClause h_X6_readClause_J16
  rw [if_neg (by rw [B.2.2.2.2.2]; decide), if_neg (by rw [B.2.2.2.2.2]; decide)]
  unfold sp_ord1
  -- a SUM in front, and what comes behind it
  have front : ∀ (A : v_I) (kd : Int32), kd ≠ 3 → ((h_X6_readOrder S A F (nI k) kd).bind fun r_34 => h_X6_readClause_J112 S F r_34.2 (nI k) r_34.1) = (p_in 12 (nI k)).bind fun j_2 => p_let (v_up A 33 j_2 (A 31 1)) fun I_3 => (gh_X6_readTest GNN 4 0 S I_3 F).bind fun r_5 => (f_X8_addStep S r_5.2 F 31 (0 : Int32) (0 : Int32)).bind fun r_7 => (fun r : Int32 × v_I => (h_X6_readOrder_J38 S F r.2 (nI k) kd r.1).bind fun r_34 => h_X6_readClause_J112 S F r_34.2 (nI k) r_34.1) (r_5.1, r_7.2) := by
    intro A kd h3
    unfold h_X6_readOrder
    rw [if_neg h3]
    simp only [k_in hk, p_bs, p_le, Option.bind_assoc]
  have gX : ∀ (kd : Int32) (J : v_I), ((h_X6_readOrder_J38 S F J (nI k) kd 0).bind fun r_34 => h_X6_readClause_J112 S F r_34.2 (nI k) r_34.1) = some (0, J) := by
    intro kd J
    unfold h_X6_readOrder_J38
    rw [if_pos rfl]
    exact c_timX J _
  -- the first SUM laid
  have laid : ∀ {A I' : v_I} {s' : Nat} {kd : Int32} {d : Den}, Pc A k s (kd, none, none, none, 1) → (∀ a, a ≠ 30 → a ≠ 31 → a ≠ 37 → a ≠ 33 → I' a = A a) → I' 31 0 = A 31 0 → cdS (I' 37) s' (I' 33 k) (some d) → (I' 31 2 = 0 → A 31 2 = 0 ∧ d_still d) → Pc I' k s' (kd, some d, none, none, 1) := by
    intro A I' s' kd d a3 g2 g4 g5 g9
    obtain ⟨p1, ⟨p2, p3, p4, p5, p6⟩, p7⟩ := a3
    refine ⟨?_, ⟨?_, g5, ?_, ?_, ?_⟩, fun w => ⟨fun d hd => ?_, fun d hd => (by cases hd)⟩⟩
    · rw [g4]; exact p1
    · rw [g2 32 (by decide) (by decide) (by decide) (by decide)]; exact p2
    · rw [g2 34 (by decide) (by decide) (by decide) (by decide)]; exact p4
    · rw [g2 35 (by decide) (by decide) (by decide) (by decide)]; exact p5
    · rw [g2 36 (by decide) (by decide) (by decide) (by decide)]; exact p6
    · cases hd
      exact (g9 w).2
  rcases tk_co T with ⟨t1, t2, t3, t4⟩ | ⟨t1, t2, ⟨t3, t4⟩ | ⟨t3, t4, t5, t6, t7⟩ | ⟨t3, t4, t5, t6⟩⟩
  · rw [if_neg t2, if_neg t3, if_neg t4]
    exact c_badC B D hp (by omega) t1
  · have hlt := cz_lt' B.2.2.2.1 t3 (by decide)
    rw [if_pos t3]
    obtain ⟨A, a1, a2, a3, a4, a5⟩ := c_beg (S := S) (F := F) hS hF B D h0 hk hlt t1 t2 t4
    have BA := Cb_g a1 B
    rw [a5, if_neg (by rw [BA.2.2.2.2.2]; decide), front A 2 (by decide)]
    refine Rcl_then (p' := p + 1) (s' := s) (j := 3) ?_ a1 (Nat.le_refl _) (by omega) (by rw [a4]; exact id)
    refine c_sumK (g := fun r => (h_X6_readOrder_J38 S F r.2 (nI k) 2 r.1).bind fun r_34 => h_X6_readClause_J112 S F r_34.2 (nI k) r_34.1) (x := fun r => if c r.1 = 23 then (match sp_sum c v true 8 (r.1 + 1) r.2.1 with
        | .inl e => .inl e
        | .inr q => sp_times c v q.1 q.2.1 2 (some r.2.2) (some q.2.2))
      else .inl r.1) hS hF BA a2 (by omega) hn (by omega) hk (.inl rfl) (gX 2) (fun r I' s' hr hn' hz' g1 g2 g3 g4 g5 g6 g7 g8 g9 => ?_)
    have BI := Cb_g g1 BA
    have P1 := laid a3 g2 g4 g5 g9
    dsimp only
    unfold h_X6_readOrder_J38
    rw [if_neg (by decide), if_pos rfl, c_take BI g6 (tk_to (BI.2.2.1 r.1 hz')) (by decide), p_bs]
    by_cases q : c r.1 = 23
    · have hlt' := cz_lt' B.2.2.2.1 q (by decide)
      rw [if_pos q, if_pos q]
      dsimp only
      rw [if_neg (by decide)]
      have g10 : Cg k s A (nxt I' r.1) := Cg_trans g1 (Cg_f (k := k) (Cf_next s' I' r.1)) g7 (Nat.le_refl _)
      have P2 : Pc (nxt I' r.1) k s' (2, some r.2.2, none, none, 1) := Pc_row (fun a h => nxt_row _ _ h) P1
      have D2 := Cd_next g6
      have z2 : nxt I' r.1 31 2 = I' 31 2 := by rw [nxt_row _ _ (by decide)]
      generalize nxt I' r.1 = K at g10 P2 D2 z2
      have BK := Cb_g g10 BA
      have e0 : (((p_in 12 (nI k)).bind fun j_25 => p_let (v_up K 34 j_25 (K 31 1)) fun I_26 => (gh_X6_readTest GNN 4 0 S I_26 F).bind fun r_28 => (f_X8_addStep S r_28.2 F 31 (0 : Int32) (0 : Int32)).bind fun r_30 => h_X6_readOrder_J93 S F r_30.2 (nI k) r_28.1).bind fun r_34 => h_X6_readClause_J112 S F r_34.2 (nI k) r_34.1) = (p_in 12 (nI k)).bind fun j_2 => p_let (v_up K 34 j_2 (K 31 1)) fun I_3 => (gh_X6_readTest GNN 4 0 S I_3 F).bind fun r_5 => (f_X8_addStep S r_5.2 F 31 (0 : Int32) (0 : Int32)).bind fun r_7 => (fun r : Int32 × v_I => (h_X6_readOrder_J93 S F r.2 (nI k) r.1).bind fun r_34 => h_X6_readClause_J112 S F r_34.2 (nI k) r_34.1) (r_5.1, r_7.2) := by
        simp only [k_in hk, p_bs, p_le, Option.bind_assoc]
      rw [e0]
      refine Rcl_then (p' := r.1 + 1) (s' := s') (j := 2) ?_ g10 g7 (by omega) (fun w => by rw [z2] at w; exact (g9 w).1)
      refine c_sumK (g := fun r => (h_X6_readOrder_J93 S F r.2 (nI k) r.1).bind fun r_34 => h_X6_readClause_J112 S F r_34.2 (nI k) r_34.1) (x := fun q => sp_times c v q.1 q.2.1 2 (some r.2.2) (some q.2.2)) hS hF BK D2 (by omega) hn' (by omega) hk (.inr rfl) (fun J => c_timX J _) (fun r2 K' s2 hr2 hn2 hz2 k1 k2 k3 k4 k5 k6 k7 k8 k9 => ?_)
      dsimp only
      obtain ⟨p1, ⟨p2, p3, p4, p5, p6⟩, p7⟩ := P2
      refine Rcl_then (j := 1) (c_tim hS hF (Cb_g k1 BK) k6 hz2 hn2 (by omega) hk ⟨?_, ⟨?_, ?_, k5, ?_, ?_⟩, fun w => p7 (k9 w).1⟩) k1 k7 (by omega) (fun w => (k9 w).1)
      · rw [k4]; exact p1
      · rw [k2 32 (by decide) (by decide) (by decide) (by decide)]; exact p2
      · rw [k2 33 (by decide) (by decide) (by decide) (by decide)]; exact cdS_cg p3 k7 k3
      · rw [k2 35 (by decide) (by decide) (by decide) (by decide)]; exact p5
      · rw [k2 36 (by decide) (by decide) (by decide) (by decide)]; exact p6
    · rw [if_neg q, if_neg q]
      dsimp only
      rw [if_pos rfl]
      obtain ⟨L, l1, l2, l3⟩ := c_flt (S := S) (F := F) BI g6 hz' (by omega)
      refine ⟨fun e h => ?_, (fun r h => by cases h)⟩
      cases h
      refine ⟨hz', L, ?_, Cg_trans g1 (Cg_f (k := k) l2) g7 (Nat.le_refl _), l3.1⟩
      rw [l1, p_bs]
      exact c_ifX L _
  · have hlt : p < z := cz_lt B.2.2.2.1 (fun q => by rw [q] at t4; exact absurd t4 (by decide))
    rw [if_neg t3, if_pos t4]
    obtain ⟨A, a1, a2, a3, a4, a5⟩ := c_beg (S := S) (F := F) hS hF B D h0 hk hlt t1 t2 t5
    have BA := Cb_g a1 B
    rw [a5, if_neg (by rw [BA.2.2.2.2.2]; decide), front A _ t7]
    refine Rcl_then (p' := p + 1) (s' := s) (j := 3) ?_ a1 (Nat.le_refl _) (by omega) (by rw [a4]; exact id)
    refine c_sumK (g := fun r => (h_X6_readOrder_J38 S F r.2 (nI k) (c p - 20) r.1).bind fun r_34 => h_X6_readClause_J112 S F r_34.2 (nI k) r_34.1) (x := fun r => sp_times c v r.1 r.2.1 (c p - 20) (some r.2.2) none) hS hF BA a2 (by omega) hn (by omega) hk (.inl rfl) (gX _) (fun r I' s' hr hn' hz' g1 g2 g3 g4 g5 g6 g7 g8 g9 => ?_)
    have BI := Cb_g g1 BA
    have P1 := laid a3 g2 g4 g5 g9
    dsimp only
    unfold h_X6_readOrder_J38
    rw [if_neg (by decide), if_neg t6]
    exact Rcl_then (j := 1) (c_tim hS hF BI g6 hz' hn' (by omega) hk P1) g1 g7 (by omega) (fun w => (g9 w).1)
  · have hlt := cz_lt' B.2.2.2.1 t5 (by decide)
    rw [if_neg t3, if_neg t4, if_pos t5]
    obtain ⟨A, a1, a2, a3, a4, a5⟩ := c_beg (S := S) (F := F) hS hF B D h0 hk hlt t1 t2 t6
    have BA := Cb_g a1 B
    rw [a5, if_neg (by rw [BA.2.2.2.2.2]; decide)]
    unfold h_X6_readOrder h_X6_readOrder_J38
    rw [if_pos rfl, if_neg (by decide), if_neg (by decide)]
    exact Rcl_then (j := 1) (c_tim hS hF BA a2 (by omega) hn (by omega) hk a3) a1 (Nat.le_refl _) (by omega) (by rw [a4]; exact id)
theorem c_cls {I : v_I} {p n k s : Nat} (hS : p_SS S) (hF : p_FF F) (B : Cb I c v pl o z) (D : Cd I p n 0 s) (h0 : I 31 0 = nI k) (hk : k < 12) (hp : p ≤ z) (hn : n ≤ 50) (hsp : s ≤ p + 33) : Rcl pl z (h_X6_readClause S I F) I p k s 3 (sp_cls c v o p n) := by
  cases o with
  | false => exact c_law1 hS hF B D h0 hk hp hn hsp
  | true => exact c_ord1 hS hF B D h0 hk hp hn hsp
theorem c_full {I : v_I} {p n s : Nat} (hS : p_SS S) (hF : p_FF F) (B : Cb I c v pl o z) (D : Cd I p n 0 s) (h0 : I 31 0 = nI 12) (hp : p ≤ z) (hs : s ≤ 436) : ∃ I', h_X6_readClause S I F = some (0, I') ∧ Cf s I I' ∧ I' 30 9 = nI (pl p) := by
  obtain ⟨I', e1, e2, e3⟩ := c_flt (S := S) (F := F) B D hp hs
  have j68 : h_X6_readClause_J68 S F I = some (0, I') := by
    unfold h_X6_readClause_J68
    rw [e1, p_bs]; rfl
  have j33 : ∀ y z0, h_X6_readClause_J33 S F I y z0 = some (0, I') := by
    intro y z0
    unfold h_X6_readClause_J33
    rw [p_le, c_addX hS hF h0, p_bs]
    dsimp only
    rw [if_pos rfl, j68]
    simp only [ite_self]
  refine ⟨I', ?_, e2, e3.1⟩
  unfold h_X6_readClause h_X6_readClause_J16
  rw [j33, j33, j33, j33]
  simp only [ite_self]
end sp98e
