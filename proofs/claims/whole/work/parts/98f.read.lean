noncomputable section sp98f
variable {c v : Nat → Int32} {pl : Nat → Nat} {o : Bool} {z : Nat} {S : v_S} {F : v_F}
/-- a TEXT stands -/
def Tx (I : v_I) (s : Nat) (D : List Cls) : Prop := I 31 0 = nI D.length ∧ (∀ (i : Nat) (x : Cls), D[i]? = some x → ck I i s x) ∧ (I 31 2 = 0 → cl_still D)
theorem Tx_add {I I' : v_I} {s s' : Nat} {D : List Cls} {x : Cls} (T : Tx I s D) (g : Cg D.length s I I') (hs : s ≤ s') (P : Pc I' D.length s' x) (h2 : I' 31 2 = 0 → I 31 2 = 0) : Tx I' s' (D ++ [x]) := by
  obtain ⟨t1, t2, t3⟩ := T
  obtain ⟨p1, p2, p3⟩ := P
  refine ⟨by rw [p1]; simp, fun i y hy => ?_, fun w => ?_⟩
  · by_cases q : i < D.length
    · rw [List.getElem?_append_left q] at hy
      obtain ⟨a1, a2, a3, a4, a5⟩ := t2 i y hy
      have e : ∀ a, 32 ≤ a → a ≤ 36 → I' a i = I a i := fun a h1 h2 => g a i (by omega) (by omega) (by omega) (by omega)
      have ec : ∀ j, j < s → I' 37 j = I 37 j := fun j hj => g 37 j (by omega) (by omega) (by omega) (by omega)
      refine ⟨by rw [e 32 (by omega) (by omega)]; exact a1, ?_, ?_, ?_, by rw [e 36 (by omega) (by omega)]; exact a5⟩
      · rw [e 33 (by omega) (by omega)]; exact cdS_cg a2 hs ec
      · rw [e 34 (by omega) (by omega)]; exact cdS_cg a3 hs ec
      · rw [e 35 (by omega) (by omega)]; exact cdS_cg a4 hs ec
    · rw [List.getElem?_append_right (by omega)] at hy
      by_cases q2 : i = D.length
      · subst q2
        simp at hy
        subst hy
        exact p2
      · obtain ⟨k, hk⟩ : ∃ k, i - D.length = k + 1 := ⟨i - D.length - 1, by omega⟩
        rw [hk] at hy
        simp at hy
  · intro y hy
    rcases List.mem_append.mp hy with h | h
    · exact t3 (h2 w) y h
    · simp at h
      subst h
      exact p3 w
theorem fr_Cg {k s : Nat} {I I' : v_I} (g : Cg k s I I') : fr I I' := fun a j h => by
  unfold scr at h
  exact g a j (by omega) (by omega) (by omega) (by omega)
theorem c_rd (hS : p_SS S) (hF : p_FF F) : ∀ (f j m : Nat) (I : v_I) (p n s : Nat) (D : List Cls), D.length + f = 12 → j + 1 = D.length → f + 3 ≤ m → Cb I c v pl o z → Cd I p n 0 s → Tx I s D → p ≤ z → n ≤ 50 → s ≤ p + 3 * D.length →
    (∀ e, sp_cll c v o z f p n D = .inl e → e ≤ z ∧ ∃ b k I', v_loop (h_X6_read_B76 S F) m (1, nI j, I) = some (b, k, I') ∧ fr I I' ∧ ((b = 0 ∧ I' 30 9 = nI (pl e)) ∨ (b = 1 ∧ e < z ∧ ∃ n' s', Cb I' c v pl o z ∧ Cd I' e n' 0 s' ∧ s' ≤ 436))) ∧
    (∀ D', sp_cll c v o z f p n D = .inr D' → ∃ k I' n' s', v_loop (h_X6_read_B76 S F) m (1, nI j, I) = some (1, k, I') ∧ fr I I' ∧ Cb I' c v pl o z ∧ Cd I' z n' 0 s' ∧ Tx I' s' D' ∧ s' ≤ 436) := by
  have stop : ∀ (j : Nat) (I : v_I) (p n s m : Nat), j < 400 → Cb I c v pl o z → Cd I p n 0 s → p ≤ z → c p ≠ 159 → v_loop (h_X6_read_B76 S F) (m + 1) (1, nI j, I) = some (1, nI j, I) := by
    intro j I p n s m hj B D hp h
    have : h_X6_read_B76 S F (1, nI j, I) = some (.inr (1, nI j, I)) := by
      unfold h_X6_read_B76
      dsimp only
      rw [if_neg (lt400 hj), if_neg (by decide), if_neg (show ¬ I 30 5 = 59 from fun q => h ((tk_59 (B.2.2.1 p hp)).mp (D.2.1.symm.trans q)))]
    simp only [v_loop, this]
  have stopX : ∀ (k : Int32) (I : v_I) (m : Nat), v_loop (h_X6_read_B76 S F) (m + 1) (0, k, I) = some (0, k, I) := by
    intro k I m
    have : h_X6_read_B76 S F (0, k, I) = some (.inr (0, k, I)) := by
      unfold h_X6_read_B76
      dsimp only
      by_cases q : (400 : Int32) ≤ k
      · rw [if_pos q]
      · rw [if_neg q, if_pos rfl]
    simp only [v_loop, this]
  have step : ∀ (j : Nat) (I : v_I) (p n s : Nat), j < 400 → Cb I c v pl o z → Cd I p n 0 s → p < z → c p = 159 → h_X6_read_B76 S F (1, nI j, I) = (h_X6_readClause S (nxt I p) F).bind fun r => some (.inl (r.1, nI (j + 1), r.2)) := by
    intro j I p n s hj B D hp h
    unfold h_X6_read_B76
    dsimp only
    rw [if_neg (lt400 hj), if_neg (by decide), if_pos (show I 30 5 = 59 from D.2.1.trans ((tk_59 (B.2.2.1 p (by omega))).mpr h)), c_next B D hp, p_bs]
    simp only [p_le, ← nI_succ]
  intro f
  induction f with
  | zero =>
    intro j m I p n s D hD hj hm B Dd T hp hn hsp
    have hz := B.1
    obtain ⟨m, rfl⟩ : ∃ k, m = k + 2 := ⟨m - 2, by omega⟩
    unfold sp_cll
    by_cases h : c p = 159
    · rw [if_pos h]
      have hlt := cz_lt' B.2.2.2.1 h (by decide)
      have fN := Cf_next s I p
      obtain ⟨I', e1, e2, e3⟩ := c_full (S := S) (F := F) hS hF (Cb_f fN B) (Cd_next Dd) (by rw [nxt_row _ _ (by decide), T.1, show D.length = 12 by omega]) (by omega) (by omega)
      refine ⟨fun e h' => ?_, (fun r h => by cases h)⟩
      cases h'
      refine ⟨hlt, 0, nI (j + 1), I', ?_, fr_trans (fr_Cg (Cg_f (k := 0) fN)) (fr_Cg (Cg_f (k := 0) e2)), .inl ⟨rfl, e3⟩⟩
      have e4 := step j I p n s (by omega) B Dd hlt h
      rw [e1, p_bs] at e4
      have e5 : v_loop (h_X6_read_B76 S F) (m + 2) (1, nI j, I) = v_loop (h_X6_read_B76 S F) (m + 1) (0, nI (j + 1), I') := by
        rw [show m + 2 = (m + 1) + 1 from rfl]
        simp only [v_loop, e4]
      rw [e5, stopX]
    · rw [if_neg h]
      by_cases h2 : p < z
      · rw [if_pos h2]
        refine ⟨fun e h' => ?_, (fun r h => by cases h)⟩
        cases h'
        exact ⟨hp, 1, nI j, I, stop j I p n s _ (by omega) B Dd hp h, fr_refl _, .inr ⟨rfl, h2, n, s, B, Dd, by omega⟩⟩
      · rw [if_neg h2]
        refine ⟨(fun r h => by cases h), fun D' h' => ?_⟩
        cases h'
        have : p = z := by omega
        subst this
        exact ⟨nI j, I, n, s, stop j I p n s _ (by omega) B Dd hp h, fr_refl _, B, Dd, T, by omega⟩
  | succ f ih =>
    intro j m I p n s D hD hj hm B Dd T hp hn hsp
    have hz := B.1
    obtain ⟨m, rfl⟩ : ∃ k, m = k + 2 := ⟨m - 2, by omega⟩
    unfold sp_cll
    by_cases h : c p = 159
    · rw [if_pos h]
      have hlt := cz_lt' B.2.2.2.1 h (by decide)
      have fN := Cf_next s I p
      have K := c_cls (S := S) (F := F) hS hF (Cb_f fN B) (Cd_next Dd) (k := D.length) (by rw [nxt_row _ _ (by decide), T.1]) (by omega) (by omega) hn (by omega)
      have e4 := step j I p n s (by omega) B Dd hlt h
      cases h2 : sp_cls c v o (p + 1) n with
      | inl e =>
        obtain ⟨he, I', e1, e2, e3⟩ := K.1 e h2
        refine ⟨fun e' h => ?_, (fun r h => by cases h)⟩
        cases h
        refine ⟨he, 0, nI (j + 1), I', ?_, fr_trans (fr_Cg (Cg_f (k := 0) fN)) (fr_Cg e2), .inl ⟨rfl, e3⟩⟩
        rw [e1, p_bs] at e4
        have e5 : v_loop (h_X6_read_B76 S F) (m + 2) (1, nI j, I) = v_loop (h_X6_read_B76 S F) (m + 1) (0, nI (j + 1), I') := by
          rw [show m + 2 = (m + 1) + 1 from rfl]
          simp only [v_loop, e4]
        rw [e5, stopX]
      | inr r =>
        obtain ⟨hn', hz', I', s', e1, e2, e3, e5, e6, e7, e8⟩ := K.2 r h2
        rw [e1, p_bs] at e4
        have e9 : v_loop (h_X6_read_B76 S F) (m + 2) (1, nI j, I) = v_loop (h_X6_read_B76 S F) (m + 1) (1, nI (j + 1), I') := by
          rw [show m + 2 = (m + 1) + 1 from rfl]
          simp only [v_loop, e4]
        rw [e9]
        have g : Cg D.length s I I' := Cg_trans (Cg_f (k := D.length) fN) e2 (Nat.le_refl _) (Nat.le_refl _)
        have T' := Tx_add T g e5 e7 (fun w => by have := e8 w; rw [nxt_row _ _ (by decide)] at this; exact this)
        have hl : (D ++ [r.2.2]).length = D.length + 1 := by simp
        obtain ⟨k1, k2⟩ := ih (j + 1) (m + 1) I' r.1 r.2.1 s' (D ++ [r.2.2]) (by omega) (by omega) (by omega) (Cb_g g B) e3 T' hz' hn' (by omega)
        refine ⟨fun e h => ?_, fun D' h => ?_⟩
        · obtain ⟨a1, b, k, I2, a2, a3, a4⟩ := k1 e h
          exact ⟨a1, b, k, I2, a2, fr_trans (fr_Cg g) a3, a4⟩
        · obtain ⟨k, I2, n2, s2, a1, a2, a3⟩ := k2 D' h
          exact ⟨k, I2, n2, s2, a1, fr_trans (fr_Cg g) a2, a3⟩
    · rw [if_neg h]
      by_cases h2 : p < z
      · rw [if_pos h2]
        refine ⟨fun e h' => ?_, (fun r h => by cases h)⟩
        cases h'
        exact ⟨hp, 1, nI j, I, stop j I p n s _ (by omega) B Dd hp h, fr_refl _, .inr ⟨rfl, h2, n, s, B, Dd, by omega⟩⟩
      · rw [if_neg h2]
        refine ⟨(fun r h => by cases h), fun D' h' => ?_⟩
        cases h'
        have : p = z := by omega
        subst this
        exact ⟨nI j, I, n, s, stop j I p n s _ (by omega) B Dd hp h, fr_refl _, B, Dd, T, by omega⟩
theorem p_len400 {n : Nat} (h : n ≤ 400) : p_max (0 : Int32) (p_min (nI n) (p_min (400 : Int32) (400 : Int32))) = nI n := by
  have e1 : p_min (400 : Int32) 400 = 400 := by decide
  have e2 : p_min (nI n) 400 = nI n := by
    unfold p_min
    rw [if_neg (show ¬ (400 : Int32) < nI n from i_nlt (a := 400) (b := n) rfl rfl h (by omega))]
  rw [e1, e2]
  unfold p_max
  by_cases q : n = 0
  · subst q; rfl
  · rw [if_pos (show (0 : Int32) < nI n from i_lt (a := 0) (b := n) rfl rfl (by omega) (by omega))]
/-- TOKENS -/
def Ct (I : v_I) (c v : Nat → Int32) (pl : Nat → Nat) (z : Nat) : Prop :=
  z ≤ 400 ∧ I 30 3 = nI z ∧ (∀ p, p ≤ z → tkr (I 38 p) (c p) (v p)) ∧ cz c z ∧ (∀ p, p ≤ z → I 39 p = nI (pl p) ∧ pl p ≤ 400)
theorem c_read {I r4 : v_I} {len : Nat} (hS : p_SS S) (hF : p_FF F) (hl : len ≤ 400) (h1 : h_X6_splitTokens S I F 29 (nI len) = some r4) (f4 : fr I r4) (T : Ct r4 c v pl z) :
    (∀ e, sp_text c v o z = .inl e → e ≤ z ∧ ∃ I', h_X6_read S I F 29 (nI len) (bI o) = some (nI (pl e), I') ∧ fr I I') ∧
    (∀ D, sp_text c v o z = .inr D → ∃ I' s, h_X6_read S I F 29 (nI len) (bI o) = some (-1, I') ∧ fr I I' ∧ Tx I' s D ∧ s ≤ 436 ∧ I' 31 1 = nI s ∧ (I' 31 2 = 0 ∨ I' 31 2 = 1)) := by
  obtain ⟨t1, t2, t3, t4, t5⟩ := T
  have hbl : p_bl (bI o) = some () := tyB_bl (bI_ty o)
  let A : v_I := v_up (v_up (v_up (v_up (v_up (v_up (v_up (v_up (v_up r4 30 6 (bI o)) 30 7 0) 30 8 0) 30 9 (-1)) 31 0 0) 31 1 0) 31 2 0) 30 4 0) 30 5 (r4 38 0)
  have e0 : h_X6_read S I F 29 (nI len) (bI o) = (h_X6_readClause S A F).bind fun r_21 => (v_loop (h_X6_read_B76 S F) FU (r_21.1, (0 : Int32), r_21.2)).bind fun q_32 => h_X6_read_J114 S F q_32.2.2 q_32.1 := by
    unfold h_X6_read f_X8_clear
    rw [p_lenS hS (a := 29) (kd := 20) (n := 400) (x := 400) rfl rfl, p_bs, p_le, p_len400 hl, h1, p_bs, hbl, p_bs]
    simp only [p_le, p_bs, p_obS hS (a := 31) (kd := 8) rfl]
    rfl
  have ar : ∀ a, a ≠ 30 → a ≠ 31 → A a = r4 a := fun a h1 h2 => by
    show v_up _ _ _ _ a = _
    simp only [w_row _ _ _ _ h1, w_row _ _ _ _ h2]
  have fA : fr r4 A := fun a j h => by
    unfold scr at h
    rw [ar a (by omega) (by omega)]
  have BA : Cb A c v pl o z := by
    refine ⟨t1, ?_, fun p hp => ?_, t4, fun p hp => ?_, ?_⟩
    · show v_up _ _ _ _ 30 3 = _
      simp [v_up, t2]
    · rw [ar 38 (by decide) (by decide)]; exact t3 p hp
    · rw [ar 39 (by decide) (by decide)]; exact t5 p hp
    · show v_up _ _ _ _ 30 6 = _
      simp [v_up]
  have DA : Cd A 0 0 0 0 := by
    refine ⟨?_, ?_, ?_, ?_, ?_, ?_, .inl ?_⟩
    · show v_up _ _ _ _ 30 4 = _
      simp [v_up]; rfl
    · rw [ar 38 (by decide) (by decide)]
      show v_up _ _ _ _ 30 5 = _
      simp [v_up]
    · show v_up _ _ _ _ 30 7 = _
      simp [v_up]; rfl
    · show v_up _ _ _ _ 30 8 = _
      simp [v_up]; rfl
    · show v_up _ _ _ _ 31 1 = _
      simp [v_up]; rfl
    · show v_up _ _ _ _ 30 9 = _
      simp [v_up]
    · show v_up _ _ _ _ 31 2 = _
      simp [v_up]
  have A0 : A 31 0 = nI 0 := by
    show v_up _ _ _ _ 31 0 = _
    simp [v_up]; rfl
  rw [e0]
  generalize A = A at fA BA DA A0
  have fI := fr_trans f4 fA
  have j114X : ∀ (J : v_I) (e : Nat), J 30 9 = nI e → h_X6_read_J114 S F J 0 = some (nI e, J) := by
    intro J e he
    unfold h_X6_read_J114
    rw [if_pos rfl, he]
  have K := c_cls (S := S) (F := F) hS hF BA DA A0 (by omega) (Nat.zero_le _) (by omega) (by omega)
  unfold sp_text
  cases h2 : sp_cls c v o 0 0 with
  | inl e =>
    obtain ⟨he, I', e1, e2, e3⟩ := K.1 e h2
    refine ⟨fun e' h => ?_, (fun r h => by cases h)⟩
    cases h
    refine ⟨he, I', ?_, fr_trans fI (fr_Cg e2)⟩
    have : v_loop (h_X6_read_B76 S F) FU (0, 0, I') = some (0, 0, I') := by
      obtain ⟨m, hF⟩ : ∃ k, FU = k + 1 := ⟨FU - 1, by rw [FU_eq]⟩
      have : h_X6_read_B76 S F (0, 0, I') = some (.inr (0, 0, I')) := by
        unfold h_X6_read_B76
        dsimp only
        rw [if_neg (by decide), if_pos rfl]
      rw [hF]
      simp only [v_loop, this]
    rw [e1, p_bs]; dsimp only
    rw [this, p_bs]
    exact j114X I' _ e3
  | inr r =>
    obtain ⟨hn', hz', I', s', e1, e2, e3, e5, e6, e7, e8⟩ := K.2 r h2
    have T0 : Tx A 0 [] := ⟨by rw [A0]; rfl, (fun i x h => by simp at h), fun _ x hx => absurd hx (by simp)⟩
    have T1 := Tx_add T0 e2 e5 e7 e8
    obtain ⟨k1, k2⟩ := c_rd (S := S) (F := F) hS hF 11 0 FU I' r.1 r.2.1 s' [r.2.2] (by simp) (by simp) (by rw [FU_eq]; omega) (Cb_g e2 BA) e3 T1 hz' hn' (by simp; omega)
    dsimp only
    rw [e1, p_bs]
    rw [show nI 0 = (0 : Int32) from rfl] at k1 k2
    refine ⟨fun e h => ?_, fun D h => ?_⟩
    · obtain ⟨a1, b, k, I2, a2, a3, a4⟩ := k1 e h
      refine ⟨a1, ?_⟩
      rw [a2, p_bs]
      dsimp only
      rcases a4 with ⟨rfl, a4⟩ | ⟨rfl, a4, n2, s2, B2, D2, hs2⟩
      · exact ⟨I2, j114X I2 _ a4, fr_trans fI (fr_trans (fr_Cg e2) a3)⟩
      · obtain ⟨L, l1, l2, l3⟩ := c_flt (S := S) (F := F) B2 D2 (by omega) hs2
        refine ⟨L, ?_, fr_trans fI (fr_trans (fr_Cg e2) (fr_trans a3 (fr_Cg (Cg_f (k := 0) l2))))⟩
        unfold h_X6_read_J114
        rw [if_neg (by decide), if_neg (by rw [B2.2.1, D2.1]; exact nI_ge a4 (by omega)), l1, p_bs]
        dsimp only
        rw [l3.1]
    · obtain ⟨k, I2, n2, s2, a1, a2, a3, a4, a5, a6⟩ := k2 D h
      refine ⟨I2, s2, ?_, fr_trans fI (fr_trans (fr_Cg e2) a2), a5, a6, a4.2.2.2.2.1, a4.2.2.2.2.2.2⟩
      rw [a1, p_bs]
      dsimp only
      unfold h_X6_read_J114
      rw [if_neg (by decide), if_pos (by rw [a3.2.1, a4.1]; exact nI_le (by omega) (by omega)), a4.2.2.2.2.2.1]
end sp98f
