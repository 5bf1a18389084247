noncomputable section sp98
variable {c v : Nat → Int32} {pl : Nat → Nat} {o : Bool} {z : Nat} {S : v_S} {F : v_F}
/-- an item behind a sign, joined -/
theorem c_join {dp h H k : Nat} {kk : Int32} {item : Nat → Nat → PR} {f1 : v_I → Option (Int32 × v_I)} (hS : p_SS S) (hF : p_FF F) (hm : mo z item) (hi : okC c v pl o z dp h f1 item) (hh : 1 ≤ h) (hH : h + 1 ≤ H) (hk : 6 ≤ k ∧ k ≤ 13) (hkk : kk = nI k)
    {I : v_I} {p n s a : Nat} {d : Den} (B : Cb I c v pl o z) (D : Cd I p n dp s) (hp : p < z) (hn : n ≤ 50) (hsp : s ≤ p + 35) (ha : a ≤ s) (hg : Sg (I 37) a s H d) :
    (∀ e, item (p + 1) n = .inl e → e ≤ z ∧ ∃ J x I', f1 (nxt I p) = some (0, J) ∧ f_X8_addStep S J F 31 kk 0 = some (x, I') ∧ Cf s I I' ∧ Ce I' s (pl e)) ∧
    (∀ r, item (p + 1) n = .inr r → r.2.1 ≤ 50 ∧ ∃ J x I' s', f1 (nxt I p) = some (1, J) ∧ f_X8_addStep S J F 31 kk 0 = some (x, I') ∧ Cf s I I' ∧ Cd I' r.1 r.2.1 dp s' ∧ s ≤ s' ∧ s' + p ≤ s + r.1 ∧ Sg (I' 37) a s' H (d_join kk d r.2.2) ∧ (I' 31 2 = 0 → I 31 2 = 0 ∧ d_still r.2.2)) := by
  subst hkk
  have hz := B.1
  have fN := Cf_next s I p
  obtain ⟨i1, i2⟩ := hi (nxt I p) (p + 1) n s (Cb_f fN B) (Cd_next D) (by omega) hn (by omega)
  refine ⟨fun e h2 => ?_, fun r h2 => ?_⟩
  · obtain ⟨he, J, e1, e2, e3⟩ := i1 e h2
    obtain ⟨x, I', e4, e5, e6⟩ := c_stepE hS hF e3 (nI k) 0
    exact ⟨he, J, x, I', e1, e4, Cf_trans (Cf_trans fN e2 (Nat.le_refl _)) e5 (Nat.le_refl _), e6⟩
  · obtain ⟨hn', J, s', e1, e2, e3, e4, e5, e6, e7⟩ := i2 r h2
    have hr := hm _ _ _ h2
    have c1 := cr_step (S := S) (F := F) hS hF e3.2.2.2.2.1 (by omega) k 0
    have fJ := Cf_trans fN e2 (Nat.le_refl _)
    have pkk := pk_ok 0 (by omega) k (by omega)
    refine ⟨hn', J, _, _, s' + 1, e1, c1, Cf_trans fJ (Cf_step J s' k 0) e4, Cd_step e3 k 0, by omega, by omega, ?_, fun q => ?_⟩
    · exact Sg_join (b := s) (e := s') (h := H) (h' := h) (Sg_cg hg (fun i h1 h2 => (st_lt _ _ _ _ (by omega)).trans (Cf_code fJ h2))) (Sg_cg e6 (fun i h1 h2 => st_lt _ _ _ _ h2)) hh ha e4 (by rw [st_at]; exact pkk.1) hk ⟨Nat.le_refl _, hH⟩
    · rw [st_2] at q
      have := e7 q
      rw [nxt_row I p (by decide)] at this
      exact this
theorem c_jst {dp h H k i : Nat} {kk : Int32} {item : Nat → Nat → PR} {f1 : v_I → Option (Int32 × v_I)} (hS : p_SS S) (hF : p_FF F) (hm : mo z item) (hi : okC c v pl o z dp h f1 item) (hh : 1 ≤ h) (hH : h + 1 ≤ H) (hk : 6 ≤ k ∧ k ≤ 13) (hkk : kk = nI k)
    {I : v_I} {p n s a : Nat} {d : Den} (B : Cb I c v pl o z) (D : Cd I p n dp s) (hp : p < z) (hn : n ≤ 50) (hsp : s ≤ p + 35) (ha : a ≤ s) (hg : Sg (I 37) a s H d) :
    Rst pl z ((h_X6_nextToken S I F).bind fun r7 => (f1 r7).bind fun r9 => (f_X8_addStep S r9.2 F 31 kk 0).bind fun r11 => p_let (nI i + 1) fun x13 => some (.inl (r9.1, x13, r11.2))) i I p dp a s H d (d_join kk) (item (p + 1) n) := by
  obtain ⟨k1, k2⟩ := c_join hS hF hm hi hh hH hk hkk B D hp hn hsp ha hg
  rw [c_next B D hp, p_bs]
  refine ⟨fun e h => ?_, fun r h => ?_⟩
  · obtain ⟨he, J, x, I', e1, e2, e3, e4⟩ := k1 e h
    refine ⟨he, I', ?_, e3, e4⟩
    rw [e1, p_bs]; dsimp only
    rw [e2, p_bs, p_le, ← nI_succ]
  · obtain ⟨hn', J, x, I', s', e1, e2, e3, e4, e5, e6, e7, e8⟩ := k2 r h
    refine ⟨hn', I', s', ?_, e3, e4, e5, e6, e7, fun q => ⟨(e8 q).1, fun w => st_join w (e8 q).2⟩⟩
    rw [e1, p_bs]; dsimp only
    rw [e2, p_bs, p_le, ← nI_succ]
theorem Cd_37 {I : v_I} {p n d s : Nat} (D : Cd I p n d s) (t : Nat) (x : Int32) : Cd (v_up I 37 t x) p n d s := by
  unfold Cd
  rw [w_row _ _ _ _ (show (30 : Nat) ≠ 37 by decide), w_row _ _ _ _ (show (31 : Nat) ≠ 37 by decide), w_row _ _ _ _ (show (38 : Nat) ≠ 37 by decide)]
  exact D
theorem Cd_8 {I : v_I} {p n d s : Nat} (D : Cd I p n d s) (d' : Nat) : Cd (v_up I 30 8 (nI d')) p n d' s := by
  obtain ⟨d1, d2, d3, d4, d5, d6, d7⟩ := D
  refine ⟨by simp [v_up, d1], by simp [v_up, d2], by simp [v_up, d3], by simp [v_up], by simp [v_up, d5], by simp [v_up, d6], ?_⟩
  rw [w_row _ _ _ _ (by decide)]; exact d7
theorem Cd_7 {I : v_I} {p n d s : Nat} (D : Cd I p n d s) (n' : Nat) : Cd (v_up I 30 7 (nI n')) p n' d s := by
  obtain ⟨d1, d2, d3, d4, d5, d6, d7⟩ := D
  refine ⟨by simp [v_up, d1], by simp [v_up, d2], by simp [v_up], by simp [v_up, d4], by simp [v_up, d5], by simp [v_up, d6], ?_⟩
  rw [w_row _ _ _ _ (by decide)]; exact d7
/-- an item behind "or", "and" -/
theorem c_ast {dp h k i : Nat} {kk : Int32} {g : Den → Den → Den} {item : Nat → Nat → PR} {f1 : v_I → Option (Int32 × v_I)} (hS : p_SS S) (hF : p_FF F) (hm : mo z item) (hi : okC c v pl o z dp h f1 item) (hh : 1 ≤ h) (hk : (k = 4 ∧ g = d_and) ∨ (k = 5 ∧ g = d_or)) (hkk : kk = nI k)
    {I : v_I} {p n s a : Nat} {d : Den} (B : Cb I c v pl o z) (D : Cd I p n dp s) (hp : p < z) (hn : n ≤ 50) (hsp : s ≤ p + 35) (ha : a ≤ s) (hg : Sg (I 37) a s h d) :
    Rst pl z ((f_X8_addStep S (nxt I p) F 31 kk 0).bind fun r8 => (f1 r8.2).bind fun r10 => (f_X8_aimHere S r10.2 F 31 r8.1).bind fun r12 => p_let (nI i + 1) fun x14 => some (.inl (r10.1, x14, r12))) i I p dp a s h d g (item (p + 1) n) := by
  subst hkk
  have hz := B.1
  have fN := Cf_next s I p
  have DN := Cd_next D
  have c1 := cr_step (S := S) (F := F) hS hF DN.2.2.2.2.1 (by omega) k 0
  rw [show nI 0 = (0 : Int32) from rfl] at c1
  rw [c1, p_bs]
  dsimp only
  have fA := Cf_trans fN (Cf_step (nxt I p) s k 0) (Nat.le_refl _)
  have DA := Cd_step DN k 0
  have hAs := st_at (nxt I p) s k 0
  have hA2 : ast (nxt I p) s k 0 31 2 = I 31 2 := by rw [st_2, nxt_row I p (by decide)]
  generalize ast (nxt I p) s k 0 = A at fA DA hAs hA2
  have k15 : k < 16 := by omega
  have pkk := (pk_ok 0 (by omega) k k15).1
  obtain ⟨i1, i2⟩ := hi A (p + 1) n (s + 1) (Cb_f fA B) DA (by omega) hn (by omega)
  refine ⟨fun e h2 => ?_, fun r h2 => ?_⟩
  · obtain ⟨he, J, e1, e2, e3, s', e4, e5, e6⟩ := i1 e h2
    have c2 := c_aim (S := S) (F := F) hS hF e6 (show s < 436 by omega)
    refine ⟨he, v_up J 37 s (pk (nI s') (J 37 s &&& 15)), ?_, Cf_up (Cf_trans fA e2 (by omega)) _ (.inr (.inr ⟨rfl, Nat.le_refl _⟩)), ?_, s', by omega, e5, ?_⟩
    · rw [e1, p_bs]; dsimp only
      rw [c2, p_bs, p_le, ← nI_succ]
    · rw [w_row _ _ _ _ (by decide)]; exact e3
    · rw [w_row _ _ _ _ (by decide)]; exact e6
  · obtain ⟨hn', J, s', e1, e2, e3, e4, e5, e6, e7⟩ := i2 r h2
    have hr := hm _ _ _ h2
    have c2 := c_aim (S := S) (F := F) hS hF e3.2.2.2.2.1 (show s < 436 by omega)
    have hJ : J 37 s &&& 15 = nI k := by rw [Cf_code e2 (by omega), hAs]; exact pkk
    rw [hJ] at c2
    have pks := pk_ok s' (by omega) k k15
    have fI := Cf_trans fA e2 (by omega)
    refine ⟨hn', v_up J 37 s (pk (nI s') (nI k)), s', ?_, Cf_up fI _ (.inr (.inr ⟨rfl, Nat.le_refl _⟩)), Cd_37 e3 _ _, by omega, by omega, ?_, fun q => ?_⟩
    · rw [e1, p_bs]; dsimp only
      rw [c2, p_bs, p_le, ← nI_succ]
    · have g1 : Sg (v_up J 37 s (pk (nI s') (nI k)) 37) a s h d := Sg_cg hg (fun i h1 h2 => by rw [w_ne _ _ _ _ (by omega)]; exact Cf_code fI h2)
      have g2 : Sg (v_up J 37 s (pk (nI s') (nI k)) 37) (s + 1) s' h r.2.2 := Sg_cg e6 (fun i h1 h2 => w_ne _ _ _ _ (by omega))
      have g3 : v_up J 37 s (pk (nI s') (nI k)) 37 s &&& 15 = nI k := by rw [w_at]; exact pks.1
      have g4 : v_up J 37 s (pk (nI s') (nI k)) 37 s >>> 4 = nI s' := by rw [w_at]; exact pks.2
      rcases hk with ⟨rfl, rfl⟩ | ⟨rfl, rfl⟩
      · exact Sg_and g1 g2 hh ha e4 (by omega) g3 g4
      · exact Sg_or g1 g2 hh ha e4 (by omega) g3 g4
    · rw [w_row _ _ _ _ (by decide)] at q
      have := e7 q
      rw [hA2] at this
      refine ⟨this.1, fun w => ?_⟩
      rcases hk with ⟨rfl, rfl⟩ | ⟨rfl, rfl⟩
      · exact st_and w this.2
      · exact st_or w this.2
theorem lt400 {i : Nat} (h : i < 400) : ¬ (400 : Int32) ≤ nI i := i_nle (a := 400) rfl rfl h (by omega)
theorem c_test1 {dp h : Nat} {item : Nat → Nat → PR} (hS : p_SS S) (hF : p_FF F) (rc : Nat → Int32 → v_S → v_I → v_F → Option (Int32 × v_I)) (hm : mo z item) (hh : 1 ≤ h) (hi : okC c v pl o z dp h (fun I => rc 1 0 S I F) item) : okC c v pl o z dp h (fun I => h_X6_readTest rc S I F) (sp_chn c op_or item) := by
  refine c_chn (body := h_X6_readTest_B7 rc S F) (by decide) hm (Nat.le_refl _) (fun i I p n s hi' B D hp h1 => ?_) (fun i I p n s a d g hi' B D hp hn hsp ha hg hSg => ?_) (fun i I => ?_) (fun I => ?_) hi
  · have h5 : c p ≠ 5 := fun q => by rw [q] at h1; cases h1
    unfold h_X6_readTest_B7
    dsimp only
    rw [if_neg (lt400 hi'), if_neg (by decide), c_take B D (tk_or (B.2.2.1 p hp)) (by decide), p_bs, if_neg h5]
    dsimp only
    rw [if_pos rfl]
  · have h5 : c p = 5 := by
      unfold op_or at hg
      by_cases q : c p = 5
      · exact q
      · rw [if_neg q] at hg; cases hg
    rw [h5] at hg
    cases hg
    unfold h_X6_readTest_B7
    dsimp only
    rw [if_neg (lt400 hi'), if_neg (by decide), c_take B D (tk_or (B.2.2.1 p (by omega))) (by decide), p_bs, if_pos h5]
    dsimp only
    rw [if_neg (by decide)]
    exact c_ast hS hF hm hi hh (.inr ⟨rfl, rfl⟩) rfl B D hp hn hsp ha hSg
  · unfold h_X6_readTest_B7
    dsimp only
    by_cases q : (400 : Int32) ≤ i
    · rw [if_pos q]
    · rw [if_neg q, if_pos rfl]
  · unfold h_X6_readTest_B7
    dsimp only
    rw [if_pos (by decide)]
theorem c_both1 {dp h : Nat} {item : Nat → Nat → PR} (hS : p_SS S) (hF : p_FF F) (rc : Nat → Int32 → v_S → v_I → v_F → Option (Int32 × v_I)) (hm : mo z item) (hh : 1 ≤ h) (hi : okC c v pl o z dp h (fun I => rc 2 0 S I F) item) : okC c v pl o z dp h (fun I => h_X6_readBoth rc S I F) (sp_chn c op_and item) := by
  refine c_chn (body := h_X6_readBoth_B7 rc S F) (by decide) hm (Nat.le_refl _) (fun i I p n s hi' B D hp h1 => ?_) (fun i I p n s a d g hi' B D hp hn hsp ha hg hSg => ?_) (fun i I => ?_) (fun I => ?_) hi
  · have h5 : c p ≠ 6 := fun q => by rw [q] at h1; cases h1
    unfold h_X6_readBoth_B7
    dsimp only
    rw [if_neg (lt400 hi'), if_neg (by decide), c_take B D (tk_and (B.2.2.1 p hp)) (by decide), p_bs, if_neg h5]
    dsimp only
    rw [if_pos rfl]
  · have h5 : c p = 6 := by
      unfold op_and at hg
      by_cases q : c p = 6
      · exact q
      · rw [if_neg q] at hg; cases hg
    rw [h5] at hg
    cases hg
    unfold h_X6_readBoth_B7
    dsimp only
    rw [if_neg (lt400 hi'), if_neg (by decide), c_take B D (tk_and (B.2.2.1 p (by omega))) (by decide), p_bs, if_pos h5]
    dsimp only
    rw [if_neg (by decide)]
    exact c_ast hS hF hm hi hh (.inl ⟨rfl, rfl⟩) rfl B D hp hn hsp ha hSg
  · unfold h_X6_readBoth_B7
    dsimp only
    by_cases q : (400 : Int32) ≤ i
    · rw [if_pos q]
    · rw [if_neg q, if_pos rfl]
  · unfold h_X6_readBoth_B7
    dsimp only
    rw [if_pos (by decide)]
theorem c_sum1 {dp h : Nat} {item : Nat → Nat → PR} (hS : p_SS S) (hF : p_FF F) (rc : Nat → Int32 → v_S → v_I → v_F → Option (Int32 × v_I)) (hm : mo z item) (hh : 1 ≤ h) (hi : okC c v pl o z dp h (fun I => rc 5 0 S I F) item) : okC c v pl o z dp (h + 1) (fun I => h_X6_readSum rc S I F) (sp_chn c op_sum item) := by
  refine c_chn (body := h_X6_readSum_B7 rc S F) (by decide) hm (by omega) (fun i I p n s hi' B D hp h1 => ?_) (fun i I p n s a d g hi' B D hp hn hsp ha hg hSg => ?_) (fun i I => ?_) (fun I => ?_) hi
  · have T := B.2.2.1 p hp
    rw [← D.2.1] at T
    have h3 : ¬ I 30 5 = 43 := fun q => by rw [(tk_43 T).mp q] at h1; cases h1
    have h4 : ¬ I 30 5 = 45 := fun q => by rw [(tk_45 T).mp q] at h1; cases h1
    unfold h_X6_readSum_B7
    dsimp only
    rw [if_neg (lt400 hi'), if_neg (by decide), if_neg h3, if_neg h4]
  · have T := B.2.2.1 p (by omega)
    rw [← D.2.1] at T
    unfold h_X6_readSum_B7 h_X6_readSum_J7_36
    dsimp only
    rw [if_neg (lt400 hi'), if_neg (by decide)]
    unfold op_sum at hg
    by_cases q : c p = 143
    · rw [if_pos q] at hg
      cases hg
      have q' := (tk_43 T).mpr q
      rw [if_pos q', if_pos q']
      exact c_jst (k := 9) hS hF hm hi hh (Nat.le_refl _) (by omega) rfl B D hp hn hsp ha hSg
    · rw [if_neg q] at hg
      have q' : ¬ I 30 5 = 43 := fun w => q ((tk_43 T).mp w)
      by_cases q2 : c p = 145
      · rw [if_pos q2] at hg
        cases hg
        rw [if_neg q', if_pos ((tk_45 T).mpr q2), if_neg q']
        exact c_jst (k := 10) hS hF hm hi hh (Nat.le_refl _) (by omega) rfl B D hp hn hsp ha hSg
      · rw [if_neg q2] at hg
        cases hg
  · unfold h_X6_readSum_B7
    dsimp only
    by_cases q : (400 : Int32) ≤ i
    · rw [if_pos q]
    · rw [if_neg q, if_pos rfl]
  · unfold h_X6_readSum_B7
    dsimp only
    rw [if_pos (by decide)]
theorem c_term1 {dp h : Nat} {item : Nat → Nat → PR} (hS : p_SS S) (hF : p_FF F) (rc : Nat → Int32 → v_S → v_I → v_F → Option (Int32 × v_I)) (hm : mo z item) (hh : 1 ≤ h) (hi : okC c v pl o z dp h (fun I => rc 6 0 S I F) item) : okC c v pl o z dp (h + 1) (fun I => h_X6_readTerm rc S I F) (sp_chn c op_trm item) := by
  refine c_chn (body := h_X6_readTerm_B7 rc S F) (by decide) hm (by omega) (fun i I p n s hi' B D hp h1 => ?_) (fun i I p n s a d g hi' B D hp hn hsp ha hg hSg => ?_) (fun i I => ?_) (fun I => ?_) hi
  · have T := B.2.2.1 p hp
    rw [← D.2.1] at T
    have h2 : ¬ I 30 5 = 42 := fun q => by rw [(tk_42 T).mp q] at h1; cases h1
    have h3 : ¬ I 30 5 = 47 := fun q => by rw [(tk_47 T).mp q] at h1; cases h1
    have h4 : ¬ I 30 5 = 37 := fun q => by rw [(tk_37 T).mp q] at h1; cases h1
    unfold h_X6_readTerm_B7
    dsimp only
    rw [if_neg (lt400 hi'), if_neg (by decide), if_neg h2, if_neg h3, if_neg h4]
  · have T := B.2.2.1 p (by omega)
    rw [← D.2.1] at T
    unfold h_X6_readTerm_B7 h_X6_readTerm_J7_45
    dsimp only
    rw [if_neg (lt400 hi'), if_neg (by decide)]
    unfold op_trm at hg
    by_cases q : c p = 142
    · rw [if_pos q] at hg
      cases hg
      have q' := (tk_42 T).mpr q
      rw [if_pos q', if_pos q']
      exact c_jst (k := 11) hS hF hm hi hh (Nat.le_refl _) (by omega) rfl B D hp hn hsp ha hSg
    · rw [if_neg q] at hg
      have q' : ¬ I 30 5 = 42 := fun w => q ((tk_42 T).mp w)
      by_cases q2 : c p = 147
      · rw [if_pos q2] at hg
        cases hg
        have q2' := (tk_47 T).mpr q2
        rw [if_neg q', if_pos q2', if_neg q', if_pos q2']
        exact c_jst (k := 12) hS hF hm hi hh (Nat.le_refl _) (by omega) rfl B D hp hn hsp ha hSg
      · rw [if_neg q2] at hg
        have q2' : ¬ I 30 5 = 47 := fun w => q2 ((tk_47 T).mp w)
        by_cases q3 : c p = 137
        · rw [if_pos q3] at hg
          cases hg
          rw [if_neg q', if_neg q2', if_pos ((tk_37 T).mpr q3), if_neg q', if_neg q2']
          exact c_jst (k := 13) hS hF hm hi hh (Nat.le_refl _) (by omega) rfl B D hp hn hsp ha hSg
        · rw [if_neg q3] at hg
          cases hg
  · unfold h_X6_readTerm_B7
    dsimp only
    by_cases q : (400 : Int32) ≤ i
    · rw [if_pos q]
    · rw [if_neg q, if_pos rfl]
  · unfold h_X6_readTerm_B7
    dsimp only
    rw [if_pos (by decide)]
end sp98
