noncomputable section sp93
/-! the model's reader: where it stands -/
def ms (I : v_I) (p n : Nat) (b : Int32) : v_I := v_up (v_up (v_up I 49 19 (nI p)) 49 20 (nI n)) 49 21 b
theorem ms_ne (I : v_I) (p n : Nat) (b : Int32) {a j : Nat} (h : a ≠ 49 ∨ (j ≠ 19 ∧ j ≠ 20 ∧ j ≠ 21)) : ms I p n b a j = I a j := by
  unfold ms
  rw [v_up_ne, v_up_ne, v_up_ne]
  · rintro ⟨rfl, rfl⟩; omega
  · rintro ⟨rfl, rfl⟩; omega
  · rintro ⟨rfl, rfl⟩; omega
theorem ms_row (I : v_I) (p n : Nat) (b : Int32) {a : Nat} (h : a ≠ 49) : ms I p n b a = I a := funext fun _ => ms_ne I p n b (.inl h)
theorem ms_19 (I : v_I) (p n : Nat) (b : Int32) : ms I p n b 49 19 = nI p := by
  unfold ms
  rw [w_ne _ _ _ _ (by decide), w_ne _ _ _ _ (by decide), w_at]
theorem ms_20 (I : v_I) (p n : Nat) (b : Int32) : ms I p n b 49 20 = nI n := by
  unfold ms
  rw [w_ne _ _ _ _ (by decide), w_at]
theorem ms_21 (I : v_I) (p n : Nat) (b : Int32) : ms I p n b 49 21 = b := v_up_at _ _ _ _
theorem ms_u19 (I : v_I) (p n q : Nat) (b : Int32) : v_up (ms I p n b) 49 19 (nI q) = ms I q n b := by
  funext a j
  unfold ms v_up
  by_cases h : a = 49 ∧ j = 19
  · obtain ⟨rfl, rfl⟩ := h; simp
  · simp [h]
theorem ms_u20 (I : v_I) (p n q : Nat) (b : Int32) : v_up (ms I p n b) 49 20 (nI q) = ms I p q b := by
  funext a j
  unfold ms v_up
  by_cases h : a = 49 ∧ j = 20
  · obtain ⟨rfl, rfl⟩ := h; simp
  · simp [h]
theorem ms_u21 (I : v_I) (p n : Nat) (b b' : Int32) : v_up (ms I p n b) 49 21 b' = ms I p n b' := by
  funext a j
  unfold ms v_up
  by_cases h : a = 49 ∧ j = 21
  · obtain ⟨rfl, rfl⟩ := h; simp
  · simp [h]
theorem ms_i19 (I : v_I) (p n : Nat) (b : Int32) : v_up (ms I p n b) 49 19 (ms I p n b 49 19 + 1) = ms I (p + 1) n b := by rw [ms_19, ← nI_succ, ms_u19]
theorem ms_i20 (I : v_I) (p n : Nat) (b : Int32) : v_up (ms I p n b) 49 20 (ms I p n b 49 20 + 1) = ms I p (n + 1) b := by rw [ms_20, ← nI_succ, ms_u20]
/-- all that it goes by -/
def Mr (I : v_I) (c v : Nat → Int32) (pl : Nat → Nat) (o : Bool) (z : Nat) : Prop :=
  z ≤ 400 ∧ (∀ p, p ≤ z → I 58 p = c p) ∧ (∀ p, p ≤ z → I 59 p = v p) ∧ cz c z ∧ (∀ p, p ≤ z → I 60 p = nI (pl p) ∧ pl p ≤ 400) ∧ I 49 10 = bI o ∧ I 49 8 = (if o then 13 else 8) ∧ I 49 9 = (if o then 19 else 16)
theorem ms_fine (I : v_I) (p n : Nat) : h_X10_fine (ms I p n (-1)) = some 1 := by
  unfold h_X10_fine; rw [ms_21, if_pos rfl]
theorem ms_fineX (I : v_I) (p n : Nat) {b : Int32} (h : b ≠ -1) : h_X10_fine (ms I p n b) = some 0 := by
  unfold h_X10_fine; rw [ms_21, if_neg h]
theorem mr_in {z p : Nat} (hz : z ≤ 400) (hp : p ≤ z) : p_in 401 (nI p) = some p := p_in_nI (by omega) (by decide)
theorem mr_takesX (I : v_I) (p n : Nat) {b : Int32} (h : b ≠ -1) (x : Int32) : h_X10_takes0 (ms I p n b) x = some (0, ms I p n b) := by
  unfold h_X10_takes0 h_X10_takes0_J24 h_X10_takes0_J25
  rw [ms_fineX I p n h, p_bs, if_pos rfl, if_pos rfl]; rfl
theorem mr_takes {I : v_I} {c v : Nat → Int32} {pl : Nat → Nat} {o : Bool} {z : Nat} (M : Mr I c v pl o z) {p : Nat} (hp : p ≤ z) (n : Nat) (x : Int32) : h_X10_takes0 (ms I p n (-1)) x = some (if c p = x then (1, ms I (p + 1) n (-1)) else (0, ms I p n (-1))) := by
  unfold h_X10_takes0 h_X10_takes0_J24 h_X10_takes0_J25
  rw [ms_fine, p_bs, if_neg (by decide), ms_19, mr_in M.1 hp, p_bs, ms_row _ _ _ _ (by decide), M.2.1 p hp]
  by_cases h : c p = x
  · rw [if_pos h, if_pos h, if_neg (by decide), p_le, ← nI_succ, ms_u19]; rfl
  · rw [if_neg h, if_neg h, if_pos rfl]; rfl
theorem mr_faultsX (I : v_I) (p n : Nat) {b : Int32} (h : b ≠ -1) : h_X10_faults (ms I p n b) = some (ms I p n b) := by
  unfold h_X10_faults
  rw [ms_fineX I p n h, p_bs, if_pos rfl]
theorem mr_faults {I : v_I} {c v : Nat → Int32} {pl : Nat → Nat} {o : Bool} {z : Nat} (M : Mr I c v pl o z) {p : Nat} (hp : p ≤ z) (n : Nat) : h_X10_faults (ms I p n (-1)) = some (ms I p n (nI (pl p))) := by
  unfold h_X10_faults
  rw [ms_fine, p_bs, if_neg (by decide), ms_19, mr_in M.1 hp, p_bs, p_le, ms_row _ _ _ _ (by decide), (M.2.2.2.2.1 p hp).1, ms_u21]
theorem mr_mustX (I : v_I) (p n : Nat) {b : Int32} (h : b ≠ -1) (x : Int32) : h_X10_must (ms I p n b) x = some (ms I p n b) := by
  unfold h_X10_must
  rw [mr_takesX I p n h, p_bs, if_pos rfl, mr_faultsX I p n h, p_bs]
theorem mr_must {I : v_I} {c v : Nat → Int32} {pl : Nat → Nat} {o : Bool} {z : Nat} (M : Mr I c v pl o z) {p : Nat} (hp : p ≤ z) (n : Nat) (x : Int32) : h_X10_must (ms I p n (-1)) x = some (if c p = x then ms I (p + 1) n (-1) else ms I p n (nI (pl p))) := by
  unfold h_X10_must
  rw [mr_takes M hp, p_bs]
  by_cases h : c p = x
  · rw [if_pos h, if_pos h]; dsimp only; rw [if_neg (by decide)]
  · rw [if_neg h, if_neg h]; dsimp only; rw [if_pos rfl, mr_faults M hp, p_bs]
theorem mr_num42X (I : v_I) (p n : Nat) {b : Int32} (h : b ≠ -1) : h_X10_mustNumber_J42 (ms I p n b) = some (ms I p n b) := by
  unfold h_X10_mustNumber_J42
  rw [ms_fineX I p n h, p_bs, if_pos rfl]
theorem mr_numX (I : v_I) (p n : Nat) {b : Int32} (h : b ≠ -1) (x y : Int32) : h_X10_mustNumber (ms I p n b) x y = some (ms I p n b) := by
  unfold h_X10_mustNumber
  rw [ms_fineX I p n h, p_bs, if_pos rfl, mr_num42X I p n h]
theorem mr_pl {I : v_I} {c v : Nat → Int32} {pl : Nat → Nat} {o : Bool} {z : Nat} (M : Mr I c v pl o z) {p : Nat} (hp : p ≤ z) : nI (pl p) ≠ -1 := nI_ne _ (by have := (M.2.2.2.2.1 p hp).2; omega)
theorem mr_num {I : v_I} {c v : Nat → Int32} {pl : Nat → Nat} {o : Bool} {z : Nat} (M : Mr I c v pl o z) {p : Nat} (hp : p ≤ z) (n : Nat) (x y : Int32) : h_X10_mustNumber (ms I p n (-1)) x y = some (if c p = 50 ∧ x ≤ v p ∧ v p ≤ y then ms I (p + 1) n (-1) else ms I p n (nI (pl p))) := by
  have j38 : h_X10_mustNumber_J38 (ms I p n (-1)) = some (ms I p n (nI (pl p))) := by
    unfold h_X10_mustNumber_J38
    rw [mr_faults M hp, p_bs, mr_num42X _ _ _ (mr_pl M hp)]
  unfold h_X10_mustNumber
  rw [ms_fine, p_bs, if_neg (by decide), ms_19, mr_in M.1 hp, p_bs, ms_row _ _ _ _ (by decide), M.2.1 p hp, j38]
  by_cases h : c p = 50
  · rw [if_pos h, p_bs, ms_row _ _ _ _ (by decide), M.2.2.1 p hp, b_lies, p_bs]
    by_cases h2 : x ≤ v p ∧ v p ≤ y
    · rw [if_neg (by rw [if_pos h2]; decide), if_pos ⟨h, h2⟩]
      unfold h_X10_mustNumber_J42
      rw [ms_fine, p_bs, if_neg (by decide), p_le, ms_i19]
    · rw [if_pos (by rw [if_neg h2]), if_neg (fun q => h2 q.2)]
  · rw [if_neg h, if_neg (fun q => h q.1)]
/-- it reads as told -/
def okM (I : v_I) (pl : Nat → Nat) (z : Nat) (f : v_I → Option v_I) (item : Nat → Nat → PR) : Prop :=
  (∀ p n b, b ≠ -1 → f (ms I p n b) = some (ms I p n b)) ∧ ∀ p n, p ≤ z → n ≤ 50 →
    (∀ e, item p n = .inl e → e ≤ z ∧ ∃ p' n', f (ms I p n (-1)) = some (ms I p' n' (nI (pl e)))) ∧ (∀ r, item p n = .inr r → r.2.1 ≤ 50 ∧ f (ms I p n (-1)) = some (ms I r.1 r.2.1 (-1)))
theorem mr_chl {I : v_I} {c v : Nat → Int32} {pl : Nat → Nat} {o : Bool} {z : Nat} (M : Mr I c v pl o z) {op : Int32 → Option (Den → Den → Den)} {item : Nat → Nat → PR} {f1 : v_I → Option v_I} {body : v_I → Option (v_I ⊕ v_I)} (h0 : op 0 = none) (hm : mo z item)
    (hb : ∀ p n, p ≤ z → op (c p) = none → body (ms I p n (-1)) = some (.inr (ms I p n (-1)))) (hs : ∀ p n g, p < z → op (c p) = some g → body (ms I p n (-1)) = (f1 (ms I (p + 1) n (-1))).bind fun r => some (.inl r))
    (hx : ∀ p n b, b ≠ -1 → body (ms I p n b) = some (.inr (ms I p n b))) (hi : okM I pl z f1 item) : ∀ (f p n m : Nat) (d : Den), p ≤ z → n ≤ 50 → 400 ≤ f + p → f + 2 ≤ m →
      (∀ e, sp_chl c op item f p n d = .inl e → e ≤ z ∧ ∃ p' n', v_loop body m (ms I p n (-1)) = some (ms I p' n' (nI (pl e)))) ∧ (∀ r, sp_chl c op item f p n d = .inr r → r.2.1 ≤ 50 ∧ v_loop body m (ms I p n (-1)) = some (ms I r.1 r.2.1 (-1))) := by
  intro f
  induction f with
  | zero =>
    intro p n m d hp hn hf hm'
    have : z ≤ 400 := M.1
    obtain ⟨m, rfl⟩ : ∃ k, m = k + 1 := ⟨m - 1, by omega⟩
    have h1 : op (c p) = none := by rw [M.2.2.2.1 p (by omega)]; exact h0
    unfold sp_chl
    refine ⟨(fun e h => by cases h), fun r h => ?_⟩
    cases h
    refine ⟨hn, ?_⟩
    simp only [v_loop, hb p n hp h1]
  | succ f ih =>
    intro p n m d hp hn hf hm'
    obtain ⟨m, rfl⟩ : ∃ k, m = k + 1 := ⟨m - 1, by omega⟩
    unfold sp_chl
    cases h1 : op (c p) with
    | none =>
      refine ⟨(fun e h => by cases h), fun r h => ?_⟩
      cases h
      refine ⟨hn, ?_⟩
      simp only [v_loop, hb p n hp h1]
    | some g =>
      have hlt : p < z := cz_lt M.2.2.2.1 (fun q => by rw [q, h0] at h1; cases h1)
      dsimp only
      obtain ⟨i1, i2⟩ := hi.2 (p + 1) n hlt hn
      cases h2 : item (p + 1) n with
      | inl e =>
        obtain ⟨he, p', n', e1⟩ := i1 e h2
        refine ⟨fun e' h => ?_, (fun r h => by cases h)⟩
        cases h
        refine ⟨he, p', n', ?_⟩
        obtain ⟨m, rfl⟩ : ∃ k, m = k + 1 := ⟨m - 1, by omega⟩
        simp only [v_loop, hs p n g hlt h1, e1, p_bs, hx p' n' _ (mr_pl M he)]
      | inr r =>
        obtain ⟨hn', e1⟩ := i2 r h2
        have := hm _ _ _ h2
        have e2 : v_loop body (m + 1) (ms I p n (-1)) = v_loop body m (ms I r.1 r.2.1 (-1)) := by
          simp only [v_loop, hs p n g hlt h1, e1, p_bs]
        rw [e2]
        exact ih r.1 r.2.1 m _ this.2 hn' (by omega) (by omega)
theorem mr_chn {I : v_I} {c v : Nat → Int32} {pl : Nat → Nat} {o : Bool} {z : Nat} (M : Mr I c v pl o z) {op : Int32 → Option (Den → Den → Den)} {item : Nat → Nat → PR} {f1 : v_I → Option v_I} {body : v_I → Option (v_I ⊕ v_I)} (h0 : op 0 = none) (hm : mo z item)
    (hb : ∀ p n, p ≤ z → op (c p) = none → body (ms I p n (-1)) = some (.inr (ms I p n (-1)))) (hs : ∀ p n g, p < z → op (c p) = some g → body (ms I p n (-1)) = (f1 (ms I (p + 1) n (-1))).bind fun r => some (.inl r))
    (hx : ∀ p n b, b ≠ -1 → body (ms I p n b) = some (.inr (ms I p n b))) (hi : okM I pl z f1 item) : okM I pl z (fun J => (f1 J).bind fun r => (v_loop body FU r).bind fun q => some q) (sp_chn c op item) := by
  have one : ∀ p n b, b ≠ -1 → v_loop body FU (ms I p n b) = some (ms I p n b) := by
    intro p n b h
    obtain ⟨m, hF⟩ : ∃ k, FU = k + 1 := ⟨FU - 1, by rw [FU_eq]⟩
    rw [hF]
    simp only [v_loop, hx p n b h]
  refine ⟨fun p n b h => ?_, fun p n hp hn => ?_⟩
  · dsimp only
    rw [hi.1 p n b h, p_bs, one p n b h, p_bs]
  · dsimp only
    unfold sp_chn
    obtain ⟨i1, i2⟩ := hi.2 p n hp hn
    cases h2 : item p n with
    | inl e =>
      obtain ⟨he, p', n', e1⟩ := i1 e h2
      refine ⟨fun e' h => ?_, (fun r h => by cases h)⟩
      cases h
      refine ⟨he, p', n', ?_⟩
      rw [e1, p_bs, one _ _ _ (mr_pl M he), p_bs]
    | inr r =>
      obtain ⟨hn', e1⟩ := i2 r h2
      have := hm _ _ _ h2
      dsimp only
      obtain ⟨k1, k2⟩ := mr_chl M h0 hm hb hs hx hi 400 r.1 r.2.1 FU r.2.2 this.2 hn' (by omega) (by rw [FU_eq]; omega)
      refine ⟨fun e h => ?_, fun u h => ?_⟩
      · obtain ⟨a, p', n', b⟩ := k1 e h
        exact ⟨a, p', n', by rw [e1, p_bs, b, p_bs]⟩
      · obtain ⟨a, b⟩ := k2 u h
        exact ⟨a, by rw [e1, p_bs, b, p_bs]⟩
theorem mr_test1 {I : v_I} {c v : Nat → Int32} {pl : Nat → Nat} {o : Bool} {z : Nat} (M : Mr I c v pl o z) {item : Nat → Nat → PR} (hm : mo z item) (rc : Nat → Int32 → v_I → Option v_I) (dp : Int32) (hi : okM I pl z (rc 1 dp) item) : okM I pl z (fun J => h_X10_readTest rc J dp) (sp_chn c op_or item) := by
  refine mr_chn M (body := h_X10_readTest_B5 rc dp) (by decide) hm (fun p n hp h => ?_) (fun p n g hp h => ?_) (fun p n b h => ?_) hi
  · have : c p ≠ 5 := fun q => by rw [q] at h; cases h
    unfold h_X10_readTest_B5
    rw [mr_takes M hp, p_bs, if_neg this]; dsimp only; rw [if_pos rfl]
  · have : c p = 5 := by
      unfold op_or at h
      by_cases q : c p = 5
      · exact q
      · rw [if_neg q] at h; cases h
    unfold h_X10_readTest_B5
    rw [mr_takes M (by omega), p_bs, if_pos this]; dsimp only; rw [if_neg (by decide)]
  · unfold h_X10_readTest_B5
    rw [mr_takesX _ _ _ h, p_bs, if_pos rfl]
theorem mr_both1 {I : v_I} {c v : Nat → Int32} {pl : Nat → Nat} {o : Bool} {z : Nat} (M : Mr I c v pl o z) {item : Nat → Nat → PR} (hm : mo z item) (rc : Nat → Int32 → v_I → Option v_I) (dp : Int32) (hi : okM I pl z (rc 2 dp) item) : okM I pl z (fun J => h_X10_readBoth rc J dp) (sp_chn c op_and item) := by
  refine mr_chn M (body := h_X10_readBoth_B5 rc dp) (by decide) hm (fun p n hp h => ?_) (fun p n g hp h => ?_) (fun p n b h => ?_) hi
  · have : c p ≠ 6 := fun q => by rw [q] at h; cases h
    unfold h_X10_readBoth_B5
    rw [mr_takes M hp, p_bs, if_neg this]; dsimp only; rw [if_pos rfl]
  · have : c p = 6 := by
      unfold op_and at h
      by_cases q : c p = 6
      · exact q
      · rw [if_neg q] at h; cases h
    unfold h_X10_readBoth_B5
    rw [mr_takes M (by omega), p_bs, if_pos this]; dsimp only; rw [if_neg (by decide)]
  · unfold h_X10_readBoth_B5
    rw [mr_takesX _ _ _ h, p_bs, if_pos rfl]
theorem mr_sum1 {I : v_I} {c v : Nat → Int32} {pl : Nat → Nat} {o : Bool} {z : Nat} (M : Mr I c v pl o z) {item : Nat → Nat → PR} (hm : mo z item) (rc : Nat → Int32 → v_I → Option v_I) (dp : Int32) (hi : okM I pl z (rc 4 dp) item) : okM I pl z (fun J => h_X10_readSum rc J dp) (sp_chn c op_sum item) := by
  have e1 : (100 : Int32) + 43 = 143 := by decide
  have e2 : (100 : Int32) + 45 = 145 := by decide
  refine mr_chn M (body := h_X10_readSum_B5 rc dp) (by decide) hm (fun p n hp h => ?_) (fun p n g hp h => ?_) (fun p n b h => ?_) hi
  · have h1 : c p ≠ 143 := fun q => by rw [q] at h; cases h
    have h2 : c p ≠ 145 := fun q => by rw [q] at h; cases h
    unfold h_X10_readSum_B5
    simp only [h_X10_sign, p_bs, e1, e2, mr_takes M hp, if_neg h1, if_neg h2]
    rw [if_pos True.intro, if_pos True.intro]
  · unfold h_X10_readSum_B5 h_X10_readSum_J5_29
    simp only [h_X10_sign, p_bs, e1, e2, mr_takes M (Nat.le_of_lt hp)]
    by_cases h1 : c p = 143
    · simp only [if_pos h1]; rw [if_neg (by decide)]
    · simp only [if_neg h1]
      by_cases h2 : c p = 145
      · rw [if_pos True.intro, mr_takes M (Nat.le_of_lt hp), p_bs, if_pos h2]; dsimp only; rw [if_neg (by decide)]
      · unfold op_sum at h; rw [if_neg h1, if_neg h2] at h; cases h
  · unfold h_X10_readSum_B5
    simp only [h_X10_sign, p_bs, mr_takesX _ _ _ h]
    rw [if_pos True.intro, if_pos True.intro]
theorem mr_term1 {I : v_I} {c v : Nat → Int32} {pl : Nat → Nat} {o : Bool} {z : Nat} (M : Mr I c v pl o z) {item : Nat → Nat → PR} (hm : mo z item) (rc : Nat → Int32 → v_I → Option v_I) (dp : Int32) (hi : okM I pl z (rc 5 dp) item) : okM I pl z (fun J => h_X10_readTerm rc J dp) (sp_chn c op_trm item) := by
  have e1 : (100 : Int32) + 42 = 142 := by decide
  have e2 : (100 : Int32) + 47 = 147 := by decide
  have e3 : (100 : Int32) + 37 = 137 := by decide
  refine mr_chn M (body := h_X10_readTerm_B5 rc dp) (by decide) hm (fun p n hp h => ?_) (fun p n g hp h => ?_) (fun p n b h => ?_) hi
  · have h1 : c p ≠ 142 := fun q => by rw [q] at h; cases h
    have h2 : c p ≠ 147 := fun q => by rw [q] at h; cases h
    have h3 : c p ≠ 137 := fun q => by rw [q] at h; cases h
    unfold h_X10_readTerm_B5
    simp only [h_X10_sign, p_bs, e1, e2, e3, mr_takes M hp, if_neg h1, if_neg h2, if_neg h3]
    rw [if_pos True.intro, if_pos True.intro, if_pos True.intro]
  · unfold h_X10_readTerm_B5 h_X10_readTerm_J5_41
    simp only [h_X10_sign, p_bs, e1, e2, e3, mr_takes M (Nat.le_of_lt hp)]
    by_cases h1 : c p = 142
    · simp only [if_pos h1]; rw [if_neg (by decide)]
    · simp only [if_neg h1]
      rw [if_pos True.intro, mr_takes M (Nat.le_of_lt hp), p_bs]
      by_cases h2 : c p = 147
      · rw [if_pos h2]; dsimp only; rw [if_neg (by decide)]
      · rw [if_neg h2]; dsimp only
        rw [if_pos rfl, mr_takes M (Nat.le_of_lt hp), p_bs]
        by_cases h3 : c p = 137
        · rw [if_pos h3]; dsimp only; rw [if_neg (by decide)]
        · unfold op_trm at h; rw [if_neg h1, if_neg h2, if_neg h3] at h; cases h
  · unfold h_X10_readTerm_B5
    simp only [h_X10_sign, p_bs, mr_takesX _ _ _ h]
    rw [if_pos True.intro, if_pos True.intro, if_pos True.intro]
/-- brackets, or nothing deeper -/
def sbM (I : v_I) (pl : Nat → Nat) (z : Nat) (dp : Int32) (f : v_I → Option v_I) (sub : Option (Nat → Nat → PR)) : Prop := (sub = none ∧ dp = 8) ∨ ∃ g, sub = some g ∧ dp ≠ 8 ∧ okM I pl z f g
theorem mr_brk {I : v_I} {c v : Nat → Int32} {pl : Nat → Nat} {o : Bool} {z : Nat} (M : Mr I c v pl o z) {dp cl : Int32} {f : v_I → Option v_I} {sub : Option (Nat → Nat → PR)} (hs : sbM I pl z dp f sub) (hm : moS z sub) {J : v_I → Option v_I} (hJ : ∀ p n, J (ms I p n (-1)) = (f (ms I (p + 1) n (-1))).bind fun r => (h_X10_must r cl).bind fun s => some s) (hJX : ∀ p n b, b ≠ -1 → J (ms I p n b) = some (ms I p n b)) {p n : Nat} (hp : p < z) (hn : n ≤ 50) :
    (∀ e, sp_brk c cl sub p n = .inl e → e ≤ z ∧ ∃ p' n', (if dp = 8 then (h_X10_faults (ms I p n (-1))).bind J else J (ms I p n (-1))) = some (ms I p' n' (nI (pl e)))) ∧ (∀ r, sp_brk c cl sub p n = .inr r → r.2.1 ≤ 50 ∧ (if dp = 8 then (h_X10_faults (ms I p n (-1))).bind J else J (ms I p n (-1))) = some (ms I r.1 r.2.1 (-1))) := by
  rcases hs with ⟨rfl, rfl⟩ | ⟨g, rfl, hd, hg⟩
  · refine ⟨fun e h => ?_, (fun r h => by cases h)⟩
    cases h
    refine ⟨by omega, p, n, ?_⟩
    rw [if_pos rfl, mr_faults M (by omega), p_bs, hJX _ _ _ (mr_pl M (by omega))]
  · rw [if_neg hd, hJ]
    unfold sp_brk
    dsimp only
    obtain ⟨i1, i2⟩ := hg.2 (p + 1) n (by omega) hn
    cases h2 : g (p + 1) n with
    | inl e =>
      obtain ⟨he, p', n', e1⟩ := i1 e h2
      refine ⟨fun e' h => ?_, (fun r h => by cases h)⟩
      cases h
      exact ⟨he, p', n', by rw [e1, p_bs, mr_mustX _ _ _ (mr_pl M he), p_bs]⟩
    | inr r =>
      obtain ⟨hn', e1⟩ := i2 r h2
      have := hm g rfl _ _ _ h2
      dsimp only
      rw [e1, p_bs, mr_must M this.2, p_bs]
      by_cases q : c r.1 = cl
      · rw [if_pos q, if_pos q]
        refine ⟨(fun e h => by cases h), fun u h => ?_⟩
        cases h
        exact ⟨hn', rfl⟩
      · rw [if_neg q, if_neg q]
        refine ⟨fun e h => ?_, (fun u h => by cases h)⟩
        cases h
        exact ⟨this.2, r.1, r.2.1, rfl⟩
end sp93
