noncomputable section sp53
/-- which place of the row a cell of the Chamber is -/
def cm (a j i : Nat) : Prop := (a = 2 ∧ j = 0 ∧ i = 0) ∨ (a = 2 ∧ j = 1 ∧ i = 17) ∨ (a = 3 ∧ j < 8 ∧ i = 1 + j) ∨ (a = 4 ∧ j < 8 ∧ i = 9 + j) ∨ (a = 1 ∧ j = 0 ∧ i = 49) ∨ (a = 5 ∧ j < 8 ∧ i = 18 + j) ∨ (a = 6 ∧ j < 8 ∧ i = 26 + j) ∨ (a = 1 ∧ j = 4 ∧ i = 46) ∨ (a = 1 ∧ j = 5 ∧ i = 47) ∨ (a = 1 ∧ j = 6 ∧ i = 48) ∨ (a = 1 ∧ j = 7 ∧ i = 50) ∨ (a = 7 ∧ j < 6 ∧ i = 34 + 2 * j) ∨ (a = 8 ∧ j < 6 ∧ i = 35 + 2 * j) ∨ (a = 1 ∧ j = 10 ∧ i = 51) ∨ (a = 1 ∧ j = 12 ∧ i = 52)
def kup (k : Nat → Int32) (i : Nat) (x : Int32) : Nat → Int32 := fun z => if z = i then x else k z
theorem kup_at (k : Nat → Int32) (i : Nat) (x : Int32) : kup k i x i = x := by unfold kup; rw [if_pos rfl]
theorem kup_ne (k : Nat → Int32) {i z : Nat} (x : Int32) (h : z ≠ i) : kup k i x z = k z := by unfold kup; rw [if_neg h]
theorem v_up_k (I : v_I) (a i : Nat) (x : Int32) : v_up I a i x a = kup (I a) i x := by rw [v_up_own]; rfl
theorem cm_rd {I : v_I} {k : Nat → Int32} (hC : rC I 1 2 3 4 5 6 7 8 k) {a j i : Nat} (c : cm a j i) : I a j = k i := by
  obtain ⟨⟨m1, m2, m3, m4⟩, c1, c2, c3, c4, c5, c6, c7, c8, c9, c10, c11⟩ := hC
  rcases c with ⟨rfl, rfl, rfl⟩ | ⟨rfl, rfl, rfl⟩ | ⟨rfl, hj, rfl⟩ | ⟨rfl, hj, rfl⟩ | ⟨rfl, rfl, rfl⟩ | ⟨rfl, hj, rfl⟩ | ⟨rfl, hj, rfl⟩ | ⟨rfl, rfl, rfl⟩ | ⟨rfl, rfl, rfl⟩ | ⟨rfl, rfl, rfl⟩ | ⟨rfl, rfl, rfl⟩ | ⟨rfl, hj, rfl⟩ | ⟨rfl, hj, rfl⟩ | ⟨rfl, rfl, rfl⟩ | ⟨rfl, rfl, rfl⟩
  · exact m1
  · exact m2
  · exact m3 _ hj
  · exact m4 _ hj
  · exact c1
  · exact c2 _ hj
  · exact c3 _ hj
  · exact c4
  · exact c5
  · exact c6
  · exact c7
  · exact c8 _ hj
  · exact c9 _ hj
  · exact c10
  · exact c11
theorem cm_open : cm 2 0 0 := .inl ⟨rfl, rfl, rfl⟩
theorem cm_min : cm 2 1 17 := .inr (.inl ⟨rfl, rfl, rfl⟩)
theorem cm_want {j : Nat} (h : j < 8) : cm 3 j (1 + j) := .inr (.inr (.inl ⟨rfl, h, rfl⟩))
theorem cm_still {j : Nat} (h : j < 8) : cm 4 j (9 + j) := .inr (.inr (.inr (.inl ⟨rfl, h, rfl⟩)))
theorem cm_many : cm 1 0 49 := .inr (.inr (.inr (.inr (.inl ⟨rfl, rfl, rfl⟩))))
theorem cm_shy {j : Nat} (h : j < 8) : cm 5 j (18 + j) := .inr (.inr (.inr (.inr (.inr (.inl ⟨rfl, h, rfl⟩)))))
theorem cm_wat {j : Nat} (h : j < 8) : cm 6 j (26 + j) := .inr (.inr (.inr (.inr (.inr (.inr (.inl ⟨rfl, h, rfl⟩))))))
theorem cm_starts : cm 1 4 46 := .inr (.inr (.inr (.inr (.inr (.inr (.inr (.inl ⟨rfl, rfl, rfl⟩)))))))
theorem cm_hush : cm 1 5 47 := .inr (.inr (.inr (.inr (.inr (.inr (.inr (.inr (.inl ⟨rfl, rfl, rfl⟩))))))))
theorem cm_mood : cm 1 6 48 := .inr (.inr (.inr (.inr (.inr (.inr (.inr (.inr (.inr (.inl ⟨rfl, rfl, rfl⟩)))))))))
theorem cm_sman : cm 1 7 50 := .inr (.inr (.inr (.inr (.inr (.inr (.inr (.inr (.inr (.inr (.inl ⟨rfl, rfl, rfl⟩))))))))))
theorem cm_smin {j : Nat} (h : j < 6) : cm 7 j (34 + 2 * j) := .inr (.inr (.inr (.inr (.inr (.inr (.inr (.inr (.inr (.inr (.inr (.inl ⟨rfl, h, rfl⟩)))))))))))
theorem cm_sopn {j : Nat} (h : j < 6) : cm 8 j (35 + 2 * j) := .inr (.inr (.inr (.inr (.inr (.inr (.inr (.inr (.inr (.inr (.inr (.inr (.inl ⟨rfl, h, rfl⟩))))))))))))
theorem cm_lman : cm 1 10 51 := .inr (.inr (.inr (.inr (.inr (.inr (.inr (.inr (.inr (.inr (.inr (.inr (.inr (.inl ⟨rfl, rfl, rfl⟩)))))))))))))
theorem cm_force : cm 1 12 52 := .inr (.inr (.inr (.inr (.inr (.inr (.inr (.inr (.inr (.inr (.inr (.inr (.inr (.inr ⟨rfl, rfl, rfl⟩)))))))))))))
theorem rC_of {I : v_I} {k : Nat → Int32} (h : ∀ a j i, cm a j i → I a j = k i) : rC I 1 2 3 4 5 6 7 8 k := ⟨⟨h _ _ _ cm_open, h _ _ _ cm_min, fun _ q => h _ _ _ (cm_want q), fun _ q => h _ _ _ (cm_still q)⟩, h _ _ _ cm_many, fun _ q => h _ _ _ (cm_shy q), fun _ q => h _ _ _ (cm_wat q), h _ _ _ cm_starts, h _ _ _ cm_hush, h _ _ _ cm_mood, h _ _ _ cm_sman, fun _ q => h _ _ _ (cm_smin q), fun _ q => h _ _ _ (cm_sopn q), h _ _ _ cm_lman, h _ _ _ cm_force⟩
theorem cm_inj {a j i a' j' : Nat} (c : cm a j i) (c' : cm a' j' i) : a = a' ∧ j = j' := by
  unfold cm at c'
  rcases c with ⟨rfl, rfl, rfl⟩ | ⟨rfl, rfl, rfl⟩ | ⟨rfl, hj, rfl⟩ | ⟨rfl, hj, rfl⟩ | ⟨rfl, rfl, rfl⟩ | ⟨rfl, hj, rfl⟩ | ⟨rfl, hj, rfl⟩ | ⟨rfl, rfl, rfl⟩ | ⟨rfl, rfl, rfl⟩ | ⟨rfl, rfl, rfl⟩ | ⟨rfl, rfl, rfl⟩ | ⟨rfl, hj, rfl⟩ | ⟨rfl, hj, rfl⟩ | ⟨rfl, rfl, rfl⟩ | ⟨rfl, rfl, rfl⟩ <;> omega
theorem cm_fun {a j i i' : Nat} (c : cm a j i) (c' : cm a j i') : i = i' := by
  unfold cm at c'
  rcases c with ⟨rfl, rfl, rfl⟩ | ⟨rfl, rfl, rfl⟩ | ⟨rfl, hj, rfl⟩ | ⟨rfl, hj, rfl⟩ | ⟨rfl, rfl, rfl⟩ | ⟨rfl, hj, rfl⟩ | ⟨rfl, hj, rfl⟩ | ⟨rfl, rfl, rfl⟩ | ⟨rfl, rfl, rfl⟩ | ⟨rfl, rfl, rfl⟩ | ⟨rfl, rfl, rfl⟩ | ⟨rfl, hj, rfl⟩ | ⟨rfl, hj, rfl⟩ | ⟨rfl, rfl, rfl⟩ | ⟨rfl, rfl, rfl⟩ <;> omega
theorem rC_up {I : v_I} {k : Nat → Int32} (hC : rC I 1 2 3 4 5 6 7 8 k) {a j i : Nat} (x : Int32) (c : cm a j i) : rC (v_up I a j x) 1 2 3 4 5 6 7 8 (kup k i x) := rC_of fun a' j' i' c' => by
  by_cases e : i' = i
  · subst e
    obtain ⟨rfl, rfl⟩ := cm_inj c c'
    rw [kup_at, v_up_at]
  · rw [kup_ne _ _ e, v_up_ne]
    · exact cm_rd hC c'
    · rintro ⟨rfl, rfl⟩
      exact e (cm_fun c' c)
theorem rC_ne {I : v_I} {k : Nat → Int32} (hC : rC I 1 2 3 4 5 6 7 8 k) {a j : Nat} (x : Int32) (ha : ¬ (1 ≤ a ∧ a ≤ 8)) : rC (v_up I a j x) 1 2 3 4 5 6 7 8 k := rC_of fun a' j' i' c' => by
  rw [v_up_ne]
  · exact cm_rd hC c'
  · rintro ⟨rfl, rfl⟩
    unfold cm at c'
    omega
theorem rC_f {I I' : v_I} {k : Nat → Int32} (hC : rC I 1 2 3 4 5 6 7 8 k) (e : ∀ a, 1 ≤ a → a ≤ 8 → I' a = I a) : rC I' 1 2 3 4 5 6 7 8 k := rC_of fun a j i c => by
  have : 1 ≤ a ∧ a ≤ 8 := by unfold cm at c; omega
  rw [e a this.1 this.2]
  exact cm_rd hC c
/-- what may be anything -/
theorem kK_any {k : Nat → Int32} (hK : kK k) {i : Nat} (x : Int32) (hi : (9 ≤ i ∧ i < 17) ∨ (18 ≤ i ∧ i < 26) ∨ (46 ≤ i ∧ i ≤ 48) ∨ (34 ≤ i ∧ i < 46 ∧ i % 2 = 1) ∨ 53 ≤ i) : kK (kup k i x) := by
  obtain ⟨n, tl, k1, k2, k3, k4, k5, k6, k7, k8, k9⟩ := hK
  refine ⟨n, tl, k1, ?_, ⟨?_, ?_, ?_⟩, ?_, ?_, ?_, k7, ?_, ?_⟩
  · rw [kup_ne _ _ (by omega)]; exact k2
  · rw [kup_ne _ _ (by omega)]; exact k3.1
  · rw [kup_ne _ _ (by omega)]; exact k3.2.1
  · intro h hh; rw [kup_ne _ _ (by omega)]; exact k3.2.2 h hh
  · intro h hh; rw [kup_ne _ _ (by omega)]; exact k4 h hh
  · rw [kup_ne _ _ (by omega)]; exact k5
  · intro h hh; rw [kup_ne _ _ (by omega)]; exact k6 h hh
  · rw [kup_ne _ _ (by omega)]; exact k8
  · rw [kup_ne _ _ (by omega)]; exact k9
theorem kK_open {k : Nat → Int32} (hK : kK k) {n o : Nat} (hn : n ≤ 8) (e : k 49 = nI n) (ho : o < 2 ^ n) : kK (kup k 0 (nI o)) := by
  obtain ⟨n', tl, k1, k2, k3, k4, k5, k6, k7, k8, k9⟩ := hK
  have : n' = n := (nI_eq (by omega) (by omega)).mp (k2.symm.trans e)
  subst this
  refine ⟨n', tl, k1, ?_, ⟨⟨o, ho, kup_at _ _ _⟩, ?_, ?_⟩, ?_, ?_, ?_, k7, ?_, ?_⟩
  · rw [kup_ne _ _ (by omega)]; exact k2
  · rw [kup_ne _ _ (by omega)]; exact k3.2.1
  · intro h hh; rw [kup_ne _ _ (by omega)]; exact k3.2.2 h hh
  · intro h hh; rw [kup_ne _ _ (by omega)]; exact k4 h hh
  · rw [kup_ne _ _ (by omega)]; exact k5
  · intro h hh; rw [kup_ne _ _ (by omega)]; exact k6 h hh
  · rw [kup_ne _ _ (by omega)]; exact k8
  · rw [kup_ne _ _ (by omega)]; exact k9
theorem kK_seen {k : Nat → Int32} (hK : kK k) {i q : Nat} (hi : i < 6) (hq : q ≤ 60) : kK (kup k (34 + 2 * i) (nI q)) := by
  obtain ⟨n, tl, k1, k2, k3, k4, k5, k6, k7, k8, k9⟩ := hK
  refine ⟨n, tl, k1, ?_, ⟨?_, ?_, ?_⟩, ?_, ?_, ?_, k7, ?_, ?_⟩
  · rw [kup_ne _ _ (by omega)]; exact k2
  · rw [kup_ne _ _ (by omega)]; exact k3.1
  · rw [kup_ne _ _ (by omega)]; exact k3.2.1
  · intro h hh; rw [kup_ne _ _ (by omega)]; exact k3.2.2 h hh
  · intro h hh; rw [kup_ne _ _ (by omega)]; exact k4 h hh
  · rw [kup_ne _ _ (by omega)]; exact k5
  · intro h hh
    by_cases e : h = i
    · subst e; exact ⟨q, hq, kup_at _ _ _⟩
    · rw [kup_ne _ _ (by omega)]; exact k6 h hh
  · rw [kup_ne _ _ (by omega)]; exact k8
  · rw [kup_ne _ _ (by omega)]; exact k9
theorem kK_many {k : Nat → Int32} (hK : kK k) {q : Nat} (hq : q ≤ 6) : kK (kup k 50 (nI q)) := by
  obtain ⟨n, tl, k1, k2, k3, k4, k5, k6, k7, k8, k9⟩ := hK
  refine ⟨n, tl, k1, ?_, ⟨?_, ?_, ?_⟩, ?_, ⟨q, hq, kup_at _ _ _⟩, ?_, k7, ?_, ?_⟩
  · rw [kup_ne _ _ (by omega)]; exact k2
  · rw [kup_ne _ _ (by omega)]; exact k3.1
  · rw [kup_ne _ _ (by omega)]; exact k3.2.1
  · intro h hh; rw [kup_ne _ _ (by omega)]; exact k3.2.2 h hh
  · intro h hh; rw [kup_ne _ _ (by omega)]; exact k4 h hh
  · intro h hh; rw [kup_ne _ _ (by omega)]; exact k6 h hh
  · rw [kup_ne _ _ (by omega)]; exact k8
  · rw [kup_ne _ _ (by omega)]; exact k9
theorem ok_29 {S : v_S} {I : v_I} {J : v_J} {F : v_F} (h : R S I J F) : op_29 R S I J F := by
  intro a b
  have hC := h.2.2.1
  have hK := h.2.2.2.1
  have hO := h.2.2.2.2.2.1
  have hC0 := hC
  have hK0 := hK
  obtain ⟨⟨m1, m2, m3, m4⟩, c1, c2, c3, c4, c5, c6, c7, c8, c9, c10, c11⟩ := hC
  obtain ⟨n, tl, k1, k2, k3, k4, k5, k6, k7, k8, k9⟩ := hK
  obtain ⟨o1, o2, o3, o4, o5, o6, o7, o8, o9⟩ := hO
  obtain ⟨s, hs, es⟩ := k5
  simp only [s_X9_seen h.1 h.2.1, s_X10_seen h.1 h.2.1]
  have bad : h_X9_seen S I F a b = h_X9_refuse S I F (-1) → (∀ I', h_X10_seen I' a b = h_X10_refuses I' (-1)) → ∃ (r : Int32 × v_I) (q : Int32 × v_I), h_X9_seen S I F a b = some r ∧ h_X10_seen r.2 a b = some q ∧ r.1 = q.1 ∧ p_SS S ∧ R S q.2 J F := by
    intro ec em
    obtain ⟨I1, I2, e1, e2, hR⟩ := R_ref1 (J' := J) h
    exact ⟨(-1, I1), (-1, I2), ec.trans e1, (em I1).trans e2, rfl, h.1, hR⟩
  rcases upTo_cases a (q := 60) (m := 60) rfl (by omega) with ⟨x, hx, rfl, u1, u2⟩ | ⟨u1, u2, u3⟩
  · rcases upTo_cases b (q := 1) (m := 1) rfl (by omega) with ⟨y, hy, rfl, v1, v2⟩ | ⟨v1, v2, v3⟩
    · by_cases h6 : s < 6
      · have tc : h_X9_seen S I F (nI x) (nI y) = some (nI (s + 1), v_up (v_up (v_up (v_up I 7 s (nI x)) 8 s (nI y)) 1 7 (nI (s + 1))) 0 14 0) := by
          unfold h_X9_seen h_X0_addSeen
          simp only [u1, v1, p_bs, i10, if_false]
          rw [if_pos (i_lt (c7.trans es) (show (6 : Int32) = nI 6 from rfl) h6 (by omega)), if_neg (show ¬ (6 : Int32) ≤ I 1 7 from i_nle (a := 6) rfl (c7.trans es) h6 (by omega))]
          have e1 : I 1 7 = nI s := c7.trans es
          simp only [p_bs, p_le, e1, p_in_nI h6 (show 6 < 2 ^ 31 by omega), c_accept]
          have e2 : v_up I 7 s (nI x) 1 7 = nI s := by simp [v_up, e1]
          have e3 : v_up (v_up I 7 s (nI x)) 8 s (nI y) 1 7 = nI s := by simp [v_up, e1]
          simp only [e2, p_in_nI h6 (show 6 < 2 ^ 31 by omega), p_bs, e3, nI_1, v_up_at]
        have tm : ∀ I' : v_I, I' 51 50 = nI s → h_X10_seen I' (nI x) (nI y) = some (nI (s + 1), v_up (v_up (v_up (v_up I' 51 (34 + 2 * s) (nI x)) 51 (35 + 2 * s) (nI y)) 51 50 (nI (s + 1))) 49 0 0) := fun I' e => by
          have e0 : (34 : Int32) + 2 * nI s = nI (34 + 2 * s) := by
            rw [show (34 : Int32) = nI 34 from rfl, show (2 : Int32) * nI s = nI (2 * s) from (Int32.ofNat_mul 2 s).symm, nI_add]
          have e3 : v_up (v_up I' 51 (34 + 2 * s) (nI x)) 51 (35 + 2 * s) (nI y) 51 50 = nI s := by
            simp only [v_up]; rw [if_neg (by omega), if_neg (by omega), e]
          unfold h_X10_seen
          simp only [u2, bit_of v2 (.inr rfl), p_bs, i10, if_false, e, p_le, e0]
          rw [if_neg (show ¬ nI s = 6 from fun q => absurd ((i_eqI (b := 6) rfl rfl (by omega) (by omega)).mp q) (by omega)), nI_1, p_in_nI (by omega) (by omega), p_in_nI (by omega) (by omega)]
          rw [p_bs, p_bs, show 34 + 2 * s + 1 = 35 + 2 * s by omega]
          simp only [e3, nI_1, m_good, p_bs, v_up_at]
        refine ⟨_, _, tc, tm _ (by simp [v_up, es]), rfl, h.1, ?_⟩
        dsimp only
        have e51 : (v_up (v_up (v_up (v_up (v_up (v_up (v_up (v_up I 7 s (nI x)) 8 s (nI y)) 1 7 (nI (s + 1))) 0 14 0) 51 (34 + 2 * s) (nI x)) 51 (35 + 2 * s) (nI y)) 51 50 (nI (s + 1))) 49 0 0) 51 = kup (kup (kup (I 51) (34 + 2 * s) (nI x)) (35 + 2 * s) (nI y)) 50 (nI (s + 1)) := by
          simp only [v_up_row _ _ _ _ (show (51 : Nat) ≠ 49 by omega), v_up_k, v_up_row _ _ _ _ (show (51 : Nat) ≠ 0 by omega), v_up_row _ _ _ _ (show (51 : Nat) ≠ 1 by omega), v_up_row _ _ _ _ (show (51 : Nat) ≠ 8 by omega), v_up_row _ _ _ _ (show (51 : Nat) ≠ 7 by omega)]
        refine R_K h (fk_up (fk_up (fk_up (fk_up (fk_up (fk_up (fk_up (fk_up (fk_refl I) (by omega)) (by omega)) (by omega)) (by omega)) (by omega)) (by omega)) (by omega)) (by omega)) ?_ ?_ ?_ ?_ (.inr ⟨by simp [v_up], by simp [v_up], ?_⟩)
        · rw [e51]
          exact rC_ne (rC_ne (rC_ne (rC_ne (rC_ne (rC_up (rC_up (rC_up hC0 _ (cm_smin h6)) _ (cm_sopn h6)) _ cm_sman) _ (by omega)) _ (by omega)) _ (by omega)) _ (by omega)) _ (by omega)
        · rw [e51]
          exact kK_many (kK_any (kK_seen hK0 h6 hx) _ (by omega)) (by omega)
        · simp [rO, v_up, *]
        · rw [e51, kup_ne _ _ (by omega), kup_ne _ _ (by omega), kup_ne _ _ (by omega)]
        · rw [e51, kup_ne _ _ (by omega), kup_ne _ _ (by omega), kup_ne _ _ (by omega)]
      · obtain ⟨I1, I2, e1, e2, hR⟩ := R_ref5 (J' := J) h
        have h6' : s = 6 := by omega
        refine ⟨(-5, I1), (-5, I2), ?_, ?_, rfl, h.1, hR⟩
        · unfold h_X9_seen
          simp only [u1, v1, p_bs, i10, if_false]
          rw [if_neg (i_nlt (c7.trans es) (show (6 : Int32) = nI 6 from rfl) (by omega) (by omega)), bindref, e1]
        · have e3 : I1 51 50 = nI s := by
            rw [c_ref5] at e1
            cases e1
            simp [v_up, es]
          unfold h_X10_seen
          simp only [u2, bit_of v2 (.inr rfl), p_bs, i10, if_false, e3, p_le]
          rw [if_pos (by rw [h6']; rfl), bindref, e2]
    · refine bad ?_ (fun I' => ?_)
      · unfold h_X9_seen h_X9_seen_J19
        simp only [u1, v1, p_bs, i10, if_false, if_true, bindref]
      · unfold h_X10_seen h_X10_seen_J17
        simp only [u2, bit_of v2 (.inl rfl), p_bs, i10, if_false, if_true, bindref]
  · refine bad ?_ (fun I' => ?_)
    · unfold h_X9_seen h_X9_seen_J19
      simp only [u1, p_bs, if_true, bindref]
    · unfold h_X10_seen h_X10_seen_J17
      simp only [u2, p_bs, if_true, bindref]
end sp53
