noncomputable section sp47
/-- the same but for what is kept (no LAW), the latest call, how many can be undone -/
def fk (I I' : v_I) : Prop := ∀ a j, ¬ scr a j → ¬ (a = 0 ∧ j = 14) → a ≠ 48 → ¬ (a = 49 ∧ j = 0) → a ≠ 50 → ¬ (1 ≤ a ∧ a ≤ 8) → ¬ (a = 51 ∧ j < 53) → ¬ (a = 11 ∧ j = 0) → ¬ (a = 49 ∧ j = 32) → I' a j = I a j
theorem fk_refl (I : v_I) : fk I I := fun _ _ _ _ _ _ _ _ _ _ _ => rfl
theorem fk_fo {I I' : v_I} (h : fo I I') : fk I I' := fun a j q q1 q2 q3 q4 _ _ _ _ => h a j q q1 q2 q3 q4
theorem fk_trans {I I' I'' : v_I} (h : fk I I') (h' : fk I' I'') : fk I I'' := fun a j q q1 q2 q3 q4 q5 q6 q7 q8 => (h' a j q q1 q2 q3 q4 q5 q6 q7 q8).trans (h a j q q1 q2 q3 q4 q5 q6 q7 q8)
theorem fk_up {I I' : v_I} {a j : Nat} {x : Int32} (h : fk I I') (q : scr a j ∨ (a = 0 ∧ j = 14) ∨ a = 48 ∨ (a = 49 ∧ j = 0) ∨ a = 50 ∨ (1 ≤ a ∧ a ≤ 8) ∨ (a = 51 ∧ j < 53) ∨ (a = 11 ∧ j = 0) ∨ (a = 49 ∧ j = 32)) : fk I (v_up I' a j x) := fun b i n n1 n2 n3 n4 n5 n6 n7 n8 => by
  rw [v_up_ne]
  · exact h b i n n1 n2 n3 n4 n5 n6 n7 n8
  · rintro ⟨rfl, rfl⟩
    rcases q with q | q | q | q | q | q | q | q | q
    · exact n q
    · exact n1 q
    · exact n2 q
    · exact n3 q
    · exact n4 q
    · exact n5 q
    · exact n6 q
    · exact n7 q
    · exact n8 q
theorem R_K {S : v_S} {I I' : v_I} {J J' : v_J} {F : v_F} (h : R S I J F) (e : fk I I') (hC : rC I' 1 2 3 4 5 6 7 8 (I' 51)) (hK : kK (I' 51)) (hO : rO I') (hl : I' 51 51 = I 51 51)
    (hP : (I' 11 0 = 0 ∧ I' 49 32 = 0) ∨ (I' 11 0 = I 11 0 ∧ I' 49 32 = I 49 32 ∧ I' 51 49 = I 51 49)) : R S I' J' F := by
  have row : ∀ a, a ≠ 0 → a ≠ 48 → a ≠ 49 → a ≠ 50 → a ≠ 11 → a ≠ 51 → ¬ (1 ≤ a ∧ a ≤ 8) → (∀ j, ¬ scr a j) → I' a = I a := fun a h0 h1 h2 h3 h4 h5 h6 hs => funext fun j => e a j (hs j) (by omega) h1 (by omega) h3 h6 (by omega) (by omega) (by omega)
  have f6 : I' 0 6 = I 0 6 := e 0 6 (by unfold scr; omega) (by omega) (by omega) (by omega) (by omega) (by omega) (by omega) (by omega) (by omega)
  have f8 : I' 0 8 = I 0 8 := e 0 8 (by unfold scr; omega) (by omega) (by omega) (by omega) (by omega) (by omega) (by omega) (by omega) (by omega)
  have f13 : I' 49 13 = I 49 13 := e 49 13 (by unfold scr; omega) (by omega) (by omega) (by omega) (by omega) (by omega) (by omega) (by omega) (by omega)
  have f46 : I' 49 46 = I 49 46 := e 49 46 (by unfold scr; omega) (by omega) (by omega) (by omega) (by omega) (by omega) (by omega) (by omega) (by omega)
  have r11 : ∀ j, j ≠ 0 → I' 11 j = I 11 j := fun j hj => e 11 j (by unfold scr; omega) (by omega) (by omega) (by omega) (by omega) (by omega) (by omega) (by omega) (by omega)
  have rw' : ∀ a, a ≠ 0 → a ≠ 48 → a ≠ 49 → a ≠ 50 → a ≠ 11 → a ≠ 51 → ¬ (1 ≤ a ∧ a ≤ 8) → (∀ j, ¬ scr a j) → I' a = I a := row
  have hT := h.2.2.2.2.1
  have hD := h.2.2.2.2.2.2.1
  refine R_mk h (fun a ha => row a (by omega) (by omega) (by omega) (by omega) (by omega) (by omega) (by omega) (scr_big ha)) hC hK ?_ hO ?_ ?_ ?_ ?_ hl (fun i hi => e 51 i (by unfold scr; omega) (by omega) (by omega) (by omega) (by omega) (by omega) (by omega) (by omega) (by omega)) ?_
  · unfold rT; rw [f8, f13, row 29 (by omega) (by omega) (by omega) (by omega) (by omega) (by omega) (by omega) (fun j => by unfold scr; omega), row 56 (by omega) (by omega) (by omega) (by omega) (by omega) (by omega) (by omega) (fun j => by unfold scr; omega)]; exact hT
  · unfold rD rM; rw [f6, f46, row 26 (by omega) (by omega) (by omega) (by omega) (by omega) (by omega) (by omega) (fun j => by unfold scr; omega), row 27 (by omega) (by omega) (by omega) (by omega) (by omega) (by omega) (by omega) (fun j => by unfold scr; omega), row 28 (by omega) (by omega) (by omega) (by omega) (by omega) (by omega) (by omega) (fun j => by unfold scr; omega), row 71 (by omega) (by omega) (by omega) (by omega) (by omega) (by omega) (by omega) (fun j => by unfold scr; omega)]; exact hD
  · exact row 55 (by omega) (by omega) (by omega) (by omega) (by omega) (by omega) (by omega) (fun j => by unfold scr; omega)
  · exact row 52 (by omega) (by omega) (by omega) (by omega) (by omega) (by omega) (by omega) (fun j => by unfold scr; omega)
  · exact row 53 (by omega) (by omega) (by omega) (by omega) (by omega) (by omega) (by omega) (fun j => by unfold scr; omega)
  · rcases hP with ⟨a, b⟩ | ⟨a, b, c⟩
    · exact .inl ⟨a, b, r11 1 (by omega)⟩
    · refine .inr ⟨funext fun j => ?_, b, row 12 (by omega) (by omega) (by omega) (by omega) (by omega) (by omega) (by omega) (fun j => by unfold scr; omega), row 63 (by omega) (by omega) (by omega) (by omega) (by omega) (by omega) (by omega) (fun j => by unfold scr; omega), c⟩
      by_cases hj : j = 0
      · rw [hj]; exact a
      · exact r11 j hj
/-! small questions -/
theorem i10 : ((1 : Int32) = 0) = False := by simp
theorem i01 : ((0 : Int32) = 1) = False := by simp
theorem b_bl {c : Prop} [Decidable c] : p_bl (if c then (1 : Int32) else 0) = some () := by
  unfold p_bl
  by_cases h : c
  · simp [h]
  · simp [h]
theorem b_isNine (p : Int32) : h_X10_isNine p = some (if 0 ≤ p ∧ p ≤ 9 then 1 else 0) := by
  unfold h_X10_isNine
  simp only [b_lies, p_bs, b_bl]
theorem b_isBit (p : Int32) : h_X10_isBit p = some (if 0 ≤ p ∧ p ≤ 1 then 1 else 0) := by
  unfold h_X10_isBit
  simp only [b_lies, p_bs, b_bl]
theorem b_isOne (I : v_I) (p : Int32) : h_X10_isOne I p = some (if 0 ≤ p ∧ p ≤ I 51 49 - 1 then 1 else 0) := by
  unfold h_X10_isOne h_X10_many
  simp only [b_lies, p_bs, b_bl]
/-- a number of 0 .. m, or not: both say the same -/
theorem upTo_cases (p : Int32) {q : Int32} {m : Nat} (hq : q = nI m) (hm : m < 2 ^ 31) : (∃ k : Nat, k ≤ m ∧ p = nI k ∧ h_X9_isUpTo p.toInt64 q = some 1 ∧ h_X10_lies p 0 q = some 1) ∨ (h_X9_isUpTo p.toInt64 q = some 0 ∧ h_X10_lies p 0 q = some 0 ∧ ¬ (0 ≤ p ∧ p ≤ q)) := by
  by_cases h : 0 ≤ p ∧ p ≤ q
  · obtain ⟨k, hk, e⟩ := i_le_of hq hm h.1 h.2
    exact .inl ⟨k, hk, e, by rw [b_isUpTo, if_pos h], by rw [b_lies, if_pos h]⟩
  · exact .inr ⟨by rw [b_isUpTo, if_neg h], by rw [b_lies, if_neg h], h⟩
theorem one_cases (p : Int32) {n : Nat} (hn : n ≤ 8) : (∃ k : Nat, k < n ∧ p = nI k ∧ (∀ (S : v_S) (I : v_I), I 1 0 = nI n → h_X0_has S I p.toInt64 = some 1) ∧ (∀ I : v_I, I 51 49 = nI n → h_X10_isOne I p = some 1))
    ∨ ((∀ (S : v_S) (I : v_I), I 1 0 = nI n → h_X0_has S I p.toInt64 = some 0) ∧ (∀ I : v_I, I 51 49 = nI n → h_X10_isOne I p = some 0) ∧ ∀ k, k < n → p ≠ nI k) := by
  by_cases h0 : 0 ≤ p
  · obtain ⟨k, hk, rfl⟩ := nI_of (fun q => absurd q (Int32.not_lt.mpr h0))
    by_cases h : k < n
    · left
      refine ⟨k, h, rfl, fun S I e => ?_, fun I e => ?_⟩
      · rw [b_has, e, if_pos ⟨h0, nI_lt h (by omega), i_lt (b := 8) rfl rfl (by omega) (by omega)⟩]
      · have q : nI k ≤ nI n - 1 := by
          obtain ⟨n', rfl⟩ : ∃ n', n = n' + 1 := ⟨n - 1, by omega⟩
          rw [nI_pred]
          exact nI_le (by omega) (by omega)
        rw [b_isOne, e, if_pos ⟨h0, q⟩]
    · right
      refine ⟨fun S I e => ?_, fun I e => ?_, fun j hj q => ?_⟩
      · rw [b_has, e, if_neg (fun q => absurd q.2.1 (nI_nlt (by omega) (by omega)))]
      · rw [b_isOne, e, if_neg]
        rintro ⟨_, q⟩
        cases n with
        | zero =>
          rw [Int32.le_iff_toInt_le, nI_toInt hk] at q
          have : (nI 0 - 1).toInt = -1 := by decide
          omega
        | succ n =>
          rw [nI_pred] at q
          exact absurd q (nI_ge (by omega) (by omega))
      · have := (nI_eq hk (by omega)).mp q
        omega
  · right
    refine ⟨fun S I _ => ?_, fun I _ => ?_, fun j hj q => h0 (q ▸ nI_pos' (by omega))⟩
    · rw [b_has, if_neg (fun q => h0 q.1)]
    · rw [b_isOne, if_neg (fun q => h0 q.1)]
end sp47
