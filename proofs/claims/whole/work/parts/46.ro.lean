noncomputable section sp46
/-- the same but for what is told of the latest call, and what nobody is told -/
def fo (I I' : v_I) : Prop := ∀ a j, ¬ scr a j → ¬ (a = 0 ∧ j = 14) → a ≠ 48 → ¬ (a = 49 ∧ j = 0) → a ≠ 50 → I' a j = I a j
theorem fo_refl (I : v_I) : fo I I := fun _ _ _ _ _ _ _ => rfl
theorem fo_fr {I I' : v_I} (h : fr I I') : fo I I' := fun a j q _ _ _ _ => h a j q
theorem fo_trans {I I' I'' : v_I} (h : fo I I') (h' : fo I' I'') : fo I I'' := fun a j q q1 q2 q3 q4 => (h' a j q q1 q2 q3 q4).trans (h a j q q1 q2 q3 q4)
theorem fo_up {I I' : v_I} {a j : Nat} {x : Int32} (h : fo I I') (q : scr a j ∨ (a = 0 ∧ j = 14) ∨ a = 48 ∨ (a = 49 ∧ j = 0) ∨ a = 50) : fo I (v_up I' a j x) := fun b i n n1 n2 n3 n4 => by
  rw [v_up_ne]
  · exact h b i n n1 n2 n3 n4
  · rintro ⟨rfl, rfl⟩
    rcases q with q | q | q | q | q
    · exact n q
    · exact n1 q
    · exact n2 q
    · exact n3 q
    · exact n4 q
theorem R_O {S : v_S} {I I' : v_I} {J J' : v_J} {F : v_F} (h : R S I J F) (e : fo I I') (hO : rO I') : R S I' J' F := by
  have h' := h
  obtain ⟨hS, hF, hC, hK, hT, hO0, hD, hW, own, hN, hL, hP, hG⟩ := h
  have row : ∀ a, a ≠ 0 → a ≠ 48 → a ≠ 49 → a ≠ 50 → (∀ j, ¬ scr a j) → I' a = I a := fun a h0 h1 h2 h3 hs => funext fun j => e a j (hs j) (by omega) h1 (by omega) h3
  have e51 : I' 51 = I 51 := row 51 (by omega) (by omega) (by omega) (by omega) (fun j => by unfold scr; omega)
  have es : ∀ a, 0 < a → a < 14 → I' a = I a := fun a h h2 => row a (by omega) (by omega) (by omega) (by omega) (fun j => by unfold scr; omega)
  have f6 : I' 0 6 = I 0 6 := e 0 6 (by unfold scr; omega) (by omega) (by omega) (by omega) (by omega)
  have f8 : I' 0 8 = I 0 8 := e 0 8 (by unfold scr; omega) (by omega) (by omega) (by omega) (by omega)
  have f13 : I' 49 13 = I 49 13 := e 49 13 (by unfold scr; omega) (by omega) (by omega) (by omega) (by omega)
  have f32 : I' 49 32 = I 49 32 := e 49 32 (by unfold scr; omega) (by omega) (by omega) (by omega) (by omega)
  have f46 : I' 49 46 = I 49 46 := e 49 46 (by unfold scr; omega) (by omega) (by omega) (by omega) (by omega)
  refine R_mk h' (fun a ha => row a (by omega) (by omega) (by omega) (by omega) (scr_big ha)) ?_ (by rw [e51]; exact hK) ?_ hO ?_ ?_ ?_ ?_ (by rw [e51]) (fun i _ => by rw [e51]) (.inr ⟨es _ (by omega) (by omega), f32, es _ (by omega) (by omega), ?_, by rw [e51]⟩)
  · rw [e51]; exact rC_fr (es _ (by omega) (by omega)) (es _ (by omega) (by omega)) (es _ (by omega) (by omega)) (es _ (by omega) (by omega)) (es _ (by omega) (by omega)) (es _ (by omega) (by omega)) (es _ (by omega) (by omega)) (es _ (by omega) (by omega)) hC
  · unfold rT; rw [f8, f13, row 29 (by omega) (by omega) (by omega) (by omega) (fun j => by unfold scr; omega), row 56 (by omega) (by omega) (by omega) (by omega) (fun j => by unfold scr; omega)]; exact hT
  · unfold rD rM; rw [f6, f46, row 26 (by omega) (by omega) (by omega) (by omega) (fun j => by unfold scr; omega), row 27 (by omega) (by omega) (by omega) (by omega) (fun j => by unfold scr; omega), row 28 (by omega) (by omega) (by omega) (by omega) (fun j => by unfold scr; omega), row 71 (by omega) (by omega) (by omega) (by omega) (fun j => by unfold scr; omega)]; exact hD
  · exact row 55 (by omega) (by omega) (by omega) (by omega) (fun j => by unfold scr; omega)
  · exact row 52 (by omega) (by omega) (by omega) (by omega) (fun j => by unfold scr; omega)
  · exact row 53 (by omega) (by omega) (by omega) (by omega) (fun j => by unfold scr; omega)
  · exact row 63 (by omega) (by omega) (by omega) (by omega) (fun j => by unfold scr; omega)
theorem R_ref1 {S : v_S} {I : v_I} {J J' : v_J} {F : v_F} (h : R S I J F) : ∃ I1 I2, h_X9_refuse S I F (-1) = some (-1, I1) ∧ h_X10_refuses I1 (-1) = some (-1, I2) ∧ R S I2 J' F := by
  refine ⟨_, _, c_ref1 S I F, m_ref1 _, R_O h (fo_up (fo_up (fo_up (fo_up (fo_refl I) (by omega)) (by omega)) (by omega)) (by omega)) ?_⟩
  obtain ⟨o1, o2, o3, o4, o5, o6, o7, o8, o9⟩ := h.2.2.2.2.2.1
  simp [rO, v_up, *]
theorem R_ref2 {S : v_S} {I : v_I} {J J' : v_J} {F : v_F} (h : R S I J F) : ∃ I1 I2, h_X9_refuse S I F (-2) = some (-2, I1) ∧ h_X10_refuses I1 (-2) = some (-2, I2) ∧ R S I2 J' F := by
  refine ⟨_, _, c_ref2 S I F, m_ref2 _, R_O h (fo_up (fo_up (fo_up (fo_up (fo_refl I) (by omega)) (by omega)) (by omega)) (by omega)) ?_⟩
  obtain ⟨o1, o2, o3, o4, o5, o6, o7, o8, o9⟩ := h.2.2.2.2.2.1
  simp [rO, v_up, *]
theorem R_ref3 {S : v_S} {I : v_I} {J J' : v_J} {F : v_F} (h : R S I J F) : ∃ I1 I2, h_X9_refuse S I F (-3) = some (-3, I1) ∧ h_X10_refuses I1 (-3) = some (-3, I2) ∧ R S I2 J' F := by
  refine ⟨_, _, c_ref3 S I F, m_ref3 _, R_O h (fo_up (fo_up (fo_up (fo_up (fo_refl I) (by omega)) (by omega)) (by omega)) (by omega)) ?_⟩
  obtain ⟨o1, o2, o3, o4, o5, o6, o7, o8, o9⟩ := h.2.2.2.2.2.1
  simp [rO, v_up, *]
theorem R_ref5 {S : v_S} {I : v_I} {J J' : v_J} {F : v_F} (h : R S I J F) : ∃ I1 I2, h_X9_refuse S I F (-5) = some (-5, I1) ∧ h_X10_refuses I1 (-5) = some (-5, I2) ∧ R S I2 J' F := by
  refine ⟨_, _, c_ref5 S I F, m_ref5 _, R_O h (fo_up (fo_up (fo_up (fo_up (fo_refl I) (by omega)) (by omega)) (by omega)) (by omega)) ?_⟩
  obtain ⟨o1, o2, o3, o4, o5, o6, o7, o8, o9⟩ := h.2.2.2.2.2.1
  simp [rO, v_up, *]
theorem R_ref6 {S : v_S} {I : v_I} {J J' : v_J} {F : v_F} (h : R S I J F) : ∃ I1 I2, h_X9_refuse S I F (-6) = some (-6, I1) ∧ h_X10_refuses I1 (-6) = some (-6, I2) ∧ R S I2 J' F := by
  refine ⟨_, _, c_ref6 S I F, m_ref6 _, R_O h (fo_up (fo_up (fo_up (fo_up (fo_refl I) (by omega)) (by omega)) (by omega)) (by omega)) ?_⟩
  obtain ⟨o1, o2, o3, o4, o5, o6, o7, o8, o9⟩ := h.2.2.2.2.2.1
  simp [rO, v_up, *]
/-! the plainest calls -/
theorem ok_7 {S : v_S} {I : v_I} {J : v_J} {F : v_F} (h : R S I J F) : op_7 R S I J F := by
  obtain ⟨o1, o2, o3, o4, o5, o6, o7, o8, o9⟩ := h.2.2.2.2.2.1
  exact ⟨I 0 15, I 49 6, s_X9_burrs h.1 h.2.1 I, s_X10_burrs h.1 h.2.1 I, o7, h.1, h⟩
theorem ok_10 {S : v_S} {I : v_I} {J : v_J} {F : v_F} (h : R S I J F) : op_10 R S I J F := by
  obtain ⟨o1, o2, o3, o4, o5, o6, o7, o8, o9⟩ := h.2.2.2.2.2.1
  exact ⟨I 0 16, I 49 14, s_X9_fault h.1 h.2.1 I, s_X10_fault h.1 h.2.1 I, o8, h.1, h⟩
theorem ok_11 {S : v_S} {I : v_I} {J : v_J} {F : v_F} (h : R S I J F) : op_11 R S I J F := by
  obtain ⟨o1, o2, o3, o4, o5, o6, o7, o8, o9⟩ := h.2.2.2.2.2.1
  exact ⟨I 0 17, I 49 38, s_X9_stopped h.1 h.2.1 I, s_X10_stopped h.1 h.2.1 I, o9, h.1, h⟩
theorem ok_40 {S : v_S} {I : v_I} {J : v_J} {F : v_F} (h : R S I J F) : op_40 R S I J F := by
  obtain ⟨o1, o2, o3, o4, o5, o6, o7, o8, o9⟩ := h.2.2.2.2.2.1
  exact ⟨I 0 14, I 49 0, s_X9_status h.1 h.2.1 I, s_X10_status h.1 h.2.1 I, o1, h.1, h⟩
end sp46
