/-- a Moment: its two rows -/
def p_Mo (S : v_S) (F : v_F) (m w s : Nat) : Prop := S[m]? = some (3, 4) ∧ S[w]? = some (20, 8) ∧ S[s]? = some (20, 8) ∧ F m 2 = some w ∧ F m 3 = some s
def p_Rk (S : v_S) (F : v_F) (m w s : Nat) : Prop := S[m]? = some (7, 2) ∧ S[w]? = some (20, 36) ∧ S[s]? = some (23, 32) ∧ F m 0 = some w ∧ F m 1 = some s
theorem p_MoC {S : v_S} {F : v_F} (hS : p_SS S) (hF : p_FF F) (m w s : Nat) (h1 : p_S0[m]? = some (3, 4)) (h2 : p_S0[w]? = some (20, 8)) (h3 : p_S0[s]? = some (20, 8)) (h4 : (m, 2, w) ∈ p_FT) (h5 : (m, 3, s) ∈ p_FT) : p_Mo S F m w s := ⟨hS _ _ h1, hS _ _ h2, hS _ _ h3, hF _ h4, hF _ h5⟩
theorem p_RkC {S : v_S} {F : v_F} (hS : p_SS S) (hF : p_FF F) (m w s : Nat) (h1 : p_S0[m]? = some (7, 2)) (h2 : p_S0[w]? = some (20, 36)) (h3 : p_S0[s]? = some (23, 32)) (h4 : (m, 0, w) ∈ p_FT) (h5 : (m, 1, s) ∈ p_FT) : p_Rk S F m w s := ⟨hS _ _ h1, hS _ _ h2, hS _ _ h3, hF _ h4, hF _ h5⟩
theorem p_ixA {S : v_S} {kd a n : Nat} (h : S[a]? = some (kd, n)) (i : Int32) : p_ix S kd a i = p_in n i := by
  unfold p_ix p_in
  rw [h]
  simp
theorem p_obA {S : v_S} {kd a : Nat} (h : S[a]? = some (kd, v_n kd)) : p_ob S kd a = some () := by
  unfold p_ob
  rw [if_pos h]
theorem p_Mo_ob {S : v_S} {F : v_F} {m w s : Nat} (h : p_Mo S F m w s) : p_ob S 3 m = some () := p_obA h.1
theorem p_Mo_w {S : v_S} {F : v_F} {m w s : Nat} (h : p_Mo S F m w s) : F m 2 = some w := h.2.2.2.1
theorem p_Mo_s {S : v_S} {F : v_F} {m w s : Nat} (h : p_Mo S F m w s) : F m 3 = some s := h.2.2.2.2
theorem p_Mo_iw {S : v_S} {F : v_F} {m w s : Nat} (h : p_Mo S F m w s) (i : Int32) : p_ix S 20 w i = p_in 8 i := p_ixA h.2.1 i
theorem p_Mo_is {S : v_S} {F : v_F} {m w s : Nat} (h : p_Mo S F m w s) (i : Int32) : p_ix S 20 s i = p_in 8 i := p_ixA h.2.2.1 i
theorem p_Rk_ob {S : v_S} {F : v_F} {m w s : Nat} (h : p_Rk S F m w s) : p_ob S 7 m = some () := p_obA h.1
theorem p_Rk_v {S : v_S} {F : v_F} {m w s : Nat} (h : p_Rk S F m w s) : F m 0 = some w := h.2.2.2.1
theorem p_Rk_s {S : v_S} {F : v_F} {m w s : Nat} (h : p_Rk S F m w s) : F m 1 = some s := h.2.2.2.2
theorem p_Rk_iv {S : v_S} {F : v_F} {m w s : Nat} (h : p_Rk S F m w s) (i : Int32) : p_ix S 20 w i = p_in 36 i := p_ixA h.2.1 i
theorem p_Rk_is {S : v_S} {F : v_F} {m w s : Nat} (h : p_Rk S F m w s) (i : Int32) : p_ix S 23 s i = p_in 32 i := p_ixA h.2.2.1 i
