noncomputable section sp98o
theorem sm_ov {x : Option Den} {u w : Nat → Int32} (h : ∀ d, x = some d → d_ov d) (A : ovA u w) : sm u x = sm w x := by
  cases x with
  | none => rfl
  | some d => exact h d rfl u w A
theorem holds_ov {x : Option Den} {u w : Nat → Int32} (h : ∀ d, x = some d → d_ov d) (A : ovA u w) : d_holds u x = d_holds w x := by
  cases x with
  | none => rfl
  | some d =>
    show decide (d u = some 1) = decide (d w = some 1)
    rw [h d rfl u w A]
theorem sm_32 {x : Option Den} {u : Nat → Int32} (h : ∀ d, x = some d → d32 d) {a : Int64} (e : sm u x = some a) : w32 a := by
  cases x with
  | none => cases e; exact w32_i 0
  | some d => exact h d rfl u a e
/-- what a CLAUSE of ORDERS lies as, read just now -/
def tR (S : v_S) (I : v_I) (F : v_F) (i : Nat) (x : Cls) : Prop := i < 12 ∧ I 32 i = x.1 ∧ cd_R (I 37) 436 (I 33 i) x.2.1 ∧ cd_R (I 37) 436 (I 34 i) x.2.2.1 ∧ cd_R (I 37) 436 (I 35 i) x.2.2.2.1 ∧ I 36 i = x.2.2.2.2
theorem tR_fr {S S' : v_S} {I I' : v_I} {F F' : v_F} {i : Nat} {x : Cls} (h : tR S I F i x) (e : ∀ a, 32 ≤ a → a ≤ 37 → I' a = I a) : tR S' I' F' i x := by
  unfold tR
  rw [e 32 (by omega) (by omega), e 33 (by omega) (by omega), e 34 (by omega) (by omega), e 35 (by omega) (by omega), e 36 (by omega) (by omega), e 37 (by omega) (by omega)]
  exact h
theorem kind_c {x : Cls} (h : wfO x) : x.1 = 0 ∨ x.1 = 1 ∨ x.1 = 2 ∨ x.1 = 3 := by
  rcases h.2.2.2 with ⟨a, _⟩ | ⟨a, _⟩ | ⟨a, _⟩
  · rcases a with a | a
    · exact .inl a
    · exact .inr (.inl a)
  · exact .inr (.inr (.inl a))
  · exact .inr (.inr (.inr a))
def fN (I I' : v_I) : Prop := ∀ a, a ≠ 16 → a ≠ 21 → a ≠ 40 → a ≠ 42 → a ≠ 44 → a ≠ 45 → a ≠ 46 → I' a = I a
theorem fN_trans {I I' I'' : v_I} (h : fN I I') (h' : fN I' I'') : fN I I'' := fun a q1 q2 q3 q4 q5 q6 q7 => (h' a q1 q2 q3 q4 q5 q6 q7).trans (h a q1 q2 q3 q4 q5 q6 q7)
theorem mB_44 : mB 44 45 46 := by unfold mB; omega
theorem mo_44 {S : v_S} {F : v_F} (hS : p_SS S) (hF : p_FF F) : p_Mo S F 44 45 46 := p_MoC hS hF 44 45 46 rfl rfl rfl (by decide) (by decide)
theorem ix12 {S : v_S} (hS : p_SS S) {i a : Nat} (hi : i < 12) (ha : p_S0[a]? = some (20, 12)) : p_ix S 20 a (nI i) = some i := by rw [p_ixS hS ha, p_in_nI hi (by decide)]
/-- its SUMS, why not, what is done: on paper -/
theorem c_j38 {S : v_S} {I : v_I} {F : v_F} (J : v_J) {n : Nat} {lw : Option Nat} {L : Option (List Cls)} {K kk : Nat → Int32} (hX : cX S I F n lw L K) (hM : rM I 44 45 46 kk) (hkM : kM n kk) (hge : ∀ z, 18 ≤ z → kk z = K z) {i : Nat} {x : Cls} (hx : tR S I F i x) (hw : wfO x) :
    (∀ st, ac1 L n x.1 (kk, I 40 0, I 40 1) (sm (I 42) x.2.1) (sm (I 42) x.2.2.1) = some st → ∃ I' J', f_X2_runOnceN_J38 S F I J 40 31 (nI i) 1 44 14 = some (1, I', J') ∧ rM I' 44 45 46 st.1 ∧ I' 40 0 = st.2.1 ∧ I' 40 1 = st.2.2 ∧ fN I I') ∧
    (ac1 L n x.1 (kk, I 40 0, I 40 1) (sm (I 42) x.2.1) (sm (I 42) x.2.2.1) = none → ∃ J', f_X2_runOnceN_J38 S F I J 40 31 (nI i) 1 44 14 = some (0, I, J')) := by
  obtain ⟨hS, hF, hn, k49, hkBK, hrS, _⟩ := id hX
  have hkB := kB_of hkM hn hkBK hge
  have h10 : I 1 0 = nI n := by rw [hrS.1, k49]
  obtain ⟨hi, x1, x2, x3, x4, x5⟩ := hx
  have hk := kind_c hw
  obtain ⟨⟨J1, a1⟩, a2, a3⟩ := c_sumAt (S := S) (F := F) J hS hF x2
  obtain ⟨⟨J2, b1⟩, b2, b3⟩ := c_sumAt (S := S) (F := F) J1 hS hF x3
  have e0 : f_X2_runOnceN_J38 S F I J 40 31 (nI i) 1 44 14 = if brk (sm (I 42) x.2.1) = -1000000000000000 then some ((0 : Int32), I, J2) else if brk (sm (I 42) x.2.2.1) = -1000000000000000 then some ((0 : Int32), I, J2) else (h_X0_whyNot S I F 44 45 46 x.1 (brk (sm (I 42) x.2.1)) (brk (sm (I 42) x.2.2.1))).bind fun r_32 => if r_32 = (0 : Int32) then f_X2_runOnceN_J121 S F I J2 40 1 44 14 x.1 (brk (sm (I 42) x.2.1)) (brk (sm (I 42) x.2.2.1)) else some ((0 : Int32), I, J2) := by
    unfold f_X2_runOnceN_J38
    rw [p_obS hS (a := 31) (kd := 8) rfl, p_bs, p_FS hF (a := 31) (i := 3) (b := 32) (by decide), p_bs, ix12 hS hi rfl, p_bs, p_le, p_FS hF (a := 31) (i := 4) (b := 33) (by decide), p_bs, ix12 hS hi rfl, p_bs, p_obS hS (a := 40) (kd := 2) rfl, p_bs, a1, p_bs, p_FS hF (a := 31) (i := 5) (b := 34) (by decide), p_bs, ix12 hS hi rfl, p_bs]
    dsimp only
    rw [b1, p_bs, x1]
    dsimp only
    simp only [cmp_eq, p_obS hS (a := 1) (kd := 0) rfl, p_bs, s_X0_whyNot hS hF (mo_44 hS hF)]
  rw [e0]
  unfold ac1
  cases ea : sm (I 42) x.2.1 with
  | none =>
    rw [if_pos (show brk none = -1000000000000000 from rfl)]
    exact ⟨(fun st h => by cases h), fun _ => ⟨J2, rfl⟩⟩
  | some a =>
    rw [ea] at a2 a3
    rw [if_neg (show ¬ brk (some a) = -1000000000000000 from fun e => by cases a2.mp e), a3 a rfl]
    cases eb : sm (I 42) x.2.2.1 with
    | none =>
      rw [if_pos (show brk none = -1000000000000000 from rfl)]
      exact ⟨(fun st h => by cases h), fun _ => ⟨J2, rfl⟩⟩
    | some b =>
      rw [eb] at b2 b3
      rw [if_neg (show ¬ brk (some b) = -1000000000000000 from fun e => by cases b2.mp e), b3 b rfl]
      dsimp only
      have wa := w32_e (sm_32 (fun d hd => (hw.1 d (.inl hd)).2) ea)
      have wb := w32_e (sm_32 (fun d hd => (hw.1 d (.inr hd)).2) eb)
      obtain ⟨z, z1, z2⟩ := c_whyC (S := S) (F := F) hM hkB hn h10 hk a.toInt32 b.toInt32
      rw [wa, wb] at z1
      rw [z1, p_bs]
      by_cases hc : can n kk x.1 a.toInt32 b.toInt32 = true
      · rw [if_pos (z2.mpr hc), if_pos hc]
        refine ⟨fun st h => ?_, (fun h => by cases h)⟩
        cases h
        obtain ⟨y, I1, J3, c1, c2, c3, c4⟩ := c_pfC J2 hX mB_44 hM hkB hge hk hc
        have r40 : I1 40 = I 40 := c4 40 (by omega) (by omega) (by omega) (by omega) (by omega)
        unfold f_X2_runOnceN_J121 f_X2_runOnceN_J165
        rw [p_obS hS (a := 14) (kd := 1) rfl, p_bs, s_X1_perform hS hF (mo_44 hS hF), c1, p_bs]
        dsimp only
        rw [p_obS hS (a := 40) (kd := 2) rfl, p_bs, p_le, p_bs, p_bs, p_le, p_le, r40]
        by_cases h3 : x.1 = 3
        · rw [if_pos h3, if_pos h3]
          refine ⟨_, _, rfl, ?_, ?_, ?_, fun a q1 q2 q3 q4 q5 q6 q7 => ?_⟩
          · exact rM_fr (by rw [w_row _ _ _ _ (by decide), w_row _ _ _ _ (by decide)]) (by rw [w_row _ _ _ _ (by decide), w_row _ _ _ _ (by decide)]) (by rw [w_row _ _ _ _ (by decide), w_row _ _ _ _ (by decide)]) c2
          · rw [w_ne _ _ _ _ (by decide), w_at]
          · rw [w_at]; exact c3 h3
          · rw [w_row _ _ _ _ q3, w_row _ _ _ _ q3]; exact c4 a q1 q2 q5 q6 q7
        · rw [if_neg h3, if_neg h3]
          refine ⟨_, _, rfl, ?_, ?_, ?_, fun a q1 q2 q3 q4 q5 q6 q7 => ?_⟩
          · exact rM_fr (by rw [w_row _ _ _ _ (by decide), w_row _ _ _ _ (by decide)]) (by rw [w_row _ _ _ _ (by decide), w_row _ _ _ _ (by decide)]) (by rw [w_row _ _ _ _ (by decide), w_row _ _ _ _ (by decide)]) c2
          · rw [w_ne _ _ _ _ (by decide), w_at]
          · rw [w_at, w_ne _ _ _ _ (by decide), r40]
          · rw [w_row _ _ _ _ q3, w_row _ _ _ _ q3]; exact c4 a q1 q2 q5 q6 q7
      · rw [if_neg (fun e => hc (z2.mp e)), if_neg hc]
        exact ⟨(fun st h => by cases h), fun _ => ⟨J2, rfl⟩⟩
theorem o1_kM {L : Option (List Cls)} {n : Nat} {x : Cls} {s st : OS} (h : o1 L n x s = some st) (hw : wfO x) (hn : n ≤ 8) (hk : kM n s.1) : kM n st.1 ∧ ∀ z, 18 ≤ z → st.1 z = s.1 z := by
  unfold o1 at h
  split at h
  · unfold ac1 at h
    split at h
    · split at h
      · rename_i hc
        cases h
        exact ⟨pf_kM hk hn (kind_c hw) hc, pf_ge hn hc⟩
      · cases h
    · cases h
  · cases h; exact ⟨hk, fun _ _ => rfl⟩
theorem c_onceN {S : v_S} {I : v_I} {F : v_F} (J : v_J) {n : Nat} {lw : Option Nat} {L : Option (List Cls)} {K kk : Nat → Int32} (hX : cX S I F n lw L K) (hM : rM I 44 45 46 kk) (hkM : kM n kk) (hge : ∀ z, 18 ≤ z → kk z = K z) {i : Nat} {x : Cls} (hx : tR S I F i x) (hw : wfO x) :
    (∀ st, o1 L n x (kk, I 40 0, I 40 1) = some st → ∃ I' J', f_X2_runOnceN S I J F 40 31 (nI i) 1 44 14 = some (1, I', J') ∧ rM I' 44 45 46 st.1 ∧ I' 40 0 = st.2.1 ∧ I' 40 1 = st.2.2 ∧ fN I I') ∧
    (o1 L n x (kk, I 40 0, I 40 1) = none → ∃ I' J', f_X2_runOnceN S I J F 40 31 (nI i) 1 44 14 = some (0, I', J') ∧ fN I I') := by
  obtain ⟨hS, hF, hn, k49, hkBK, hrS, _⟩ := id hX
  have hkB := kB_of hkM hn hkBK hge
  have h10 : I 1 0 = nI n := by rw [hrS.1, k49]
  obtain ⟨I1, a1, a2, a3⟩ := co_hear hS hF (mo_44 hS hF) (by decide) (by decide) (by decide) hM hkB hn h10
  have fI : fN I I1 := fun a _ _ _ q _ _ _ => a3 a q
  have hX1 : cX S I1 F n lw L K := cX_fr (fun a q => a3 a (by omega)) hX
  have hM1 : rM I1 44 45 46 kk := rM_fr (a3 44 (by decide)) (a3 45 (by decide)) (a3 46 (by decide)) hM
  have hx1 : tR S I1 F i x := tR_fr hx (fun a _ _ => a3 a (by omega))
  have r40 : I1 40 = I 40 := a3 40 (by decide)
  have D := fun J => c_j38 (S := S) (F := F) J hX1 hM1 hkM hge hx1 hw
  rw [r40, sm_ov (fun d hd => (hw.1 d (.inl hd)).1) a2, sm_ov (fun d hd => (hw.1 d (.inr hd)).1) a2] at D
  have hh := holds_ov hw.2.1 a2
  unfold o1 f_X2_runOnceN
  dsimp only
  rw [p_obS hS (a := 40) (kd := 2) rfl, p_bs, a1, p_bs, p_obS hS (a := 31) (kd := 8) rfl, p_bs, p_FS hF (a := 31) (i := 6) (b := 35) (by decide), p_bs, ix12 hS hx.1 rfl, p_bs]
  have go : ∀ J', (∀ st, ac1 L n x.1 (kk, I 40 0, I 40 1) (sm (ov n kk (I 40 0) (I 40 1)) x.2.1) (sm (ov n kk (I 40 0) (I 40 1)) x.2.2.1) = some st → ∃ I' J'', f_X2_runOnceN_J38 S F I1 J' 40 31 (nI i) 1 44 14 = some (1, I', J'') ∧ rM I' 44 45 46 st.1 ∧ I' 40 0 = st.2.1 ∧ I' 40 1 = st.2.2 ∧ fN I I') ∧ (ac1 L n x.1 (kk, I 40 0, I 40 1) (sm (ov n kk (I 40 0) (I 40 1)) x.2.1) (sm (ov n kk (I 40 0) (I 40 1)) x.2.2.1) = none → ∃ I' J'', f_X2_runOnceN_J38 S F I1 J' 40 31 (nI i) 1 44 14 = some (0, I', J'') ∧ fN I I') := by
    intro J'
    refine ⟨fun st h => ?_, fun h => ?_⟩
    · obtain ⟨I', J'', b1, b2, b3, b4, b5⟩ := (D J').1 st h
      exact ⟨I', J'', b1, b2, b3, b4, fN_trans fI b5⟩
    · obtain ⟨J'', b1⟩ := (D J').2 h
      exact ⟨I1, J'', b1, fI⟩
  obtain ⟨hi, x1, x2, x3, x4, x5⟩ := id hx1
  cases ht : x.2.2.2.1 with
  | none =>
    rw [ht] at x4
    have e : I1 35 i = -1 := x4
    rw [if_pos e, if_pos (show d_holds _ none = true from rfl)]
    exact go J
  | some d =>
    rw [ht] at x4 hh
    obtain ⟨b1, ⟨J1, b2⟩, b3, b4⟩ := c_rkt (S := S) (F := F) J hS hF x4
    rw [if_neg b1, p_FS hF (a := 40) (i := 2) (b := 41) (by decide), p_bs, p_bs, ix12 hS hx.1 rfl, p_bs, p_obS hS (a := 41) (kd := 7) rfl, p_bs, b2, p_bs]
    dsimp only
    simp only [cmp_eq]
    have hb : brk (d (I1 42)) = 1 ↔ d (I1 42) = some 1 := by
      refine ⟨fun e => ?_, fun e => b4 1 e⟩
      cases ed : d (I1 42) with
      | none => rw [ed] at e; exact absurd e (by decide)
      | some y => rw [b4 y ed] at e; rw [e]
    have hd : d_holds (I1 42) (some d) = decide (d (I1 42) = some 1) := rfl
    rw [← hh, hd]
    by_cases e : d (I1 42) = some 1
    · rw [if_pos (hb.mpr e), if_pos (decide_eq_true e)]
      exact go J1
    · rw [if_neg (fun q => e (hb.mp q)), if_neg (show ¬ decide (d (I1 42) = some 1) = true from fun q => e (of_decide_eq_true q))]
      refine ⟨fun st h => ?_, (fun h => by cases h)⟩
      cases h
      exact ⟨I1, J1, rfl, hM1, by rw [r40], by rw [r40], fI⟩
/-- as often as it is told -/
theorem c_timesN {S : v_S} {F : v_F} {n : Nat} {lw : Option Nat} {L : Option (List Cls)} {K : Nat → Int32} {i : Nat} {x : Cls} {T : Nat} (hw : wfO x) (hT : x.2.2.2.2 = nI T) (hT2 : T ≤ 20) : ∀ (t f m : Nat) (I : v_I) (J : v_J) (kk : Nat → Int32), t + f = T → f < m → cX S I F n lw L K → rM I 44 45 46 kk → kM n kk → (∀ z, 18 ≤ z → kk z = K z) → tR S I F i x →
    (∀ st, oT L n x f (kk, I 40 0, I 40 1) = some st → ∃ y I' J', v_loop (f_X2_runAllN_B35 S F 40 31 1 44 14 (nI i)) m (nI t, I, J) = some (1, y, I', J') ∧ rM I' 44 45 46 st.1 ∧ I' 40 0 = st.2.1 ∧ I' 40 1 = st.2.2 ∧ kM n st.1 ∧ (∀ z, 18 ≤ z → st.1 z = K z) ∧ fN I I') ∧
    (oT L n x f (kk, I 40 0, I 40 1) = none → ∃ y I' J', v_loop (f_X2_runAllN_B35 S F 40 31 1 44 14 (nI i)) m (nI t, I, J) = some (0, y, I', J') ∧ fN I I') := by
  intro t f
  induction f generalizing t with
  | zero =>
    intro m I J kk ht hm hX hM hk hge hx
    obtain ⟨m, rfl⟩ : ∃ q, m = q + 1 := ⟨m - 1, by omega⟩
    obtain ⟨hS, hF, _⟩ := id hX
    have : f_X2_runAllN_B35 S F 40 31 1 44 14 (nI i) (nI t, I, J) = some (.inr (1, (nI t, I, J))) := by
      unfold f_X2_runAllN_B35
      dsimp only
      rw [p_obS hS (a := 31) (kd := 8) rfl, p_bs, p_FS hF (a := 31) (i := 7) (b := 36) (by decide), p_bs, ix12 hS hx.1 rfl, p_bs, if_pos (show I 36 i ≤ nI t by rw [hx.2.2.2.2.2, hT]; exact nI_le (by omega) (by omega))]
    refine ⟨fun st h => ?_, (fun h => by cases h)⟩
    cases h
    refine ⟨nI t, I, J, ?_, hM, rfl, rfl, hk, hge, fun _ _ _ _ _ _ _ _ => rfl⟩
    simp only [v_loop, this]
  | succ f ih =>
    intro m I J kk ht hm hX hM hk hge hx
    obtain ⟨m, rfl⟩ : ∃ q, m = q + 1 := ⟨m - 1, by omega⟩
    obtain ⟨hS, hF, hn, _⟩ := id hX
    have e0 : f_X2_runAllN_B35 S F 40 31 1 44 14 (nI i) (nI t, I, J) = (f_X2_runOnceN S I J F 40 31 (nI i) 1 44 14).bind fun r_19 => if r_19.1 = (0 : Int32) then some (.inr (0, (nI t, r_19.2.1, r_19.2.2))) else some (.inl (nI (t + 1), r_19.2.1, r_19.2.2)) := by
      unfold f_X2_runAllN_B35
      dsimp only
      rw [p_obS hS (a := 31) (kd := 8) rfl, p_bs, p_FS hF (a := 31) (i := 7) (b := 36) (by decide), p_bs, ix12 hS hx.1 rfl, p_bs, if_neg (show ¬ I 36 i ≤ nI t by rw [hx.2.2.2.2.2, hT]; exact nI_ge (by omega) (by omega)), p_obS hS (a := 40) (kd := 2) rfl, p_bs]
      simp only [p_le, ← nI_succ]
    obtain ⟨D1, D2⟩ := c_onceN (S := S) (F := F) J hX hM hk hge hx hw
    unfold oT
    cases ho : o1 L n x (kk, I 40 0, I 40 1) with
    | none =>
      obtain ⟨I', J', b1, b2⟩ := D2 ho
      refine ⟨(fun st h => by cases h), fun _ => ⟨nI t, I', J', ?_, b2⟩⟩
      rw [b1, p_bs] at e0
      dsimp only at e0
      rw [if_pos rfl] at e0
      simp only [v_loop, e0]
    | some st =>
      obtain ⟨I', J', b1, b2, b3, b4, b5⟩ := D1 st ho
      rw [b1, p_bs] at e0
      dsimp only at e0
      rw [if_neg (by decide)] at e0
      have hkm := o1_kM ho hw hn hk
      have e1 : v_loop (f_X2_runAllN_B35 S F 40 31 1 44 14 (nI i)) (m + 1) (nI t, I, J) = v_loop (f_X2_runAllN_B35 S F 40 31 1 44 14 (nI i)) m (nI (t + 1), I', J') := by simp only [v_loop, e0]
      rw [e1, p_bs]
      obtain ⟨k1, k2⟩ := ih (t + 1) m I' J' st.1 (by omega) (by omega) (cX_fr (fun a q => b5 a (by omega) (by omega) (by omega) (by omega) (by omega) (by omega) (by omega)) hX) b2 hkm.1 (fun z hz => by rw [hkm.2 z hz]; exact hge z hz) (tR_fr hx (fun a _ _ => b5 a (by omega) (by omega) (by omega) (by omega) (by omega) (by omega) (by omega)))
      rw [b3, b4] at k1 k2
      refine ⟨fun u h => ?_, fun h => ?_⟩
      · obtain ⟨y, I2, J2, c1, c2, c3, c4, c5, c6, c7⟩ := k1 u h
        exact ⟨y, I2, J2, c1, c2, c3, c4, c5, c6, fN_trans b5 c7⟩
      · obtain ⟨y, I2, J2, c1, c2⟩ := k2 h
        exact ⟨y, I2, J2, c1, fN_trans b5 c2⟩
theorem c_allN {S : v_S} {F : v_F} {n : Nat} {lw : Option Nat} {L : Option (List Cls)} {K : Nat → Int32} {D : List Cls} (hD : D.length ≤ 12) (hwf : ∀ x ∈ D, wfO x) : ∀ (E : List Cls) (i m : Nat) (I : v_I) (J : v_J) (kk : Nat → Int32), D.drop i = E → i ≤ D.length → E.length < m → cX S I F n lw L K → rM I 44 45 46 kk → kM n kk → (∀ z, 18 ≤ z → kk z = K z) → I 31 0 = nI D.length → (∀ j x, D[j]? = some x → tR S I F j x) →
    (∀ st, oR L n E i (kk, I 40 0, I 40 1) = .inl st → ∃ y I' J', v_loop (f_X2_runAllN_B13 S F 40 31 1 44 14) m (nI i, I, J) = some (1, y, I', J') ∧ fN I I') ∧
    (∀ e, oR L n E i (kk, I 40 0, I 40 1) = .inr e → e < 12 ∧ ∃ I' J', v_loop (f_X2_runAllN_B13 S F 40 31 1 44 14) m (nI i, I, J) = some (0, nI e, I', J') ∧ fN I I') := by
  intro E
  induction E with
  | nil =>
    intro i m I J kk hE hi hm hX hM hk hge h31 hx
    obtain ⟨m, rfl⟩ : ∃ q, m = q + 1 := ⟨m - 1, by omega⟩
    obtain ⟨hS, hF, _⟩ := id hX
    have hl : D.length ≤ i := by
      have := congrArg List.length hE
      rw [List.length_drop] at this
      simp at this
      omega
    have : f_X2_runAllN_B13 S F 40 31 1 44 14 (nI i, I, J) = some (.inr (1, (nI i, I, J))) := by
      unfold f_X2_runAllN_B13
      dsimp only
      rw [p_obS hS (a := 31) (kd := 8) rfl, p_bs, if_pos (show I 31 0 ≤ nI i by rw [h31]; exact nI_le hl (by omega))]
    refine ⟨fun st h => ⟨nI i, I, J, ?_, fun _ _ _ _ _ _ _ _ => rfl⟩, (fun e h => by cases h)⟩
    simp only [v_loop, this]
  | cons x E ih =>
    intro i m I J kk hE hi hm hX hM hk hge h31 hx
    obtain ⟨m, rfl⟩ : ∃ q, m = q + 1 := ⟨m - 1, by omega⟩
    obtain ⟨hS, hF, hn, _⟩ := id hX
    have hl : i < D.length := by
      have := congrArg List.length hE
      rw [List.length_drop] at this
      simp at this
      omega
    have hxi : D[i]? = some x := by
      have := congrArg (fun l => l[0]?) hE
      simp at this
      simpa using this
    have hE' : D.drop (i + 1) = E := by
      have := congrArg List.tail hE
      simpa using this
    have hw := hwf x (List.mem_of_getElem? hxi)
    obtain ⟨T, ht1, ht2, ht3⟩ := hw.2.2.1
    have hxt := hx i x hxi
    obtain ⟨D1, D2⟩ := c_timesN (S := S) (F := F) (L := L) (K := K) (i := i) hw ht3 ht2 0 T FU I J kk (by omega) (by rw [FU_eq]; omega) hX hM hk hge hxt
    rw [show nI 0 = (0 : Int32) from rfl] at D1 D2
    have e0 : f_X2_runAllN_B13 S F 40 31 1 44 14 (nI i, I, J) = (v_loop (f_X2_runAllN_B35 S F 40 31 1 44 14 (nI i)) FU ((0 : Int32), I, J)).bind fun q_25 => if q_25.1 = 0 then some (.inr (0, (nI i, q_25.2.2.1, q_25.2.2.2))) else some (.inl (nI (i + 1), q_25.2.2.1, q_25.2.2.2)) := by
      unfold f_X2_runAllN_B13
      dsimp only
      rw [p_obS hS (a := 31) (kd := 8) rfl, p_bs, if_neg (show ¬ I 31 0 ≤ nI i by rw [h31]; exact nI_ge hl (by omega)), p_FS hF (a := 31) (i := 7) (b := 36) (by decide), p_bs, p_lenS hS (a := 36) (kd := 20) (n := 12) (x := 12) rfl rfl, p_bs, if_neg (show ¬ (12 : Int32) ≤ nI i from i_nle (a := 12) rfl rfl (by omega) (by omega))]
      simp only [p_le, ← nI_succ]
    unfold oR
    rw [ht3, nI_clamp (by omega)]
    cases ho : oT L n x T (kk, I 40 0, I 40 1) with
    | none =>
      obtain ⟨y, I', J', b1, b2⟩ := D2 ho
      refine ⟨(fun st h => by cases h), fun e h => ?_⟩
      cases h
      refine ⟨by omega, I', J', ?_, b2⟩
      rw [b1, p_bs] at e0
      dsimp only at e0
      rw [if_pos rfl] at e0
      simp only [v_loop, e0]
    | some st =>
      obtain ⟨y, I', J', b1, b2, b3, b4, b5, b6, b7⟩ := D1 st ho
      rw [b1, p_bs] at e0
      dsimp only at e0
      rw [if_neg (by decide)] at e0
      have e1 : v_loop (f_X2_runAllN_B13 S F 40 31 1 44 14) (m + 1) (nI i, I, J) = v_loop (f_X2_runAllN_B13 S F 40 31 1 44 14) m (nI (i + 1), I', J') := by simp only [v_loop, e0]
      rw [e1]
      dsimp only
      have g : ∀ a, a ≤ 6 ∨ 72 ≤ a ∨ (31 ≤ a ∧ a ≤ 37) → I' a = I a := fun a q => b7 a (by omega) (by omega) (by omega) (by omega) (by omega) (by omega) (by omega)
      obtain ⟨k1, k2⟩ := ih (i + 1) m I' J' st.1 hE' (by omega) (by simp at hm; omega) (cX_fr (fun a q => g a (by omega)) hX) b2 b5 b6 (by rw [g 31 (by omega)]; exact h31) (fun j x hj => tR_fr (hx j x hj) (fun a _ _ => g a (by omega)))
      rw [b3, b4] at k1 k2
      refine ⟨fun u h => ?_, fun e h => ?_⟩
      · obtain ⟨y, I2, J2, c1, c2⟩ := k1 u h
        exact ⟨y, I2, J2, c1, fN_trans b7 c2⟩
      · obtain ⟨c0, I2, J2, c1, c2⟩ := k2 e h
        exact ⟨c0, I2, J2, c1, fN_trans b7 c2⟩
theorem c_dry {S : v_S} {F : v_F} {I : v_I} (J : v_J) {n : Nat} {lw : Option Nat} {L : Option (List Cls)} {K : Nat → Int32} {D : List Cls} (hD : D.length ≤ 12) (hwf : ∀ x ∈ D, wfO x) (hX : cX S I F n lw L K) (hM : rM I 44 45 46 K) (hk : kM n K) (h31 : I 31 0 = nI D.length) (hx : ∀ j x, D[j]? = some x → tR S I F j x) :
    (∀ st, oR L n D 0 (K, 0, -1) = .inl st → ∃ I' J', f_X2_runAllN S I J F 40 31 1 44 14 = some (-1, I', J') ∧ fN I I') ∧
    (∀ e, oR L n D 0 (K, 0, -1) = .inr e → e < 12 ∧ ∃ I' J', f_X2_runAllN S I J F 40 31 1 44 14 = some (nI e, I', J') ∧ fN I I') := by
  obtain ⟨hS, hF, _⟩ := id hX
  have g : ∀ a, a ≠ 40 → v_up (v_up I 40 0 0) 40 1 (-1) a = I a := fun a q => by rw [w_row _ _ _ _ q, w_row _ _ _ _ q]
  have f0 : fN I (v_up (v_up I 40 0 0) 40 1 (-1)) := fun a _ _ q _ _ _ _ => g a q
  have e0 : v_up (v_up I 40 0 0) 40 1 (-1) 40 0 = 0 := by rw [w_ne _ _ _ _ (by decide), w_at]
  have e1 : v_up (v_up I 40 0 0) 40 1 (-1) 40 1 = -1 := w_at _ _ _ _
  obtain ⟨k1, k2⟩ := c_allN (S := S) (F := F) (L := L) (lw := lw) (K := K) hD hwf D 0 FU (v_up (v_up I 40 0 0) 40 1 (-1)) J K rfl (Nat.zero_le _) (by rw [FU_eq]; omega) (cX_fr (fun a q => g a (by omega)) hX) (rM_fr (g 44 (by decide)) (g 45 (by decide)) (g 46 (by decide)) hM) hk (fun _ _ => rfl) (by rw [g 31 (by decide)]; exact h31) (fun j x hj => tR_fr (hx j x hj) (fun a _ _ => g a (by omega)))
  rw [e0, e1, show nI 0 = (0 : Int32) from rfl] at k1 k2
  unfold f_X2_runAllN
  rw [p_obS hS (a := 40) (kd := 2) rfl, p_bs, p_le, p_le]
  refine ⟨fun st h => ?_, fun e h => ?_⟩
  · obtain ⟨y, I', J', a1, a2⟩ := k1 st h
    refine ⟨I', J', ?_, fN_trans f0 a2⟩
    rw [a1, p_bs, if_neg (show ¬ (1 : Nat) = 0 by decide)]
  · obtain ⟨a0, I', J', a1, a2⟩ := k2 e h
    refine ⟨a0, I', J', ?_, fN_trans f0 a2⟩
    rw [a1, p_bs, if_pos rfl]
end sp98o
