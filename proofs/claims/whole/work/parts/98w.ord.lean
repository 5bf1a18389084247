noncomputable section sp98w
theorem cdS_R4 {C : Nat → Int32} {s : Nat} {a : Int32} {o : Option Den} (h : cdS C s a o) (hs : s ≤ 436) : cd_R C 436 a o := by
  cases o with
  | none => exact h
  | some d =>
    obtain ⟨q, b, k, h1, h2, h3, h4, h5, h6⟩ := h
    exact ⟨q, by omega, h4, fun vals => seg_end (h5 C (fun i _ _ => rfl)) h3 (by omega) h6 vals⟩
theorem Tx_tR {S : v_S} {I I' : v_I} {F : v_F} {s : Nat} {D : List Cls} (T : Tx I s D) (hs : s ≤ 436) (hD : D.length ≤ 12) (e : ∀ a, 32 ≤ a → a ≤ 37 → I' a = I a) : ∀ j x, D[j]? = some x → tR S I' F j x := by
  intro j x hx
  have hj : j < D.length := by
    by_cases w : j < D.length
    · exact w
    · rw [List.getElem?_eq_none (by omega)] at hx; cases hx
  obtain ⟨g1, g2, g3, g4, g5⟩ := T.2.1 j x hx
  refine tR_fr (S := S) (F := F) (I := I) ⟨by omega, g1, cdS_R4 g2 hs, cdS_R4 g3 hs, cdS_R4 g4 hs, g5⟩ e
theorem ok_9 {S : v_S} {I : v_I} {J : v_J} {F : v_F} (h : R S I J F) : op_9 R S I J F := by
  have h0 := h
  obtain ⟨n, lw, L, hX⟩ := R_cX h0
  have hn := hX.2.2.1
  have k49 := hX.2.2.2.1
  have hkB := hX.2.2.2.2.1
  have hkM := R_kM h0 hn k49
  have hmL := rLw_m hX.2.2.2.2.2.2.2.1
  obtain ⟨hS, hF, hC, hK, hT, hO, hD, hW, own, hN, hL, hP, hG⟩ := h
  have l71 : 71 < S.length := S_lt (hS 71 _ rfl)
  obtain ⟨p1, p2, p3, p4, p5, p6, p7, p8, p9⟩ := id hO
  obtain ⟨b, nt, hnt, t1, t2, hb⟩ := tape_b hT
  have hz : (tL b nt).length ≤ 400 := by have := tL_le b (z := nt); omega
  have A0r : ∀ a, a ≠ 0 → v_up I 0 17 (-1) a = I a := fun a h => w_row _ _ _ _ h
  have A0j : ∀ j, j ≠ 17 → v_up I 0 17 (-1) 0 j = I 0 j := fun j h => w_ne _ _ _ _ h
  have A017 : v_up I 0 17 (-1) 0 17 = -1 := w_at _ _ _ _
  unfold op_9 f_X9_orders
  rw [p_obS hS (a := 0) (kd := 9) rfl, p_bs, p_le, p_FS hF (a := 0) (i := 9) (b := 30) (by decide), p_bs, p_FS hF (a := 0) (i := 7) (b := 29) (by decide), p_bs, p_obS hS (a := 30) (kd := 6) rfl, p_bs, s_X6_read hS hF, A0j 8 (by decide), t1]
  generalize v_up I 0 17 (-1) = A0 at A0r A0j A017
  have C := c_rdc (I := A0) (b := b) true hS hF hnt (fun i hi => ⟨(hb i hi).1, by rw [A0r 29 (by decide)]; exact (hb i hi).2.1⟩)
  rw [show bI true = (1 : Int32) from rfl] at C
  cases ht : sp_text (tC b nt) (tV b nt) true (tL b nt).length with
  | inl e =>
    obtain ⟨I1, a1, f1⟩ := C.1 e ht
    have hx : nI (tP b nt e) ≠ -1 := nI_ne _ (by have := tP_le (b := b) (z := nt) e; omega)
    rw [a1, p_bs]
    dsimp only
    rw [p_le, p_le, if_neg (show ¬ v_up (v_up I1 0 16 (nI (tP b nt e))) 0 8 0 0 16 = -1 by rw [w_ne _ _ _ _ (by decide), w_at]; exact hx), s_X9_refuse hS hF, c_ref6, p_bs]
    have fI : ∀ a j, ¬ scr a j → a ≠ 0 → I1 a j = I a j := fun a j g1 g2 => by rw [f1 a j g1, A0r a g2]
    have s48 : v_up (v_up I1 0 16 (nI (tP b nt e))) 0 8 0 48 4 = I 48 4 := by rw [w_row _ _ _ _ (by decide), w_row _ _ _ _ (by decide), fI 48 4 (by unfold scr; omega) (by decide)]
    rw [s48]
    have u0 : ∀ a j, ¬ scr a j → a ≠ 0 → a ≠ 48 → v_up (v_up (v_up (v_up I1 0 16 (nI (tP b nt e))) 0 8 0) 0 14 (-6)) 48 4 (I 48 4 + 1) a j = I a j := fun a j g1 g2 g3 => by
      rw [w_row _ _ _ _ g3, w_row _ _ _ _ g2, w_row _ _ _ _ g2, w_row _ _ _ _ g2, fI a j g1 g2]
    have u8 : v_up (v_up (v_up (v_up I1 0 16 (nI (tP b nt e))) 0 8 0) 0 14 (-6)) 48 4 (I 48 4 + 1) 0 8 = 0 := by simp [v_up]
    have u14 : v_up (v_up (v_up (v_up I1 0 16 (nI (tP b nt e))) 0 8 0) 0 14 (-6)) 48 4 (I 48 4 + 1) 0 14 = -6 := by simp [v_up]
    have u16 : v_up (v_up (v_up (v_up I1 0 16 (nI (tP b nt e))) 0 8 0) 0 14 (-6)) 48 4 (I 48 4 + 1) 0 16 = nI (tP b nt e) := by simp [v_up]
    have u17 : v_up (v_up (v_up (v_up I1 0 16 (nI (tP b nt e))) 0 8 0) 0 14 (-6)) 48 4 (I 48 4 + 1) 0 17 = -1 := by
      rw [w_row _ _ _ _ (by decide), w_ne _ _ _ _ (by decide), w_ne _ _ _ _ (by decide), w_ne _ _ _ _ (by decide), f1 0 17 (by unfold scr; omega), A017]
    have uo : ∀ j, j ≠ 8 → j ≠ 14 → j ≠ 16 → j ≠ 17 → v_up (v_up (v_up (v_up I1 0 16 (nI (tP b nt e))) 0 8 0) 0 14 (-6)) 48 4 (I 48 4 + 1) 0 j = I 0 j := fun j g1 g2 g3 g4 => by
      rw [w_row _ _ _ _ (by decide), w_ne _ _ _ _ g2, w_ne _ _ _ _ g1, w_ne _ _ _ _ g3, f1 0 j (by unfold scr; omega), A0j j g4]
    have u48 : ∀ j, j ≠ 4 → v_up (v_up (v_up (v_up I1 0 16 (nI (tP b nt e))) 0 8 0) 0 14 (-6)) 48 4 (I 48 4 + 1) 48 j = I 48 j := fun j g => by
      rw [w_ne _ _ _ _ g, w_row _ _ _ _ (by decide), w_row _ _ _ _ (by decide), w_row _ _ _ _ (by decide), fI 48 j (by unfold scr; omega) (by decide)]
    have u484 : v_up (v_up (v_up (v_up I1 0 16 (nI (tP b nt e))) 0 8 0) 0 14 (-6)) 48 4 (I 48 4 + 1) 48 4 = I 48 4 + 1 := w_at _ _ _ _
    generalize v_up (v_up (v_up (v_up I1 0 16 (nI (tP b nt e))) 0 8 0) 0 14 (-6)) 48 4 (I 48 4 + 1) = I2 at u0 u8 u14 u16 u17 uo u48 u484
    have r2 : ∀ a, a ≠ 49 → v_up I2 49 38 (-1) a = I2 a := fun a g => w_row _ _ _ _ g
    obtain ⟨I3, m1, m2, m3, m4⟩ := (m_rd (I := v_up I2 49 38 (-1)) (b := b) true hnt (by rw [w_ne _ _ _ _ (by decide), u0 49 13 (by unfold scr; omega) (by omega) (by omega)]; exact t2) (by intro i hi; rw [r2 55 (by decide), u0 55 i (by unfold scr; omega) (by omega) (by omega)]; exact hW i hi) (fun i hi => by rw [r2 56 (by decide), u0 56 i (by unfold scr; omega) (by omega) (by omega)]; exact ⟨(hb i hi).1, (hb i hi).2.2⟩)).1 e ht
    rw [show bI true = (1 : Int32) from rfl] at m1
    have v0 : ∀ a j, a ≠ 49 → ¬ (58 ≤ a ∧ a ≤ 60) → I3 a j = I2 a j := fun a j g1 g2 => by rw [m4 a j (by omega) g2, r2 a g1]
    refine ⟨(-6, S, I2, J, F), (-6, v_up (v_up I3 49 0 (-6)) 50 6 (I3 50 6 + 1), J), rfl, ?_, rfl, hS, ?_⟩
    · dsimp only
      rw [s_X10_orders hS hF]
      unfold h_X10_orders
      rw [p_le, m1, p_bs]
      dsimp only
      rw [if_pos rfl, m_ref6, p_bs]
    · dsimp only
      refine R_end h0 (fun a j g1 g2 g3 g4 g5 => ?_) ?_ ?_ ?_
      · rw [v_up_ne _ _ (by omega), v_up_ne _ _ (by omega)]
        have hg : ¬ (58 ≤ a ∧ a ≤ 60) := by unfold scr at g1; omega
        have h49 : ¬ (a = 49 ∧ ((8 ≤ j ∧ j ≤ 10) ∨ j = 13 ∨ j = 14 ∨ (18 ≤ j ∧ j ≤ 21))) := by unfold scr at g1; omega
        rw [m4 a j h49 hg, v_up_ne _ _ (by omega)]
        by_cases w : a = 0
        · subst w; exact uo j (by omega) (by omega) (by omega) (by omega)
        · exact u0 a j g1 w g3
      · rw [w_row _ _ _ _ (by decide), w_row _ _ _ _ (by decide), v0 0 8 (by omega) (by omega)]; exact u8
      · rw [w_row _ _ _ _ (by decide), w_ne _ _ _ _ (by decide)]; exact m3
      · have i50 : ∀ j, I3 50 j = I 50 j := fun j => by rw [v0 50 j (by omega) (by omega), u0 50 j (by unfold scr; omega) (by omega) (by omega)]
        have i496 : I3 49 6 = I 49 6 := by rw [m4 49 6 (by omega) (by omega), w_ne _ _ _ _ (by decide), u0 49 6 (by unfold scr; omega) (by omega) (by omega)]
        have i4938 : I3 49 38 = -1 := by rw [m4 49 38 (by omega) (by omega), w_at]
        have i48 : ∀ j, I3 48 j = I2 48 j := fun j => v0 48 j (by omega) (by omega)
        have i0 : ∀ j, I3 0 j = I2 0 j := fun j => v0 0 j (by omega) (by omega)
        simp [rO, v_up, i0, i48, i496, i4938, i50, u14, u16, u17, u484, u48, uo, m2, p2, p3, p4, p5, p6, p7]
  | inr D =>
    obtain ⟨I1, s, a1, f1, T, hs, e1, bit⟩ := C.2 D ht
    have hD12 := text_len ht
    have hwf := wfO_text ht
    rw [a1, p_bs]
    dsimp only
    rw [p_le, p_le, if_pos (show v_up (v_up I1 0 16 (-1)) 0 8 0 0 16 = -1 by rw [w_ne _ _ _ _ (by decide), w_at])]
    have B0r : ∀ a, a ≠ 0 → v_up (v_up I1 0 16 (-1)) 0 8 0 a = I1 a := fun a g => by rw [w_row _ _ _ _ g, w_row _ _ _ _ g]
    have B0j : ∀ j, j ≠ 8 → j ≠ 16 → v_up (v_up I1 0 16 (-1)) 0 8 0 0 j = I1 0 j := fun j g1 g2 => by rw [w_ne _ _ _ _ g1, w_ne _ _ _ _ g2]
    have B08 : v_up (v_up I1 0 16 (-1)) 0 8 0 0 8 = 0 := w_at _ _ _ _
    have B016 : v_up (v_up I1 0 16 (-1)) 0 8 0 0 16 = -1 := by rw [w_ne _ _ _ _ (by decide), w_at]
    generalize v_up (v_up I1 0 16 (-1)) 0 8 0 = B0 at B0r B0j B08 B016
    have gB : ∀ a j, ¬ scr a j → a ≠ 0 → B0 a j = I a j := fun a j g1 g2 => by rw [B0r a g2, f1 a j g1, A0r a g2]
    have gB0 : ∀ j, j ≠ 8 → j ≠ 16 → j ≠ 17 → B0 0 j = I 0 j := fun j g1 g2 g3 => by rw [B0j j g1 g2, f1 0 j (by unfold scr; omega), A0j j g3]
    -- copied
    obtain ⟨I2, c1, c2, c3, c4⟩ := c_copy (I := B0) (mo_44 hS hF) (mo_now hS hF) (by omega) (by omega) (by omega) (by omega) (by omega) (by omega) (by omega)
    simp only [p_FS hF (a := 0) (i := 11) (b := 44) (by decide), p_FS hF (a := 0) (i := 0) (b := 1) (by decide), p_bs, p_obS hS (a := 1) (kd := 0) rfl, p_FS hF (a := 1) (i := 1) (b := 2) (by decide), p_obS hS (a := 44) (kd := 3) rfl, s_X3_copyFrom hS hF (mo_44 hS hF) (mo_now hS hF), c1, p_FS hF (a := 0) (i := 10) (b := 40) (by decide), p_FS hF (a := 0) (i := 9) (b := 30) (by decide), p_obS hS (a := 30) (kd := 6) rfl, p_FS hF (a := 30) (i := 0) (b := 31) (by decide), p_FS hF (a := 0) (i := 3) (b := 14) (by decide), p_obS hS (a := 40) (kd := 2) rfl, p_FS hF (a := 0) (i := 2) (b := 11) (by decide)]
    have g2 : ∀ a j, ¬ scr a j → a ≠ 0 → I2 a j = I a j := fun a j q1 q2 => by rw [c3 a (by unfold scr at q1; omega) (by unfold scr at q1; omega) (by unfold scr at q1; omega)]; exact gB a j q1 q2
    have g20 : I2 0 = B0 0 := c3 0 (by omega) (by omega) (by omega)
    have g2t : ∀ a, 31 ≤ a → a ≤ 37 → I2 a = I1 a := fun a q1 q2 => by rw [c3 a (by omega) (by omega) (by omega), B0r a (by omega)]
    have rw2 : ∀ a, (1 ≤ a ∧ a < 14) ∨ 72 ≤ a → I2 a = I a := fun a q => funext fun j => g2 a j (by unfold scr; omega) (by omega)
    -- what it runs on
    obtain ⟨nu, nx, w1, w2, w3, w4, w5, w6, w7⟩ := id hP
    have kt : ∀ z, z < 59 → Ko (I 51) b nt z = I 51 z := fun z hz' => Ko_lt hz'
    have hCk : rC I 1 2 3 4 5 6 7 8 (Ko (I 51) b nt) := rC_k hC kt
    have hKk : kK (Ko (I 51) b nt) := kK_k hK kt
    have hLk : rL S I F own 9 (Ko (I 51) b nt) := ext_rL (ext_refl S F 13) (by omega) hN (fun _ _ => rfl) (fun _ _ => rfl) (by omega) (by omega) (kt 51 (by omega)) (fun t D' ht' hd => tk_Ko hz ht' hd) hL
    have hmLk : mLw (Ko (I 51) b nt) L := mLw_Ko hz hmL
    have hkMk : kM n (Ko (I 51) b nt) := kM_ext (fun i hi => kt i (by omega)) hkM
    have hcR : cR S I F own (nu, fun j i => I 63 (19 * j + i)) := ⟨nx, w2, w1, w3, w5, w6, fun j hj => ⟨(w7 j hj).1, (w7 j hj).2.1⟩⟩
    have hmR : mR I (nu, fun j i => I 63 (19 * j + i)) := ⟨w1, w4, fun _ _ _ _ => rfl⟩
    have hsd : sdR n (nu, fun j i => I 63 (19 * j + i)) := fun j hj => ⟨(w7 j hj).2.2.1 n hn k49, (w7 j hj).2.2.2⟩
    generalize hg : ((nu, fun j i => I 63 (19 * j + i)) : RG) = g at hcR hmR hsd
    have C2 : rC I2 1 2 3 4 5 6 7 8 (Ko (I 51) b nt) := rC_f hCk (fun a q1 q2 => rw2 a (by omega))
    have L2 : rL S I2 F own 9 (Ko (I 51) b nt) := rL_fr (fun a ha => rw2 a (by have := (hN a (by omega)).1; omega)) hLk
    obtain ⟨n', lw', L', hX2⟩ := cX_mk hS hF C2 hKk hN L2
    have en : n' = n := (nI_eq (by have := hX2.2.2.1; omega) (by omega)).mp (hX2.2.2.2.1.symm.trans (by rw [kt 49 (by omega)]; exact k49))
    subst en
    have eL : L' = L := mLw_u (rLw_m hX2.2.2.2.2.2.2.2.1) hmLk
    subst eL
    have hM2 : rM I2 44 45 46 (Ko (I 51) b nt) := c2 _ (rM_fr (funext fun j => gB 2 j (by unfold scr; omega) (by omega)) (funext fun j => gB 3 j (by unfold scr; omega) (by omega)) (funext fun j => gB 4 j (by unfold scr; omega) (by omega)) hCk.1)
    obtain ⟨dr1, dr2⟩ := c_dry (S := S) (F := F) (I := I2) J hD12 hwf hX2 hM2 hkMk (by rw [g2t 31 (by omega) (by omega)]; exact T.1) (Tx_tR T hs hD12 (fun a q1 q2 => g2t a (by omega) (by omega)))
    obtain ⟨x1, x2⟩ := oRx_1 L' n' D 0 ((Ko (I 51) b nt, 0, -1), g)
    cases hrun : oRx L' n' D 0 ((Ko (I 51) b nt, 0, -1), g) with
    | inr e =>
      obtain ⟨he, I3, J3, d1, d2⟩ := dr2 e (x1 e hrun)
      rw [d1, p_bs]
      dsimp only
      rw [p_le, if_neg (show ¬ v_up I3 0 17 (nI e) 0 17 = -1 by rw [w_at]; exact nI_ne e (by omega)), s_X9_refuse hS hF, c_ref3, p_bs]
      have g3 : ∀ a j, ¬ scr a j → a ≠ 0 → I3 a j = I a j := fun a j q1 q2 => by rw [d2 a (by unfold scr at q1; omega) (by unfold scr at q1; omega) (by unfold scr at q1; omega) (by unfold scr at q1; omega) (by unfold scr at q1; omega) (by unfold scr at q1; omega) (by unfold scr at q1; omega)]; exact g2 a j q1 q2
      have g30 : I3 0 = B0 0 := by rw [d2 0 (by omega) (by omega) (by omega) (by omega) (by omega) (by omega) (by omega)]; exact g20
      have s48 : v_up I3 0 17 (nI e) 48 2 = I 48 2 := by rw [w_row _ _ _ _ (by decide), g3 48 2 (by unfold scr; omega) (by decide)]
      rw [s48]
      have u0 : ∀ a j, ¬ scr a j → a ≠ 0 → a ≠ 48 → v_up (v_up (v_up I3 0 17 (nI e)) 0 14 (-3)) 48 2 (I 48 2 + 1) a j = I a j := fun a j q1 q2 q3 => by
        rw [w_row _ _ _ _ q3, w_row _ _ _ _ q2, w_row _ _ _ _ q2, g3 a j q1 q2]
      have uz : ∀ j, j ≠ 14 → j ≠ 17 → v_up (v_up (v_up I3 0 17 (nI e)) 0 14 (-3)) 48 2 (I 48 2 + 1) 0 j = B0 0 j := fun j q1 q2 => by
        rw [w_row _ _ _ _ (by decide), w_ne _ _ _ _ q1, w_ne _ _ _ _ q2, g30]
      have u14 : v_up (v_up (v_up I3 0 17 (nI e)) 0 14 (-3)) 48 2 (I 48 2 + 1) 0 14 = -3 := by rw [w_row _ _ _ _ (by decide), w_at]
      have u17 : v_up (v_up (v_up I3 0 17 (nI e)) 0 14 (-3)) 48 2 (I 48 2 + 1) 0 17 = nI e := by rw [w_row _ _ _ _ (by decide), w_ne _ _ _ _ (by decide), w_at]
      have u482 : v_up (v_up (v_up I3 0 17 (nI e)) 0 14 (-3)) 48 2 (I 48 2 + 1) 48 2 = I 48 2 + 1 := w_at _ _ _ _
      have u48 : ∀ j, j ≠ 2 → v_up (v_up (v_up I3 0 17 (nI e)) 0 14 (-3)) 48 2 (I 48 2 + 1) 48 j = I 48 j := fun j q => by
        rw [w_ne _ _ _ _ q, w_row _ _ _ _ (by decide), w_row _ _ _ _ (by decide), g3 48 j (by unfold scr; omega) (by decide)]
      generalize v_up (v_up (v_up I3 0 17 (nI e)) 0 14 (-3)) 48 2 (I 48 2 + 1) = X at u0 uz u14 u17 u482 u48
      have x51 : X 51 = I 51 := funext fun j => u0 51 j (by unfold scr; omega) (by omega) (by omega)
      obtain ⟨-, mo⟩ := m_ordX (X := X) (n := n') (L := L') (g := g) J3 hnt (by rw [u0 49 13 (by unfold scr; omega) (by omega) (by omega)]; exact t2) (by intro i hi; rw [u0 55 i (by unfold scr; omega) (by omega) (by omega)]; exact hW i hi) (fun i hi => by rw [u0 56 i (by unfold scr; omega) (by omega) (by omega)]; exact ⟨(hb i hi).1, (hb i hi).2.2⟩) hn (by rw [x51]; exact k49) (by rw [x51]; exact hkB) (by rw [x51]; exact hkM) (by rw [x51]; exact hmL) (mR_fr hmR (u0 49 32 (by unfold scr; omega) (by omega) (by omega)) (funext fun j => u0 63 j (by unfold scr; omega) (by omega) (by omega))) ht
      rw [x51] at mo
      obtain ⟨X', J', y1, y2, y3, y4, y5, y6, y7, y8, y9, y10, y11⟩ := mo e hrun
      refine ⟨(-3, S, X, J3, F), (-3, X', J'), rfl, ?_, rfl, hS, ?_⟩
      · dsimp only
        rw [s_X10_orders hS hF]; exact y1
      · dsimp only
        have z0 : ∀ j, X' 0 j = X 0 j := fun j => y11 0 j (by omega) (by omega) (by omega) (by omega) (by omega)
        have z48 : ∀ j, X' 48 j = X 48 j := fun j => y11 48 j (by omega) (by omega) (by omega) (by omega) (by omega)
        have zI : ∀ a, (1 ≤ a ∧ a < 14) ∨ 72 ≤ a → X' a = I a := fun a q => funext fun j => by rw [y11 a j (by omega) (by omega) (by omega) (by omega) (by omega), u0 a j (by unfold scr; omega) (by omega) (by omega)]
        refine R_run (own := own) (own' := own) (n := n') (g := g) h0 ⟨hN, hL, hP, hG⟩ hn k49 (ext_refl S F 13) hN (fun _ _ => rfl) (cR_fr hN hcR (zI 11 (by omega)) (zI 12 (by omega)) (fun a ha => zI a (by omega))) y10 hsd (fun a q1 _ => zI a (by have := (hN a q1).1; omega)) (fun a j q1 q2 q3 q4 q5 q6 q7 q8 q9 q10 q11 => ?_) (fun z q1 q2 q3 q4 => ?_) ?_ ?_ ?_ y3 ?_
        · by_cases w : a = 0
          · subst w
            rw [z0, uz j (by omega) (by omega), gB0 j (by omega) (by omega) (by omega)]
          · have w49 : ¬ (a = 49 ∧ (j = 0 ∨ (8 ≤ j ∧ j ≤ 10) ∨ j = 13 ∨ j = 14 ∨ (18 ≤ j ∧ j ≤ 25) ∨ j = 27 ∨ j = 28 ∨ j = 32 ∨ (38 ≤ j ∧ j ≤ 43))) := by unfold scr at q2; omega
            rw [y11 a j q6 q11 (by unfold scr at q2; omega) (by unfold scr at q2; omega) w49, u0 a j q2 w q4]
        · rw [y9 z q1, Ko_o hz q2 q3 q4]
        · exact rM_k (rM_fr (zI 2 (by omega)) (zI 3 (by omega)) (zI 4 (by omega)) hC.1) (fun i hi => y8 i hi)
        · exact kM_ext (fun i hi => y8 i hi) hkM
        · rw [z0, uz 8 (by omega) (by omega)]; exact B08
        · have i50 : ∀ j, j ≠ 3 → X' 50 j = I 50 j := fun j q => by rw [y7 j q, u0 50 j (by unfold scr; omega) (by omega) (by omega)]
          have i503 : X' 50 3 = I 50 3 + 1 := by rw [y6, u0 50 3 (by unfold scr; omega) (by omega) (by omega)]
          have i6 : X' 49 6 = I 49 6 := by rw [y11 49 6 (by omega) (by omega) (by omega) (by omega) (by omega), u0 49 6 (by unfold scr; omega) (by omega) (by omega)]
          have j15 : X 0 15 = I 0 15 := by rw [uz 15 (by omega) (by omega), gB0 15 (by omega) (by omega) (by omega)]
          have j16 : X 0 16 = -1 := by rw [uz 16 (by omega) (by omega)]; exact B016
          simp [rO, z0, z48, u14, u17, u482, u48, i50, i503, i6, j15, j16, y2, y4, y5, p2, p3, p4, p5, p6, p7]
    | inl u =>
      obtain ⟨I3, J3, d1, d2⟩ := dr1 u.1 (x2 u hrun)
      rw [d1, p_bs]
      dsimp only
      rw [p_le, if_pos (show v_up I3 0 17 (-1) 0 17 = -1 from w_at _ _ _ _)]
      have g3 : ∀ a j, ¬ scr a j → a ≠ 0 → I3 a j = I a j := fun a j q1 q2 => by rw [d2 a (by unfold scr at q1; omega) (by unfold scr at q1; omega) (by unfold scr at q1; omega) (by unfold scr at q1; omega) (by unfold scr at q1; omega) (by unfold scr at q1; omega) (by unfold scr at q1; omega)]; exact g2 a j q1 q2
      have g30 : I3 0 = B0 0 := by rw [d2 0 (by omega) (by omega) (by omega) (by omega) (by omega) (by omega) (by omega)]; exact g20
      -- run
      let Y : v_I := v_up (v_up (v_up I3 0 17 (-1)) 40 0 0) 40 1 (-1)
      have Yr : ∀ a, a ≠ 0 → a ≠ 40 → Y a = I3 a := fun a q1 q2 => by
        show v_up _ _ _ _ a = _
        rw [w_row _ _ _ _ q2, w_row _ _ _ _ q2, w_row _ _ _ _ q1]
      have Y0 : ∀ j, j ≠ 17 → Y 0 j = B0 0 j := fun j q => by
        show v_up _ _ _ _ 0 j = _
        rw [w_row _ _ _ _ (by decide), w_row _ _ _ _ (by decide), w_ne _ _ _ _ q, g30]
      have Y017 : Y 0 17 = -1 := by
        show v_up _ _ _ _ 0 17 = _
        rw [w_row _ _ _ _ (by decide), w_row _ _ _ _ (by decide), w_at]
      have Y400 : Y 40 0 = 0 := by
        show v_up _ _ _ _ 40 0 = _
        rw [w_ne _ _ _ _ (by decide), w_at]
      have Y401 : Y 40 1 = -1 := w_at _ _ _ _
      have eall : f_X2_runAll S (v_up I3 0 17 (-1)) J3 F 40 31 1 2 14 11 = (v_loop (f_X2_runAll_B13 40 31 1 2 14 11) 13 ((0 : Int32), S, Y, J3, F)).bind fun q_30 => if q_30.1 = 0 then some (q_30.2.1, q_30.2.2.1, q_30.2.2.2.1, q_30.2.2.2.2.1, q_30.2.2.2.2.2) else some ((-1 : Int32), q_30.2.2.1, q_30.2.2.2.1, q_30.2.2.2.2.1, q_30.2.2.2.2.2) := by
        unfold f_X2_runAll
        rw [p_obS hS (a := 40) (kd := 2) rfl, p_bs, p_le, p_le]
      rw [eall]
      generalize Y = Y at Yr Y0 Y017 Y400 Y401
      have gY : ∀ a j, ¬ scr a j → a ≠ 0 → Y a j = I a j := fun a j q1 q2 => by rw [Yr a q2 (by unfold scr at q1; omega)]; exact g3 a j q1 q2
      have rY : ∀ a, (1 ≤ a ∧ a < 14) ∨ 72 ≤ a → Y a = I a := fun a q => funext fun j => gY a j (by unfold scr; omega) (by omega)
      have tY : ∀ a, 31 ≤ a → a ≤ 37 → Y a = I1 a := fun a q1 q2 => by rw [Yr a (by omega) (by omega), d2 a (by omega) (by omega) (by omega) (by omega) (by omega) (by omega) (by omega)]; exact g2t a q1 q2
      have CY : Ci S Y F own n' L' ((Ko (I 51) b nt, 0, -1), g) := ⟨hS, hF, rC_f hCk (fun a q1 q2 => rY a (by omega)), hKk, hn, (kt 49 (by omega)).trans k49, hmLk, hN, rL_fr (fun a ha => rY a (by have := (hN a (by omega)).1; omega)) hLk, cR_fr hN hcR (rY 11 (by omega)) (rY 12 (by omega)) (fun a ha => rY a (by omega)), Y400, Y401⟩
      obtain ⟨y, S', I4, J4, F', own', l1, C4, ex4, ho4, f4⟩ := c_allR (L := L') hD12 hwf D 0 13 S Y J3 F own ((Ko (I 51) b nt, 0, -1), g) u rfl (Nat.zero_le _) (by omega) CY (by rw [tY 31 (by omega) (by omega)]; exact T.1) (Tx_tR T hs hD12 (fun a q1 q2 => tY a (by omega) (by omega))) hrun
      rw [show nI 0 = (0 : Int32) from rfl] at l1
      rw [l1, p_bs, if_neg (show ¬ (1 : Nat) = 0 by decide), p_bs]
      dsimp only
      have hS' := C4.1
      have hF' := C4.2.1
      rw [p_obS hS' (a := 0) (kd := 9) rfl, p_bs, p_FS hF' (a := 0) (i := 10) (b := 40) (by decide), p_bs, p_obS hS' (a := 40) (kd := 2) rfl, p_bs, s_X9_accept hS' hF', c_accept, p_bs]
      have done4 : I4 40 0 = u.1.2.1 := C4.2.2.2.2.2.2.2.2.2.2.1
      have X0 : ∀ a, a ≠ 0 → v_up I4 0 14 0 a = I4 a := fun a q => w_row _ _ _ _ q
      have X0j : ∀ j, j ≠ 14 → v_up I4 0 14 0 0 j = I4 0 j := fun j q => w_ne _ _ _ _ q
      have X014 : v_up I4 0 14 0 0 14 = 0 := w_at _ _ _ _
      generalize v_up I4 0 14 0 = X at X0 X0j X014
      have r40 : I4 0 = Y 0 := f4.1 0 (by omega) (by omega) (by omega) (by omega) (by omega) (by omega) (by omega) (by omega) (by omega) (by omega)
      have gX : ∀ a j, ¬ scr a j → a < 72 → a ≠ 0 → ¬ (2 ≤ a ∧ a ≤ 4) → a ≠ 11 → a ≠ 12 → X a j = I a j := fun a j q1 q2 q3 q4 q5 q6 => by
        rw [X0 a q3, f4.1 a q2 (by omega) (by omega) (by omega) q5 q6 (by unfold scr at q1; omega) (by unfold scr at q1; omega) (by unfold scr at q1; omega) (by unfold scr at q1; omega)]
        exact gY a j q1 q3
      have x51 : X 51 = I 51 := funext fun j => gX 51 j (by unfold scr; omega) (by omega) (by omega) (by omega) (by omega) (by omega)
      obtain ⟨mo, -⟩ := m_ordX (X := X) (n := n') (L := L') (g := g) J4 hnt (by rw [gX 49 13 (by unfold scr; omega) (by omega) (by omega) (by omega) (by omega) (by omega)]; exact t2) (by intro i hi; rw [gX 55 i (by unfold scr; omega) (by omega) (by omega) (by omega) (by omega) (by omega)]; exact hW i hi) (fun i hi => by rw [gX 56 i (by unfold scr; omega) (by omega) (by omega) (by omega) (by omega) (by omega)]; exact ⟨(hb i hi).1, (hb i hi).2.2⟩) hn (by rw [x51]; exact k49) (by rw [x51]; exact hkB) (by rw [x51]; exact hkM) (by rw [x51]; exact hmL) (mR_fr hmR (gX 49 32 (by unfold scr; omega) (by omega) (by omega) (by omega) (by omega) (by omega)) (funext fun j => gX 63 j (by unfold scr; omega) (by omega) (by omega) (by omega) (by omega) (by omega))) ht
      rw [x51] at mo
      obtain ⟨X', J', y1, y2, y3, y4, y5, y6, y7, y8, y9, y11⟩ := mo u hrun
      obtain ⟨sk, ss⟩ := sd_R (L := L') hn D 0 ((Ko (I 51) b nt, 0, -1), g) u hwf hrun hkMk hsd
      refine ⟨(I4 40 0, S', X, J4, F'), (u.1.2.1, X', J'), rfl, ?_, done4, hS', ?_⟩
      · dsimp only
        rw [s_X10_orders hS' hF']; exact y1
      · dsimp only
        have z0 : ∀ j, X' 0 j = X 0 j := fun j => y11 0 j (by omega) (by omega) (by omega) (by omega) (by omega)
        have z48 : ∀ j, X' 48 j = I 48 j := fun j => by rw [y11 48 j (by omega) (by omega) (by omega) (by omega) (by omega), gX 48 j (by unfold scr; omega) (by omega) (by omega) (by omega) (by omega) (by omega)]
        have zC : ∀ a, (1 ≤ a ∧ a < 14) ∨ 72 ≤ a → X' a = I4 a := fun a q => funext fun j => by rw [y11 a j (by omega) (by omega) (by omega) (by omega) (by omega), X0 a (by omega)]
        have hN4 := C4.2.2.2.2.2.2.2.1
        refine R_run (own := own) (own' := own') (n := n') (g := u.2) h0 ⟨hN, hL, hP, hG⟩ hn k49 ex4 hN4 ho4 (cR_fr hN4 C4.2.2.2.2.2.2.2.2.2.1 (zC 11 (by omega)) (zC 12 (by omega)) (fun a ha => zC a (by omega))) y9 ss (fun a q1 q2 => ?_) (fun a j q1 q2 q3 q4 q5 q6 q7 q8 q9 q10 q11 => ?_) (fun z q1 q2 q3 q4 => ?_) ?_ ?_ ?_ y3 ?_
        · have := (hN a q1).1
          rw [zC a (by omega), f4.2 a q1 q2, rY a (by omega)]
        · by_cases w : a = 0
          · subst w
            rw [z0, X0j j (by omega), r40, Y0 j (by omega), gB0 j (by omega) (by omega) (by omega)]
          · have w49 : ¬ (a = 49 ∧ (j = 0 ∨ (8 ≤ j ∧ j ≤ 10) ∨ j = 13 ∨ j = 14 ∨ (18 ≤ j ∧ j ≤ 25) ∨ j = 27 ∨ j = 28 ∨ j = 32 ∨ (38 ≤ j ∧ j ≤ 43))) := by unfold scr at q2; omega
            rw [y11 a j q6 q11 (by unfold scr at q2; omega) (by unfold scr at q2; omega) w49, gX a j q2 q1 w q7 q8 q9]
        · rw [y8 z q1, Ko_o hz q2 q3 q4]
        · rw [y7]
          exact rM_fr (zC 2 (by omega)) (zC 3 (by omega)) (zC 4 (by omega)) C4.2.2.1.1
        · rw [y7]; exact sk
        · rw [z0, X0j 8 (by omega), r40, Y0 8 (by omega)]; exact B08
        · have i6 : X' 49 6 = I 49 6 := by rw [y11 49 6 (by omega) (by omega) (by omega) (by omega) (by omega), gX 49 6 (by unfold scr; omega) (by omega) (by omega) (by omega) (by omega) (by omega)]
          have i50 : ∀ j, X' 50 j = I 50 j := fun j => by rw [y6, gX 50 j (by unfold scr; omega) (by omega) (by omega) (by omega) (by omega) (by omega)]
          have j15 : X 0 15 = I 0 15 := by rw [X0j 15 (by omega), r40, Y0 15 (by omega), gB0 15 (by omega) (by omega) (by omega)]
          have j16 : X 0 16 = -1 := by rw [X0j 16 (by omega), r40, Y0 16 (by omega)]; exact B016
          have j17 : X 0 17 = -1 := by rw [X0j 17 (by omega), r40]; exact Y017
          simp [rO, z0, z48, X014, i50, i6, j15, j16, j17, y2, y4, y5, p2, p3, p4, p5, p6, p7]
end sp98w
