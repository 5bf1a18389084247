noncomputable section sp81
theorem cX_mk {S : v_S} {I : v_I} {F : v_F} {own : Nat → Nat} {k : Nat → Int32} (hS : p_SS S) (hF : p_FF F) (hC : rC I 1 2 3 4 5 6 7 8 k) (hK : kK k) (hN : rN S own) (hL : rL S I F own 9 k) : ∃ n lw L, cX S I F n lw L k := by
  obtain ⟨⟨m1, m2, m3, m4⟩, c1, c2, c3, c4, c5, c6, c7, c8, c9, c10, c11⟩ := id hC
  have hB := kK_B hK
  obtain ⟨n, tl, k1, k2, k3, k4, k5, k6, k7, k8, k9⟩ := hK
  have base : ∀ lw L, rLw S I F lw k L → h_X0_lawInForce S I F = some lw → ∃ n lw L, cX S I F n lw L k := fun lw L q1 q2 => ⟨n, lw, L, hS, hF, k1, k2, hB, ⟨c1, c2, c3, c5, c6⟩, ⟨m1, m2, m3, m4⟩, q1, q2⟩
  rcases k9 with e | ⟨f, hf, e⟩
  · refine base none none (.inl ⟨rfl, rfl, e⟩) ?_
    unfold h_X0_lawInForce h_X0_lawAt
    rw [c11, e, if_pos (by decide)]; rfl
  · obtain ⟨x, hx, D, ak, af, as, at', ai, ac, cn, m, t1, t2, t3, o1, o2, o3, o4, o5, o6, o7⟩ := hL f tl k7 k8 hf
    refine base (some x) (some D) (.inr ⟨x, D, f, ak, af, as, at', ai, ac, cn, m, rfl, rfl, by omega, e, t1, t2, t3, (hN _ (by omega)).1, (hN _ (by omega)).1, (hN _ (by omega)).1, (hN _ (by omega)).1, (hN _ (by omega)).1, (hN _ (by omega)).1, (hN _ (by omega)).1⟩) ?_
    unfold h_X0_lawInForce h_X0_lawAt
    rw [c11, e, if_neg (nI_pos (by omega)), if_neg (by rw [c10, k8]; exact nI_ge hf (by omega)), if_neg (show ¬ (6 : Int32) ≤ nI f from i_nle (a := 6) rfl rfl (by omega) (by omega)), p_in_nI (by omega) (by omega), p_bs, p_le, hx]; rfl
/-- what the model's keeping comes to, from what was -/
def kpd (I I2 : v_I) (nu : Nat) (kind : Int32) : Prop := I2 49 32 = nI (min nu 15 + 1) ∧ (∀ j i, j < min nu 15 → i < 19 → I2 63 (19 * j + i) = I 63 (19 * (j + (if nu = 16 then 1 else 0)) + i)) ∧ (∀ i, i < 18 → I2 63 (19 * min nu 15 + i) = I 51 i) ∧ I2 63 (19 * min nu 15 + 18) = kind
/-- it is kept, and what then may be done -/
theorem act_core {S : v_S} {I : v_I} {J : v_J} {F : v_F} (h : R S I J F) (kind : Int32) (hkind : kind = 0 ∨ kind = 1 ∨ kind = 2 ∨ kind = 3) : ∃ (S' : v_S) (I1 : v_I) (F' : v_F) (n nu : Nat) (lw : Option Nat) (L : Option (List Cls)),
    f_X4_keep S I F 11 kind 2 = some (S', I1, F') ∧ cX S' I1 F' n lw L (I 51) ∧ nu ≤ 16 ∧ I 49 32 = nI nu ∧ (∀ a, a < 72 → a ≠ 11 → a ≠ 12 → I1 a = I a)
    ∧ ∀ (I2 : v_I) (J' : v_J), (∀ a, 72 ≤ a → I2 a = I1 a) → I2 11 = I1 11 → I2 12 = I1 12 → kpd I I2 nu kind → (∀ a j, a < 72 → ¬ scr a j → ¬ (a = 0 ∧ j = 14) → ¬ (a = 49 ∧ j = 0) → ¬ (2 ≤ a ∧ a ≤ 4) → a ≠ 11 → a ≠ 12 → a ≠ 63 → ¬ (a = 51 ∧ j < 18) → ¬ (a = 49 ∧ j = 32) → I2 a j = I a j) → rM I2 2 3 4 (I2 51) → kM n (I2 51) → I2 0 14 = I2 49 0 → R S' I2 J' F' := by
  have h0 := h
  obtain ⟨hS, hF, hC, hK, hT, hO, hD, hW, own, hN, hL, hP, hG⟩ := h
  obtain ⟨nu, nx, p1, p2, p3, p4, p5, p6, p7⟩ := id hP
  obtain ⟨S', I1, F', own', a1, a2, a3, a4, a5, a6, a7, a8, a9, a10⟩ := c_keep hS hF hN p2 p1 p3 p5 (p6 nx p2) hC.1 kind
  have l71 : 71 < S.length := S_lt (hS 71 _ rfl)
  have small : ∀ a, a < 72 → a ≠ 11 → a ≠ 12 → I1 a = I a := fun a q1 q2 q3 => a10 a q2 q3 (by omega) (fun e => by have := (hN a (by omega)).1; omega)
  have hC1 : rC I1 1 2 3 4 5 6 7 8 (I 51) := rC_f hC (fun a q1 q2 => small a (by omega) (by omega) (by omega))
  have hL1 : rL S' I1 F' own' 9 (I 51) := ext_rL a2 (by omega) hN a5 (fun a ha => by have := hN a (by omega); exact a10 a (by omega) (by omega) this.2 (by omega)) (by omega) (by omega) rfl (fun _ _ _ q => q) hL
  obtain ⟨n, lw, L, hX⟩ := cX_mk (ext_SS a2 hS) (ext_FF a2 hS (.inl rfl) hF) hC1 hK a4 hL1
  refine ⟨S', I1, F', n, nu, lw, L, a1, hX, p1, p4, small, fun I2 J' gb g11 g12 hk gf hM hkM h14 => ?_⟩
  exact R_act h0 ⟨hN, hL, hP, hG⟩ hX.2.2.1 hX.2.2.2.1 p1 p2 p3 p5 a2 a3 a4 a5 a6 a7 a8 a9 a10 hkind gb g11 g12 hk.1 hk.2.1 hk.2.2.1 hk.2.2.2 gf hM hkM h14
theorem act_do {S S' : v_S} {I I1 : v_I} {J : v_J} {F F' : v_F} {n : Nat} {lw : Option Nat} {L : Option (List Cls)} {k : Nat → Int32} (h : R S I J F) {kind p q : Int32} (hw : h_X0_whyNot S I F 2 3 4 kind p.toInt64 q.toInt64 = some 0) (hk : f_X4_keep S I F 11 kind 2 = some (S', I1, F')) (hX : cX S' I1 F' n lw L k) :
    f_X9_act S I J F 0 kind p q = (h_X1_perform S' I1 J F' 2 3 4 kind p q).bind fun r => some (r.1, S', v_up r.2.1 0 14 0, r.2.2, F') := by
  have hS := h.1
  have hF := h.2.1
  have hS' := hX.1
  have hF' := hX.2.1
  unfold f_X9_act
  simp only [p_obS hS (a := 0) (kd := 9) rfl, p_bs, p_FS hF (a := 0) (i := 0) (b := 1) (by decide), p_obS hS (a := 1) (kd := 0) rfl, p_FS hF (a := 1) (i := 1) (b := 2) (by decide), s_X0_whyNot hS hF (mo_now hS hF), hw, if_true, p_FS hF (a := 0) (i := 2) (b := 11) (by decide), p_obS hS (a := 11) (kd := 4) rfl, hk, p_obS hS' (a := 0) (kd := 9) rfl, p_FS hF' (a := 0) (i := 3) (b := 14) (by decide), p_FS hF' (a := 0) (i := 0) (b := 1) (by decide), p_obS hS' (a := 1) (kd := 0) rfl, p_FS hF' (a := 1) (i := 1) (b := 2) (by decide), p_obS hS' (a := 14) (kd := 1) rfl, s_X1_perform hS' hF' (mo_now hS' hF'), s_X9_accept hS' hF', c_accept]
theorem act_no {S : v_S} {I : v_I} {J : v_J} {F : v_F} (h : R S I J F) {kind p q w : Int32} (hw : h_X0_whyNot S I F 2 3 4 kind p.toInt64 q.toInt64 = some w) (h0 : w ≠ 0) :
    f_X9_act S I J F 0 kind p q = (h_X9_refuse S I F w).bind fun r => some (r.1, S, r.2, J, F) := by
  have hS := h.1
  have hF := h.2.1
  unfold f_X9_act
  simp only [p_obS hS (a := 0) (kd := 9) rfl, p_bs, p_FS hF (a := 0) (i := 0) (b := 1) (by decide), p_obS hS (a := 1) (kd := 0) rfl, p_FS hF (a := 1) (i := 1) (b := 2) (by decide), s_X0_whyNot hS hF (mo_now hS hF), hw, if_neg h0, s_X9_refuse hS hF]
theorem bind5 (o : Option (Int32 × v_S × v_I × v_J × v_F)) : (o.bind fun r => some (r.1, r.2.1, r.2.2.1, r.2.2.2.1, r.2.2.2.2)) = o := by cases o <;> rfl
/-- the class performs -/
theorem c_perf {S : v_S} {I : v_I} {F : v_F} (J : v_J) {n c m w s : Nat} {lw : Option Nat} {L : Option (List Cls)} {k : Nat → Int32} (hX : cX S I F n lw L k) (hB : mB m w s) {kk : Nat → Int32} (hM : rM I m w s kk) (hkB : kB kk) (hge : ∀ z, 18 ≤ z → kk z = k z) (hc : c < 8) (want : Int32) :
    (∃ x I1, h_X1_perform S I J F m w s 0 (nI c) want = some (x, I1, J) ∧ x = (if bt (kk 0) c then 1 else 0) ∧ rM I1 m w s (kup (kup kk 0 (kk 0 &&& (((1 : Int32) <<< (nI c &&& 31)) ^^^ -1))) (9 + c) 0) ∧ ∀ a, a ≠ m → a ≠ w → a ≠ s → I1 a = I a)
    ∧ (∃ x I1, h_X1_perform S I J F m w s 1 (nI c) want = some (x, I1, J) ∧ x = pcI (kk 0 ||| ((1 : Int32) <<< (nI c &&& 31))) ∧ rM I1 m w s (kup kk 0 (kk 0 ||| ((1 : Int32) <<< (nI c &&& 31)))) ∧ ∀ a, a ≠ m → a ≠ w → a ≠ s → I1 a = I a)
    ∧ (∃ x I1, h_X1_perform S I J F m w s 2 (nI c) want = some (x, I1, J) ∧ x = kk (1 + c) ∧ rM I1 m w s (kup kk (1 + c) want) ∧ ∀ a, a ≠ m → a ≠ w → a ≠ s → I1 a = I a)
    ∧ ∀ p, ∃ x I1 J1, h_X1_perform S I J F m w s 3 p want = some (x, I1, J1) ∧ x = pcI (mn L n 0 kk 0) ∧ rM I1 m w s (mn L n 0 kk) ∧ ∀ a, a ≠ 16 → a ≠ 21 → a ≠ m → a ≠ w → a ≠ s → I1 a = I a := by
  obtain ⟨o, ho, e0⟩ := id hkB.1
  obtain ⟨⟨x1, I1, a1, a2, a3⟩, ⟨I2, b1, b2, b3⟩, hw⟩ := c_act (S := S) (F := F) hB hM hc
  obtain ⟨x3, I3, c1, c2, c3⟩ := hw want
  have hlt : o ||| 2 ^ c < 256 := Nat.or_lt_two_pow (n := 8) ho (Nat.pow_lt_pow_right (by omega) hc)
  refine ⟨⟨x1, I1, ?_, ?_, a2, a3⟩, ⟨pcI (kk 0 ||| ((1 : Int32) <<< (nI c &&& 31))), I2, ?_, rfl, b2, b3⟩, ⟨x3, I3, ?_, ?_, c2, c3⟩, fun p => ?_⟩
  · unfold h_X1_perform
    rw [if_pos rfl, a1, p_bs]
  · unfold h_X3_shutOne h_X3_isOpen at a1
    have lt8 : nI c < (8 : Int32) := i_lt (b := 8) rfl rfl hc (by omega)
    have j13 : ∀ z, ∃ I', h_X3_shutOne_J13 m w s S F I (nI c) z = some (z, I') := by
      intro z
      unfold h_X3_shutOne_J13
      rw [p_le, if_neg (nI_pos (show c < 2 ^ 31 by omega)), if_neg (show ¬ (8 : Int32) ≤ nI c from i_nle (a := 8) rfl rfl (by omega) (by omega)), p_in_nI hc (show 8 < 2 ^ 31 by omega), p_bs, p_le]
      exact ⟨_, rfl⟩
    rw [hM.1, e0, b_bit c o hc ho] at a1
    simp only [bit_tb] at a1
    rw [e0, bt_nI ho]
    by_cases q : o.testBit c = true
    · rw [if_pos q, p_bs, if_neg (by decide)] at a1
      obtain ⟨I', hI'⟩ := j13 1
      rw [hI'] at a1
      cases a1
      rw [q, if_pos rfl]
    · rw [if_neg q, p_bs, if_pos rfl] at a1
      obtain ⟨I', hI'⟩ := j13 0
      rw [hI'] at a1
      cases a1
      rw [if_neg q]
  · unfold h_X1_perform h_X3_openMany
    rw [if_neg (by decide), if_pos rfl, b1, p_bs, b2.1, kup_at, e0, b_set c o hc ho, b_bc hlt, p_bs, p_bs, pcI_nI hlt]
  · unfold h_X1_perform
    rw [if_neg (by decide), if_neg (by decide), if_pos rfl, c1, p_bs]
  · unfold h_X3_changeWant at c1
    have lt8 : nI c < (8 : Int32) := i_lt (b := 8) rfl rfl hc (by omega)
    rw [if_neg (nI_pos (show c < 2 ^ 31 by omega)), if_pos lt8, p_in_nI hc (by omega), p_bs, p_le, p_bs, p_le] at c1
    cases c1
    exact hM.2.2.1 c hc
  · obtain ⟨h1, h2, hn, h4, h5, h6, h7, h8, h9⟩ := id hX
    have hS' : rS I kk := by
      obtain ⟨s1, s2, s3, s4, s5⟩ := h6
      exact ⟨by rw [hge _ (by omega)]; exact s1, fun z hz => by rw [hge _ (by omega)]; exact s2 z hz, fun z hz => by rw [hge _ (by omega)]; exact s3 z hz, by rw [hge _ (by omega)]; exact s4, by rw [hge _ (by omega)]; exact s5⟩
    obtain ⟨⟨mv, I4, J4⟩, d1, d2, d3, -, -⟩ := c_min (hd := 0) J hB hS' hM hkB (rLw_k (fun z hz => hge z (by omega)) h8) hn (by rw [hge _ (by omega)]; exact h4) (by omega)
    dsimp only at d2 d3
    obtain ⟨u, hu, eu⟩ := mn_lt (L := L) (n := n) (hd := 0) (k := kk)
    have hu2 : u < 256 := Nat.lt_of_lt_of_le hu (two_le hn)
    refine ⟨pcI (mn L n 0 kk 0), I4, J4, ?_, rfl, d2, d3⟩
    unfold h_X1_perform h_X3_openMany
    rw [if_neg (by decide), if_neg (by decide), if_neg (by decide), h9, p_bs, show (0 : Int32) = nI 0 from rfl, d1, p_bs]
    dsimp only
    rw [d2.1, eu, b_bc hu2, p_bs, p_bs, pcI_nI hu2]
end sp81
