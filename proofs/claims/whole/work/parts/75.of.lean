noncomputable section sp75
def cnt (f : Nat → Bool) : Nat → Nat
  | 0 => 0
  | h + 1 => cnt f h + (if f h then 1 else 0)
theorem pc_nx (f : Nat → Bool) : ∀ n, n ≤ 8 → pc (nx f n) = cnt f n
  | 0, _ => by simp [pc, nx, cnt]
  | n + 1, h => by
    have ih := pc_nx f n (by omega)
    have hl := nx_lt f n
    have hl2 : nx f n < 256 := Nat.lt_of_lt_of_le hl (two_le (by omega))
    unfold nx cnt
    cases f n with
    | false => simp only [Bool.false_eq_true, if_false, Nat.or_zero, Nat.add_zero]; exact ih
    | true =>
      have d : ∀ n : Nat, n < 8 → ∀ a : Nat, a < 256 → a < 2 ^ n → pc (a ||| 2 ^ n) = pc a + 1 := by decide +kernel
      simp only [if_true]
      rw [d n (by omega) _ hl2 hl, ih]
theorem cnt_le (f : Nat → Bool) : ∀ n, cnt f n ≤ n
  | 0 => Nat.le_refl _
  | n + 1 => by
    have := cnt_le f n
    unfold cnt
    split <;> omega
theorem m_openNext {I : v_I} {L : Option (List Cls)} {n : Nat} (hL : mLw (I 51) L) (hk : kB (I 51)) (hn : n ≤ 8) (ek : I 51 49 = nI n) : wp (h_X10_openNext I) (fun r => r.1 = nI (cnt (opn L (I 51)) n) ∧ fm I r.2) := by
  generalize hkk : I 51 = k at *
  unfold h_X10_openNext
  refine wp_seq (P := fun q : Int32 × Int32 × v_I => q.1 = nI (cnt (opn L k) n) ∧ fm I q.2.2) ?_ fun q hq => wp_some.mpr hq
  refine wp_lp (fun i (t : Int32 × Int32 × v_I) => t.1 = nI (cnt (opn L k) i) ∧ t.2.1 = nI i ∧ fm I t.2.2) n (by omega) ⟨rfl, rfl, fm_refl I⟩ ?_
  rintro i ⟨t1, t2, I'⟩ hi ⟨u1, u2, u3⟩
  dsimp only at u1 u2 u3
  subst u2
  unfold h_X10_openNext_B4 h_X10_many h_X10_openNext_J4_26
  dsimp only
  rw [p_bs]
  have e51 : I' 51 = k := (fm_51 u3).trans hkk
  have e49 : I' 51 49 = nI n := by rw [e51]; exact ek
  by_cases hin : n ≤ i
  · have : i = n := by omega
    subst this
    rw [if_pos (by rw [e49]; exact nI_le (Nat.le_refl _) (by omega))]
    exact wp_some.mpr ⟨u1, u3⟩
  rw [if_neg (by rw [e49]; exact nI_ge (by omega) (by omega))]
  refine wp_seq (m_opens (L := L) (by rw [e51]; exact hL) (by rw [e51]; exact hk) (by omega)) fun r hr => ?_
  obtain ⟨r1, r2⟩ := hr
  rw [e51] at r1
  have hstep : cnt (opn L k) (i + 1) = cnt (opn L k) i + (if opn L k i then 1 else 0) := rfl
  cases hop : opn L k i with
  | false =>
    rw [hop] at r1 hstep
    rw [if_pos (by rw [r1]; rfl), p_le, p_le]
    exact wp_some.mpr ⟨by omega, by dsimp only; rw [u1, hstep]; exact Int32.add_zero _, (nI_succ i).symm, fm_trans u3 r2⟩
  | true =>
    rw [hop] at r1 hstep
    rw [if_neg (by rw [r1]; decide), p_le, p_le]
    exact wp_some.mpr ⟨by omega, by dsimp only; rw [u1, hstep]; exact (nI_succ _).symm, (nI_succ i).symm, fm_trans u3 r2⟩
theorem mn_pc {L : Option (List Cls)} {n : Nat} {k : Nat → Int32} (hn : n ≤ 8) : pcI (mn L n 0 k 0) = nI (cnt (opn L k) n) := by
  have hl : nx (opn L k) n < 256 := Nat.lt_of_lt_of_le (nx_lt _ n) (two_le hn)
  have : nx (fun h => opn L k h && !(0 : Nat).testBit h) n = nx (opn L k) n := nx_eq fun i hi => by simp
  rw [mn_0, this, pcI_nI hl, pc_nx _ n hn]
theorem ok_34 {S : v_S} {I : v_I} {J : v_J} {F : v_F} (h : R S I J F) : op_34 R S I J F := by
  intro p
  simp only [s_X9_compare h.1 h.2.1, s_X10_compare h.1 h.2.1]
  obtain ⟨n, lw0, L0, hX⟩ := R_cX h
  obtain ⟨h1, h2, hn, h4, h5, h6, h7, h8, h9⟩ := id hX
  obtain ⟨o, ho, e0⟩ := id h5.1
  refine qop (md := fun I => h_X10_compare I p) h ?_
  -- with a LAW, or none
  have main : ∀ (lw : Option Nat) (L : Option (List Cls)), rLw S I F lw (kup (I 51) 52 p) L → h_X10_isLaw I p = some 1 → wp (h_X9_compare_J20 S F I J lw) (fun r => fr I r.2.1 ∧ wp (h_X10_compare r.2.1 p) (fun q => r.1 = q.1 ∧ fr r.2.1 q.2)) := by
    intro lw L hL hlaw
    unfold h_X9_compare_J20 h_X1_openByLaw
    rw [show I 2 0 = nI o by rw [h7.1, e0]]
    obtain ⟨I1, b1, b2, b3⟩ := c_begin hX (nI o)
    rw [b1, p_bs]
    have r51 : ∀ z, z ≠ 52 → kup (I 51) 52 p z = I 51 z := fun z hz => kup_ne _ _ hz
    have hB : kB (kup (I 51) 52 p) := ⟨⟨o, ho, by rw [r51 _ (by omega)]; exact e0⟩, fun z hz => by rw [r51 _ (by omega)]; exact h5.2 z hz⟩
    have hS : rS I1 (kup (I 51) 52 p) := by
      obtain ⟨s1, s2, s3, s4, s5⟩ := (fc_cX b3 hX).2.2.2.2.2.1
      exact ⟨by rw [r51 _ (by omega)]; exact s1, fun z hz => by rw [r51 _ (by omega)]; exact s2 z hz, fun z hz => by rw [r51 _ (by omega)]; exact s3 z hz, by rw [r51 _ (by omega)]; exact s4, by rw [r51 _ (by omega)]; exact s5⟩
    have hM : rM I1 18 19 20 (kup (I 51) 52 p) := by
      rw [kup_same e0] at b2
      obtain ⟨q1, q2, q3, q4⟩ := b2
      exact ⟨by rw [r51 _ (by omega)]; exact q1, by rw [r51 _ (by omega)]; exact q2, fun z hz => by rw [r51 _ (by omega)]; exact q3 z hz, fun z hz => by rw [r51 _ (by omega)]; exact q4 z hz⟩
    have e49 : kup (I 51) 52 p 49 = nI n := by rw [r51 _ (by omega)]; exact h4
    rw [wp_bind, wp_bind]
    refine wp_mono (c_min (hd := 0) J mB_paper hS hM hB (rLw_fr (fun a ha => b3 a (by omega) (by omega) (by omega) (by omega) (by omega) (by omega)) hL) hn e49 (by omega)) fun r hr => ?_
    obtain ⟨r1, r2, -, -⟩ := hr
    have rfc : fc I r.2.1 := fun a a1 a2 a3 a4 a5 a6 => by rw [r2 a a1 a5 a2 a3 a4, b3 a a1 a2 a3 a4 a5 a6]
    unfold h_X3_openMany
    obtain ⟨u, hu, eu⟩ := mn_lt (L := L) (n := n) (hd := 0) (k := kup (I 51) 52 p)
    have hu2 : u < 256 := Nat.lt_of_lt_of_le hu (two_le hn)
    rw [r1.1, eu, b_bc hu2, p_bs, p_bs, wp_some]
    refine wp_some.mpr ⟨fc_fr rfc, ?_⟩
    dsimp only
    have hcount : nI (pc u) = nI (cnt (opn L (kup (I 51) 52 p)) n) := by
      rw [← mn_pc (L := L) (k := kup (I 51) 52 p) hn, eu, pcI_nI hu2]
    unfold h_X10_compare
    have hl2 : h_X10_isLaw r.2.1 p = some 1 := by
      rw [← hlaw]; unfold h_X10_isLaw; rw [fc_51 rfc]
    rw [hl2, p_bs, if_neg (by decide), p_le, p_le]
    have k52 : v_up r.2.1 51 52 p 51 = kup (I 51) 52 p := by rw [v_up_k, fc_51 rfc]
    refine wp_seq (m_openNext (L := L) (n := n) (I := v_up r.2.1 51 52 p) (by rw [k52]; exact rLw_m hL) (by rw [k52]; exact hB) hn (by rw [k52]; exact e49)) fun q hq => ?_
    obtain ⟨q1, q2⟩ := hq
    rw [k52] at q1
    rw [p_le]
    refine wp_some.mpr ⟨by dsimp only; rw [hcount, q1], fun a j hs => ?_⟩
    dsimp only
    by_cases ha : a = 51
    · subst ha
      by_cases hj : j = 52
      · subst hj; rw [w_at]
      · rw [w_ne _ _ _ _ hj, q2 51 j (by omega) (by omega), w_ne _ _ _ _ hj]
    · rw [v_up_row _ 51 _ _ ha, q2 a j (by rintro rfl; exact hs (by unfold scr; omega)) (by rintro ⟨rfl, q⟩; exact hs (by unfold scr; omega)), v_up_row _ 51 _ _ ha]
  unfold h_X9_compare
  by_cases hp : p = -1
  · subst hp
    have : h_X0_lawAt S I F (-1) = some none := by unfold h_X0_lawAt; rw [if_pos (by decide)]
    rw [this, p_bs, if_pos rfl]
    exact main none none (.inl ⟨rfl, rfl, kup_at _ _ _⟩) (isLaw_none h)
  · rcases law_cases h p hp with ⟨tl, k, x, ht, e51, hk, rfl, l1, l2, l3⟩ | ⟨l1, l2⟩
    · rw [l1, p_bs, if_neg hp]
      obtain ⟨own, hN, hLw, _⟩ := h.2.2.2.2.2.2.2.2
      obtain ⟨x', hx', D, ak, af, as, at', ai, ac, cn, m, t1, t2, t3, o1, o2, o3, o4, o5, o6, o7⟩ := hLw k tl ht e51 hk
      rw [l2] at hx'
      cases hx'
      refine main (some x) (some D) (.inr ⟨x, D, k, ak, af, as, at', ai, ac, cn, m, rfl, rfl, by omega, kup_at _ _ _, tk_fr (fun z hz => kup_ne _ _ (by omega)) t1, t2, t3, (hN _ (by omega)).1, (hN _ (by omega)).1, (hN _ (by omega)).1, (hN _ (by omega)).1, (hN _ (by omega)).1, (hN _ (by omega)).1, (hN _ (by omega)).1⟩) l3
    · rw [l1, p_bs, if_neg hp]
      refine wp_some.mpr ⟨fr_refl I, ?_⟩
      unfold h_X10_compare
      rw [l2, p_bs, if_pos rfl]
      exact wp_some.mpr ⟨rfl, fr_refl I⟩
theorem fm_fr {I I' : v_I} (h : fm I I') : fr I I' := fun a j q => h a j (by rintro rfl; exact q (by unfold scr; omega)) (by rintro ⟨rfl, q2⟩; exact q (by unfold scr; omega))
theorem ok_2 {S : v_S} {I : v_I} {J : v_J} {F : v_F} (h : R S I J F) : op_2 R S I J F := by
  intro p w
  simp only [s_X9_of h.1 h.2.1, s_X10_of h.1 h.2.1]
  obtain ⟨n, lw, L, hX⟩ := R_cX h
  obtain ⟨h1, h2, hn, h4, h5, h6, h7, h8, h9⟩ := id hX
  obtain ⟨o, ho, e0⟩ := id h5.1
  have hm := cX_mX hX
  refine qop (md := fun I => h_X10_of I p w) h ?_
  unfold h_X9_of
  rcases one_cases p (n := n) hn with ⟨k, hk, rfl, u1, u2⟩ | ⟨u1, u2, _⟩
  · rw [u1 S I (R_many h hX), p_bs, if_neg (by decide)]
    have i8 : p_in 8 (nI k) = some k := p_in_nI (by omega) (by omega)
    have o1 : h_X3_isOpen S I 2 3 4 (nI k) = some (if o.testBit k = true then 1 else 0) := by
      unfold h_X3_isOpen
      rw [show I 2 0 = nI o by rw [h7.1, e0], b_bit k o (by omega) ho]
      simp only [bit_tb]
      split <;> rfl
    have o2 : h_X10_isOpen I (nI k) = some (if o.testBit k = true then 1 else 0) := by
      unfold h_X10_isOpen h_X10_isIn
      rw [e0, b_bit k o (by omega) ho]
      simp only [bit_tb]
      by_cases q : o.testBit k = true
      · rw [if_pos q, if_pos q]; rfl
      · rw [if_neg q, if_neg q]; rfl
    -- bare
    have bare : ∀ (j : Nat) (x : Int32), j < 5 → w = nI j → h_X10_toldBare I (nI k) w = some x → wp (some (x, I, J)) (fun r => fr I r.2.1 ∧ wp (h_X10_of r.2.1 (nI k) w) (fun q => r.1 = q.1 ∧ fr r.2.1 q.2)) := by
      intro j x hj hw hx
      refine wp_some.mpr ⟨fr_refl I, ?_⟩
      unfold h_X10_of
      rw [u2 I h4, p_bs, if_neg (by decide), b_lies, if_pos ⟨by rw [hw]; exact nI_le (a := 0) (by omega) (by omega), by rw [hw]; exact i_le (b := 8) rfl rfl (by omega) (by omega)⟩, p_bs, if_neg (by decide), if_neg (by rw [hw]; exact i_nle (a := 5) rfl rfl (by omega) (by omega)), hx, p_bs]
      exact wp_some.mpr ⟨rfl, fr_refl I⟩
    by_cases w0 : w = 0
    · rw [if_pos w0, i8, p_bs]
      refine bare 0 _ (by omega) w0 ?_
      unfold h_X10_toldBare
      rw [if_pos w0, show (1 : Int32) + nI k = nI 1 + nI k from rfl, p_inA (c := 1) (k := k) rfl (by omega) (by omega), p_bs, h7.2.2.1 k (by omega)]
    rw [if_neg w0]
    by_cases w1 : w = 1
    · rw [if_pos w1, i8, p_bs]
      refine bare 1 _ (by omega) w1 ?_
      unfold h_X10_toldBare
      rw [if_neg w0, if_pos w1, show (18 : Int32) + nI k = nI 18 + nI k from rfl, p_inA (c := 18) (k := k) rfl (by omega) (by omega), p_bs, h6.2.1 k (by omega)]
    rw [if_neg w1]
    by_cases w2 : w = 2
    · rw [if_pos w2, i8, p_bs]
      refine bare 2 _ (by omega) w2 ?_
      unfold h_X10_toldBare
      rw [if_neg w0, if_neg w1, if_pos w2, show (26 : Int32) + nI k = nI 26 + nI k from rfl, p_inA (c := 26) (k := k) rfl (by omega) (by omega), p_bs, h6.2.2.1 k (by omega)]
    rw [if_neg w2]
    by_cases w3 : w = 3
    · rw [if_pos w3, o1, p_bs]
      by_cases q : o.testBit k = true
      · rw [if_pos q, if_neg (by decide)]
        refine bare 3 1 (by omega) w3 ?_
        unfold h_X10_toldBare
        rw [if_neg w0, if_neg w1, if_neg w2, if_pos w3, o2, p_bs, if_pos q, if_neg (by decide)]
      · rw [if_neg q, if_pos rfl]
        refine bare 3 0 (by omega) w3 ?_
        unfold h_X10_toldBare
        rw [if_neg w0, if_neg w1, if_neg w2, if_pos w3, o2, p_bs, if_neg q, if_pos rfl]
    rw [if_neg w3]
    by_cases w4 : w = 4
    · rw [if_pos w4, i8, p_bs]
      refine bare 4 _ (by omega) w4 ?_
      unfold h_X10_toldBare
      rw [if_neg w0, if_neg w1, if_neg w2, if_neg w3, show (9 : Int32) + nI k = nI 9 + nI k from rfl, p_inA (c := 9) (k := k) rfl (by omega) (by omega), p_bs, h7.2.2.2 k (by omega)]
    rw [if_neg w4]
    unfold h_X1_ask
    rw [u1 S I (R_many h hX), p_bs, if_neg (by decide), h9, p_bs, i8, p_bs, p_le, h7.2.2.1 k (by omega), wp_bind, wp_bind]
    have mB_now : mB 2 3 4 := by unfold mB; omega
    refine wp_mono (c_hear mB_now h6 h7 h5 (show k < 8 by omega)) fun I1 hI1 => ?_
    obtain ⟨v1, v2⟩ := hI1
    have hfc : fc I I1 := fun a a1 _ _ _ _ _ => v2 a a1
    have hL1 : rLw S I1 F lw (I 51) L := rLw_fr (fun a ha => v2 a (by omega)) h8
    have hm1 : mX I1 n L (I 51) := mX_51 (fc_51 hfc) hm
    have e511 : I1 51 = I 51 := fc_51 hfc
    -- the model at I' with the same row
    have mo : ∀ (I' : v_I) (j : Nat) (x : Int32), I' 51 = I 51 → 5 ≤ j → j ≤ 8 → w = nI j → wp (h_X10_toldByLaw I' (nI k) w) (fun q => q.1 = x ∧ fr I' q.2) → wp (h_X10_of I' (nI k) w) (fun q => x = q.1 ∧ fr I' q.2) := by
      intro I' j x e hj hj8 hw hx
      unfold h_X10_of
      rw [u2 I' (by rw [e]; exact h4), p_bs, if_neg (by decide), b_lies, if_pos ⟨by rw [hw]; exact nI_le (a := 0) (by omega) (by omega), by rw [hw]; exact i_le (b := 8) rfl rfl (by omega) (by omega)⟩, p_bs, if_neg (by decide), if_pos (by rw [hw]; exact i_le (a := 5) rfl rfl (by omega) (by omega))]
      refine wp_seq hx fun q hq => ?_
      exact wp_some.mpr ⟨hq.1.symm, hq.2⟩
    by_cases w5 : w = 5
    · rw [if_pos w5, wp_bind]
      refine wp_mono (c_tl J hL1 v1 0 _) fun r hr => ?_
      rw [wp_some]
      refine wp_some.mpr ⟨fc_fr hfc, mo I1 5 _ e511 (by omega) (by omega) w5 ?_⟩
      unfold h_X10_toldByLaw h_X10_needsNow
      rw [if_pos w5, show (1 : Int32) + nI k = nI 1 + nI k from rfl, p_inA (c := 1) (k := k) rfl (by omega) (by omega), p_bs, wp_bind, wp_bind]
      refine wp_mono (m_tl (L := L) (by rw [e511]; exact rLw_m h8) (by rw [e511]; exact h5) (by omega) 0 (.inl rfl) (I1 51 (1 + k))) fun q hq => ?_
      rw [wp_some]
      refine wp_some.mpr ⟨?_, fm_fr hq.2⟩
      rw [hq.1, e511, hr]
    rw [if_neg w5]
    by_cases w6 : w = 6
    · rw [if_pos w6, wp_bind]
      refine wp_mono (c_tl J hL1 v1 1 _) fun r hr => ?_
      rw [wp_some]
      refine wp_some.mpr ⟨fc_fr hfc, mo I1 6 _ e511 (by omega) (by omega) w6 ?_⟩
      unfold h_X10_toldByLaw h_X10_wantsNow
      rw [if_neg w5, if_pos w6, show (1 : Int32) + nI k = nI 1 + nI k from rfl, p_inA (c := 1) (k := k) rfl (by omega) (by omega), p_bs, wp_bind, wp_bind]
      refine wp_mono (m_tl (L := L) (by rw [e511]; exact rLw_m h8) (by rw [e511]; exact h5) (by omega) 1 (.inr (.inl rfl)) (I1 51 (1 + k))) fun q hq => ?_
      rw [wp_some]
      refine wp_some.mpr ⟨?_, fm_fr hq.2⟩
      rw [hq.1, e511, hr]
    rw [if_neg w6]
    by_cases w7 : w = 7
    · rw [if_pos w7, wp_bind]
      refine wp_mono (c_tl J hL1 v1 2 0) fun r hr => ?_
      rw [wp_some]
      refine wp_some.mpr ⟨fc_fr hfc, mo I1 7 _ e511 (by omega) (by omega) w7 ?_⟩
      unfold h_X10_toldByLaw h_X10_shutsNow
      rw [if_neg w5, if_neg w6, if_pos w7, wp_bind, wp_bind]
      refine wp_mono (m_tl (L := L) (by rw [e511]; exact rLw_m h8) (by rw [e511]; exact h5) (by omega) 2 (.inr (.inr rfl)) 0) fun q hq => ?_
      have t2 : q.1 = 0 ∨ q.1 = 1 := by
        rw [hq.1]
        rcases rLw_m h8 with ⟨g1, _⟩ | ⟨D, f, g1, _⟩
        · rw [g1]; exact .inl rfl
        · rw [g1]; exact told_2 0 (.inl rfl)
      rw [hq.1, e511, ← hr] at t2
      rw [hq.1, e511, ← hr]
      rcases t2 with e | e
      · rw [if_neg (by rw [e]; decide), wp_some]
        dsimp only
        rw [if_pos rfl]
        exact wp_some.mpr ⟨e.symm, fm_fr hq.2⟩
      · rw [if_pos e, wp_some]
        dsimp only
        rw [if_neg (by decide)]
        exact wp_some.mpr ⟨e.symm, fm_fr hq.2⟩
    rw [if_neg w7]
    by_cases w8 : w = 8
    · rw [if_pos w8, wp_bind, show I1 2 0 = nI o by rw [v2 2 (by omega), h7.1, e0]]
      refine wp_mono (c_behind (N := 1) J (fc_cX hfc hX) ho (by omega)) fun r hr => ?_
      obtain ⟨r1, r2⟩ := hr
      rw [wp_some]
      have rfc := fc_trans hfc r2
      refine wp_some.mpr ⟨fc_fr rfc, mo r.2.1 8 _ (fc_51 rfc) (by omega) (by omega) w8 ?_⟩
      unfold h_X10_toldByLaw
      have e51 := fc_51 rfc
      rw [if_neg w5, if_neg w6, if_neg w7]
      refine wp_seq (m_opens (L := L) (by rw [e51]; exact rLw_m h8) (by rw [e51]; exact h5) (show k < 8 by omega)) fun q hq => ?_
      obtain ⟨q1, q2⟩ := hq
      rw [e51] at q1
      have hlt : nx (fun h => opn L (I 51) h && !(0 : Nat).testBit h) n < 256 := Nat.lt_of_lt_of_le (nx_lt _ n) (two_le hn)
      have hbit : (r.1 >>> (nI k &&& 31)) &&& 1 = if opn L (I 51) k then 1 else 0 := by
        rw [r1, kup_same e0]
        show (mn L n 0 (I 51) 0 >>> (nI k &&& 31)) &&& 1 = _
        rw [mn_0, b_bit k _ (by omega) hlt]
        have tb : (nx (fun h => opn L (I 51) h && !(0 : Nat).testBit h) n).testBit k = opn L (I 51) k := by
          rw [nx_bit]; simp [hk]
        have hb := bit_tb (nx (fun h => opn L (I 51) h && !(0 : Nat).testBit h) n) k
        rw [tb] at hb
        have hm2 : nx (fun h => opn L (I 51) h && !(0 : Nat).testBit h) n / 2 ^ k % 2 < 2 := Nat.mod_lt _ (by omega)
        cases hop : opn L (I 51) k with
        | true => rw [if_pos rfl]; exact hb.mpr hop
        | false =>
          rw [if_neg (by decide)]
          rcases (show nx (fun h => opn L (I 51) h && !(0 : Nat).testBit h) n / 2 ^ k % 2 = 0 ∨ nx (fun h => opn L (I 51) h && !(0 : Nat).testBit h) n / 2 ^ k % 2 = 1 by omega) with e | e
          · rw [e]; rfl
          · exfalso
            have := hb.mp (by rw [e]; rfl)
            rw [hop] at this
            exact absurd this (by decide)
      rw [hbit]
      cases hop : opn L (I 51) k with
      | true =>
        rw [hop] at q1
        rw [if_neg (by rw [q1]; decide)]
        exact wp_some.mpr ⟨rfl, fm_fr q2⟩
      | false =>
        rw [hop] at q1
        rw [if_pos (by rw [q1]; rfl)]
        exact wp_some.mpr ⟨rfl, fm_fr q2⟩
    rw [if_neg w8, wp_some]
    refine wp_some.mpr ⟨fc_fr hfc, ?_⟩
    dsimp only
    unfold h_X10_of
    have hnl : ¬ ((0 : Int32) ≤ w ∧ w ≤ 8) := by
      rintro ⟨g1, g2⟩
      obtain ⟨j, hj, rfl⟩ := i_le_of (n := 8) rfl (by omega) g1 g2
      have d : ∀ j : Nat, j ≤ 8 → nI j = 0 ∨ nI j = 1 ∨ nI j = 2 ∨ nI j = 3 ∨ nI j = 4 ∨ nI j = 5 ∨ nI j = 6 ∨ nI j = 7 ∨ nI j = 8 := by
        intro j hj
        rcases (show j = 0 ∨ j = 1 ∨ j = 2 ∨ j = 3 ∨ j = 4 ∨ j = 5 ∨ j = 6 ∨ j = 7 ∨ j = 8 by omega) with rfl | rfl | rfl | rfl | rfl | rfl | rfl | rfl | rfl <;> decide
      rcases d j hj with e | e | e | e | e | e | e | e | e
      · exact w0 e
      · exact w1 e
      · exact w2 e
      · exact w3 e
      · exact w4 e
      · exact w5 e
      · exact w6 e
      · exact w7 e
      · exact w8 e
    rw [u2 I1 (by rw [e511]; exact h4), p_bs, if_neg (by decide), b_lies, if_neg hnl, p_bs, if_pos rfl]
    exact wp_some.mpr ⟨rfl, fr_refl I1⟩
  · rw [u1 S I (R_many h hX), p_bs, if_pos rfl]
    refine wp_some.mpr ⟨fr_refl I, ?_⟩
    unfold h_X10_of
    rw [u2 I h4, p_bs, if_pos rfl]
    exact wp_some.mpr ⟨rfl, fr_refl I⟩
end sp75
