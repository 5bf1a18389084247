noncomputable section sp80
theorem m19 {a b : Nat} : (19 : Int32) * nI a + nI b = nI (19 * a + b) := by
  rw [← nI_add]
  congr 1
  show Int32.ofNat 19 * Int32.ofNat a = Int32.ofNat (19 * a)
  rw [Int32.ofNat_mul]
theorem m_keeps {I : v_I} {n : Nat} (hn : n ≤ 16) (e : I 49 32 = nI n) (kind : Int32) : wp (h_X10_keeps I kind) (fun I' => I' 49 32 = nI (min n 15 + 1) ∧ (∀ j i, j < min n 15 → i < 19 → I' 63 (19 * j + i) = I 63 (19 * (j + (if n = 16 then 1 else 0)) + i)) ∧ (∀ i, i < 18 → I' 63 (19 * min n 15 + i) = I 51 i) ∧ I' 63 (19 * min n 15 + 18) = kind ∧ ∀ a j, a ≠ 63 → ¬ (a = 49 ∧ j = 32) → I' a j = I a j) := by
  have j52 : ∀ (I1 : v_I) (m : Nat), m ≤ 15 → I1 49 32 = nI m → wp (h_X10_keeps_J52 I1 kind 19) (fun I' => I' 49 32 = nI (m + 1) ∧ (∀ z, z < 19 * m → I' 63 z = I1 63 z) ∧ (∀ i, i < 18 → I' 63 (19 * m + i) = I1 51 i) ∧ I' 63 (19 * m + 18) = kind ∧ ∀ a j, a ≠ 63 → ¬ (a = 49 ∧ j = 32) → I' a j = I1 a j) := by
    intro I1 m hm e1
    unfold h_X10_keeps_J52
    refine wp_seq (P := fun t : Int32 × v_I => (∀ z, z < 19 * m → t.2 63 z = I1 63 z) ∧ (∀ i, i < 18 → t.2 63 (19 * m + i) = I1 51 i) ∧ ∀ a, a ≠ 63 → t.2 a = I1 a) ?_ fun t ht => ?_
    · refine wp_lp (fun i (t : Int32 × v_I) => t.1 = nI i ∧ (∀ z, z < 19 * m → t.2 63 z = I1 63 z) ∧ (∀ z, z < i → t.2 63 (19 * m + z) = I1 51 z) ∧ ∀ a, a ≠ 63 → t.2 a = I1 a) 18 (by omega) ⟨rfl, fun _ _ => rfl, fun z hz => absurd hz (Nat.not_lt_zero _), fun _ _ => rfl⟩ ?_
      rintro i ⟨c, I'⟩ hi ⟨u1, u2, u3, u4⟩
      dsimp only at u1 u2 u3 u4
      subst u1
      unfold h_X10_keeps_B54
      dsimp only
      by_cases h18 : i = 18
      · rw [if_pos (show (18 : Int32) ≤ nI i from i_le (a := 18) rfl rfl (by omega) (by omega))]
        exact wp_some.mpr ⟨u2, fun z hz => u3 z (by omega), u4⟩
      rw [if_neg (show ¬ (18 : Int32) ≤ nI i from i_nle (a := 18) rfl rfl (by omega) (by omega)), p_in_nI (by omega) (by omega), p_bs, u4 49 (by omega), e1, m19, p_in_nI (by omega) (by omega), p_bs, p_le, p_le]
      refine wp_some.mpr ⟨by omega, (nI_succ i).symm, fun z hz => ?_, fun z hz => ?_, fun a ha => ?_⟩
      · dsimp only
        rw [w_ne _ _ _ _ (by omega)]; exact u2 z hz
      · dsimp only
        by_cases q : z = i
        · subst q; rw [w_at, u4 51 (by omega)]
        · rw [w_ne _ _ _ _ (by omega)]; exact u3 z (by omega)
      · dsimp only
        rw [v_up_row _ 63 _ _ ha]; exact u4 a ha
    obtain ⟨t1, t2, t3⟩ := ht
    rw [t3 49 (by omega), e1, show (18 : Int32) = nI 18 from rfl, m19, p_in_nI (by omega) (by omega), p_bs, p_le, v_up_row _ 63 _ _ (show (49 : Nat) ≠ 63 by omega), t3 49 (by omega), e1, ← nI_succ, p_le]
    refine wp_some.mpr ⟨by rw [w_at], fun z hz => ?_, fun i hi => ?_, ?_, fun a j h1 h2 => ?_⟩
    · rw [v_up_row _ 49 _ _ (by omega), w_ne _ _ _ _ (by omega)]; exact t1 z hz
    · rw [v_up_row _ 49 _ _ (by omega), w_ne _ _ _ _ (by omega)]; exact t2 i hi
    · rw [v_up_row _ 49 _ _ (by omega), w_at]
    · by_cases q : a = 49
      · subst q; rw [w_ne _ _ _ _ (by omega), v_up_row _ 63 _ _ h1, t3 49 h1]
      · rw [v_up_row _ 49 _ _ q, v_up_row _ 63 _ _ h1, t3 a h1]
  unfold h_X10_keeps
  by_cases h16 : n = 16
  · subst h16
    rw [if_pos (by rw [e]; rfl), if_pos rfl]
    refine wp_seq (P := fun t : Int32 × v_I => (∀ z, z < 285 → t.2 63 z = I 63 (z + 19)) ∧ ∀ a, a ≠ 63 → t.2 a = I a) ?_ fun t ht => ?_
    · refine wp_lp (fun i (t : Int32 × v_I) => t.1 = nI i ∧ (∀ z, z < i → t.2 63 z = I 63 (z + 19)) ∧ (∀ z, i ≤ z → t.2 63 z = I 63 z) ∧ ∀ a, a ≠ 63 → t.2 a = I a) 285 (by omega) ⟨rfl, fun z hz => absurd hz (Nat.not_lt_zero _), fun _ _ => rfl, fun _ _ => rfl⟩ ?_
      rintro i ⟨c, I'⟩ hi ⟨u1, u2, u3, u4⟩
      dsimp only at u1 u2 u3 u4
      subst u1
      unfold h_X10_keeps_B14
      dsimp only
      rw [show (15 : Int32) * 19 = nI 285 by decide]
      by_cases h285 : i = 285
      · rw [if_pos (nI_le (by omega) (by omega))]
        exact wp_some.mpr ⟨fun z hz => u2 z (by omega), u4⟩
      rw [if_neg (nI_ge (by omega) (by omega)), show nI i + 19 = nI (i + 19) from nI_add i 19, p_in_nI (by omega) (by omega), p_bs, p_in_nI (by omega) (by omega), p_bs, p_le, p_le]
      refine wp_some.mpr ⟨by omega, (nI_succ i).symm, fun z hz => ?_, fun z hz => ?_, fun a ha => ?_⟩
      · dsimp only
        by_cases q : z = i
        · subst q; rw [w_at, u3 _ (by omega)]
        · rw [w_ne _ _ _ _ q]; exact u2 z (by omega)
      · dsimp only
        rw [w_ne _ _ _ _ (by omega)]; exact u3 z (by omega)
      · dsimp only
        rw [v_up_row _ 63 _ _ ha]; exact u4 a ha
    obtain ⟨t1, t2⟩ := ht
    rw [t2 49 (by omega), e, p_le, show nI 16 - 1 = nI 15 by decide]
    refine wp_mono (j52 (v_up t.2 49 32 (nI 15)) 15 (by omega) (by rw [w_at])) fun I' hI' => ?_
    obtain ⟨v1, v2, v3, v4, v5⟩ := hI'
    refine ⟨v1, fun j i hj hi => ?_, fun i hi => ?_, v4, fun a j h1 h2 => ?_⟩
    · rw [v2 _ (by omega), v_up_row _ 49 _ _ (by omega), t1 _ (by omega), show 19 * j + i + 19 = 19 * (j + 1) + i by omega]
    · rw [show min 16 15 = 15 by omega, v3 i hi, v_up_row _ 49 _ _ (by omega), t2 51 (by omega)]
    · rw [v5 a j h1 h2]
      by_cases q : a = 49
      · subst q; rw [w_ne _ _ _ _ (by omega), t2 49 h1]
      · rw [v_up_row _ 49 _ _ q, t2 a h1]
  · have hm : min n 15 = n := by omega
    rw [if_neg (by rw [e]; exact fun q => h16 ((i_eqI (b := 16) rfl rfl (by omega) (by omega)).mp q)), if_neg h16, hm]
    refine wp_mono (j52 I n (by omega) e) fun I' hI' => ?_
    obtain ⟨v1, v2, v3, v4, v5⟩ := hI'
    exact ⟨v1, fun j i hj hi => by rw [v2 _ (by omega), Nat.add_zero], v3, v4, v5⟩
theorem kM_ext {n : Nat} {k k' : Nat → Int32} (e : ∀ i, i < 18 → k' i = k i) (h : kM n k) : kM n k' := by
  obtain ⟨⟨o, ho, e0⟩, ⟨mi, hmi, e17⟩, hw⟩ := h
  exact ⟨⟨o, ho, (e 0 (by omega)).trans e0⟩, ⟨mi, hmi, (e 17 (by omega)).trans e17⟩, fun z hz => by rw [e _ (by omega)]; exact hw z hz⟩
/-- R anew, when something was done that can be undone -/
theorem R_act {S S' : v_S} {I I1 I2 : v_I} {J J' : v_J} {F F' : v_F} {own own' : Nat → Nat} {n nu nx : Nat} {kind : Int32} (h : R S I J F) (hown : rN S own ∧ rL S I F own 9 (I 51) ∧ rP S I F own ∧ rG S I F own)
    (hn : n ≤ 8) (k2 : I 51 49 = nI n) (hnu : nu ≤ 16) (hnx : nx < 16) (e0 : I 11 0 = nI nu) (e1 : I 11 1 = nI nx)
    (hext : ext S S' F F' 13) (hq : ∀ q, q ≠ nx → F' 13 q = F 13 q) (hN' : rN S' own') (ho : ∀ a, own a ≠ 0 → own' a = own a)
    (hslot : ∃ m w s, F' 13 nx = some m ∧ p_Mo S' F' m w s ∧ w ≠ s ∧ own' m = 2 + nx ∧ own' w = 2 + nx ∧ own' s = 2 + nx ∧ rM I1 m w s (I 51))
    (f0 : I1 11 0 = nI (min (nu + 1) 16)) (f1 : I1 11 1 = nI ((nx + 1) % 16)) (f12 : ∀ j, I1 12 j = if j = nx then kind else I 12 j) (fa : ∀ a, a ≠ 11 → a ≠ 12 → a < S.length → own a ≠ 2 + nx → I1 a = I a) (hkind : kind = 0 ∨ kind = 1 ∨ kind = 2 ∨ kind = 3)
    (gb : ∀ a, 72 ≤ a → I2 a = I1 a) (g11 : I2 11 = I1 11) (g12 : I2 12 = I1 12) (g32 : I2 49 32 = nI (min nu 15 + 1)) (g63 : ∀ j i, j < min nu 15 → i < 19 → I2 63 (19 * j + i) = I 63 (19 * (j + (if nu = 16 then 1 else 0)) + i)) (g63' : ∀ i, i < 18 → I2 63 (19 * min nu 15 + i) = I 51 i) (g63k : I2 63 (19 * min nu 15 + 18) = kind)
    (gf : ∀ a j, a < 72 → ¬ scr a j → ¬ (a = 0 ∧ j = 14) → ¬ (a = 49 ∧ j = 0) → ¬ (2 ≤ a ∧ a ≤ 4) → a ≠ 11 → a ≠ 12 → a ≠ 63 → ¬ (a = 51 ∧ j < 18) → ¬ (a = 49 ∧ j = 32) → I2 a j = I a j)
    (hM : rM I2 2 3 4 (I2 51)) (hkM : kM n (I2 51)) (h14 : I2 0 14 = I2 49 0) : R S' I2 J' F' := by
  obtain ⟨hS, hF, hC, hK, hT, hO, hD, hW, _⟩ := h
  obtain ⟨hN, hL, hP, hG⟩ := hown
  have r51 : ∀ j, 18 ≤ j → I2 51 j = I 51 j := fun j hj => gf 51 j (by omega) (by unfold scr; omega) (by omega) (by omega) (by omega) (by omega) (by omega) (by omega) (by omega) (by omega)
  have row : ∀ a, a < 72 → a ≠ 0 → a ≠ 49 → a ≠ 51 → ¬ (2 ≤ a ∧ a ≤ 4) → a ≠ 11 → a ≠ 12 → a ≠ 63 → (∀ j, ¬ scr a j) → I2 a = I a := fun a q0 q1 q2 q3 q4 q5 q6 q7 q8 => funext fun j => gf a j q0 (q8 j) (by omega) (by omega) q4 q5 q6 q7 (by omega) (by omega)
  have r0 : ∀ j, j ≠ 14 → I2 0 j = I 0 j := fun j hj => gf 0 j (by omega) (by unfold scr; omega) (by omega) (by omega) (by omega) (by omega) (by omega) (by omega) (by omega) (by omega)
  have r49 : ∀ j, (j = 6 ∨ j = 13 ∨ j = 14 ∨ j = 38 ∨ j = 46) → I2 49 j = I 49 j := fun j hj => gf 49 j (by omega) (by unfold scr; omega) (by omega) (by omega) (by omega) (by omega) (by omega) (by omega) (by omega) (by omega)
  have rr : ∀ a, (a = 1 ∨ (5 ≤ a ∧ a ≤ 8) ∨ (26 ≤ a ∧ a ≤ 29) ∨ a = 48 ∨ a = 50 ∨ a = 52 ∨ a = 53 ∨ a = 55 ∨ a = 56 ∨ a = 71) → I2 a = I a := fun a ha => row a (by omega) (by omega) (by omega) (by omega) (by omega) (by omega) (by omega) (by omega) (fun j => by unfold scr; omega)
  have l71 : 71 < S.length := S_lt (hS 71 _ rfl)
  have keepI : ∀ a, own a ≠ 0 → own a ≠ 2 + nx → I2 a = I a := fun a h1 h2 => by
    have := hN a h1
    rw [gb a this.1, fa a (by omega) (by omega) this.2 h2]
  refine ⟨ext_SS hext hS, ext_FF hext hS (.inl rfl) hF, ?_, ?_, ?_, ?_, ?_, ?_, own', hN', ?_, ?_, ext_rG hext (by omega) (by omega) (by omega) hS hN ho (fun a ha => keepI a (by omega) (by omega)) (rr 52 (by omega)) (rr 53 (by omega)) hG⟩
  · obtain ⟨_, c1, c2, c3, c4, c5, c6, c7, c8, c9, c10, c11⟩ := hC
    refine ⟨hM, ?_, fun z hz => ?_, fun z hz => ?_, ?_, ?_, ?_, ?_, fun z hz => ?_, fun z hz => ?_, ?_, ?_⟩
    · rw [rr 1 (by omega), r51 _ (by omega)]; exact c1
    · rw [rr 5 (by omega), r51 _ (by omega)]; exact c2 z hz
    · rw [rr 6 (by omega), r51 _ (by omega)]; exact c3 z hz
    · rw [rr 1 (by omega), r51 _ (by omega)]; exact c4
    · rw [rr 1 (by omega), r51 _ (by omega)]; exact c5
    · rw [rr 1 (by omega), r51 _ (by omega)]; exact c6
    · rw [rr 1 (by omega), r51 _ (by omega)]; exact c7
    · rw [rr 7 (by omega), r51 _ (by omega)]; exact c8 z hz
    · rw [rr 8 (by omega), r51 _ (by omega)]; exact c9 z hz
    · rw [rr 1 (by omega), r51 _ (by omega)]; exact c10
    · rw [rr 1 (by omega), r51 _ (by omega)]; exact c11
  · obtain ⟨n', tl, k1, kk2, k3, k4, k5, k6, k7, k8, k9⟩ := hK
    have : n' = n := (nI_eq (by omega) (by omega)).mp (kk2.symm.trans k2)
    subst this
    refine ⟨n', tl, k1, by rw [r51 _ (by omega)]; exact k2, hkM, fun z hz => by rw [r51 _ (by omega)]; exact k4 z hz, by rw [r51 _ (by omega)]; exact k5, fun z hz => by rw [r51 _ (by omega)]; exact k6 z hz, k7, by rw [r51 _ (by omega)]; exact k8, by rw [r51 _ (by omega)]; exact k9⟩
  · unfold rT; rw [r0 8 (by omega), r49 13 (by omega), rr 29 (by omega), rr 56 (by omega)]; exact hT
  · obtain ⟨o1, o2, o3, o4, o5, o6, o7, o8, o9⟩ := hO
    unfold rO
    rw [rr 48 (by omega), rr 50 (by omega), r0 15 (by omega), r0 16 (by omega), r0 17 (by omega), r49 6 (by omega), r49 14 (by omega), r49 38 (by omega)]
    exact ⟨h14, o2, o3, o4, o5, o6, o7, o8, o9⟩
  · unfold rD rM; rw [r0 6 (by omega), r49 46 (by omega), rr 26 (by omega), rr 27 (by omega), rr 28 (by omega), rr 71 (by omega)]; exact hD
  · unfold rW; rw [rr 55 (by omega)]; exact hW
  · exact ext_rL hext (by omega) hN ho (fun a ha => keepI a (by omega) (by omega)) (by omega) (by omega) (r51 _ (by omega)) (fun t D ht hd => tk_fr (fun i hi => r51 i (by omega)) hd) hL
  · obtain ⟨n0, nx0, p1, p2, p3, p4, p5, p6, p7⟩ := hP
    have en : n0 = nu := (nI_eq (by omega) (by omega)).mp (p3.symm.trans e0)
    subst en
    have ex : nx0 = nx := (nI_eq (by omega) (by omega)).mp (p5.symm.trans e1)
    subst ex
    obtain ⟨m, w, s, s1, s2, s3, s4, s5, s6, s7⟩ := hslot
    have hm15 : min n0 15 + 1 = min (n0 + 1) 16 := by omega
    refine ⟨min n0 15 + 1, (nx0 + 1) % 16, by omega, Nat.mod_lt _ (by omega), by rw [g11, f0, hm15], g32, by rw [g11]; exact f1, fun q hq16 => ?_, fun j hj => ?_⟩
    · by_cases hqx : q = nx0
      · subst hqx
        exact .inr ⟨m, w, s, s1, s2, s3, s4, s5, s6⟩
      · rw [hq q hqx]
        rcases p6 q hq16 with z | ⟨m', w', s', z1, z2, z3, z4, z5, z6⟩
        · exact .inl z
        · have l := (hN m' (by omega)).1
          exact .inr ⟨m', w', s', z1, ext_Mo hext (by omega) z2, z3, by rw [ho _ (by omega)]; exact z4, by rw [ho _ (by omega)]; exact z5, by rw [ho _ (by omega)]; exact z6⟩
    · rw [g12]
      have i49 : I2 51 49 = I 51 49 := r51 49 (by omega)
      by_cases hlast : j = min n0 15
      · -- the newest
        have hidx : ((nx0 + 1) % 16 + 16 - (min n0 15 + 1) + j) % 16 = nx0 := by omega
        rw [hidx, f12 nx0, if_pos rfl, hlast, g63k]
        refine ⟨rfl, ⟨m, w, s, s1, s2.2.2.2.1, s2.2.2.2.2, ?_⟩, fun u hu eu => ?_, hkind⟩
        · have lm := (hN' m (by omega)).1
          have lw := (hN' w (by omega)).1
          have ls := (hN' s (by omega)).1
          obtain ⟨x1, x2, x3, x4⟩ := rM_fr (gb m lm) (gb w lw) (gb s ls) s7
          exact ⟨by rw [x1]; exact (g63' 0 (by omega)).symm, by rw [x2]; exact (g63' 17 (by omega)).symm, fun z hz => by rw [x3 z hz]; exact (g63' (1 + z) (by omega)).symm, fun z hz => by rw [x4 z hz]; exact (g63' (9 + z) (by omega)).symm⟩
        · obtain ⟨n', tl, k1, kk2, k3, _⟩ := hK
          rw [i49] at eu
          have : u = n' := (nI_eq (by omega) (by omega)).mp (eu.symm.trans kk2)
          subst this
          exact kM_ext (fun i hi => g63' i hi) k3
      · -- those ahead of it
        have hj' : j < min n0 15 := by omega
        generalize hsh : (if n0 = 16 then 1 else 0) = sh at g63
        have hsh' : j + sh < n0 ∧ ((nx0 + 1) % 16 + 16 - (min n0 15 + 1) + j) % 16 = (nx0 + 16 - n0 + (j + sh)) % 16 ∧ (nx0 + 16 - n0 + (j + sh)) % 16 ≠ nx0 := by
          by_cases h16 : n0 = 16
          · rw [if_pos h16] at hsh; omega
          · rw [if_neg h16] at hsh; omega
        obtain ⟨a1, ⟨m', w', s', b1, b2, b3, b4⟩, a2, a3⟩ := p7 (j + sh) hsh'.1
        rw [hsh'.2.1]
        generalize hidx : (nx0 + 16 - n0 + (j + sh)) % 16 = q at *
        have row63 : (fun i => I2 63 (19 * j + i)) 18 = I 63 (19 * (j + sh) + 18) := g63 j 18 hj' (by omega)
        have z18 : I2 63 (19 * j + 18) = I 63 (19 * (j + sh) + 18) := row63
        rw [f12 q, if_neg hsh'.2.2, z18]
        have hq16 : q < 16 := by rw [← hidx]; exact Nat.mod_lt _ (by omega)
        rcases p6 q hq16 with z | ⟨m2, w2, s2', z1, z2, z3, z4, z5, z6⟩
        · rw [z] at b1; cases b1
        · rw [z1] at b1; cases b1
          have := z2.2.2.2.1; rw [this] at b2; cases b2
          have := z2.2.2.2.2; rw [this] at b3; cases b3
          have lm := (hN m' (by omega)).1
          refine ⟨a1, ⟨m', w', s', by rw [hq q hsh'.2.2]; exact z1, by rw [hext.2 m' 2 (S_lt z2.1) (by omega)]; exact z2.2.2.2.1, by rw [hext.2 m' 3 (S_lt z2.1) (by omega)]; exact z2.2.2.2.2, ?_⟩, fun u hu eu => ?_, a3⟩
          · obtain ⟨x1, x2, x3, x4⟩ := rM_fr (keepI m' (by omega) (by omega)) (keepI w' (by omega) (by omega)) (keepI s' (by omega) (by omega)) b4
            exact ⟨by rw [x1]; exact (g63 j 0 hj' (by omega)).symm, by rw [x2]; exact (g63 j 17 hj' (by omega)).symm, fun z hz => by rw [x3 z hz]; exact (g63 j (1 + z) hj' (by omega)).symm, fun z hz => by rw [x4 z hz]; exact (g63 j (9 + z) hj' (by omega)).symm⟩
          · rw [i49] at eu
            exact kM_ext (fun i hi => g63 j i hj' (by omega)) (a2 u hu eu)
end sp80
