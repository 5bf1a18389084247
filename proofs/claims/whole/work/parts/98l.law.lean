noncomputable section sp98l
theorem cll_len {c v : Nat → Int32} {o : Bool} {z : Nat} : ∀ (f p n : Nat) (D D' : List Cls), sp_cll c v o z f p n D = .inr D' → D'.length ≤ D.length + f
  | 0, p, n, D, D', h => by
    unfold sp_cll at h
    split at h
    · cases h
    · split at h
      · cases h
      · cases h; exact Nat.le_refl _
  | f + 1, p, n, D, D', h => by
    unfold sp_cll at h
    split at h
    · cases h2 : sp_cls c v o (p + 1) n with
      | inl e => rw [h2] at h; cases h
      | inr r =>
        rw [h2] at h
        have := cll_len f r.1 r.2.1 (D ++ [r.2.2]) D' h
        simp at this
        omega
    · split at h
      · cases h
      · cases h; omega
theorem text_len {c v : Nat → Int32} {o : Bool} {z : Nat} {D : List Cls} (h : sp_text c v o z = .inr D) : D.length ≤ 12 := by
  unfold sp_text at h
  cases h2 : sp_cls c v o 0 0 with
  | inl e => rw [h2] at h; cases h
  | inr r =>
    rw [h2] at h
    have := cll_len 11 r.1 r.2.1 [r.2.2] D h
    simpa using this
/-- a LAW came: R -/
theorem R_lawn {S S' : v_S} {I I' I1 : v_I} {J J' : v_J} {F F' : v_F} {own : Nat → Nat} {tl z s : Nat} {D : List Cls} {c v : Nat → Int32} (h : R S I J F) (hown : rN S own ∧ rL S I F own 9 (I 51) ∧ rP S I F own ∧ rG S I F own) (htl : tl < 6) (e51 : I 51 51 = nI tl)
    (hlen : S'.length = S.length + 7) (hex : ∀ (a : Nat) (q : Nat × Nat), S[a]? = some q → S'[a]? = some q) (s0 : S'[S.length]? = some (8, 9)) (s1 : ∀ i, i < 5 → S'[S.length + 1 + i]? = some (20, D.length)) (s6 : S'[S.length + 6]? = some (20, s))
    (hF1 : ∀ a j, a ≠ S.length → a ≠ 9 → F' a j = F a j) (hF9 : ∀ t, t ≠ tl → F' 9 t = F 9 t) (hF9' : F' 9 tl = some S.length) (hFn : ∀ i, i < 6 → F' S.length (3 + i) = some (S.length + 1 + i))
    (T : Tx I1 s D) (hD12 : D.length ≤ 12) (hs : s ≤ 436) (bit : I1 31 2 = 0 ∨ I1 31 2 = 1)
    (n0 : I' S.length 0 = nI D.length) (n2 : I' S.length 2 = I1 31 2) (n3 : ∀ i j, i < 5 → j < D.length → I' (S.length + 1 + i) j = I1 (32 + i) j) (n4 : ∀ j, j < s → I' (S.length + 6) j = I1 37 j)
    (hI : ∀ a, 72 ≤ a → a < S.length → I' a = I a) (hr : ∀ a j, a < 72 → a ≠ 0 → a ≠ 1 → a ≠ 49 → a ≠ 51 → ¬ scr a j → I' a j = I a j) (r0 : ∀ j, j ≠ 8 → j ≠ 14 → j ≠ 16 → I' 0 j = I 0 j) (r1 : ∀ j, j ≠ 10 → I' 1 j = I 1 j) (r49 : ∀ j, j = 6 ∨ j = 32 ∨ j = 38 ∨ j = 46 → I' 49 j = I 49 j)
    (k1 : I' 1 10 = nI (tl + 1)) (k51 : I' 51 51 = nI (tl + 1)) (kz : I' 51 (53 + tl) = nI z) (hz : z ≤ 400) (kt : ∀ i, i < z → I' 51 (60 + 400 * tl + i) = c i ∧ I' 51 (2860 + 400 * tl + i) = v i) (cz0 : ∀ i, z ≤ i → c i = 0) (vz0 : ∀ i, z ≤ i → v i = 0)
    (kr : ∀ j, j ≠ 51 → j ≠ 53 + tl → ¬ (60 + 400 * tl ≤ j ∧ j < 460 + 400 * tl) → ¬ (2860 + 400 * tl ≤ j ∧ j < 3260 + 400 * tl) → I' 51 j = I 51 j) (htx : sp_text c v false z = .inr D)
    (o1 : I' 0 14 = 0) (o2 : I' 49 0 = 0) (o3 : I' 0 8 = 0) (o4 : I' 49 13 = 0) (o5 : I' 0 16 = I' 49 14) : R S' I' J' F' := by
  obtain ⟨hS, hF, hC, hK, hT, hO, hD, hW, _⟩ := h
  obtain ⟨hN, hL, hP, hG⟩ := hown
  have l71 : 71 < S.length := S_lt (hS 71 _ rfl)
  have hS' : p_SS S' := fun a q hh => hex _ _ (hS a q hh)
  have hext : ext S S' F F' 9 := ⟨hex, fun a j q1 q2 => hF1 a j (by omega) q2⟩
  have hF' : p_FF F' := ext_FF hext hS (.inr (.inr rfl)) hF
  have row : ∀ a, a < 72 → a ≠ 0 → a ≠ 1 → a ≠ 49 → a ≠ 51 → (∀ j, ¬ scr a j) → I' a = I a := fun a q1 q2 q3 q4 q5 q6 => funext fun j => hr a j q1 q2 q3 q4 q5 (q6 j)
  have rs' : ∀ a, 2 ≤ a → a < 14 → I' a = I a := fun a q1 q2 => row a (by omega) (by omega) (by omega) (by omega) (by omega) (fun j => by unfold scr; omega)
  have kl : ∀ j, j < 53 → j ≠ 51 → I' 51 j = I 51 j := fun j q1 q2 => kr j q2 (by omega) (by omega) (by omega)
  have hb : ∀ a, own a ≠ 0 → I' a = I a := fun a q => hI a (hN a q).1 (hN a q).2
  let own' : Nat → Nat := fun a => if S.length ≤ a ∧ a < S.length + 7 then 1 else own a
  have ho : ∀ a, own a ≠ 0 → own' a = own a := fun a q => if_neg (by have := (hN a q).2; omega)
  have ow : ∀ i, i < 7 → own' (S.length + i) = 1 := fun i hi => if_pos (by omega)
  have hN' : rN S' own' := fun a ha => by
    by_cases q : S.length ≤ a ∧ a < S.length + 7
    · omega
    · have e : own' a = own a := if_neg q
      rw [e] at ha
      have := hN a ha
      omega
  refine ⟨hS', hF', ?_, ?_, ?_, ?_, ?_, ?_, own', hN', ?_, ?_, ?_, ?_⟩
  · obtain ⟨⟨m1, m2, m3, m4⟩, c1, c2, c3, c4, c5, c6, c7, c8, c9, c10, c11⟩ := hC
    refine ⟨⟨?_, ?_, fun i hi => ?_, fun i hi => ?_⟩, ?_, fun i hi => ?_, fun i hi => ?_, ?_, ?_, ?_, ?_, fun i hi => ?_, fun i hi => ?_, ?_, ?_⟩
    · rw [rs' 2 (by omega) (by omega), kl 0 (by omega) (by omega)]; exact m1
    · rw [rs' 2 (by omega) (by omega), kl 17 (by omega) (by omega)]; exact m2
    · rw [rs' 3 (by omega) (by omega), kl _ (by omega) (by omega)]; exact m3 i hi
    · rw [rs' 4 (by omega) (by omega), kl _ (by omega) (by omega)]; exact m4 i hi
    · rw [r1 0 (by omega), kl _ (by omega) (by omega)]; exact c1
    · rw [rs' 5 (by omega) (by omega), kl _ (by omega) (by omega)]; exact c2 i hi
    · rw [rs' 6 (by omega) (by omega), kl _ (by omega) (by omega)]; exact c3 i hi
    · rw [r1 4 (by omega), kl _ (by omega) (by omega)]; exact c4
    · rw [r1 5 (by omega), kl _ (by omega) (by omega)]; exact c5
    · rw [r1 6 (by omega), kl _ (by omega) (by omega)]; exact c6
    · rw [r1 7 (by omega), kl _ (by omega) (by omega)]; exact c7
    · rw [rs' 7 (by omega) (by omega), kl _ (by omega) (by omega)]; exact c8 i hi
    · rw [rs' 8 (by omega) (by omega), kl _ (by omega) (by omega)]; exact c9 i hi
    · rw [k1, k51]
    · rw [r1 12 (by omega), kl _ (by omega) (by omega)]; exact c11
  · obtain ⟨n, tl', q1, q2, ⟨⟨w, w1, w2⟩, ⟨mi, w3, w4⟩, w5⟩, q4, ⟨sm, q5, q5'⟩, q6, q7, q8, q9⟩ := hK
    have : tl' = tl := by
      rw [e51] at q8
      exact ((nI_eq (by omega) (by omega)).mp q8).symm
    subst this
    refine ⟨n, tl' + 1, q1, by rw [kl 49 (by omega) (by omega)]; exact q2, ⟨⟨w, w1, by rw [kl 0 (by omega) (by omega)]; exact w2⟩, ⟨mi, w3, by rw [kl 17 (by omega) (by omega)]; exact w4⟩, fun i hi => by rw [kl _ (by omega) (by omega)]; exact w5 i hi⟩, fun i hi => ?_, ⟨sm, q5, by rw [kl 50 (by omega) (by omega)]; exact q5'⟩, fun i hi => ?_, by omega, k51, ?_⟩
    · rw [kl _ (by omega) (by omega)]; exact q4 i hi
    · rw [kl _ (by omega) (by omega)]; exact q6 i hi
    · rw [kl 52 (by omega) (by omega)]
      rcases q9 with q9 | ⟨f, q9, q10⟩
      · exact .inl q9
      · exact .inr ⟨f, by omega, q10⟩
  · refine ⟨⟨0, by omega, o3, o4⟩, ?_⟩
    rw [row 29 (by omega) (by omega) (by omega) (by omega) (by omega) (fun j => by unfold scr; omega), row 56 (by omega) (by omega) (by omega) (by omega) (by omega) (fun j => by unfold scr; omega)]
    exact hT.2
  · obtain ⟨p1, p2, p3, p4, p5, p6, p7, p8, p9⟩ := hO
    unfold rO
    rw [row 48 (by omega) (by omega) (by omega) (by omega) (by omega) (fun j => by unfold scr; omega), row 50 (by omega) (by omega) (by omega) (by omega) (by omega) (fun j => by unfold scr; omega), r0 15 (by omega) (by omega) (by omega), r0 17 (by omega) (by omega) (by omega), r49 6 (by omega), r49 38 (by omega), o1, o2, o5]
    exact ⟨rfl, p2, p3, p4, p5, p6, p7, rfl, p9⟩
  · unfold rD rM
    rw [r0 6 (by omega) (by omega) (by omega), r49 46 (by omega), row 26 (by omega) (by omega) (by omega) (by omega) (by omega) (fun j => by unfold scr; omega), row 27 (by omega) (by omega) (by omega) (by omega) (by omega) (fun j => by unfold scr; omega), row 28 (by omega) (by omega) (by omega) (by omega) (by omega) (fun j => by unfold scr; omega), row 71 (by omega) (by omega) (by omega) (by omega) (by omega) (fun j => by unfold scr; omega)]
    exact hD
  · unfold rW
    rw [row 55 (by omega) (by omega) (by omega) (by omega) (by omega) (fun j => by unfold scr; omega)]
    exact hW
  · intro t m hm hkm ht
    rw [k51] at hkm
    have hm' : tl + 1 = m := (nI_eq (by omega) (by omega)).mp hkm
    by_cases q : t = tl
    · subst q
      refine ⟨S.length, hF9', D, S.length + 1, S.length + 2, S.length + 3, S.length + 4, S.length + 5, S.length + 6, D.length, s, ⟨z, hz, kz, ?_⟩, ?_, ?_, ow 0 (by omega), ow 1 (by omega), ow 2 (by omega), ow 3 (by omega), ow 4 (by omega), ow 5 (by omega), ow 6 (by omega)⟩
      · have ec : tk_c (I' 51) t z = c := funext fun i => by
          unfold tk_c
          by_cases w : i < z
          · rw [if_pos w]; exact (kt i w).1
          · rw [if_neg w]; exact (cz0 i (by omega)).symm
        have ev : tk_v (I' 51) t z = v := funext fun i => by
          unfold tk_v
          by_cases w : i < z
          · rw [if_pos w]; exact (kt i w).2
          · rw [if_neg w]; exact (vz0 i (by omega)).symm
        rw [ec, ev]; exact htx
      · refine ⟨s0, s1 0 (by omega), s1 1 (by omega), s1 2 (by omega), s1 3 (by omega), s1 4 (by omega), s6, hFn 0 (by omega), hFn 1 (by omega), hFn 2 (by omega), hFn 3 (by omega), hFn 4 (by omega), hFn 5 (by omega), Nat.le_refl _, hD12, hs, n0, by rw [n2]; exact bit, fun i x hx => ?_⟩
        have hi : i < D.length := by
          by_cases w : i < D.length
          · exact w
          · rw [List.getElem?_eq_none (by omega)] at hx; cases hx
        obtain ⟨g1, g2, g3, g4, g5⟩ := T.2.1 i x hx
        have m0 : I' (S.length + 1) i = I1 32 i := n3 0 i (by omega) hi
        have m1 : I' (S.length + 2) i = I1 33 i := n3 1 i (by omega) hi
        have m2 : I' (S.length + 3) i = I1 34 i := n3 2 i (by omega) hi
        have m3 : I' (S.length + 4) i = I1 35 i := n3 3 i (by omega) hi
        have m4 : I' (S.length + 5) i = I1 36 i := n3 4 i (by omega) hi
        rw [m0, m1, m2, m3, m4]
        exact ⟨g1, cdS_R g2 hs n4, cdS_R g3 hs n4, cdS_R g4 hs n4, g5⟩
      · rw [n2]; exact T.2.2
    · obtain ⟨x, hx, rx⟩ := hL t tl (by omega) e51 (by omega)
      refine ⟨x, by rw [hF9 t q]; exact hx, ext_rX hext (by omega) hN ho (fun a ha => hb a (by omega)) (fun D' hd => tk_fr' (kr _ (by omega) (by omega) (by omega) (by omega)) (fun i hi => kr _ (by omega) (by omega) (by omega) (by omega)) (fun i hi => kr _ (by omega) (by omega) (by omega) (by omega)) hd) rx⟩
  · obtain ⟨n, nx, p1, p2, p3, p4, p5, p6, p7⟩ := hP
    have F13 : ∀ q, F' 13 q = F 13 q := fun q => hF1 13 q (by omega) (by omega)
    refine ⟨n, nx, p1, p2, by rw [rs' 11 (by omega) (by omega)]; exact p3, by rw [r49 32 (by omega)]; exact p4, by rw [rs' 11 (by omega) (by omega)]; exact p5, fun q hq => ?_, fun i hi => ?_⟩
    · rw [F13]
      rcases p6 q hq with z | ⟨m', w', s', z1, z2, z3, z4, z5, z6⟩
      · exact .inl z
      · exact .inr ⟨m', w', s', z1, ext_Mo hext (by have := (hN m' (by omega)).1; omega) z2, z3, by rw [ho _ (by omega)]; exact z4, by rw [ho _ (by omega)]; exact z5, by rw [ho _ (by omega)]; exact z6⟩
    · rw [F13, rs' 12 (by omega) (by omega), row 63 (by omega) (by omega) (by omega) (by omega) (by omega) (fun j => by unfold scr; omega), kl 49 (by omega) (by omega)]
      obtain ⟨a1, ⟨m', w', s', z1, z2, z3, z4⟩, a2, a3⟩ := p7 i hi
      rcases p6 ((nx + 16 - n + i) % 16) (Nat.mod_lt _ (by omega)) with z | ⟨m2, w2, s2, x1, x2, x3, x4, x5, x6⟩
      · rw [z] at z1; cases z1
      · rw [x1] at z1; cases z1
        have := x2.2.2.2.1; rw [this] at z2; cases z2
        have := x2.2.2.2.2; rw [this] at z3; cases z3
        have nm := hN m' (by omega)
        exact ⟨a1, ⟨m', w', s', x1, by rw [hF1 m' 2 (by omega) (by omega)]; exact x2.2.2.2.1, by rw [hF1 m' 3 (by omega) (by omega)]; exact x2.2.2.2.2, rM_fr (hb _ (by omega)) (hb _ (by omega)) (hb _ (by omega)) z4⟩, a2, a3⟩
  · intro j hj
    rw [row 53 (by omega) (by omega) (by omega) (by omega) (by omega) (fun j => by unfold scr; omega), row 52 (by omega) (by omega) (by omega) (by omega) (by omega) (fun j => by unfold scr; omega), hF1 10 j (by omega) (by omega)]
    rcases hG.1 j hj with z | ⟨z, g⟩
    · exact .inl z
    · exact .inr ⟨z, ext_rG1 hext (by omega) (by omega) hS hN ho (fun a ha => hb a (by omega)) g⟩
  · intro t ht
    by_cases q : t = tl
    · exact .inr ⟨S.length, by rw [q]; exact hF9', s0⟩
    · rw [hF9 t q]
      rcases hG.2 t ht with z | ⟨x, z1, z2⟩
      · exact .inl z
      · exact .inr ⟨x, z1, hex _ _ z2⟩
theorem ok_8 {S : v_S} {I : v_I} {J : v_J} {F : v_F} (h : R S I J F) : op_8 R S I J F := by
  have h0 := h
  obtain ⟨hS, hF, hC, hK, hT, hO, hD, hW, own, hN, hL, hP, hG⟩ := h
  have l71 : 71 < S.length := S_lt (hS 71 _ rfl)
  obtain ⟨n', tl, q1, q2, q3, q4, q5, q6, htl, e51, q9⟩ := id hK
  have e10 : I 1 10 = nI tl := by rw [← e51]; exact hC.2.2.2.2.2.2.2.2.2.2.1
  obtain ⟨p1, p2, p3, p4, p5, p6, p7, p8, p9⟩ := id hO
  unfold op_8 f_X9_law
  rw [p_obS hS (a := 0) (kd := 9) rfl, p_bs, p_FS hF (a := 0) (i := 0) (b := 1) (by decide), p_bs, p_obS hS (a := 1) (kd := 0) rfl, p_bs]
  by_cases h6 : tl = 6
  · -- no LAW more
    subst h6
    rw [if_neg (show ¬ I 1 10 < 6 by rw [e10]; decide), p_le, s_X9_refuse hS hF, c_ref5, p_bs]
    generalize hK1 : v_up (v_up (v_up I 0 8 0) 0 14 (-5)) 48 3 (v_up I 0 8 0 48 3 + 1) = K1
    refine ⟨(-5, S, K1, F), (-5, v_up (v_up (v_up K1 49 13 0) 49 0 (-5)) 50 5 (v_up K1 49 13 0 50 5 + 1)), rfl, ?_, rfl, hS, ?_⟩
    · dsimp only
      rw [s_X10_law hS hF]
      unfold h_X10_law
      rw [if_pos (show K1 51 51 = 6 by rw [← hK1, w_row _ _ _ _ (by decide), w_row _ _ _ _ (by decide), w_row _ _ _ _ (by decide), e51]; rfl), p_le, m_ref5, p_bs]
    · dsimp only
      rw [← hK1]
      refine R_end h0 (fun a j g1 g2 g3 g4 g5 => ?_) ?_ ?_ ?_
      · rw [v_up_ne _ _ (by omega), v_up_ne _ _ (by omega), v_up_ne _ _ (by omega), v_up_ne _ _ (by omega), v_up_ne _ _ (by omega), v_up_ne _ _ (by omega)]
      · simp [v_up]
      · simp [v_up]
      · simp [rO, v_up, p2, p3, p4, p5, p6, p7, p8, p9]
  · have hlt : tl < 6 := by omega
    obtain ⟨b, n, hn, t1, t2, hb⟩ := tape_b hT
    have C := c_rdc (I := I) (b := b) false hS hF hn (fun i hi => ⟨(hb i hi).1, (hb i hi).2.1⟩)
    rw [show bI false = (0 : Int32) from rfl] at C
    have M : ∀ I2 : v_I, I2 49 13 = nI n → I2 55 = I 55 → I2 56 = I 56 → _ := fun I2 g1 g2 g3 => m_rd (I := I2) (b := b) false hn g1 (by intro i hi; rw [g2]; exact hW i hi) (fun i hi => by rw [g3]; exact ⟨(hb i hi).1, (hb i hi).2.2⟩)
    rw [show bI false = (0 : Int32) from rfl] at M
    have hz := tL_le b (z := n)
    rw [if_pos (show I 1 10 < 6 by rw [e10]; exact i_lt rfl (b := 6) rfl hlt (by omega)), p_FS hF (a := 0) (i := 9) (b := 30) (by decide), p_bs, p_FS hF (a := 0) (i := 7) (b := 29) (by decide), p_bs, p_obS hS (a := 30) (kd := 6) rfl, p_bs, s_X6_read hS hF, t1]
    cases ht : sp_text (tC b n) (tV b n) false (tL b n).length with
    | inl e =>
      obtain ⟨I1, a1, f1⟩ := C.1 e ht
      have hx : nI (tP b n e) ≠ -1 := nI_ne _ (by have := tP_le (b := b) (z := n) e; omega)
      rw [a1, p_bs]
      dsimp only
      rw [p_le, p_le, if_neg (show ¬ v_up (v_up I1 0 16 (nI (tP b n e))) 0 8 0 0 16 = -1 by rw [w_ne _ _ _ _ (by decide), w_at]; exact hx), s_X9_refuse hS hF, c_ref6, p_bs]
      have s48 : v_up (v_up I1 0 16 (nI (tP b n e))) 0 8 0 48 4 = I 48 4 := by rw [w_row _ _ _ _ (by decide), w_row _ _ _ _ (by decide), f1 48 4 (by unfold scr; omega)]
      rw [s48]
      have u0 : ∀ a j, ¬ scr a j → a ≠ 0 → a ≠ 48 → v_up (v_up (v_up (v_up I1 0 16 (nI (tP b n e))) 0 8 0) 0 14 (-6)) 48 4 (I 48 4 + 1) a j = I a j := fun a j g1 g2 g3 => by
        rw [w_row _ _ _ _ g3, w_row _ _ _ _ g2, w_row _ _ _ _ g2, w_row _ _ _ _ g2, f1 a j g1]
      have u8 : v_up (v_up (v_up (v_up I1 0 16 (nI (tP b n e))) 0 8 0) 0 14 (-6)) 48 4 (I 48 4 + 1) 0 8 = 0 := by simp [v_up]
      have u14 : v_up (v_up (v_up (v_up I1 0 16 (nI (tP b n e))) 0 8 0) 0 14 (-6)) 48 4 (I 48 4 + 1) 0 14 = -6 := by simp [v_up]
      have u16 : v_up (v_up (v_up (v_up I1 0 16 (nI (tP b n e))) 0 8 0) 0 14 (-6)) 48 4 (I 48 4 + 1) 0 16 = nI (tP b n e) := by simp [v_up]
      have uo : ∀ j, j ≠ 8 → j ≠ 14 → j ≠ 16 → v_up (v_up (v_up (v_up I1 0 16 (nI (tP b n e))) 0 8 0) 0 14 (-6)) 48 4 (I 48 4 + 1) 0 j = I 0 j := fun j g1 g2 g3 => by
        rw [w_row _ _ _ _ (by decide), w_ne _ _ _ _ g2, w_ne _ _ _ _ g1, w_ne _ _ _ _ g3, f1 0 j (by unfold scr; omega)]
      have u48 : ∀ j, j ≠ 4 → v_up (v_up (v_up (v_up I1 0 16 (nI (tP b n e))) 0 8 0) 0 14 (-6)) 48 4 (I 48 4 + 1) 48 j = I 48 j := fun j g => by
        rw [w_ne _ _ _ _ g, w_row _ _ _ _ (by decide), w_row _ _ _ _ (by decide), w_row _ _ _ _ (by decide), f1 48 j (by unfold scr; omega)]
      have u484 : v_up (v_up (v_up (v_up I1 0 16 (nI (tP b n e))) 0 8 0) 0 14 (-6)) 48 4 (I 48 4 + 1) 48 4 = I 48 4 + 1 := w_at _ _ _ _
      generalize v_up (v_up (v_up (v_up I1 0 16 (nI (tP b n e))) 0 8 0) 0 14 (-6)) 48 4 (I 48 4 + 1) = I2 at u0 u8 u14 u16 uo u48 u484
      obtain ⟨I3, m1, m2, m3, m4⟩ := (M I2 (by rw [u0 49 13 (by unfold scr; omega) (by omega) (by omega)]; exact t2) (funext fun j => u0 55 j (by unfold scr; omega) (by omega) (by omega)) (funext fun j => u0 56 j (by unfold scr; omega) (by omega) (by omega))).1 e ht
      have v0 : ∀ a j, a ≠ 49 → ¬ (58 ≤ a ∧ a ≤ 60) → I3 a j = I2 a j := fun a j g1 g2 => m4 a j (by omega) g2
      refine ⟨(-6, S, I2, F), (-6, v_up (v_up I3 49 0 (-6)) 50 6 (I3 50 6 + 1)), rfl, ?_, rfl, hS, ?_⟩
      · dsimp only
        rw [s_X10_law hS hF]
        unfold h_X10_law
        rw [if_neg (show ¬ I2 51 51 = 6 by rw [u0 51 51 (by unfold scr; omega) (by omega) (by omega), e51]; exact fun w => h6 ((nI_eq (b := 6) (by omega) (by omega)).mp w)), m1, p_bs]
        dsimp only
        rw [if_pos rfl, m_ref6, p_bs]
      · dsimp only
        refine R_end h0 (fun a j g1 g2 g3 g4 g5 => ?_) ?_ ?_ ?_
        · rw [v_up_ne _ _ (by omega), v_up_ne _ _ (by omega)]
          have hg : ¬ (58 ≤ a ∧ a ≤ 60) := by unfold scr at g1; omega
          have h49 : ¬ (a = 49 ∧ ((8 ≤ j ∧ j ≤ 10) ∨ j = 13 ∨ j = 14 ∨ (18 ≤ j ∧ j ≤ 21))) := by unfold scr at g1; omega
          rw [m4 a j h49 hg]
          by_cases w : a = 0
          · subst w; exact uo j (by omega) (by omega) (by omega)
          · exact u0 a j g1 w g3
        · rw [w_row _ _ _ _ (by decide), w_row _ _ _ _ (by decide), v0 0 8 (by omega) (by omega)]; exact u8
        · rw [w_row _ _ _ _ (by decide), w_ne _ _ _ _ (by decide)]; exact m3
        · have i50 : ∀ j, I3 50 j = I 50 j := fun j => by rw [v0 50 j (by omega) (by omega), u0 50 j (by unfold scr; omega) (by omega) (by omega)]
          have i49 : ∀ j, j = 6 ∨ j = 38 → I3 49 j = I 49 j := fun j g => by rw [m4 49 j (by omega) (by omega), u0 49 j (by unfold scr; omega) (by omega) (by omega)]
          have i48 : ∀ j, I3 48 j = I2 48 j := fun j => v0 48 j (by omega) (by omega)
          have i0 : ∀ j, I3 0 j = I2 0 j := fun j => v0 0 j (by omega) (by omega)
          simp [rO, v_up, i0, i48, i49, i50, u14, u16, u484, u48, uo, m2, p2, p3, p4, p5, p6, p7, p9]
    | inr D =>
      obtain ⟨I1, s, a1, f1, T, hs, e1, bit⟩ := C.2 D ht
      rw [a1, p_bs]
      dsimp only
      have hD12 := text_len ht
      rw [p_le, p_le, if_pos (show v_up (v_up I1 0 16 (-1)) 0 8 0 0 16 = -1 by rw [w_ne _ _ _ _ (by decide), w_at]), p_bs, p_bs, p_obS hS (a := 30) (kd := 6) rfl, p_bs, p_FS hF (a := 30) (i := 0) (b := 31) (by decide), p_bs, p_obS hS (a := 31) (kd := 8) rfl, p_bs]
      have A31 : v_up (v_up I1 0 16 (-1)) 0 8 0 31 = I1 31 := by rw [w_row _ _ _ _ (by decide), w_row _ _ _ _ (by decide)]
      have Ar : ∀ a, a ≠ 0 → v_up (v_up I1 0 16 (-1)) 0 8 0 a = I1 a := fun a g => by rw [w_row _ _ _ _ g, w_row _ _ _ _ g]
      have A0 : ∀ j, j ≠ 8 → j ≠ 16 → v_up (v_up I1 0 16 (-1)) 0 8 0 0 j = I1 0 j := fun j g1 g2 => by rw [w_ne _ _ _ _ g1, w_ne _ _ _ _ g2]
      have A8 : v_up (v_up I1 0 16 (-1)) 0 8 0 0 8 = 0 := w_at _ _ _ _
      have A16 : v_up (v_up I1 0 16 (-1)) 0 8 0 0 16 = -1 := by rw [w_ne _ _ _ _ (by decide), w_at]
      generalize v_up (v_up I1 0 16 (-1)) 0 8 0 = A at A31 Ar A0 A8 A16
      obtain ⟨S', I7, F7, b1, b2, b3, b4, b5, b6, b7, b8, b9, b10, b11, b12, b13⟩ := c_trim (I := A) hS hF hD12 hs (by rw [A31]; exact T.1) (by rw [A31]; exact e1) (by rw [A31]; exact bit)
      have hS' : p_SS S' := fun a q hh => b3 _ _ (hS a q hh)
      have c11 : I7 1 10 = nI tl := by rw [b7 1 (by omega), Ar 1 (by omega), f1 1 10 (by unfold scr; omega)]; exact e10
      have hF8 : p_FF (v_up F7 9 tl (some S.length)) := by
        have d : ∀ q ∈ p_FT, q.1 ≠ 9 ∧ q.1 < 72 := by decide
        intro q hq
        have := d q hq
        rw [w_row _ _ _ _ this.1, b12 q.1 _ (by omega)]
        exact hF q hq
      have add : f_X0_addLaw S' I7 F7 1 S.length = some (nI tl, v_up I7 1 10 (nI (tl + 1)), v_up F7 9 tl (some S.length)) := by
        unfold f_X0_addLaw
        rw [p_obS hS' (a := 1) (kd := 0) rfl, p_bs, p_le, c11, if_pos (show nI tl < 6 from i_lt rfl (b := 6) rfl hlt (by omega)), b12 1 11 (by omega), p_FS hF (a := 1) (i := 11) (b := 9) (by decide), p_bs, p_ixS hS' (kd := 24) (a := 9) (n := 6) rfl, p_in_nI hlt (by omega), p_bs, show p_oq S' 8 (some S.length) = some () from p_obA (kd := 8) b4, p_bs, p_le, p_le, ← nI_succ]
      rw [b1, p_bs]
      dsimp only
      rw [p_obS hS' (a := 1) (kd := 0) rfl, p_bs, add, p_bs]
      dsimp only
      rw [p_obS hS' (a := 0) (kd := 9) rfl, p_bs, s_X9_accept hS' hF8, c_accept, p_bs]
      have K0 : ∀ a, a ≠ 0 → a ≠ 1 → v_up (v_up I7 1 10 (nI (tl + 1))) 0 14 0 a = I7 a := fun a g1 g2 => by rw [w_row _ _ _ _ g1, w_row _ _ _ _ g2]
      have K00 : ∀ j, j ≠ 14 → v_up (v_up I7 1 10 (nI (tl + 1))) 0 14 0 0 j = I7 0 j := fun j g => by rw [w_ne _ _ _ _ g, w_row _ _ _ _ (by decide)]
      have K014 : v_up (v_up I7 1 10 (nI (tl + 1))) 0 14 0 0 14 = 0 := w_at _ _ _ _
      have K1 : ∀ j, j ≠ 10 → v_up (v_up I7 1 10 (nI (tl + 1))) 0 14 0 1 j = I7 1 j := fun j g => by rw [w_row _ _ _ _ (by decide), w_ne _ _ _ _ g]
      have K110 : v_up (v_up I7 1 10 (nI (tl + 1))) 0 14 0 1 10 = nI (tl + 1) := by rw [w_row _ _ _ _ (by decide), w_at]
      generalize v_up (v_up I7 1 10 (nI (tl + 1))) 0 14 0 = K at K0 K00 K014 K1 K110
      have KI : ∀ a j, a < S.length → a ≠ 0 → a ≠ 1 → ¬ scr a j → K a j = I a j := fun a j g1 g2 g3 g4 => by rw [K0 a g2 g3, b7 a g1, Ar a g2, f1 a j g4]
      obtain ⟨I3, m1, m2, m3, m4, m5⟩ := (M K (by rw [KI 49 13 (by omega) (by omega) (by omega) (by unfold scr; omega)]; exact t2) (funext fun j => KI 55 j (by omega) (by omega) (by omega) (by unfold scr; omega)) (funext fun j => KI 56 j (by omega) (by omega) (by omega) (by unfold scr; omega))).2 D ht
      obtain ⟨I4, n1, n2, n3, n4⟩ := m_lay (I := I3) (t := tl) (by omega) (show (tL b n).length ≤ 400 by omega) m4
      have i3 : I3 51 51 = nI tl := by rw [m3.2 51 51 (by omega) (by omega), KI 51 51 (by omega) (by omega) (by omega) (by unfold scr; omega)]; exact e51
      have i4 : I4 51 51 = nI tl := by rw [n4 51 51 (by omega)]; exact i3
      refine ⟨(nI tl, S', K, v_up F7 9 tl (some S.length)), (nI tl, v_up (v_up I4 51 51 (nI (tl + 1))) 49 0 0), rfl, ?_, rfl, hS', ?_⟩
      · dsimp only
        rw [s_X10_law hS' hF8]
        unfold h_X10_law
        rw [if_neg (show ¬ K 51 51 = 6 by rw [KI 51 51 (by omega) (by omega) (by omega) (by unfold scr; omega), e51]; exact fun w => h6 ((nI_eq (b := 6) (by omega) (by omega)).mp w)), m1, p_bs]
        dsimp only
        rw [if_neg (by decide), i3, n1, p_bs, p_le, i4, ← nI_succ, m_good, p_bs, w_at, nI_pred]
      · dsimp only
        have W : ∀ a, a ≠ 49 → a ≠ 51 → v_up (v_up I4 51 51 (nI (tl + 1))) 49 0 0 a = I4 a := fun a g1 g2 => by rw [w_row _ _ _ _ g1, w_row _ _ _ _ g2]
        have W49 : ∀ j, j ≠ 0 → v_up (v_up I4 51 51 (nI (tl + 1))) 49 0 0 49 j = I4 49 j := fun j g => by rw [w_ne _ _ _ _ g, w_row _ _ _ _ (by decide)]
        have W490 : v_up (v_up I4 51 51 (nI (tl + 1))) 49 0 0 49 0 = 0 := w_at _ _ _ _
        have W51 : ∀ j, j ≠ 51 → v_up (v_up I4 51 51 (nI (tl + 1))) 49 0 0 51 j = I4 51 j := fun j g => by rw [w_row _ _ _ _ (by decide), w_ne _ _ _ _ g]
        have W551 : v_up (v_up I4 51 51 (nI (tl + 1))) 49 0 0 51 51 = nI (tl + 1) := by rw [w_row _ _ _ _ (by decide), w_at]
        generalize v_up (v_up I4 51 51 (nI (tl + 1))) 49 0 0 = I' at W W49 W490 W51 W551
        have V : ∀ a, a ≠ 49 → a ≠ 51 → ¬ (58 ≤ a ∧ a ≤ 60) → I' a = K a := fun a g1 g2 g3 => by
          rw [W a g1 g2]
          funext j
          rw [n4 a j (by omega), m3.2 a j (by omega) g3]
        have V7 : ∀ a, 72 ≤ a → I' a = I7 a := fun a g => by rw [V a (by omega) (by omega) (by omega), K0 a (by omega) (by omega)]
        refine R_lawn (I1 := I1) (own := own) (c := tC b n) (v := tV b n) h0 ⟨hN, hL, hP, hG⟩ hlt e51 b2 b3 b4 b5 b6 (fun a j g1 g2 => by rw [w_row _ _ _ _ g2, b12 a j g1]) (fun t g => by rw [w_ne _ _ _ _ g, b12 9 t (by omega)]) (w_at _ _ _ _) (fun i hi => by rw [w_row _ _ _ _ (by omega)]; exact b13 i hi) T hD12 hs bit ?_ ?_ (fun i j hi hj => ?_) (fun j hj => ?_) (fun a g1 g2 => ?_) (fun a j g1 g2 g3 g4 g5 g6 => ?_) (fun j g1 g2 g3 => ?_) (fun j g => ?_) (fun j g => ?_) ?_ W551 ?_ (show (tL b n).length ≤ 400 by omega) (fun i hi => ?_) (fun i hi => ?_) (fun i hi => ?_) (fun j g1 g2 g3 g4 => ?_) ht ?_ W490 ?_ ?_ ?_
        · rw [V7 _ (by omega)]; exact b8
        · rw [V7 _ (by omega), b9, A31]
        · rw [V7 _ (by omega), b10 i j hi hj, Ar _ (by omega)]
        · rw [V7 _ (by omega), b11 j hj, Ar _ (by omega)]
        · rw [V7 _ (by omega), b7 a g2, Ar a (by omega)]
          exact funext fun j => f1 a j (scr_big g1 j)
        · rw [V a g4 g5 (by unfold scr at g6; omega), KI a j (by omega) g2 g3 g6]
        · rw [V 0 (by omega) (by omega) (by omega), K00 j g2, b7 0 (by omega), A0 j g1 g3, f1 0 j (by unfold scr; omega)]
        · rw [V 1 (by omega) (by omega) (by omega), K1 j g, b7 1 (by omega), Ar 1 (by omega), f1 1 j (by unfold scr; omega)]
        · rw [W49 j (by omega), n4 49 j (by omega), m3.2 49 j (by omega) (by omega), KI 49 j (by omega) (by omega) (by omega) (by unfold scr; omega)]
        · rw [V 1 (by omega) (by omega) (by omega)]; exact K110
        · rw [W51 _ (by omega)]; exact n2
        · rw [W51 _ (by omega), W51 _ (by omega), (n3 i hi).1, (n3 i hi).2]
          exact m5 i (by omega)
        · unfold tC; rw [if_neg (by omega)]
        · unfold tV; rw [if_neg (by omega)]
        · rw [W51 j g1, n4 51 j (by omega), m3.2 51 j (by omega) (by omega), KI 51 j (by omega) (by omega) (by omega) (by unfold scr; omega)]
        · rw [V 0 (by omega) (by omega) (by omega)]; exact K014
        · rw [V 0 (by omega) (by omega) (by omega), K00 8 (by omega), b7 0 (by omega)]; exact A8
        · rw [W49 13 (by omega), n4 49 13 (by omega)]; exact m3.1
        · rw [V 0 (by omega) (by omega) (by omega), K00 16 (by omega), b7 0 (by omega), A16, W49 14 (by omega), n4 49 14 (by omega), m2]
end sp98l
