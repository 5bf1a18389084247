noncomputable section sp98s
/-! the model runs ORDERS -/
def Mi (I : v_I) (c v : Nat → Int32) (N n : Nat) (L : Option (List Cls)) (q : OX) (p : Nat) : Prop := I 51 = q.1.1 ∧ Bo I c v N n q.1.2.1 q.1.2.2 ∧ kM n q.1.1 ∧ mLw q.1.1 L ∧ mR I q.2 ∧ I 49 39 = nI (2400 + p)
def fru (I I' : v_I) : Prop := (∀ a j, a ≠ 51 → a ≠ 61 → a ≠ 62 → a ≠ 63 → ¬ (a = 49 ∧ (j = 32 ∨ (22 ≤ j ∧ j ≤ 25) ∨ j = 27 ∨ j = 28 ∨ (39 ≤ j ∧ j ≤ 43))) → I' a j = I a j) ∧ ∀ z, 18 ≤ z → I' 51 z = I 51 z
theorem fru_refl (I : v_I) : fru I I := ⟨fun _ _ _ _ _ _ _ => rfl, fun _ _ => rfl⟩
theorem fru_trans {I I' I'' : v_I} (h : fru I I') (h' : fru I' I'') : fru I I'' := ⟨fun a j q1 q2 q3 q4 q5 => (h'.1 a j q1 q2 q3 q4 q5).trans (h.1 a j q1 q2 q3 q4 q5), fun z hz => (h'.2 z hz).trans (h.2 z hz)⟩
theorem fru_go {I I' : v_I} (h : fgo I I') : fru I I' := ⟨fun a j _ _ _ _ q => h a j (by omega), fun z _ => h 51 z (by omega)⟩
theorem fru_up {I I' : v_I} (h : fru I I') {j : Nat} (hj : j = 27 ∨ (39 ≤ j ∧ j ≤ 43)) (x : Int32) : fru I (v_up I' 49 j x) := ⟨fun a i q1 q2 q3 q4 q5 => by rw [v_up_ne _ _ (by omega)]; exact h.1 a i q1 q2 q3 q4 q5, fun z hz => by rw [w_row _ _ _ _ (by decide)]; exact h.2 z hz⟩
theorem mLw_k {k k' : Nat → Int32} {L : Option (List Cls)} (h : mLw k L) (e : ∀ z, 18 ≤ z → k' z = k z) : mLw k' L := by
  rcases h with ⟨h1, h2⟩ | ⟨D, f, h1, h2, h3, h4⟩
  · exact .inl ⟨h1, by rw [e 52 (by omega)]; exact h2⟩
  · exact .inr ⟨D, f, h1, h2, by rw [e 52 (by omega)]; exact h3, tk_fr (fun i hi => e i (by omega)) h4⟩
theorem Mi_go {I I' : v_I} {c v : Nat → Int32} {N n : Nat} {L : Option (List Cls)} {q : OX} {p : Nat} (h : Mi I c v N n L q p) (g : fgo I I') : Mi I' c v N n L q p := by
  obtain ⟨h1, h2, h3, h4, h5, h6⟩ := h
  have e51 : I' 51 = I 51 := funext fun j => g 51 j (by omega)
  refine ⟨e51.trans h1, ?_, h3, h4, mR_fr h5 (g 49 32 (by omega)) (funext fun j => g 63 j (by omega)), by rw [g 49 39 (by omega)]; exact h6⟩
  unfold Bo
  rw [e51, g 49 27 (by omega), g 49 28 (by omega)]
  exact h2
theorem m_onceX {I : v_I} (J : v_J) {c v : Nat → Int32} {N n : Nat} {L : Option (List Cls)} {q : OX} {p nn : Nat} {r : Nat × Nat × Cls} (M : Mi I c v N n L q p) (hcl : sp_ord1 c v p nn = .inr r) {k : Nat} {w2 w3 : Int32} (hw2 : ¬ w2 ≤ nI k) :
    (∀ u, o1x L n r.2.2 q = some u → ∃ I' J', h_X10_runs_B19 (nI (2400 + N)) w2 w3 (nI k, I, J) = some (.inl (nI (k + 1), I', J')) ∧ Mi I' c v N n L u p ∧ fru I I') ∧
    (o1x L n r.2.2 q = none → ∃ I' J', h_X10_runs_B19 (nI (2400 + N)) w2 w3 (nI k, I, J) = some (.inr (0, (nI k, I', J'))) ∧ fru I I') := by
  have hw := wfO_ord1 hcl
  have hkd := kind_c hw
  obtain ⟨m1, m2, m3, m4, m5, m6⟩ := id M
  have hn := m2.2.2.2.2.1
  obtain ⟨I1, J1, g1, g2, g3, g4, g5, g6, g7, g8, g9⟩ := m_go J m2 m6 hcl (live := 1) (.inr rfl)
  obtain ⟨t1, t2, t3, t4⟩ := g8 rfl
  rw [m1] at t1 t2 t3 t4
  have M1 := Mi_go M g2
  obtain ⟨n1, n2, n3, n4, n5, n6⟩ := id M1
  unfold h_X10_runs_B19 h_X10_runs_J19_67
  dsimp only
  rw [if_neg hw2, g1, p_bs]
  dsimp only
  unfold o1x
  by_cases hh : d_holds (ov n q.1.1 q.1.2.1 q.1.2.2) r.2.2.2.2.2.1 = true
  · rw [if_pos hh] at t1
    rw [if_pos hh, if_neg (show ¬ I1 49 43 = 0 by rw [t1]; decide)]
    have bad : I1 49 42 = 0 → ac1 L n r.2.2.1 q.1 (sm (ov n q.1.1 q.1.2.1 q.1.2.2) r.2.2.2.1) (sm (ov n q.1.1 q.1.2.1 q.1.2.2) r.2.2.2.2.1) = none → (∀ u, ((ac1 L n r.2.2.1 q.1 (sm (ov n q.1.1 q.1.2.1 q.1.2.2) r.2.2.2.1) (sm (ov n q.1.1 q.1.2.1 q.1.2.2) r.2.2.2.2.1)).bind fun st => some (st, psh q.2 q.1.1 r.2.2.1)) = some u → ∃ I' J', ((if I1 49 42 = (0 : Int32) then some (.inr (0, (nI k, I1, J1))) else (h_X10_obeys I1 J1).bind fun r_12 => if (0 : Int32) ≤ r_12.1 then p_let (v_up r_12.2 49 27 ((r_12.2 49 27) + (1 : Int32))) fun I_15 => p_let (nI k + (1 : Int32)) fun x_17 => some (.inl (x_17, I_15, J1)) else some (.inr (0, (nI k, r_12.2, J1)))) : Option ((Int32 × v_I × v_J) ⊕ (Nat × (Int32 × v_I × v_J)))) = some (.inl (nI (k + 1), I', J')) ∧ Mi I' c v N n L u p ∧ fru I I') ∧
        (((ac1 L n r.2.2.1 q.1 (sm (ov n q.1.1 q.1.2.1 q.1.2.2) r.2.2.2.1) (sm (ov n q.1.1 q.1.2.1 q.1.2.2) r.2.2.2.2.1)).bind fun st => some (st, psh q.2 q.1.1 r.2.2.1)) = none → ∃ I' J', ((if I1 49 42 = (0 : Int32) then some (.inr (0, (nI k, I1, J1))) else (h_X10_obeys I1 J1).bind fun r_12 => if (0 : Int32) ≤ r_12.1 then p_let (v_up r_12.2 49 27 ((r_12.2 49 27) + (1 : Int32))) fun I_15 => p_let (nI k + (1 : Int32)) fun x_17 => some (.inl (x_17, I_15, J1)) else some (.inr (0, (nI k, r_12.2, J1)))) : Option ((Int32 × v_I × v_J) ⊕ (Nat × (Int32 × v_I × v_J)))) = some ((.inr (0, (nI k, I', J'))) : (Int32 × v_I × v_J) ⊕ (Nat × (Int32 × v_I × v_J))) ∧ fru I I') := by
      intro h42 hac
      rw [hac, if_pos h42]
      exact ⟨(fun u h => by cases h), fun _ => ⟨I1, J1, rfl, fru_go g2⟩⟩
    cases ea : sm (ov n q.1.1 q.1.2.1 q.1.2.2) r.2.2.2.1 with
    | none =>
      rw [ea] at bad t2
      refine bad ?_ rfl
      rw [t2, if_neg (fun e => by cases e.1)]
    | some a =>
      cases eb : sm (ov n q.1.1 q.1.2.1 q.1.2.2) r.2.2.2.2.1 with
      | none =>
        rw [ea, eb] at bad t2
        refine bad ?_ rfl
        rw [t2, if_neg (fun e => by cases e.2)]
      | some b =>
        rw [ea, eb, if_pos ⟨rfl, rfl⟩] at t2
        rw [if_neg (show ¬ I1 49 42 = 0 by rw [t2]; decide)]
        have wa := w32_e (sm_32 (fun d hd => (hw.1 d (.inl hd)).2) ea)
        have wb := w32_e (sm_32 (fun d hd => (hw.1 d (.inr hd)).2) eb)
        have ha : r.2.2.1 ≠ 3 → J1 70 0 = a.toInt32.toInt64 := by
          intro h3
          rw [wa]
          rcases hw.2.2.2 with ⟨_, ⟨d, hd⟩, _⟩ | ⟨_, ⟨d, hd⟩, _⟩ | ⟨h, _⟩
          · rw [hd] at ea; exact t3 d a hd ea
          · rw [hd] at ea; exact t3 d a hd ea
          · exact absurd h h3
        have hb : r.2.2.1 = 2 → J1 70 1 = b.toInt32.toInt64 := by
          intro h2
          rw [wb]
          rcases hw.2.2.2 with ⟨h, _⟩ | ⟨_, _, ⟨d, hd⟩⟩ | ⟨h, _⟩
          · rw [h2] at h; exact absurd h (by decide)
          · rw [hd] at eb; exact t4 d b hd eb
          · rw [h2] at h; exact absurd h (by decide)
        have X1 : mX I1 n L (I1 51) := ⟨rfl, hn, n2.2.2.2.2.2.1, n2.2.2.2.2.2.2.1, by rw [n1]; exact m4⟩
        have hh4 : (I1 49 41 = 22 ∧ r.2.2.1 = 2) ∨ (I1 49 41 = 20 ∧ r.2.2.1 = 0) ∨ (I1 49 41 = 21 ∧ r.2.2.1 = 1) ∨ (I1 49 41 = 24 ∧ r.2.2.1 = 3) := by rw [g7]; exact g9
        obtain ⟨O1, O2⟩ := m_obey (a := a.toInt32) (b := b.toInt32) X1 (by rw [n1]; exact m3) n5 hh4 ha hb
        rw [n1] at O1 O2
        have eac : ac1 L n r.2.2.1 q.1 (some a) (some b) = if can n q.1.1 r.2.2.1 a.toInt32 b.toInt32 = true then some (pf L n q.1.1 r.2.2.1 a.toInt32 b.toInt32, q.1.2.1 + 1, if r.2.2.1 = 3 then pcI (mn L n 0 q.1.1 0) else q.1.2.2) else none := rfl
        rw [eac]
        by_cases hc : can n q.1.1 r.2.2.1 a.toInt32 b.toInt32 = true
        · obtain ⟨rr, I2, o1, o2, o3, o4, o5, o6⟩ := O1 hc
          rw [if_pos hc, o1]
          simp only [p_bs]
          rw [if_pos o2]
          refine ⟨fun u h => ?_, (fun h => by cases h)⟩
          cases h
          have hkp := pf_kM (L := L) m3 hn hkd hc
          have hgp := pf_ge (L := L) hn hc
          have e27 : I2 49 27 = q.1.2.1 := by rw [o6 49 27 (by omega) (by omega) (by omega) (by omega) (by omega)]; exact n2.2.2.2.2.2.2.2.1
          rw [p_le, p_le, ← nI_succ, e27]
          have r51 : v_up I2 49 27 (q.1.2.1 + 1) 51 = pf L n q.1.1 r.2.2.1 a.toInt32 b.toInt32 := by rw [w_row _ _ _ _ (by decide)]; exact o3
          have fr2 : fru I1 (v_up I2 49 27 (q.1.2.1 + 1)) := by
            refine fru_up ⟨fun a j q1 q2 q3 q4 q5 => o6 a j q1 q2 q3 q4 (by omega), fun z hz => ?_⟩ (by omega) _
            rw [o3, hgp z hz, n1]
          refine ⟨_, _, rfl, ⟨r51, ?_, hkp, mLw_k m4 hgp, ?_, ?_⟩, fru_trans (fru_go g2) fr2⟩
          · obtain ⟨b1, b2, b3, b4, b5, b6, b7, b8, b9⟩ := m2
            rw [m1] at b2 b4 b6 b7
            refine ⟨b1, fun z hz => ?_, b3, fun z hz => ?_, b5, ?_, ?_, w_at _ _ _ _, ?_⟩
            · rw [r51, hgp _ (by omega)]; exact b2 z hz
            · rw [r51, hgp _ (by omega)]; exact b4 z hz
            · rw [r51, hgp _ (by omega)]; exact b6
            · rw [r51]; exact kB_of hkp hn b7 hgp
            · rw [w_ne _ _ _ _ (by decide), o5]
              dsimp only
              rw [n2.2.2.2.2.2.2.2.2]
          · exact mR_fr o4 (w_ne _ _ _ _ (by decide)) (w_row _ _ _ _ (by decide))
          · rw [w_ne _ _ _ _ (by decide), o6 49 39 (by omega) (by omega) (by omega) (by omega) (by omega)]; exact n6
        · obtain ⟨rr, o1, o2⟩ := O2 hc
          rw [if_neg hc, o1, p_bs]
          dsimp only
          rw [if_neg o2]
          exact ⟨(fun u h => by cases h), fun _ => ⟨I1, J1, rfl, fru_go g2⟩⟩
  · rw [if_neg hh] at t1
    rw [if_neg hh, if_pos t1, p_le, ← nI_succ]
    refine ⟨fun u h => ?_, (fun h => by cases h)⟩
    cases h
    exact ⟨I1, J1, rfl, M1, fru_go g2⟩
theorem m_timesX {c v : Nat → Int32} {N n : Nat} {L : Option (List Cls)} {p nn : Nat} {r : Nat × Nat × Cls} (hcl : sp_ord1 c v p nn = .inr r) {T : Nat} (hT : T ≤ 20) {w3 : Int32} : ∀ (f t m : Nat) (I : v_I) (J : v_J) (q : OX), t + f = T → f < m → Mi I c v N n L q p →
    (∀ u, oTx L n r.2.2 f q = some u → ∃ y I' J', v_loop (h_X10_runs_B19 (nI (2400 + N)) (nI T) w3) m (nI t, I, J) = some (1, (y, I', J')) ∧ Mi I' c v N n L u p ∧ fru I I') ∧
    (oTx L n r.2.2 f q = none → ∃ y I' J', v_loop (h_X10_runs_B19 (nI (2400 + N)) (nI T) w3) m (nI t, I, J) = some (0, (y, I', J')) ∧ fru I I') := by
  intro f
  induction f with
  | zero =>
    intro t m I J q ht hm M
    obtain ⟨m, rfl⟩ : ∃ k, m = k + 1 := ⟨m - 1, by omega⟩
    have : h_X10_runs_B19 (nI (2400 + N)) (nI T) w3 (nI t, I, J) = some (.inr (1, (nI t, I, J))) := by
      unfold h_X10_runs_B19
      dsimp only
      rw [if_pos (nI_le (by omega) (by omega))]
    refine ⟨fun u h => ?_, (fun h => by cases h)⟩
    cases h
    refine ⟨nI t, I, J, ?_, M, fru_refl I⟩
    simp only [v_loop, this]
  | succ f ih =>
    intro t m I J q ht hm M
    obtain ⟨m, rfl⟩ : ∃ k, m = k + 1 := ⟨m - 1, by omega⟩
    obtain ⟨D1, D2⟩ := m_onceX (w3 := w3) J M hcl (k := t) (w2 := nI T) (nI_ge (by omega) (by omega))
    unfold oTx
    cases ho : o1x L n r.2.2 q with
    | none =>
      obtain ⟨I', J', b1, b2⟩ := D2 ho
      refine ⟨(fun u h => by cases h), fun _ => ⟨nI t, I', J', ?_, b2⟩⟩
      simp only [v_loop, b1]
    | some u =>
      obtain ⟨I', J', b1, b2, b3⟩ := D1 u ho
      have e1 : v_loop (h_X10_runs_B19 (nI (2400 + N)) (nI T) w3) (m + 1) (nI t, I, J) = v_loop (h_X10_runs_B19 (nI (2400 + N)) (nI T) w3) m (nI (t + 1), I', J') := by simp only [v_loop, b1]
      rw [e1, p_bs]
      obtain ⟨k1, k2⟩ := ih (t + 1) m I' J' u (by omega) (by omega) b2
      refine ⟨fun u' h => ?_, fun h => ?_⟩
      · obtain ⟨y, I2, J2, c1, c2, c3⟩ := k1 u' h
        exact ⟨y, I2, J2, c1, c2, fru_trans b3 c3⟩
      · obtain ⟨y, I2, J2, c1, c2⟩ := k2 h
        exact ⟨y, I2, J2, c1, fru_trans b3 c2⟩
theorem m_runsX {I : v_I} (J : v_J) {c v : Nat → Int32} {N n : Nat} {L : Option (List Cls)} {q : OX} {p nn : Nat} {r : Nat × Nat × Cls} (M : Mi I c v N n L q p) (hcl : sp_ord1 c v p nn = .inr r) :
    (∀ u, oTx L n r.2.2 (r.2.2.2.2.2.2).toNatClampNeg q = some u → ∃ I' J', h_X10_runs I J (nI (2400 + N)) = some (1, I', J') ∧ Mi I' c v N n L u (r.1 + 1) ∧ fru I I') ∧
    (oTx L n r.2.2 (r.2.2.2.2.2.2).toNatClampNeg q = none → ∃ I' J', h_X10_runs I J (nI (2400 + N)) = some (0, I', J') ∧ fru I I') := by
  have hw := wfO_ord1 hcl
  obtain ⟨T, t1, t2, t3⟩ := hw.2.2.1
  obtain ⟨m1, m2, m3, m4, m5, m6⟩ := id M
  obtain ⟨I1, J1, g1, g2, g3, g4, g5, g6, g7, g8, g9⟩ := m_go J m2 m6 hcl (live := 0) (.inl rfl)
  have M1 := Mi_go M g2
  obtain ⟨k1, k2⟩ := m_timesX (N := N) (n := n) (L := L) hcl t2 (w3 := I1 49 22) T 0 FU I1 J1 q (by omega) (by rw [FU_eq]; omega) M1
  rw [show nI 0 = (0 : Int32) from rfl] at k1 k2
  rw [t3, nI_clamp (by omega)]
  unfold h_X10_runs
  rw [g1, p_bs]
  dsimp only
  rw [p_le, p_le, g4, t3]
  refine ⟨fun u h => ?_, fun h => ?_⟩
  · obtain ⟨y, I', J', a1, a2, a3⟩ := k1 u h
    rw [a1, p_bs, if_neg (show ¬ (1 : Nat) = 0 by decide), p_le, g3]
    obtain ⟨b1, b2, b3, b4, b5, b6⟩ := a2
    refine ⟨_, _, rfl, ⟨by rw [w_row _ _ _ _ (by decide)]; exact b1, Bo_up b2 (by decide) _, b3, b4, mR_fr b5 (w_ne _ _ _ _ (by decide)) (w_row _ _ _ _ (by decide)), w_at _ _ _ _⟩, fru_up (fru_trans (fru_go g2) a3) (by omega) _⟩
  · obtain ⟨y, I', J', a1, a2⟩ := k2 h
    rw [a1, p_bs, if_pos rfl]
    exact ⟨I', J', rfl, fru_trans (fru_go g2) a2⟩
theorem cll_pre {c v : Nat → Int32} {o : Bool} {z : Nat} : ∀ (f p n : Nat) (D0 D : List Cls), sp_cll c v o z f p n D0 = .inr D → ∃ E, D = D0 ++ E
  | 0, p, n, D0, D, h => by
    unfold sp_cll at h
    split at h
    · cases h
    · split at h
      · cases h
      · cases h; exact ⟨[], by simp⟩
  | f + 1, p, n, D0, D, h => by
    unfold sp_cll at h
    split at h
    · cases h2 : sp_cls c v o (p + 1) n with
      | inl e => rw [h2] at h; cases h
      | inr r =>
        rw [h2] at h
        obtain ⟨E, hE⟩ := cll_pre f r.1 r.2.1 (D0 ++ [r.2.2]) D h
        exact ⟨r.2.2 :: E, by rw [hE]; simp⟩
    · split at h
      · cases h
      · cases h; exact ⟨[], by simp⟩
theorem m_allX {c v : Nat → Int32} {N n : Nat} {L : Option (List Cls)} {w1 : Int32} (hN : N ≤ 400) (hc : cz c N) : ∀ (f p nn m : Nat) (D0 D E : List Cls) (I : v_I) (J : v_J) (q : OX), sp_cll c v true N f p nn D0 = .inr D → D = D0 ++ E → p ≤ N → f + 1 < m → Mi I c v N n L q (p + 1) →
    (∀ u, oRx L n E D0.length q = .inl u → ∃ y I' J' p', v_loop (h_X10_orders_B95 w1 (nI (2400 + N))) m (nI D0.length, I, J) = some (1, (y, I', J')) ∧ Mi I' c v N n L u p' ∧ fru I I') ∧
    (∀ e, oRx L n E D0.length q = .inr e → ∃ I' J', v_loop (h_X10_orders_B95 w1 (nI (2400 + N))) m (nI D0.length, I, J) = some (0, (nI e, I', J')) ∧ fru I I') := by
  have stop : ∀ (p m : Nat) (I : v_I) (J : v_J) (x : Int32) (q : OX), Mi I c v N n L q (p + 1) → N ≤ p → p ≤ N → v_loop (h_X10_orders_B95 w1 (nI (2400 + N))) (m + 1) (x, I, J) = some (1, (x, I, J)) := by
    intro p m I J x q M h1 h2
    have : h_X10_orders_B95 w1 (nI (2400 + N)) (x, I, J) = some (.inr (1, (x, I, J))) := by
      unfold h_X10_orders_B95
      dsimp only
      rw [if_pos (show nI (2400 + N) ≤ I 49 39 by rw [M.2.2.2.2.2]; exact nI_le (by omega) (by omega))]
    simp only [v_loop, this]
  intro f
  induction f with
  | zero =>
    intro p nn m D0 D E I J q h hE hp hm M
    obtain ⟨m, rfl⟩ : ∃ k, m = k + 1 := ⟨m - 1, by omega⟩
    unfold sp_cll at h
    split at h
    · cases h
    · split at h
      · cases h
      · cases h
        have : E = [] := by simpa using hE
        subst this
        refine ⟨fun u hu => ?_, (fun e he => by cases he)⟩
        cases hu
        exact ⟨_, I, J, _, stop p m I J _ q M (by omega) hp, M, fru_refl I⟩
  | succ f ih =>
    intro p nn m D0 D E I J q h hE hp hm M
    obtain ⟨m, rfl⟩ : ∃ k, m = k + 1 := ⟨m - 1, by omega⟩
    unfold sp_cll at h
    split at h
    · rename_i hc59
      have hlt := cz_lt' hc hc59 (by decide)
      cases h2 : sp_cls c v true (p + 1) nn with
      | inl e => rw [h2] at h; cases h
      | inr r =>
        rw [h2] at h
        dsimp only at h
        have hcl : sp_ord1 c v (p + 1) nn = .inr r := h2
        obtain ⟨E', hE'⟩ := cll_pre f r.1 r.2.1 (D0 ++ [r.2.2]) D h
        have eE : E = r.2.2 :: E' := by
          have : D0 ++ E = D0 ++ (r.2.2 :: E') := by rw [← hE, hE']; simp
          exact List.append_cancel_left this
        subst eE
        obtain ⟨I0, J0, g1, g2, g3, g4, g5, g6, _⟩ := m_go J M.2.1 M.2.2.2.2.2 hcl (live := 0) (.inl rfl)
        have e0 : h_X10_orders_B95 w1 (nI (2400 + N)) (nI D0.length, I, J) = (h_X10_runs I J (nI (2400 + N))).bind fun r_30 => if r_30.1 = (0 : Int32) then some (.inr (0, (nI D0.length, r_30.2.1, r_30.2.2))) else some (.inl (nI (D0.length + 1), r_30.2.1, r_30.2.2)) := by
          unfold h_X10_orders_B95
          dsimp only
          rw [if_neg (show ¬ nI (2400 + N) ≤ I 49 39 by rw [M.2.2.2.2.2]; exact nI_ge (by omega) (by omega))]
          simp only [p_le, ← nI_succ]
        obtain ⟨R1, R2⟩ := m_runsX J M hcl
        unfold oRx
        cases ho : oTx L n r.2.2 (r.2.2.2.2.2.2).toNatClampNeg q with
        | none =>
          obtain ⟨I', J', b1, b2⟩ := R2 ho
          refine ⟨(fun u hu => by cases hu), fun e he => ?_⟩
          cases he
          refine ⟨I', J', ?_, b2⟩
          rw [b1, p_bs] at e0
          dsimp only at e0
          rw [if_pos rfl] at e0
          simp only [v_loop, e0]
        | some u0 =>
          obtain ⟨I', J', b1, b2, b3⟩ := R1 u0 ho
          rw [b1, p_bs] at e0
          dsimp only at e0
          rw [if_neg (by decide)] at e0
          have e1 : v_loop (h_X10_orders_B95 w1 (nI (2400 + N))) (m + 1) (nI D0.length, I, J) = v_loop (h_X10_orders_B95 w1 (nI (2400 + N))) m (nI (D0.length + 1), I', J') := by simp only [v_loop, e0]
          rw [e1]
          obtain ⟨k1, k2⟩ := ih r.1 r.2.1 m (D0 ++ [r.2.2]) D E' I' J' u0 h hE' g5 (by omega) b2
          have hl : (D0 ++ [r.2.2]).length = D0.length + 1 := by simp
          rw [hl] at k1 k2
          refine ⟨fun u hu => ?_, fun e he => ?_⟩
          · obtain ⟨y, I2, J2, p', c1, c2, c3⟩ := k1 u hu
            exact ⟨y, I2, J2, p', c1, c2, fru_trans b3 c3⟩
          · obtain ⟨I2, J2, c1, c2⟩ := k2 e he
            exact ⟨I2, J2, c1, fru_trans b3 c2⟩
    · split at h
      · cases h
      · cases h
        have : E = [] := by simpa using hE
        subst this
        refine ⟨fun u hu => ?_, (fun e he => by cases he)⟩
        cases hu
        exact ⟨_, I, J, _, stop p m I J _ q M (by omega) hp, M, fru_refl I⟩
theorem m_textX {I : v_I} (J : v_J) {c v : Nat → Int32} {N n : Nat} {L : Option (List Cls)} {q : OX} {w1 : Int32} {D : List Cls} (h : sp_text c v true N = .inr D) (M : Mi I c v N n L q 0) :
    (∀ u, oRx L n D 0 q = .inl u → ∃ y I' J' p', v_loop (h_X10_orders_B95 w1 (nI (2400 + N))) FU ((0 : Int32), I, J) = some (1, (y, I', J')) ∧ Mi I' c v N n L u p' ∧ fru I I') ∧
    (∀ e, oRx L n D 0 q = .inr e → ∃ I' J', v_loop (h_X10_orders_B95 w1 (nI (2400 + N))) FU ((0 : Int32), I, J) = some (0, (nI e, I', J')) ∧ fru I I') := by
  obtain ⟨mfu, hFU⟩ : ∃ k, FU = k + 1 := ⟨FU - 1, by rw [FU_eq]⟩
  have hmfu : 12 < mfu := by have := FU_eq; omega
  unfold sp_text at h
  cases h2 : sp_cls c v true 0 0 with
  | inl e => rw [h2] at h; cases h
  | inr r =>
    rw [h2] at h
    dsimp only at h
    have hcl : sp_ord1 c v 0 0 = .inr r := h2
    obtain ⟨E, hE⟩ := cll_pre 11 r.1 r.2.1 [r.2.2] D h
    obtain ⟨I0, J0, g1, g2, g3, g4, g5, g6, _⟩ := m_go J M.2.1 M.2.2.2.2.2 hcl (live := 0) (.inl rfl)
    have hN := M.2.1.1
    have e0 : h_X10_orders_B95 w1 (nI (2400 + N)) ((0 : Int32), I, J) = (h_X10_runs I J (nI (2400 + N))).bind fun r_30 => if r_30.1 = (0 : Int32) then some (.inr (0, ((0 : Int32), r_30.2.1, r_30.2.2))) else some (.inl (nI 1, r_30.2.1, r_30.2.2)) := by
      unfold h_X10_orders_B95
      dsimp only
      rw [if_neg (show ¬ nI (2400 + N) ≤ I 49 39 by rw [M.2.2.2.2.2]; exact nI_ge (by omega) (by omega))]
      simp only [p_le]
      rfl
    obtain ⟨R1, R2⟩ := m_runsX J M hcl
    have eD : D = r.2.2 :: E := by rw [hE]; rfl
    rw [eD]
    unfold oRx
    cases ho : oTx L n r.2.2 (r.2.2.2.2.2.2).toNatClampNeg q with
    | none =>
      obtain ⟨I', J', b1, b2⟩ := R2 ho
      refine ⟨(fun u hu => by cases hu), fun e he => ?_⟩
      cases he
      refine ⟨I', J', ?_, b2⟩
      rw [b1, p_bs] at e0
      dsimp only at e0
      rw [if_pos rfl] at e0
      rw [hFU]
      simp only [v_loop, e0]
      rfl
    | some u0 =>
      obtain ⟨I', J', b1, b2, b3⟩ := R1 u0 ho
      rw [b1, p_bs] at e0
      dsimp only at e0
      rw [if_neg (by decide)] at e0
      have e1 : v_loop (h_X10_orders_B95 w1 (nI (2400 + N))) FU ((0 : Int32), I, J) = v_loop (h_X10_orders_B95 w1 (nI (2400 + N))) mfu (nI 1, I', J') := by
        rw [hFU]
        simp only [v_loop, e0]
      rw [e1]
      obtain ⟨k1, k2⟩ := m_allX (w1 := w1) hN M.2.1.2.2.1 11 r.1 r.2.1 mfu [r.2.2] D E I' J' u0 h hE g5 (by omega) b2
      refine ⟨fun u hu => ?_, fun e he => ?_⟩
      · obtain ⟨y, I2, J2, p', c1, c2, c3⟩ := k1 u hu
        exact ⟨y, I2, J2, p', c1, c2, fru_trans b3 c3⟩
      · obtain ⟨I2, J2, c1, c2⟩ := k2 e he
        exact ⟨I2, J2, c1, fru_trans b3 c2⟩
end sp98s
