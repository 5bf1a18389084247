noncomputable section sp90
def lwst (W : Nat → Nat) (t d x y : Nat) : Prop := nxc W t d x y ∧ ∀ z, z < y → ¬ nxc W t d x z
def cq (W : Nat → Nat) (t d f : Nat) : Nat → Nat
  | 0 => f
  | k + 1 => Classical.epsilon fun y => lwst W t (d - 1 - k) (cq W t d f k) y
theorem cq_ok {W : Nat → Nat} {n t d f : Nat} (hn : n ≤ 8) (hW : ∀ h, h < 8 → W h < 2 ^ n) (ht : t < n) (h : iL W t d f) : ∀ k, k ≤ d → iL W t (d - k) (cq W t d f k) ∧ (∀ i, i < k → lwst W t (d - 1 - i) (cq W t d f i) (cq W t d f (i + 1)))
  | 0, _ => ⟨h, fun i hi => absurd hi (Nat.not_lt_zero _)⟩
  | k + 1, hk => by
    obtain ⟨a, b⟩ := cq_ok hn hW ht h k (by omega)
    rw [show d - k = d - 1 - k + 1 by omega] at a
    obtain ⟨y, _, y2, y3⟩ := nxc_ex hn hW ht a
    have hex : ∃ y, lwst W t (d - 1 - k) (cq W t d f k) y := ⟨y, y2, y3⟩
    have sp : lwst W t (d - 1 - k) (cq W t d f k) (cq W t d f (k + 1)) := Classical.epsilon_spec hex
    refine ⟨by rw [show d - (k + 1) = d - 1 - k by omega]; exact sp.1.1, fun i hi => ?_⟩
    by_cases e2 : i = k
    · rw [e2]; exact sp
    · exact b i (by omega)
theorem c_low {S : v_S} {I : v_I} {F : v_F} {W : Nat → Nat} {n t d x y : Nat} (hn : n ≤ 8) (hW : ∀ h, h < 8 → W h < 2 ^ n ∧ I 6 h = nI (W h)) (ht : t < n) (hx : x < 8) (h : lwst W t d x y) : h_X5_lowestWatcher S I F (nI (ly W t d).1) (nI x) = some (nI y) := by
  have hW' : ∀ h, h < 8 → W h < 2 ^ n := fun h hh => (hW h hh).1
  have t256 := two_le hn
  have l := (ly_lt hn hW' ht d).1
  have hy := ly_n hn hW' ht h.1.1
  unfold h_X5_lowestWatcher
  have body : ∀ i, i < 8 → h_X5_lowestWatcher_B2 S I F (nI (ly W t d).1) (nI x) (nI i) = some (if (ly W t d).1.testBit i = true ∧ (W i).testBit x = true then .inr (0, nI i) else .inl (nI (i + 1))) := by
    intro i hi
    have w := hW i hi
    unfold h_X5_lowestWatcher_B2 h_X5_lowestWatcher_J2_33
    rw [if_neg (show ¬ (8 : Int32) ≤ nI i from i_nle (a := 8) rfl rfl (by omega) (by omega))]
    by_cases q1 : iL W t d i
    · rw [if_pos ((bit_c (by omega) hi).mpr q1), p_in_nI hi (by omega), p_bs, w.2]
      by_cases q2 : (W i).testBit x = true
      · rw [if_pos ((bit_c (by omega) hx).mpr q2), if_pos ⟨q1, q2⟩]
      · rw [if_neg (fun z => q2 ((bit_c (by omega) hx).mp z)), if_neg (fun z => q2 z.2), p_le, ← nI_succ]
    · rw [if_neg (fun z => q1 ((bit_c (by omega) hi).mp z)), if_neg (fun z => q1 z.1), p_le, ← nI_succ]
  have := v_loop_FU (body := h_X5_lowestWatcher_B2 S I F (nI (ly W t d).1) (nI x)) (fun i => nI i) (0, nI y) y (by omega) (fun i hi => by rw [body i (by omega)]; exact congrArg some (if_neg (h.2 i hi))) (by rw [body y (by omega)]; exact congrArg some (if_pos h.1))
  rw [show (0 : Int32) = (fun i => nI i) 0 from rfl, this, p_bs, if_pos rfl]
theorem m_next {I : v_I} {W : Nat → Nat} {n t d x y : Nat} {le : Nat → Nat} (hn : n ≤ 8) (hw : wtc (I 51) W n) (ht : t < n) (hx : x < n) (hle : ∀ a, a < n → I 66 a = nI (le a) ∧ (∀ d, iL W t d a → le a = d) ∧ ((∀ d, ¬ iL W t d a) → le a = 1000000)) (hd : iL W t (d + 1) x) (h : lwst W t d x y) : h_X10_nextInChain I (nI x) = some (nI y) := by
  have hW' : ∀ h, h < 8 → W h < 2 ^ n := fun h hh => (hw h hh).1
  have hy := ly_n hn hW' ht h.1.1
  have dn := ly_5 hn hW' ht hd
  unfold h_X10_nextInChain
  have body : ∀ i, i < n → h_X10_nextInChain_B2 I (nI x) (nI i) = some (if (ly W t d).1.testBit i = true ∧ (W i).testBit x = true then .inr (nI i) else .inl (nI (i + 1))) := by
    intro i hi
    unfold h_X10_nextInChain_B2 h_X10_nextInChain_J2_28
    rw [m_watches hn hw (by omega) (by omega), p_bs]
    by_cases q2 : (W i).testBit x = true
    · rw [if_pos q2, if_neg (by decide), p_in_nI (by omega) (by omega), p_bs, p_in_nI (by omega) (by omega), p_bs, (hle i hi).1, (hle x hx).1, (hle x hx).2.1 _ hd, nI_pred]
      by_cases q1 : iL W t d i
      · rw [(hle i hi).2.1 _ q1, if_pos rfl, if_pos ⟨q1, q2⟩]
      · rw [if_neg (c := (ly W t d).1.testBit i = true ∧ (W i).testBit x = true) (fun z => q1 z.1), if_neg, p_le, ← nI_succ]
        intro e
        have hl : le i ≤ 1000000 := by
          by_cases ex : ∃ d', iL W t d' i
          · obtain ⟨d', hd'⟩ := ex
            have := ly_5 hn hW' ht hd'
            rw [(hle i hi).2.1 d' hd']; omega
          · rw [(hle i hi).2.2 (fun d' hd' => ex ⟨d', hd'⟩)]; exact Nat.le_refl _
        have e' : le i = d := (nI_eq (by omega) (by omega)).mp e
        by_cases ex : ∃ d', iL W t d' i
        · obtain ⟨d', hd'⟩ := ex
          rw [(hle i hi).2.1 d' hd'] at e'
          rw [e'] at hd'
          exact q1 hd'
        · rw [(hle i hi).2.2 (fun d' hd' => ex ⟨d', hd'⟩)] at e'
          omega
    · rw [if_neg q2, if_pos rfl, if_neg (fun z => q2 z.2), p_le, ← nI_succ]
  have := v_loop_FU (body := h_X10_nextInChain_B2 I (nI x)) (fun i => nI i) (nI y) y (by omega) (fun i hi => by rw [body i (by omega)]; exact congrArg some (if_neg (h.2 i hi))) (by rw [body y hy]; exact congrArg some (if_pos h.1))
  rw [show (0 : Int32) = (fun i => nI i) 0 from rfl, this, p_bs]
theorem qop2 {S : v_S} {I : v_I} {J : v_J} {F : v_F} (h : R S I J F) {cl : Option (Int32 × v_I)} {md : v_I → Option (Int32 × v_I)} (hw : wp cl (fun r => fr I r.2 ∧ wp (md r.2) (fun q => r.1 = q.1 ∧ fr r.2 q.2))) :
    ∃ (r : Int32 × v_I) (q : Int32 × v_I), cl = some r ∧ md r.2 = some q ∧ r.1 = q.1 ∧ p_SS S ∧ R S q.2 J F := by
  obtain ⟨r, e1, f1, q, e2, e3, f2⟩ := hw
  exact ⟨r, q, e1, e2, e3, h.1, R_fr (fr_trans f1 f2) h⟩
theorem fr_1 {I I' : v_I} {x : Nat} (hx : ∀ j, scr x j) (h : ∀ a, a ≠ x → I' a = I a) : fr I I' := fun a j q => by
  rw [h a (by rintro rfl; exact q (hx j))]
theorem ok_26 {S : v_S} {I : v_I} {J : v_J} {F : v_F} (h : R S I J F) : op_26 R S I J F := by
  intro p1 p2 p3
  simp only [s_X9_chain h.1 h.2.1, s_X10_chain h.1 h.2.1]
  obtain ⟨n, W, hn, ek, hw⟩ := wt_of h.2.2.2.1
  have e10 : I 1 0 = nI n := by rw [h.2.2.1.2.1]; exact ek
  have hW6 : ∀ z, z < 8 → W z < 2 ^ n ∧ I 6 z = nI (W z) := fun z hz => ⟨(hw z hz).1, by rw [h.2.2.1.2.2.2.1 z hz]; exact (hw z hz).2⟩
  have hW' : ∀ z, z < 8 → W z < 2 ^ n := fun z hz => (hw z hz).1
  have s24 : ∀ j, scr 24 j := fun j => by unfold scr; omega
  have s66 : ∀ j, scr 66 j := fun j => by unfold scr; omega
  refine qop2 (md := fun I => h_X10_chain I p1 p2 p3) h ?_
  unfold h_X9_chain
  have bad : ∀ (I' : v_I), (h_X10_isOne I' p1 = some 0 ∨ (h_X10_isOne I' p1 = some 1 ∧ h_X10_isOne I' p2 = some 0)) → h_X10_chain I' p1 p2 p3 = some (-1, I') := by
    intro I' q
    unfold h_X10_chain
    rcases q with q | ⟨q1, q2⟩
    · rw [q, p_bs, if_pos rfl]
    · rw [q1, p_bs, if_neg (by decide), q2, p_bs, if_pos rfl]
  rcases one_cases p1 (n := n) hn with ⟨f, hf, rfl, u1, u2⟩ | ⟨u1, u2, _⟩
  · rw [u1 S I e10, p_bs, if_neg (by decide)]
    rcases one_cases p2 (n := n) hn with ⟨t, ht, rfl, v1, v2⟩ | ⟨v1, v2, _⟩
    · rw [v1 S I e10, p_bs, if_neg (by decide)]
      refine wp_seq (c_meas hn hW6 hf ht) fun r hr => ?_
      obtain ⟨r1, r2⟩ := hr
      have r51 : r.2 51 = I 51 := r2 51 (by omega)
      have frc : fr I r.2 := fr_1 s24 r2
      have one1 := u2 r.2 (by rw [r51]; exact ek)
      have one2 := v2 r.2 (by rw [r51]; exact ek)
      obtain ⟨Im, m1, ⟨le, hle⟩, m3⟩ := m_left (I := r.2) hn (by rw [r51]; exact hw) (by rw [r51]; exact ek) ht
      have frm : fr r.2 Im := fr_1 s66 m3
      have hle' : h_X10_chain r.2 (nI f) (nI t) p3 = if (-1 : Int32) ≤ p3 then (if (1000000 : Int32) ≤ Im 66 f then h_X10_chain_J44 Im (nI f) else if p3 = -1 then h_X10_chain_J44 Im (nI f) else (v_loop (h_X10_chain_B72 Im (nI t) p3) FU (nI f, 0)).bind fun q => if q.1 = 0 then some (-1, Im) else some (q.2.1, Im)) else some (-1, r.2) := by
        unfold h_X10_chain
        rw [one1, p_bs, if_neg (by decide), one2, p_bs, if_neg (by decide), m1]
        simp only [p_bs, p_in_nI (show f < 8 by omega) (show 8 < 2 ^ 31 by omega)]
      have j44 : h_X10_chain_J44 Im (nI f) = if Im 66 f < 1000000 then some (Im 66 f, Im) else some (-1, Im) := by
        unfold h_X10_chain_J44
        simp only [p_bs, p_in_nI (show f < 8 by omega) (show 8 < 2 ^ 31 by omega)]
      rcases r1 with ⟨d, d1, d2, d3⟩ | ⟨d1, d2⟩
      · have dn := ly_5 hn hW' ht d1
        have lef : Im 66 f = nI d := by rw [(hle f hf).1, (hle f hf).2.1 d d1]
        have cqs := cq_ok hn hW' ht d1
        by_cases hm1 : p3 = -1
        · rw [if_pos hm1]
          refine wp_some.mpr ⟨frc, ?_⟩
          dsimp only
          rw [hle', if_pos (by rw [hm1]; decide), lef, if_neg (show ¬ (1000000 : Int32) ≤ nI d from i_nle (a := 1000000) rfl rfl (by omega) (by omega)), if_pos hm1, j44, lef, if_pos (show nI d < (1000000 : Int32) from i_lt (b := 1000000) rfl rfl (by omega) (by omega))]
          exact wp_some.mpr ⟨d2, frm⟩
        · rw [if_neg hm1]
          unfold h_X5_member
          by_cases hneg : p3 < 0
          · rw [if_pos hneg, p_bs]
            refine wp_some.mpr ⟨frc, ?_⟩
            dsimp only
            have : ¬ (-1 : Int32) ≤ p3 := by
              intro q
              rw [Int32.lt_iff_toInt_lt] at hneg
              rw [Int32.le_iff_toInt_le] at q
              apply hm1
              rw [← Int32.toInt_inj]
              have e1 : (-1 : Int32).toInt = -1 := by decide
              have e2 : (0 : Int32).toInt = 0 := by decide
              omega
            rw [hle', if_neg this]
            exact wp_some.mpr ⟨rfl, fr_refl _⟩
          · obtain ⟨i, hi, rfl⟩ := nI_of hneg
            have hle1 : (-1 : Int32) ≤ nI i := by
              rw [Int32.le_iff_toInt_le, nI_toInt hi, show (-1 : Int32).toInt = -1 by decide]; omega
            rw [if_neg hneg, d2]
            -- the model's walk
            have walk : ∀ k, k < d → h_X10_chain_B72 Im (nI t) (nI i) (nI (cq W t d f k), nI k) = if i < k then some (.inr (1, (nI (cq W t d f k), nI k))) else some (.inl (nI (cq W t d f (k + 1)), nI (k + 1))) := by
              intro k hk
              unfold h_X10_chain_B72
              dsimp only
              by_cases hik : i < k
              · rw [if_pos (nI_lt hik (by omega)), if_pos hik]
              · rw [if_neg (nI_nlt (by omega) (by omega)), if_neg hik]
                obtain ⟨a1, _⟩ := cqs k (by omega)
                obtain ⟨_, a2⟩ := cqs (k + 1) (by omega)
                have hcn := ly_n hn hW' ht a1
                have hne : cq W t d f k ≠ t := fun e => by
                  rw [e] at a1
                  have := ly_2 hn hW' ht a1 (ly_0.mpr rfl)
                  omega
                rw [if_neg (fun e => hne ((nI_eq (by omega) (by omega)).mp e))]
                have a1' : iL W t (d - 1 - k + 1) (cq W t d f k) := by rw [show d - 1 - k + 1 = d - k by omega]; exact a1
                rw [m_next hn (by rw [m3 51 (by omega), r51]; exact hw) ht hcn hle a1' (a2 k (by omega)), p_bs, p_le, ← nI_succ]
            have at_d : h_X10_chain_B72 Im (nI t) (nI i) (nI (cq W t d f d), nI d) = if i < d then some (.inr (1, (nI (cq W t d f d), nI d))) else some (.inr (0, (nI (cq W t d f d), nI d))) := by
              unfold h_X10_chain_B72
              dsimp only
              obtain ⟨a1, _⟩ := cqs d (Nat.le_refl _)
              rw [Nat.sub_self] at a1
              rw [ly_0.mp a1]
              by_cases hik : i < d
              · rw [if_pos (nI_lt hik (by omega)), if_pos hik]
              · rw [if_neg (nI_nlt (by omega) (by omega)), if_neg hik, if_pos rfl]
            by_cases hid : d ≤ i
            · rw [if_pos (nI_le hid hi), p_bs]
              refine wp_some.mpr ⟨frc, ?_⟩
              dsimp only
              rw [hle', if_pos hle1, lef, if_neg (show ¬ (1000000 : Int32) ≤ nI d from i_nle (a := 1000000) rfl rfl (by omega) (by omega)), if_neg hm1]
              have := v_loop_FU (body := h_X10_chain_B72 Im (nI t) (nI i)) (fun k => (nI (cq W t d f k), nI k)) (0, (nI (cq W t d f d), nI d)) d (by omega) (fun k hk => by rw [walk k hk, if_neg (by omega)]) (by rw [at_d, if_neg (by omega)])
              rw [show (nI f, (0 : Int32)) = (fun k => (nI (cq W t d f k), nI k)) 0 from rfl, this, p_bs, if_pos rfl]
              exact wp_some.mpr ⟨rfl, frm⟩
            · rw [if_neg (nI_ge (by omega) (by omega)), if_pos (show nI d ≤ (8 : Int32) from i_le (b := 8) rfl rfl (by omega) (by omega))]
              have cw := v_loop_FU (body := h_X5_member_B25 S r.2 F (nI d) (nI i)) (fun k => (nI (cq W t d f k), nI k)) (nI (cq W t d f (i + 1)), nI (i + 1)) (i + 1) (by omega) (fun k hk => by
                obtain ⟨a1, _⟩ := cqs k (by omega)
                obtain ⟨_, a2⟩ := cqs (k + 1) (by omega)
                have hcn := ly_n hn hW' ht a1
                unfold h_X5_member_B25
                dsimp only
                have hidx : nI d - 1 - nI k = nI (d - 1 - k) := by
                  obtain ⟨d', rfl⟩ : ∃ d', d = d' + 1 := ⟨d - 1, by omega⟩
                  rw [nI_pred, nI_sub (by omega), show d' + 1 - 1 - k = d' - k by omega]
                rw [if_neg (nI_nlt (by omega) (by omega)), hidx, p_in_nI (by omega) (by omega), p_bs, d3 (d - 1 - k) (by omega), c_low hn (fun z hz => ⟨(hW6 z hz).1, by rw [r2 6 (by omega)]; exact (hW6 z hz).2⟩) ht (by omega) (a2 k (by omega)), p_bs, p_le, ← nI_succ]) (by
                unfold h_X5_member_B25
                dsimp only
                rw [if_pos (nI_lt (by omega) (by omega))])
              rw [show (nI f, (0 : Int32)) = (fun k => (nI (cq W t d f k), nI k)) 0 from rfl, cw, p_bs, p_bs]
              refine wp_some.mpr ⟨frc, ?_⟩
              dsimp only
              rw [hle', if_pos hle1, lef, if_neg (show ¬ (1000000 : Int32) ≤ nI d from i_nle (a := 1000000) rfl rfl (by omega) (by omega)), if_neg hm1]
              have stop : h_X10_chain_B72 Im (nI t) (nI i) (nI (cq W t d f (i + 1)), nI (i + 1)) = some (.inr (1, (nI (cq W t d f (i + 1)), nI (i + 1)))) := by
                by_cases e : i + 1 = d
                · rw [e, at_d, if_pos (by omega)]
                · rw [walk (i + 1) (by omega), if_pos (by omega)]
              have := v_loop_FU (body := h_X10_chain_B72 Im (nI t) (nI i)) (fun k => (nI (cq W t d f k), nI k)) (1, (nI (cq W t d f (i + 1)), nI (i + 1))) (i + 1) (by omega) (fun k hk => by rw [walk k (by omega), if_neg (by omega)]) stop
              rw [show (nI f, (0 : Int32)) = (fun k => (nI (cq W t d f k), nI k)) 0 from rfl, this, p_bs, if_neg (by omega)]
              exact wp_some.mpr ⟨rfl, frm⟩
      · have lef : Im 66 f = nI 1000000 := by rw [(hle f hf).1, (hle f hf).2.2 d1]
        have mdl : wp (h_X10_chain r.2 (nI f) (nI t) p3) (fun q => (-1 : Int32) = q.1 ∧ fr r.2 q.2) := by
          rw [hle']
          by_cases q : (-1 : Int32) ≤ p3
          · rw [if_pos q, lef, if_pos (by decide), j44, lef, if_neg (by decide)]
            exact wp_some.mpr ⟨rfl, frm⟩
          · rw [if_neg q]
            exact wp_some.mpr ⟨rfl, fr_refl _⟩
        by_cases hm1 : p3 = -1
        · rw [if_pos hm1]
          exact wp_some.mpr ⟨frc, by dsimp only; rw [d2]; exact mdl⟩
        · rw [if_neg hm1, d2]
          unfold h_X5_member
          by_cases hneg : p3 < 0
          · rw [if_pos hneg, p_bs]
            exact wp_some.mpr ⟨frc, mdl⟩
          · rw [if_neg hneg, if_pos (Int32.le_trans (by decide) (Int32.not_lt.mp hneg)), p_bs]
            exact wp_some.mpr ⟨frc, mdl⟩
    · rw [v1 S I e10, p_bs, if_pos rfl]
      exact wp_some.mpr ⟨fr_refl I, _, bad I (.inr ⟨u2 I ek, v2 I ek⟩), rfl, fr_refl I⟩
  · rw [u1 S I e10, p_bs, if_pos rfl]
    exact wp_some.mpr ⟨fr_refl I, _, bad I (.inl (u2 I ek)), rfl, fr_refl I⟩
end sp90
