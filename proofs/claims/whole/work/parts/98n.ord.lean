noncomputable section sp98n
theorem kB_of {n : Nat} {k K : Nat → Int32} (h : kM n k) (hn : n ≤ 8) (hK : kB K) (hge : ∀ z, 18 ≤ z → k z = K z) : kB k := by
  have tw := two_le hn
  obtain ⟨o, ho, e0⟩ := h.1
  exact ⟨⟨o, by omega, e0⟩, fun h hh => by rw [hge _ (by omega)]; exact hK.2 h hh⟩
/-! the class hears what the words of ORDERS stand for -/
theorem co_hear {S : v_S} {F : v_F} {I : v_I} {m w s n : Nat} {kk : Nat → Int32} (hS : p_SS S) (hF : p_FF F) (hMo : p_Mo S F m w s) (hm : m ≠ 42) (hw : w ≠ 42) (hs : s ≠ 42) (hM : rM I m w s kk) (hkB : kB kk) (hn : n ≤ 8) (h10 : I 1 0 = nI n) :
    ∃ I', f_X2_hear S I F 40 1 m = some I' ∧ ovA (I' 42) (ov n kk (I 40 0) (I 40 1)) ∧ ∀ a, a ≠ 42 → I' a = I a := by
  obtain ⟨o, ho, e0⟩ := id hkB.1
  obtain ⟨m1, m2, m3, m4⟩ := id hM
  let A : v_I := v_up (v_up (v_up (v_up I 42 6 (I m 1)) 42 9 (I 40 0)) 42 10 (I 40 1)) 42 4 (pcI (kk 0))
  have ar : ∀ a, a ≠ 42 → A a = I a := fun a h => by
    show v_up _ _ _ _ a = _
    rw [w_row _ _ _ _ h, w_row _ _ _ _ h, w_row _ _ _ _ h, w_row _ _ _ _ h]
  have a4 : A 42 4 = pcI (kk 0) := w_at _ _ _ _
  have a6 : A 42 6 = kk 17 := by
    show v_up _ _ _ _ 42 6 = _
    rw [w_ne _ _ _ _ (by decide), w_ne _ _ _ _ (by decide), w_ne _ _ _ _ (by decide), w_at, m2]
  have a9 : A 42 9 = I 40 0 := by
    show v_up _ _ _ _ 42 9 = _
    rw [w_ne _ _ _ _ (by decide), w_ne _ _ _ _ (by decide), w_at]
  have a10 : A 42 10 = I 40 1 := by
    show v_up _ _ _ _ 42 10 = _
    rw [w_ne _ _ _ _ (by decide), w_at]
  have e1 : f_X2_hear S I F 40 1 m = (v_loop (f_X2_hear_B42 S F 1 m 42) FU ((0 : Int32), A)).bind fun q_58 => some (q_58.2) := by
    unfold f_X2_hear
    rw [p_obS hS (a := 40) (kd := 2) rfl, p_bs, p_FS hF (a := 40) (i := 2) (b := 41) (by decide), p_bs, p_obS hS (a := 41) (kd := 7) rfl, p_bs, p_FS hF (a := 41) (i := 0) (b := 42) (by decide), p_bs, p_Mo_ob hMo, p_bs]
    simp only [p_ixS hS (a := 42) (kd := 20) (n := 36) rfl, show p_in 36 6 = some 6 by decide, show p_in 36 9 = some 9 by decide, show p_in 36 10 = some 10 by decide, show p_in 36 4 = some 4 by decide, p_bs, p_le, s_X3_openMany hS hF hMo]
    have h40 : ∀ (J : v_I) (j : Nat) (x : Int32), v_up J 42 j x 40 = J 40 := fun J j x => w_row _ _ _ _ (by decide)
    have hmm : ∀ (J : v_I) (j : Nat) (x : Int32), v_up J 42 j x m = J m := fun J j x => w_row _ _ _ _ hm
    unfold h_X3_openMany
    simp only [h40, hmm]
    rw [m1, e0, b_bc ho, p_bs, p_bs]
    show _ = (v_loop (f_X2_hear_B42 S F 1 m 42) FU ((0 : Int32), v_up (v_up (v_up (v_up I 42 6 (I m 1)) 42 9 (I 40 0)) 42 10 (I 40 1)) 42 4 (pcI (kk 0)))).bind fun q_58 => some (q_58.2)
    rw [e0, pcI_nI ho]
  rw [e1]
  generalize A = A at ar a4 a6 a9 a10
  have L : wp (v_loop (f_X2_hear_B42 S F 1 m 42) FU ((0 : Int32), A)) (fun q => (∀ a, a ≠ 42 → q.2 a = I a) ∧ ovA (q.2 42) (ov n kk (I 40 0) (I 40 1))) := by
    refine wp_loop (fun h st => st.1 = nI h ∧ (∀ a, a ≠ 42 → st.2 a = I a) ∧ (∀ j, j < 12 → st.2 42 j = A 42 j) ∧ ∀ u, u < h → st.2 42 (12 + u) = ov n kk (I 40 0) (I 40 1) (12 + u) ∧ st.2 42 (20 + u) = ov n kk (I 40 0) (I 40 1) (20 + u) ∧ st.2 42 (28 + u) = ov n kk (I 40 0) (I 40 1) (28 + u)) 8 (by omega) ⟨rfl, ar, fun _ _ => rfl, fun u hu => absurd hu (by omega)⟩ (fun h st hh hI => ?_)
    obtain ⟨x, B⟩ := st
    obtain ⟨rfl, i1, i2, i3⟩ := hI
    dsimp only at i1 i2 i3
    unfold f_X2_hear_B42
    dsimp only
    by_cases q : h < 8
    · have hadd : ∀ c : Nat, nI c + nI h = nI (c + h) := fun c => nI_add c h
      have step : ∀ x y t : Int32, x = ov n kk (I 40 0) (I 40 1) (12 + h) → y = ov n kk (I 40 0) (I 40 1) (20 + h) → t = ov n kk (I 40 0) (I 40 1) (28 + h) →
          wp (some (.inl (nI (h + 1), v_up (v_up (v_up B 42 (12 + h) x) 42 (20 + h) y) 42 (28 + h) t)) : Option ((Int32 × v_I) ⊕ (Int32 × v_I))) (fun r => match r with
            | .inl st => h < 8 ∧ st.1 = nI (h + 1) ∧ (∀ a, a ≠ 42 → st.2 a = I a) ∧ (∀ j, j < 12 → st.2 42 j = A 42 j) ∧ ∀ u, u < h + 1 → st.2 42 (12 + u) = ov n kk (I 40 0) (I 40 1) (12 + u) ∧ st.2 42 (20 + u) = ov n kk (I 40 0) (I 40 1) (20 + u) ∧ st.2 42 (28 + u) = ov n kk (I 40 0) (I 40 1) (28 + u)
            | .inr q => (∀ a, a ≠ 42 → q.2 a = I a) ∧ ovA (q.2 42) (ov n kk (I 40 0) (I 40 1))) := by
        intro x y t hx hy ht
        refine wp_some.mpr ⟨q, rfl, fun a ha => ?_, fun j hj => ?_, fun u hu => ?_⟩
        · dsimp only
          rw [w_row _ _ _ _ ha, w_row _ _ _ _ ha, w_row _ _ _ _ ha]; exact i1 a ha
        · dsimp only
          rw [w_ne _ _ _ _ (by omega), w_ne _ _ _ _ (by omega), w_ne _ _ _ _ (by omega)]; exact i2 j hj
        · dsimp only
          by_cases z : u = h
          · subst z
            refine ⟨?_, ?_, ?_⟩
            · rw [w_ne _ _ _ _ (by omega), w_ne _ _ _ _ (by omega), w_at]; exact hx
            · rw [w_ne _ _ _ _ (by omega), w_at]; exact hy
            · rw [w_at]; exact ht
          · obtain ⟨b1, b2, b3⟩ := i3 u (by omega)
            refine ⟨?_, ?_, ?_⟩
            · rw [w_ne _ _ _ _ (by omega), w_ne _ _ _ _ (by omega), w_ne _ _ _ _ (by omega)]; exact b1
            · rw [w_ne _ _ _ _ (by omega), w_ne _ _ _ _ (by omega), w_ne _ _ _ _ (by omega)]; exact b2
            · rw [w_ne _ _ _ _ (by omega), w_ne _ _ _ _ (by omega), w_ne _ _ _ _ (by omega)]; exact b3
      have ix : ∀ c : Nat, c + h < 36 → p_ix S 20 42 (nI c + nI h) = some (c + h) := fun c hc => by rw [hadd, p_ixS hS (a := 42) (kd := 20) (n := 36) rfl, p_in_nI hc (by decide)]
      have i12 : p_ix S 20 42 ((12 : Int32) + nI h) = some (12 + h) := ix 12 (by omega)
      have i20 : p_ix S 20 42 ((20 : Int32) + nI h) = some (20 + h) := ix 20 (by omega)
      have i28 : p_ix S 20 42 ((28 : Int32) + nI h) = some (28 + h) := ix 28 (by omega)
      rw [if_neg (show ¬ (8 : Int32) ≤ nI h from i_nle (a := 8) rfl rfl q (by omega)), p_obS hS (a := 1) (kd := 0) rfl, p_bs, s_X0_has hS hF, b_has, p_bs, i1 1 (by decide), h10]
      unfold f_X2_hear_J42_80 f_X2_hear_J42_103 f_X2_hear_J42_128
      have rm : ∀ (J : v_I) (j : Nat) (x : Int32), v_up J 42 j x m = J m := fun J j x => w_row _ _ _ _ hm
      have rs : ∀ (J : v_I) (j : Nat) (x : Int32), v_up J 42 j x s = J s := fun J j x => w_row _ _ _ _ hs
      by_cases z : h < n
      · rw [if_pos (show (0 : Int32) ≤ nI h ∧ nI h < nI n ∧ nI h < 8 from ⟨nI_pos' (by omega), nI_lt z (by omega), i_lt rfl (b := 8) rfl q (by omega)⟩)]
        simp only [if_neg (show ¬ (1 : Int32) = 0 by decide), p_Mo_ob hMo, p_bs, p_Mo_w hMo, p_Mo_s hMo, p_Mo_iw hMo, p_Mo_is hMo, p_in_nI q (show 8 < 2 ^ 31 by decide), i12, i20, i28, p_le, rm, rs, ← nI_succ]
        refine wp_mono (step _ _ _ ?_ ?_ ?_) (fun r h => by cases r <;> exact h)
        · rw [i1 w hw, m3 h q, ov_12 n kk _ _ q, if_pos z]
        · rw [i1 s hs, m4 h q, ov_20 n kk _ _ q, if_pos z]
        · rw [i1 m hm, m1, e0, b_bit h o q ho, ov_28 n kk _ _ q, if_pos z, e0, bt_nI ho]
          have := bit_tb o h
          by_cases y : o.testBit h = true
          · rw [if_pos y]; exact this.mpr y
          · rw [if_neg y]
            have y2 : ¬ nI (o / 2 ^ h % 2) = 1 := fun e => y (this.mp e)
            have : o / 2 ^ h % 2 = 0 ∨ o / 2 ^ h % 2 = 1 := by omega
            rcases this with e | e
            · rw [e]; rfl
            · rw [e] at y2; exact absurd rfl y2
      · rw [if_neg (show ¬ ((0 : Int32) ≤ nI h ∧ nI h < nI n ∧ nI h < 8) from fun e => absurd e.2.1 (nI_nlt (by omega) (by omega)))]
        simp only [if_true, i12, i20, i28, p_bs, p_le, ← nI_succ]
        refine wp_mono (step _ _ _ ?_ ?_ ?_) (fun r h => by cases r <;> exact h)
        · rw [ov_12 n kk _ _ q, if_neg z]
        · rw [ov_20 n kk _ _ q, if_neg z]
        · rw [ov_28 n kk _ _ q, if_neg z]
    · have : h = 8 := by omega
      subst this
      rw [if_pos (by decide)]
      refine wp_some.mpr ⟨i1, ?_, ?_, ?_, ?_, fun i g1 g2 => ?_⟩
      · dsimp only; rw [i2 4 (by omega), a4]; rfl
      · dsimp only; rw [i2 6 (by omega), a6]; rfl
      · dsimp only; rw [i2 9 (by omega), a9]; rfl
      · dsimp only; rw [i2 10 (by omega), a10]; rfl
      · dsimp only
        by_cases g3 : i < 20
        · have := (i3 (i - 12) (by omega)).1
          rw [show 12 + (i - 12) = i by omega] at this; exact this
        · by_cases g4 : i < 28
          · have := (i3 (i - 20) (by omega)).2.1
            rw [show 20 + (i - 20) = i by omega] at this; exact this
          · have := (i3 (i - 28) (by omega)).2.2
            rw [show 28 + (i - 28) = i by omega] at this; exact this
  obtain ⟨r, r1, r2, r3⟩ := L
  exact ⟨r.2, by rw [r1, p_bs], r3, r2⟩
/-! it reckons -/
theorem rk_41 {S : v_S} {F : v_F} (hS : p_SS S) (hF : p_FF F) : p_Rk S F 41 42 43 := p_RkC hS hF 41 42 43 rfl rfl rfl (by decide) (by decide)
theorem c_rkt {S : v_S} {F : v_F} {I : v_I} (J : v_J) {x : Int32} {d : Den} (hS : p_SS S) (hF : p_FF F) (h : cd_R (I 37) 436 x (some d)) : x ≠ -1 ∧ (∃ J', f_X7_reckon S I J F 41 31 x = some (brk (d (I 42)), J')) ∧ (brk (d (I 42)) = -1000000000000000 ↔ d (I 42) = none) ∧ (∀ y, d (I 42) = some y → brk (d (I 42)) = y) := by
  obtain ⟨p, hp, rfl, hr⟩ := h
  obtain ⟨r, r1, r2⟩ := c_reckon (S := S) (F := F) (I := I) J (r0 := 41) (rv := 42) (rs := 43) (hS 31 (8, 9) rfl) (p_FS hF (a := 31) (i := 8) (b := 37) (by decide)) (hS 37 (20, 436) rfl) (Nat.le_refl _) hp
  have e := brk_eq (hr (I 42))
  refine ⟨nI_ne p (by omega), ⟨r.2, ?_⟩, e.1, e.2⟩
  rw [s_X7_reckon hS hF (rk_41 hS hF), r1, ← hr (I 42), ← r2]
theorem c_sumAt {S : v_S} {F : v_F} {I : v_I} (J : v_J) {x : Int32} {o : Option Den} (hS : p_SS S) (hF : p_FF F) (h : cd_R (I 37) 436 x o) : (∃ J', f_X2_sumAt S I J F 40 31 x = some (brk (sm (I 42) o), J')) ∧ (brk (sm (I 42) o) = -1000000000000000 ↔ sm (I 42) o = none) ∧ (∀ y, sm (I 42) o = some y → brk (sm (I 42) o) = y) := by
  unfold f_X2_sumAt
  cases o with
  | none =>
    have : x = -1 := h
    rw [if_pos this]
    refine ⟨⟨J, rfl⟩, ⟨fun e => ?_, fun e => by cases e⟩, fun y e => by cases e; rfl⟩
    exact absurd (show (0 : Int64) = -1000000000000000 from e) (by decide)
  | some d =>
    obtain ⟨a1, ⟨J', a2⟩, a3⟩ := c_rkt (S := S) (F := F) J hS hF h
    rw [if_neg a1, p_obS hS (a := 40) (kd := 2) rfl, p_bs, p_FS hF (a := 40) (i := 2) (b := 41) (by decide), p_bs, p_obS hS (a := 41) (kd := 7) rfl, p_bs, a2, p_bs]
    exact ⟨⟨J', rfl⟩, a3⟩
/-! why not; what is done -/
theorem can_idx {n : Nat} {k : Nat → Int32} {kind p q : Int32} (h3 : kind ≠ 3) : can n k kind p q = true ↔ (kind = 2 → 0 ≤ q ∧ q ≤ 9) ∧ (0 ≤ p ∧ p < nI n) ∧ (kind = 1 → bt (k 0) p.toNatClampNeg = false) ∧ (kind = 2 → k (1 + p.toNatClampNeg) ≠ q) := by
  unfold can
  rw [if_neg h3]
  simp only [Bool.and_eq_true, decide_eq_true_eq]
  exact ⟨fun ⟨⟨⟨a, b⟩, c⟩, d⟩ => ⟨a, b, c, d⟩, fun ⟨a, b, c, d⟩ => ⟨⟨⟨a, b⟩, c⟩, d⟩⟩
theorem no_idx {n : Nat} {p : Int32} (hn : n ≤ 8) (h : ∀ k : Nat, k < n → p ≠ nI k) : ¬ (0 ≤ p ∧ p < nI n) := fun e => by
  obtain ⟨c, hc'⟩ := nI_of (Int32.not_lt.mpr e.1)
  have := e.2
  rw [hc'.2] at this
  exact h c ((nI_ltI hc'.1 (by omega)).mp this) hc'.2
theorem c_whyC {S : v_S} {F : v_F} {I : v_I} {m w s n : Nat} {kk : Nat → Int32} (hM : rM I m w s kk) (hkB : kB kk) (hn : n ≤ 8) (h10 : I 1 0 = nI n) {kind : Int32} (hk : kind = 0 ∨ kind = 1 ∨ kind = 2 ∨ kind = 3) (p q : Int32) : ∃ z, h_X0_whyNot S I F m w s kind p.toInt64 q.toInt64 = some z ∧ (z = 0 ↔ can n kk kind p q = true) := by
  obtain ⟨m1, m2, m3, m4⟩ := id hM
  obtain ⟨o, ho, e0⟩ := id hkB.1
  have p32 : p.toInt64.toInt32 = p := by simp
  rcases hk with rfl | rfl | rfl | rfl
  · rw [c_why0, can_idx (by decide)]
    rcases one_cases p hn with ⟨c, hc, rfl, u1, u2⟩ | ⟨u1, u2, u3⟩
    · refine ⟨0, by rw [u1 S I h10, p_bs, if_neg (by decide)], fun _ => ⟨fun e => absurd e (by decide), ⟨nI_pos' (by omega), nI_lt hc (by omega)⟩, fun e => absurd e (by decide), fun e => absurd e (by decide)⟩, fun _ => rfl⟩
    · refine ⟨-2, by rw [u1 S I h10, p_bs, if_pos rfl], fun e => absurd e (by decide), fun e => absurd e.2.1 (no_idx hn u3)⟩
  · rw [c_why1, can_idx (by decide)]
    rcases one_cases p hn with ⟨c, hc, rfl, u1, u2⟩ | ⟨u1, u2, u3⟩
    · have io : h_X3_isOpen S I m w s (nI c) = some (if bt (kk 0) c = true then 1 else 0) := by
        unfold h_X3_isOpen
        rw [m1, e0, b_bit c o (by omega) ho, bt_nI ho]
        simp only [bit_tb]
        split <;> rfl
      rw [u1 S I h10, p_bs, if_neg (by decide), p32, io, p_bs, nI_clamp (by omega)]
      cases hb : bt (kk 0) c with
      | true => exact ⟨-3, by rw [if_pos rfl, if_neg (by decide)], fun e => absurd e (by decide), fun e => absurd (e.2.2.1 rfl) (by decide)⟩
      | false => exact ⟨0, by rw [if_neg (show ¬ false = true by decide), if_pos rfl], fun _ => ⟨fun e => absurd e (by decide), ⟨nI_pos' (by omega), nI_lt hc (by omega)⟩, fun _ => rfl, fun e => absurd e (by decide)⟩, fun _ => rfl⟩
    · refine ⟨-2, by rw [u1 S I h10, p_bs, if_pos rfl], fun e => absurd e (by decide), fun e => absurd e.2.1 (no_idx hn u3)⟩
  · rw [c_why2, can_idx (by decide)]
    rcases upTo_cases q (q := 9) (m := 9) rfl (by omega) with ⟨j, hj, rfl, v1, v2⟩ | ⟨v1, v2, v3⟩
    · rw [v1, p_bs, if_neg (by decide)]
      rcases one_cases p hn with ⟨c, hc, rfl, u1, u2⟩ | ⟨u1, u2, u3⟩
      · rw [u1 S I h10, p_bs, if_neg (by decide), p32, p_in_nI (by omega) (by decide), p_bs, m3 c (by omega), nI_clamp (by omega)]
        by_cases e : kk (1 + c) = nI j
        · exact ⟨-3, by rw [if_pos (by rw [e])], fun z => absurd z (by decide), fun z => absurd e (z.2.2.2 rfl)⟩
        · exact ⟨0, by rw [if_neg (fun z => e (i64_inj.mp z))], fun _ => ⟨fun _ => ⟨nI_pos' (by omega), nI_le (b := 9) hj (by omega)⟩, ⟨nI_pos' (by omega), nI_lt hc (by omega)⟩, fun z => absurd z (by decide), fun _ => e⟩, fun _ => rfl⟩
      · exact ⟨-2, by rw [u1 S I h10, p_bs, if_pos rfl], fun e => absurd e (by decide), fun e => absurd e.2.1 (no_idx hn u3)⟩
    · exact ⟨-1, by rw [v1, p_bs, if_pos rfl], fun e => absurd e (by decide), fun e => absurd (e.1 rfl) v3⟩
  · rw [c_why3, m2]
    unfold can
    rw [if_pos rfl, decide_eq_true_eq]
    by_cases e : kk 17 < 999
    · exact ⟨0, if_pos e, fun _ => e, fun _ => rfl⟩
    · exact ⟨-3, if_neg e, fun z => absurd z (by decide), fun z => absurd z e⟩
theorem c_pfC {S : v_S} {I : v_I} {F : v_F} (J : v_J) {n m w s : Nat} {lw : Option Nat} {L : Option (List Cls)} {K kk : Nat → Int32} (hX : cX S I F n lw L K) (hB : mB m w s) (hM : rM I m w s kk) (hkB : kB kk) (hge : ∀ z, 18 ≤ z → kk z = K z) {kind : Int32} (hk : kind = 0 ∨ kind = 1 ∨ kind = 2 ∨ kind = 3) {p q : Int32} (hc : can n kk kind p q = true) :
    ∃ x I1 J1, h_X1_perform S I J F m w s kind p q = some (x, I1, J1) ∧ rM I1 m w s (pf L n kk kind p q) ∧ (kind = 3 → x = pcI (mn L n 0 kk 0)) ∧ ∀ a, a ≠ 16 → a ≠ 21 → a ≠ m → a ≠ w → a ≠ s → I1 a = I a := by
  have hn := hX.2.2.1
  by_cases h3 : kind = 3
  · subst h3
    obtain ⟨-, -, -, P⟩ := c_perf (c := 0) J hX hB hM hkB hge (by omega) q
    obtain ⟨x, I1, J1, a1, a2, a3, a4⟩ := P p
    exact ⟨x, I1, J1, a1, by unfold pf; rw [if_pos rfl]; exact a3, fun _ => a2, a4⟩
  · obtain ⟨c1, c2, c3, c4⟩ := (can_idx h3).mp hc
    obtain ⟨c, hc', rfl⟩ : ∃ c : Nat, c < n ∧ p = nI c := by
      obtain ⟨c, hc'⟩ := nI_of (Int32.not_lt.mpr c2.1)
      refine ⟨c, ?_, hc'.2⟩
      have := c2.2
      rw [hc'.2] at this
      exact (nI_ltI hc'.1 (by omega)).mp this
    obtain ⟨⟨x0, I0, a1, a2, a3, a4⟩, ⟨x1, I1, b1, b2, b3, b4⟩, ⟨x2, I2, d1, d2, d3, d4⟩, -⟩ := c_perf (c := c) J hX hB hM hkB hge (by omega) q
    unfold pf
    rw [if_neg h3, nI_clamp (by omega)]
    rcases hk with rfl | rfl | rfl | rfl
    · exact ⟨x0, I0, J, a1, by rw [if_pos rfl]; exact a3, fun e => absurd e (by decide), fun a _ _ q3 q4 q5 => a4 a q3 q4 q5⟩
    · exact ⟨x1, I1, J, b1, by rw [if_neg (by decide), if_pos rfl]; exact b3, fun e => absurd e (by decide), fun a _ _ q3 q4 q5 => b4 a q3 q4 q5⟩
    · exact ⟨x2, I2, J, d1, by rw [if_neg (by decide), if_neg (by decide)]; exact d3, fun e => absurd e (by decide), fun a _ _ q3 q4 q5 => d4 a q3 q4 q5⟩
    · exact absurd rfl h3
end sp98n
