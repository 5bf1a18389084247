noncomputable section sp69
def mLw (k : Nat → Int32) (L : Option (List Cls)) : Prop := (L = none ∧ k 52 = -1) ∨ ∃ (D : List Cls) (f : Nat), L = some D ∧ f < 6 ∧ k 52 = nI f ∧ tk_D false k f D
theorem rLw_m {S : v_S} {I : v_I} {F : v_F} {lw : Option Nat} {k : Nat → Int32} {L : Option (List Cls)} (h : rLw S I F lw k L) : mLw k L := by
  rcases h with ⟨h1, h2, h3⟩ | ⟨x, D, f, ak, af, as, at', ai, ac, cn, m, h1, h2, h3, h4, h5, h6⟩
  · exact .inl ⟨h2, h3⟩
  · exact .inr ⟨D, f, h2, h3, h4, h5⟩
theorem m_tl {I : v_I} {L : Option (List Cls)} {h : Nat} (hL : mLw (I 51) L) (hk : kB (I 51)) (hh : h < 8) (kind : Int32) (hkd : kind = 0 ∨ kind = 1 ∨ kind = 2) (w : Int32) : wp (h_X10_tells I (kind + 1) (nI h) w) (fun r => r.1 = tl L (I 51) h kind w ∧ fm I r.2) := by
  rcases hL with ⟨h1, h2⟩ | ⟨D, f, h1, h2, h3, h4⟩
  · unfold h_X10_tells
    rw [if_pos h2, h1]
    exact wp_some.mpr ⟨rfl, fm_refl I⟩
  · rw [h1]
    exact m_tells hk hh h2 h3 h4 kind hkd w
theorem m_opens {I : v_I} {L : Option (List Cls)} {h : Nat} (hL : mLw (I 51) L) (hk : kB (I 51)) (hh : h < 8) : wp (h_X10_opensNext I (nI h)) (fun r => r.1 = (if opn L (I 51) h then 1 else 0) ∧ fm I r.2) := by
  obtain ⟨o, ho, e0⟩ := id hk.1
  unfold h_X10_opensNext h_X10_isOpen h_X10_isIn
  rw [e0, b_bit h o hh ho]
  simp only [bit_tb]
  by_cases hob : o.testBit h = true
  · rw [if_pos hob, p_bs, show p_bl 1 = some () from rfl, p_bs, p_bs, if_neg (by decide)]
    unfold h_X10_shutsNow
    have hop : opn L (I 51) h = decide (tl L (I 51) h 2 0 = 0) := by
      unfold opn; rw [e0, bt_nI ho, hob, if_pos rfl]
    rw [wp_bind, wp_bind]
    refine wp_mono (m_tl hL hk hh 2 (.inr (.inr rfl)) 0) fun r hr => ?_
    obtain ⟨r1, r2⟩ := hr
    have t2 : r.1 = 0 ∨ r.1 = 1 := by
      rw [r1]
      rcases hL with ⟨h1, _⟩ | ⟨D, f, h1, _⟩
      · rw [h1]; exact .inl rfl
      · rw [h1]; exact told_2 0 (.inl rfl)
    rcases t2 with e | e
    · rw [if_neg (by rw [e]; decide), wp_some]
      dsimp only
      rw [if_pos rfl]
      refine wp_some.mpr ⟨?_, r2⟩
      rw [hop, decide_eq_true (by rw [← r1]; exact e)]; rfl
    · rw [if_pos e, wp_some]
      dsimp only
      rw [if_neg (by decide)]
      refine wp_some.mpr ⟨?_, r2⟩
      rw [hop, decide_eq_false (by rw [← r1, e]; decide)]; rfl
  · rw [if_neg hob, p_bs, show p_bl 0 = some () from rfl, p_bs, p_bs, if_pos rfl, m_near hk hh, p_bs]
    unfold h_X10_needsNow
    have hop : opn L (I 51) h = decide (¬ env (I 51) h 3 < tl L (I 51) h 0 (I 51 (1 + h))) := by
      unfold opn; rw [e0, bt_nI ho, if_neg hob]
    rw [show (1 : Int32) + nI h = nI 1 + nI h from rfl, p_inA (c := 1) (k := h) rfl (by omega) (by omega), p_bs, wp_bind, wp_bind]
    refine wp_mono (m_tl hL hk hh 0 (.inl rfl) (I 51 (1 + h))) fun r hr => ?_
    obtain ⟨r1, r2⟩ := hr
    rw [wp_some]
    dsimp only
    have e3 : env (I 51) h 3 = pcI (I 51 (26 + h) &&& I 51 0) := rfl
    rw [← e3]
    by_cases z : env (I 51) h 3 < tl L (I 51) h 0 (I 51 (1 + h))
    · rw [if_pos (by rw [r1]; exact z)]
      refine wp_some.mpr ⟨?_, r2⟩
      rw [hop, decide_eq_false (fun q => q z)]; rfl
    · rw [if_neg (by rw [r1]; exact z)]
      refine wp_some.mpr ⟨?_, r2⟩
      rw [hop, decide_eq_true z]; rfl
/-- what the model's minute leaves alone -/
def fq (I I' : v_I) : Prop := ∀ a j, a ≠ 51 → a ≠ 61 → a ≠ 62 → ¬ (a = 49 ∧ 22 ≤ j ∧ j ≤ 25) → I' a j = I a j
theorem fq_refl (I : v_I) : fq I I := fun _ _ _ _ _ _ => rfl
theorem fq_trans {I I' I'' : v_I} (h : fq I I') (h' : fq I' I'') : fq I I'' := fun a j q1 q2 q3 q4 => (h' a j q1 q2 q3 q4).trans (h a j q1 q2 q3 q4)
theorem lesser_99 (x : Int32) : h_X10_lesser 99 (x + 1) = some (st99 x) := by
  unfold h_X10_lesser st99
  split <;> rfl
theorem m_min {I : v_I} {L : Option (List Cls)} {n hd : Nat} (hL : mLw (I 51) L) (hk : kB (I 51)) (hn : n ≤ 8) (ek : I 51 49 = nI n) (hhd : hd < 256) :
    wp (h_X10_minutePasses I (nI hd)) (fun r => r.1 = pcI (mn L n hd (I 51) 0) ∧ r.2 51 = mn L n hd (I 51) ∧ fq I r.2) := by
  generalize hkk : I 51 = k at *
  unfold h_X10_minutePasses
  have l1 : wp (v_loop (h_X10_minutePasses_B4 (nI hd)) FU (0, 0, I)) (fun q => q.1 = nI (nx (fun h => opn L k h && !hd.testBit h) n) ∧ q.2.2 51 = k ∧ (∀ h, h < n → q.2.2 62 h = tl L k h 1 (k (1 + h))) ∧ fq I q.2.2) := by
    refine wp_lp (fun i (t : Int32 × Int32 × v_I) => t.1 = nI (nx (fun h => opn L k h && !hd.testBit h) i) ∧ t.2.1 = nI i ∧ t.2.2 51 = k ∧ (∀ h, h < i → t.2.2 62 h = tl L k h 1 (k (1 + h))) ∧ fq I t.2.2) n (by omega) ⟨rfl, rfl, hkk, fun h hh => absurd hh (Nat.not_lt_zero _), fq_refl I⟩ ?_
    rintro i ⟨t1, t2, I'⟩ hi ⟨u1, u2, u3, u4, u5⟩
    dsimp only at u1 u2 u3 u4 u5
    subst u2
    unfold h_X10_minutePasses_B4 h_X10_many
    dsimp only
    rw [p_bs]
    have e49 : I' 51 49 = nI n := by rw [u3]; exact ek
    by_cases hin : n ≤ i
    · have : i = n := by omega
      subst this
      rw [if_pos (by rw [e49]; exact nI_le (Nat.le_refl _) (by omega))]
      exact wp_some.mpr ⟨u1, u3, u4, u5⟩
    rw [if_neg (by rw [e49]; exact nI_ge (by omega) (by omega))]
    have hlt : nx (fun h => opn L k h && !hd.testBit h) i < 256 := Nat.lt_of_lt_of_le (nx_lt _ i) (two_le (by omega))
    have j36 : ∀ z0 I1, (t1 ||| z0 = nI (nx (fun h => opn L k h && !hd.testBit h) (i + 1))) → fm I' I1 → wp (h_X10_minutePasses_J4_36 (nI hd) I1 (nI i) z0 t1) (v_K (fun (t : Int32 × Int32 × v_I) => i < n ∧ t.1 = nI (nx (fun h => opn L k h && !hd.testBit h) (i + 1)) ∧ t.2.1 = nI (i + 1) ∧ t.2.2 51 = k ∧ (∀ h, h < i + 1 → t.2.2 62 h = tl L k h 1 (k (1 + h))) ∧ fq I t.2.2) (fun q : Int32 × Int32 × v_I => q.1 = nI (nx (fun h => opn L k h && !hd.testBit h) n) ∧ q.2.2 51 = k ∧ (∀ h, h < n → q.2.2 62 h = tl L k h 1 (k (1 + h))) ∧ fq I q.2.2)) := by
      intro z0 I1 hz hf
      unfold h_X10_minutePasses_J4_36 h_X10_wantsNow
      have e51 : I1 51 = k := (fm_51 hf).trans u3
      rw [p_le, hz, show (1 : Int32) + nI i = nI 1 + nI i from rfl, p_inA (c := 1) (k := i) rfl (by omega) (by omega), p_bs, wp_bind, wp_bind]
      refine wp_mono (m_tl (L := L) (by rw [e51]; exact hL) (by rw [e51]; exact hk) (by omega) 1 (.inr (.inl rfl)) (I1 51 (1 + i))) fun r hr => ?_
      obtain ⟨r1, r2⟩ := hr
      rw [e51] at r1
      rw [wp_some]
      dsimp only
      rw [p_in_nI (by omega) (by omega), p_bs, p_le, p_le, r1]
      have e51' : r.2 51 = k := (fm_51 r2).trans e51
      refine wp_some.mpr ⟨by omega, rfl, (nI_succ i).symm, ?_, fun h hh => ?_, fun a j a1 a2 a3 a4 => ?_⟩
      · dsimp only
        rw [v_up_row _ 62 _ _ (by omega), e51']
      · dsimp only
        by_cases e : h = i
        · subst e; rw [w_at]
        · rw [w_ne _ _ _ _ e, r2 62 h (by omega) (by omega), hf 62 h (by omega) (by omega)]; exact u4 h (by omega)
      · dsimp only
        rw [v_up_row _ 62 _ _ a3, r2 a j a2 a4, hf a j a2 a4, u5 a j a1 a2 a3 a4]
    have hstep : nx (fun h => opn L k h && !hd.testBit h) (i + 1) = nx (fun h => opn L k h && !hd.testBit h) i ||| (if (opn L k i && !hd.testBit i) then 2 ^ i else 0) := rfl
    unfold h_X10_isIn h_X10_minutePasses_J4_35
    rw [b_bit i hd (by omega) hhd]
    simp only [bit_tb]
    by_cases hh : hd.testBit i = true
    · rw [if_pos hh, p_bs, if_neg (by decide)]
      refine j36 0 I' ?_ (fm_refl I')
      rw [hstep, hh, u1]
      simp
    · rw [if_neg hh, p_bs, if_pos rfl]
      refine wp_seq (m_opens (L := L) (by rw [u3]; exact hL) (by rw [u3]; exact hk) (by omega)) fun r hr => ?_
      obtain ⟨r1, r2⟩ := hr
      rw [u3] at r1
      have hh' : hd.testBit i = false := by simpa using hh
      cases hop : opn L k i with
      | false =>
        rw [hop] at r1
        rw [if_pos (by rw [r1]; rfl)]
        refine j36 0 r.2 ?_ r2
        rw [hstep, hop, u1]
        simp
      | true =>
        rw [hop] at r1
        rw [if_neg (by rw [r1]; decide)]
        refine j36 _ r.2 ?_ r2
        rw [hstep, hop, hh', u1, b_set i _ (by omega) hlt]
        rfl
  refine wp_seq l1 fun q hq => ?_
  obtain ⟨t1, t2, I'⟩ := q
  obtain ⟨u1, u3, u4, u5⟩ := hq
  dsimp only at u1 u3 u4 u5 ⊢
  rw [u1]
  have l2 : wp (v_loop (h_X10_minutePasses_B57 (nI (nx (fun h => opn L k h && !hd.testBit h) n))) FU (0, I')) (fun q => (∀ a, a ≠ 51 → q.2 a = I' a) ∧ ∀ z, q.2 51 z = if 1 ≤ z ∧ z ≤ n then tl L k (z - 1) 1 (k z) else if 9 ≤ z ∧ z < 9 + n then st99 (k z) else k z) := by
    refine wp_lp (fun i (t : Int32 × v_I) => t.1 = nI i ∧ (∀ a, a ≠ 51 → t.2 a = I' a) ∧ ∀ z, t.2 51 z = if 1 ≤ z ∧ z ≤ i then tl L k (z - 1) 1 (k z) else if 9 ≤ z ∧ z < 9 + i then st99 (k z) else k z) n (by omega) ⟨rfl, fun _ _ => rfl, fun z => by rw [if_neg (by omega), if_neg (by omega)]; dsimp only; rw [u3]⟩ ?_
    rintro i ⟨x, I2⟩ hi ⟨y1, y2, y3⟩
    dsimp only at y1 y2 y3
    subst y1
    unfold h_X10_minutePasses_B57 h_X10_many
    dsimp only
    rw [p_bs]
    have e49 : I2 51 49 = nI n := by rw [y3, if_neg (by omega), if_neg (by omega)]; exact ek
    by_cases hin : n ≤ i
    · have : i = n := by omega
      subst this
      rw [if_pos (by rw [e49]; exact nI_le (Nat.le_refl _) (by omega))]
      exact wp_some.mpr ⟨y2, y3⟩
    rw [if_neg (by rw [e49]; exact nI_ge (by omega) (by omega)), p_in_nI (by omega) (by omega), p_bs, show (1 : Int32) + nI i = nI 1 + nI i from rfl, p_inA (c := 1) (k := i) rfl (by omega) (by omega), p_bs, p_le, show (9 : Int32) = nI 9 from rfl, p_inA (c := 9) (k := i) rfl (by omega) (by omega), p_bs, lesser_99, p_bs, p_bs, p_le, p_le]
    rw [y2 62 (by omega), u4 i (by omega), w_ne _ _ _ _ (show 9 + i ≠ 1 + i by omega), y3 (9 + i), if_neg (show ¬ (1 ≤ 9 + i ∧ 9 + i ≤ i) by omega), if_neg (show ¬ (9 ≤ 9 + i ∧ 9 + i < 9 + i) by omega)]
    refine wp_some.mpr ⟨by omega, (nI_succ i).symm, fun a ha => ?_, fun z => ?_⟩
    · dsimp only
      rw [v_up_row _ 51 _ _ ha, v_up_row _ 51 _ _ ha, y2 a ha]
    · dsimp only
      by_cases e : z = 9 + i
      · subst e; rw [w_at, if_neg (show ¬ (1 ≤ 9 + i ∧ 9 + i ≤ i + 1) by omega), if_pos (show 9 ≤ 9 + i ∧ 9 + i < 9 + (i + 1) by omega)]
      · rw [w_ne _ _ _ _ e]
        by_cases e1 : z = 1 + i
        · subst e1; rw [w_at, if_pos (show 1 ≤ 1 + i ∧ 1 + i ≤ i + 1 by omega), show 1 + i - 1 = i by omega]
        · rw [w_ne _ _ _ _ e1, y3 z]
          by_cases c1 : 1 ≤ z ∧ z ≤ i
          · rw [if_pos c1, if_pos (show 1 ≤ z ∧ z ≤ i + 1 by omega)]
          · rw [if_neg c1, if_neg (show ¬ (1 ≤ z ∧ z ≤ i + 1) by omega)]
            by_cases c2 : 9 ≤ z ∧ z < 9 + i
            · rw [if_pos c2, if_pos (show 9 ≤ z ∧ z < 9 + (i + 1) by omega)]
            · rw [if_neg c2, if_neg (show ¬ (9 ≤ z ∧ z < 9 + (i + 1)) by omega)]
  refine wp_seq l2 fun q hq => ?_
  obtain ⟨y2, y3⟩ := hq
  have hlt : nx (fun h => opn L k h && !hd.testBit h) n < 256 := Nat.lt_of_lt_of_le (nx_lt _ n) (two_le hn)
  rw [p_le, p_le, w_ne _ _ _ _ (show (17 : Nat) ≠ 0 by omega), y3 17, if_neg (show ¬ (1 ≤ 17 ∧ 17 ≤ n) by omega), if_neg (show ¬ (9 ≤ 17 ∧ 17 < 9 + n) by omega), b_ones hlt, p_bs]
  refine wp_some.mpr ⟨?_, funext fun z => ?_, fun a j a1 a2 a3 a4 => ?_⟩
  · dsimp only
    rw [mn_0, pcI_nI hlt]
  · dsimp only
    unfold mn
    by_cases e : z = 17
    · subst e; rw [w_at, if_neg (show ¬ 17 = 0 by omega), if_neg (show ¬ (1 ≤ 17 ∧ 17 ≤ n) by omega), if_neg (show ¬ (9 ≤ 17 ∧ 17 < 9 + n) by omega), if_pos rfl]
    · rw [w_ne _ _ _ _ e]
      by_cases e1 : z = 0
      · subst e1; rw [w_at, if_pos rfl]
      · rw [w_ne _ _ _ _ e1, if_neg e1, y3 z, if_neg e]
  · dsimp only
    rw [v_up_row _ 51 _ _ a1, v_up_row _ 51 _ _ a1, y2 a a1, u5 a j a1 a2 a3 a4]
end sp69
