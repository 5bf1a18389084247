noncomputable section sp98k
/-! a TEXT is read by both -/
theorem tape_b {I : v_I} (h : rT I) : ∃ (b : Nat → Nat) (n : Nat), n ≤ 400 ∧ I 0 8 = nI n ∧ I 49 13 = nI n ∧ ∀ i, i < 400 → b i < 256 ∧ I 29 i = nI (b i) ∧ I 56 i = sgn (b i) := by
  obtain ⟨⟨n, hn, t1, t2⟩, t3⟩ := h
  refine ⟨fun z => if hz : z < 400 then Classical.choose (t3 z hz) else 0, n, hn, t1, t2, fun z hz => ?_⟩
  dsimp only
  rw [dif_pos hz]
  exact Classical.choose_spec (t3 z hz)
theorem c_rdc {S : v_S} {F : v_F} {I : v_I} {b : Nat → Nat} {n : Nat} (o : Bool) (hS : p_SS S) (hF : p_FF F) (hn : n ≤ 400) (hb : ∀ i, i < 400 → b i < 256 ∧ I 29 i = nI (b i)) :
    (∀ e, sp_text (tC b n) (tV b n) o (tL b n).length = .inl e → ∃ I', h_X6_read S I F 29 (nI n) (bI o) = some (nI (tP b n e), I') ∧ fr I I') ∧
    (∀ D, sp_text (tC b n) (tV b n) o (tL b n).length = .inr D → ∃ I' s, h_X6_read S I F 29 (nI n) (bI o) = some (-1, I') ∧ fr I I' ∧ Tx I' s D ∧ s ≤ 436 ∧ I' 31 1 = nI s ∧ (I' 31 2 = 0 ∨ I' 31 2 = 1)) := by
  obtain ⟨r4, a1, a2, a3⟩ := c_split (S := S) (F := F) hS hn hb
  obtain ⟨k1, k2⟩ := c_read (o := o) hS hF hn a1 a2 a3
  exact ⟨fun e h => (k1 e h).2, k2⟩
def Fq (I I' : v_I) : Prop := I' 49 13 = 0 ∧ ∀ a j, ¬ (a = 49 ∧ ((8 ≤ j ∧ j ≤ 10) ∨ j = 13 ∨ j = 14 ∨ (18 ≤ j ∧ j ≤ 21))) → ¬ (58 ≤ a ∧ a ≤ 60) → I' a j = I a j
theorem m_rd {I : v_I} {b : Nat → Nat} {n : Nat} (o : Bool) (hn : n ≤ 400) (h13 : I 49 13 = nI n) (hW : rW I) (hb : ∀ i, i < 400 → b i < 256 ∧ I 56 i = sgn (b i)) :
    (∀ e, sp_text (tC b n) (tV b n) o (tL b n).length = .inl e → ∃ I2, h_X10_readsAs I (bI o) = some (0, I2) ∧ I2 49 14 = nI (tP b n e) ∧ Fq I I2) ∧
    (∀ D, sp_text (tC b n) (tV b n) o (tL b n).length = .inr D → ∃ I2, h_X10_readsAs I (bI o) = some (1, I2) ∧ I2 49 14 = -1 ∧ Fq I I2 ∧ I2 49 18 = nI (tL b n).length ∧ ∀ p, p ≤ (tL b n).length → I2 58 p = tC b n p ∧ I2 59 p = tV b n p) := by
  let A : v_I := v_up (v_up (v_up I 49 10 (bI o)) 49 8 (if o then 13 else 8)) 49 9 (if o then 19 else 16)
  have ar : ∀ a, a ≠ 49 → A a = I a := fun a h => by
    show v_up _ _ _ _ a = _
    rw [w_row _ _ _ _ h, w_row _ _ _ _ h, w_row _ _ _ _ h]
  have an : ∀ j, j ≠ 8 → j ≠ 9 → j ≠ 10 → A 49 j = I 49 j := fun j h1 h2 h3 => by
    show v_up _ _ _ _ 49 j = _
    rw [w_ne _ _ _ _ h2, w_ne _ _ _ _ h1, w_ne _ _ _ _ h3]
  have a10 : A 49 10 = bI o := by
    show v_up _ _ _ _ 49 10 = _
    rw [w_ne _ _ _ _ (by decide), w_ne _ _ _ _ (by decide), w_at]
  have a8 : A 49 8 = if o then 13 else 8 := by
    show v_up _ _ _ _ 49 8 = _
    rw [w_ne _ _ _ _ (by decide), w_at]
  have a9 : A 49 9 = if o then 19 else 16 := w_at _ _ _ _
  have e0 : h_X10_readsAs I (bI o) = (h_X10_reads A).bind fun r_10 => (p_bl r_10.1).bind fun _ => some (r_10.1, r_10.2) := by
    unfold h_X10_readsAs h_X10_readsAs_J17 h_X10_readsAs_J32
    rw [tyB_bl (bI_ty o), p_bs, p_le]
    cases o with
    | false => rw [if_pos (show bI false = 0 from rfl), p_le, if_pos (show bI false = 0 from rfl), p_le]; rfl
    | true => rw [if_neg (show ¬ bI true = 0 by decide), p_le, if_neg (show ¬ bI true = 0 by decide), p_le]; rfl
  rw [e0]
  generalize A = A at ar an a10 a8 a9
  obtain ⟨r1, s1, s2, s3, s4⟩ := m_split (I := A) (b := b) hn (by intro i hi; rw [ar 55 (by decide)]; exact hW i hi) (fun i hi => by rw [ar 56 (by decide)]; exact hb i hi)
  have hl := tL_le b (z := n)
  have f49 : ∀ j, j ≠ 18 → r1 49 j = A 49 j := fun j h => s4 49 j (by omega) (by omega)
  have M : Mr (v_up r1 49 13 0) (tC b n) (tV b n) (tP b n) o (tL b n).length := by
    refine ⟨by omega, fun p hp => ?_, fun p hp => ?_, tC_cz b n, fun p hp => ⟨?_, by have := tP_le (b := b) (z := n) p; omega⟩, ?_, ?_, ?_⟩
    · rw [w_row _ _ _ _ (by decide)]; exact (s3 p hp).1
    · rw [w_row _ _ _ _ (by decide)]; exact (s3 p hp).2.1
    · rw [w_row _ _ _ _ (by decide)]; exact (s3 p hp).2.2
    · rw [w_ne _ _ _ _ (by decide), f49 _ (by decide)]; exact a10
    · rw [w_ne _ _ _ _ (by decide), f49 _ (by decide)]; exact a8
    · rw [w_ne _ _ _ _ (by decide), f49 _ (by decide)]; exact a9
  obtain ⟨k1, k2⟩ := mr_reads (I := A) (by rw [an 13 (by decide) (by decide) (by decide), h13]; exact s1) M s2
  have fin : ∀ p m x, Fq I (v_up (ms (v_up r1 49 13 0) p m x) 49 14 x) := by
    intro p m x
    refine ⟨?_, fun a j h1 h2 => ?_⟩
    · rw [w_ne _ _ _ _ (by decide), ms_ne _ _ _ _ (by omega), w_at]
    · rw [v_up_ne _ _ (by omega), ms_ne _ _ _ _ (by omega), v_up_ne _ _ (by omega), s4 a j (by omega) (by omega)]
      by_cases q : a = 49
      · subst q; rw [an j (by omega) (by omega) (by omega)]
      · rw [ar a q]
  refine ⟨fun e h => ?_, fun D h => ?_⟩
  · obtain ⟨_, p, m, q⟩ := k1 e h
    refine ⟨_, by rw [q, p_bs]; rfl, w_at _ _ _ _, fin p m _⟩
  · obtain ⟨m, q⟩ := k2 D h
    refine ⟨_, by rw [q, p_bs]; rfl, w_at _ _ _ _, fin _ m _, ?_, fun p hp => ?_⟩
    · rw [w_ne _ _ _ _ (by decide), ms_ne _ _ _ _ (by omega), w_ne _ _ _ _ (by decide)]; exact s2
    · rw [w_row _ _ _ _ (by decide), w_row _ _ _ _ (by decide), ms_row _ _ _ _ (by decide), ms_row _ _ _ _ (by decide), w_row _ _ _ _ (by decide), w_row _ _ _ _ (by decide)]
      exact ⟨(s3 p hp).1, (s3 p hp).2.1⟩
/-- R anew: the tape is empty, what is told of the latest TEXT is new -/
theorem R_end {S : v_S} {I I' : v_I} {J J' : v_J} {F : v_F} (h : R S I J F) (e : ∀ a j, ¬ scr a j → ¬ (a = 0 ∧ (j = 8 ∨ j = 14 ∨ j = 16 ∨ j = 17)) → a ≠ 48 → ¬ (a = 49 ∧ (j = 0 ∨ j = 13 ∨ j = 14 ∨ j = 38)) → a ≠ 50 → I' a j = I a j) (h8 : I' 0 8 = 0) (h13 : I' 49 13 = 0) (hO : rO I') : R S I' J' F := by
  have h' := h
  obtain ⟨hS, hF, hC, hK, hT, hO0, hD, hW, own, hN, hL, hP, hG⟩ := h
  have row : ∀ a, a ≠ 0 → a ≠ 48 → a ≠ 49 → a ≠ 50 → (∀ j, ¬ scr a j) → I' a = I a := fun a h0 h1 h2 h3 hs => funext fun j => e a j (hs j) (by omega) h1 (by omega) h3
  have e51 : I' 51 = I 51 := row 51 (by omega) (by omega) (by omega) (by omega) (fun j => by unfold scr; omega)
  have es : ∀ a, 0 < a → a < 14 → I' a = I a := fun a h h2 => row a (by omega) (by omega) (by omega) (by omega) (fun j => by unfold scr; omega)
  have f6 : I' 0 6 = I 0 6 := e 0 6 (by unfold scr; omega) (by omega) (by omega) (by omega) (by omega)
  have f32 : I' 49 32 = I 49 32 := e 49 32 (by unfold scr; omega) (by omega) (by omega) (by omega) (by omega)
  have f46 : I' 49 46 = I 49 46 := e 49 46 (by unfold scr; omega) (by omega) (by omega) (by omega) (by omega)
  refine R_mk h' (fun a ha => row a (by omega) (by omega) (by omega) (by omega) (scr_big ha)) ?_ (by rw [e51]; exact hK) ?_ hO ?_ ?_ ?_ ?_ (by rw [e51]) (fun i _ => by rw [e51]) (.inr ⟨es _ (by omega) (by omega), f32, es _ (by omega) (by omega), ?_, by rw [e51]⟩)
  · rw [e51]; exact rC_fr (es _ (by omega) (by omega)) (es _ (by omega) (by omega)) (es _ (by omega) (by omega)) (es _ (by omega) (by omega)) (es _ (by omega) (by omega)) (es _ (by omega) (by omega)) (es _ (by omega) (by omega)) (es _ (by omega) (by omega)) hC
  · refine ⟨⟨0, by omega, h8, h13⟩, ?_⟩
    rw [row 29 (by omega) (by omega) (by omega) (by omega) (fun j => by unfold scr; omega), row 56 (by omega) (by omega) (by omega) (by omega) (fun j => by unfold scr; omega)]; exact hT.2
  · unfold rD rM; rw [f6, f46, row 26 (by omega) (by omega) (by omega) (by omega) (fun j => by unfold scr; omega), row 27 (by omega) (by omega) (by omega) (by omega) (fun j => by unfold scr; omega), row 28 (by omega) (by omega) (by omega) (by omega) (fun j => by unfold scr; omega), row 71 (by omega) (by omega) (by omega) (by omega) (fun j => by unfold scr; omega)]; exact hD
  · exact row 55 (by omega) (by omega) (by omega) (by omega) (fun j => by unfold scr; omega)
  · exact row 52 (by omega) (by omega) (by omega) (by omega) (fun j => by unfold scr; omega)
  · exact row 53 (by omega) (by omega) (by omega) (by omega) (fun j => by unfold scr; omega)
  · exact row 63 (by omega) (by omega) (by omega) (by omega) (fun j => by unfold scr; omega)
/-! TOKENS are kept -/
theorem m_lay {I : v_I} {t z : Nat} (ht : t ≤ 6) (hz : z ≤ 400) (h18 : I 49 18 = nI z) : ∃ I', h_X10_lays I (nI t) = some I' ∧ I' 51 (53 + t) = nI z ∧ (∀ i, i < z → I' 51 (60 + 400 * t + i) = I 58 i ∧ I' 51 (2860 + 400 * t + i) = I 59 i) ∧ ∀ a j, ¬ (a = 51 ∧ (j = 53 + t ∨ (60 + 400 * t ≤ j ∧ j < 460 + 400 * t) ∨ (2860 + 400 * t ≤ j ∧ j < 3260 + 400 * t))) → I' a j = I a j := by
  have L : wp (v_loop (h_X10_lays_B15 (nI t)) FU ((0 : Int32), v_up I 51 (53 + t) (nI z))) (fun q => q.2 51 (53 + t) = nI z ∧ (∀ i, i < z → q.2 51 (60 + 400 * t + i) = I 58 i ∧ q.2 51 (2860 + 400 * t + i) = I 59 i) ∧ ∀ a j, ¬ (a = 51 ∧ (j = 53 + t ∨ (60 + 400 * t ≤ j ∧ j < 460 + 400 * t) ∨ (2860 + 400 * t ≤ j ∧ j < 3260 + 400 * t))) → q.2 a j = I a j) := by
    refine wp_loop (fun i s => s.1 = nI i ∧ s.2 51 (53 + t) = nI z ∧ (∀ u, u < i → s.2 51 (60 + 400 * t + u) = I 58 u ∧ s.2 51 (2860 + 400 * t + u) = I 59 u) ∧ ∀ a j, ¬ (a = 51 ∧ (j = 53 + t ∨ (60 + 400 * t ≤ j ∧ j < 460 + 400 * t) ∨ (2860 + 400 * t ≤ j ∧ j < 3260 + 400 * t))) → s.2 a j = I a j) z (by omega) ⟨rfl, w_at _ _ _ _, fun u hu => absurd hu (by omega), fun a j h => v_up_ne _ _ (by omega)⟩ (fun i s hi hI => ?_)
    obtain ⟨x, A⟩ := s
    obtain ⟨rfl, i1, i2, i3⟩ := hI
    dsimp only at i1 i2 i3
    have e18 : A 49 18 = nI z := by rw [i3 49 18 (by omega)]; exact h18
    unfold h_X10_lays_B15
    dsimp only
    by_cases q : i < z
    · have e1 : (60 : Int32) + 400 * nI t + nI i = nI (60 + 400 * t + i) := by
        rw [show (400 : Int32) = nI 400 from rfl, nI_mul', show (60 : Int32) = nI 60 from rfl, nI_add, nI_add]
      have e2 : (2860 : Int32) + 400 * nI t + nI i = nI (2860 + 400 * t + i) := by
        rw [show (400 : Int32) = nI 400 from rfl, nI_mul', show (2860 : Int32) = nI 2860 from rfl, nI_add, nI_add]
      rw [if_neg (show ¬ A 49 18 ≤ nI i by rw [e18]; exact nI_ge q (by omega)), p_in_nI (by omega) (by decide), p_bs, e1, p_in_nI (by omega) (by decide), p_bs, p_le, p_bs, e2, p_in_nI (by omega) (by decide), p_bs, p_le, p_le, ← nI_succ]
      refine wp_some.mpr ⟨q, rfl, ?_, fun u hu => ?_, fun a j h => ?_⟩
      · dsimp only
        rw [w_ne _ _ _ _ (by omega), w_ne _ _ _ _ (by omega)]; exact i1
      · dsimp only
        by_cases w : u = i
        · subst w
          refine ⟨?_, ?_⟩
          · rw [w_ne _ _ _ _ (by omega), w_at, i3 58 u (by omega)]
          · rw [w_at, w_row _ _ _ _ (by decide), i3 59 u (by omega)]
        · rw [w_ne _ _ _ _ (by omega), w_ne _ _ _ _ (by omega), w_ne _ _ _ _ (by omega), w_ne _ _ _ _ (by omega)]
          exact i2 u (by omega)
      · dsimp only
        rw [v_up_ne _ _ (by omega), v_up_ne _ _ (by omega)]; exact i3 a j h
    · rw [if_pos (show A 49 18 ≤ nI i by rw [e18]; exact nI_le (by omega) (by omega))]
      exact wp_some.mpr ⟨i1, fun u hu => i2 u (by omega), i3⟩
  obtain ⟨r, e1, e2⟩ := L
  refine ⟨r.2, ?_, e2⟩
  unfold h_X10_lays
  rw [show (53 : Int32) = nI 53 from rfl, nI_add, p_in_nI (by omega) (by decide), p_bs, p_le, h18, e1, p_bs]
/-! a TEXT's copy, no larger than it must be -/
theorem cp_n (I : v_I) (a b n : Nat) (hn : n < 2 ^ 31) : p_cpy I a b (0 : Int32).toNatClampNeg (0 : Int32).toNatClampNeg (nI n).toNatClampNeg = cpn I a b n := by
  funext k j
  unfold p_cpy va_cpy cpn
  rw [show (0 : Int32).toNatClampNeg = 0 by decide, nI_clamp hn]
  by_cases q : k = b
  · subst q
    rw [if_pos rfl]
    by_cases q2 : j < n
    · rw [if_pos (by omega), if_pos ⟨rfl, q2⟩, show 0 + (j - 0) = j by omega]
    · rw [if_neg (by omega), if_neg (fun e => q2 e.2)]
  · rw [if_neg q, if_neg (fun e => q e.1)]
theorem cp_Sn {S : v_S} {a b m n : Nat} (ha : S[a]? = some (20, m)) (hb : S[b]? = some (20, n)) (hm : n ≤ m) (hn : n < 2 ^ 31) : p_cp S a b 0 0 (nI n) = some () := by
  unfold p_cp
  rw [ha, hb]
  dsimp only
  rw [if_pos]
  refine ⟨rfl, rfl, by decide, by decide, nI_pos hn, ?_, ?_⟩ <;> rw [nI_clamp hn, show (0 : Int32).toNatClampNeg = 0 by decide] <;> omega
theorem clip_n {n m : Nat} (h : n ≤ m) (hm : m < 2 ^ 31) {x : Int32} (hx : x = nI m) : p_max (0 : Int32) (p_min (nI n) x) = nI n := by
  subst hx
  have e2 : p_min (nI n) (nI m) = nI n := by
    unfold p_min
    rw [if_neg (nI_nlt h hm)]
  rw [e2]
  unfold p_max
  by_cases q : n = 0
  · subst q; rfl
  · rw [if_pos (show (0 : Int32) < nI n from i_lt (a := 0) (b := n) rfl rfl (by omega) (by omega))]
theorem c_trim {S : v_S} {I : v_I} {F : v_F} {n s : Nat} (hS : p_SS S) (hF : p_FF F) (hn : n ≤ 12) (hs : s ≤ 436) (h0 : I 31 0 = nI n) (h1 : I 31 1 = nI s) (h2 : I 31 2 = 0 ∨ I 31 2 = 1) :
    ∃ S' I' F', f_X8_trimmed S I F 31 = some (S.length, S', I', F') ∧ S'.length = S.length + 7 ∧ (∀ (a : Nat) (q : Nat × Nat), S[a]? = some q → S'[a]? = some q) ∧ S'[S.length]? = some (8, 9) ∧ (∀ i, i < 5 → S'[S.length + 1 + i]? = some (20, n)) ∧ S'[S.length + 6]? = some (20, s)
      ∧ (∀ a, a < S.length → I' a = I a) ∧ I' S.length 0 = nI n ∧ I' S.length 2 = I 31 2 ∧ (∀ i j, i < 5 → j < n → I' (S.length + 1 + i) j = I (32 + i) j) ∧ (∀ j, j < s → I' (S.length + 6) j = I 37 j)
      ∧ (∀ a j, a ≠ S.length → F' a j = F a j) ∧ (∀ i, i < 6 → F' S.length (3 + i) = some (S.length + 1 + i)) := by
  have l71 : 71 < S.length := S_lt (hS 71 _ rfl)
  generalize hsl : S.length = sl at *
  generalize hS7 : S ++ [(8, v_n 8)] ++ [(20, n)] ++ [(20, n)] ++ [(20, n)] ++ [(20, n)] ++ [(20, n)] ++ [(20, s)] = S7
  generalize hF7 : v_up (v_up (v_up (v_up (v_up (v_up F sl 3 (some (sl + 1))) sl 4 (some (sl + 2))) sl 5 (some (sl + 3))) sl 6 (some (sl + 4))) sl 7 (some (sl + 5))) sl 8 (some (sl + 6)) = F7
  have nn : p_nn (nI n) 12 = some n := by unfold p_nn; rw [nI_clamp (by omega), if_pos ⟨nI_pos (by omega), hn⟩]
  have ns : p_nn (nI s) 436 = some s := by unfold p_nn; rw [nI_clamp (by omega), if_pos ⟨nI_pos (by omega), hs⟩]
  have init : f_X8_init (S ++ [(8, v_n 8)]) I F sl (nI n) (nI s) = some (S7, v_up (v_up (v_up I sl 0 0) sl 1 0) sl 2 0, F7) := by
    have i0 : p_ob (S ++ [(8, v_n 8)]) 8 sl = some () := p_obA (kd := 8) (by rw [← hsl]; simp)
    have l1 : (S ++ [(8, v_n 8)]).length = sl + 1 := by simp [hsl]
    have l2 : (S ++ [(8, v_n 8)] ++ [(20, n)]).length = sl + 2 := by simp [hsl]
    have l3 : (S ++ [(8, v_n 8)] ++ [(20, n)] ++ [(20, n)]).length = sl + 3 := by simp [hsl]
    have l4 : (S ++ [(8, v_n 8)] ++ [(20, n)] ++ [(20, n)] ++ [(20, n)]).length = sl + 4 := by simp [hsl]
    have l5 : (S ++ [(8, v_n 8)] ++ [(20, n)] ++ [(20, n)] ++ [(20, n)] ++ [(20, n)]).length = sl + 5 := by simp [hsl]
    have l6 : (S ++ [(8, v_n 8)] ++ [(20, n)] ++ [(20, n)] ++ [(20, n)] ++ [(20, n)] ++ [(20, n)]).length = sl + 6 := by simp [hsl]
    unfold f_X8_init
    simp only [i0, p_bs, p_le, nn, ns, l1, l2, l3, l4, l5, l6]
    rw [← hS7, ← hF7]
  have ex1 : ∀ (a : Nat) (q : Nat × Nat), S[a]? = some q → S7[a]? = some q := by
    intro a q hh
    have := S_lt hh
    rw [← hS7]
    simp only [List.append_assoc]
    rw [List.getElem?_append_left this]; exact hh
  have sx : ∀ i, S7[sl + i]? = ([(8, 9), (20, n), (20, n), (20, n), (20, n), (20, n), (20, s)] : List (Nat × Nat))[i]? := by
    intro i
    rw [← hS7]
    simp only [List.append_assoc]
    rw [List.getElem?_append_right (by omega), hsl, show sl + i - sl = i by omega]; rfl
  have l7 : S7.length = sl + 7 := by rw [← hS7]; simp [hsl]
  have hS' : p_SS S7 := fun a q hh => ex1 _ _ (hS a q hh)
  have F7a : ∀ a z, a ≠ sl → F7 a z = F a z := fun a z q1 => by
    rw [← hF7]
    simp only [w_row _ sl _ _ q1]
  have F7s : ∀ i, i < 6 → F7 sl (3 + i) = some (sl + 1 + i) := by
    intro i hi
    rw [← hF7]
    match i, hi with
    | 0, _ => simp [v_up]
    | 1, _ => simp [v_up]
    | 2, _ => simp [v_up]
    | 3, _ => simp [v_up]
    | 4, _ => simp [v_up]
    | 5, _ => simp [v_up]
  have s0 : S7[sl]? = some (8, 9) := sx 0
  have f3 : F7 sl 3 = some (sl + 1) := F7s 0 (by omega)
  have f4 : F7 sl 4 = some (sl + 2) := F7s 1 (by omega)
  have f5 : F7 sl 5 = some (sl + 3) := F7s 2 (by omega)
  have f6 : F7 sl 6 = some (sl + 4) := F7s 3 (by omega)
  have f7 : F7 sl 7 = some (sl + 5) := F7s 4 (by omega)
  have f8 : F7 sl 8 = some (sl + 6) := F7s 5 (by omega)
  have G : ∀ {i b : Nat}, (31, i, b) ∈ p_FT → F7 31 i = some b := fun hm => by rw [F7a 31 _ (by omega)]; exact p_FS hF hm
  have c1 : p_cp S7 32 (sl + 1) 0 0 (nI n) = some () := cp_Sn (hS' 32 (20, 12) rfl) (sx 1) hn (by omega)
  have c2 : p_cp S7 33 (sl + 2) 0 0 (nI n) = some () := cp_Sn (hS' 33 (20, 12) rfl) (sx 2) hn (by omega)
  have c3 : p_cp S7 34 (sl + 3) 0 0 (nI n) = some () := cp_Sn (hS' 34 (20, 12) rfl) (sx 3) hn (by omega)
  have c4 : p_cp S7 35 (sl + 4) 0 0 (nI n) = some () := cp_Sn (hS' 35 (20, 12) rfl) (sx 4) hn (by omega)
  have c5 : p_cp S7 36 (sl + 5) 0 0 (nI n) = some () := cp_Sn (hS' 36 (20, 12) rfl) (sx 5) hn (by omega)
  have c6 : p_cp S7 37 (sl + 6) 0 0 (nI s) = some () := cp_Sn (hS' 37 (20, 436) rfl) (sx 6) hs (by omega)
  let A : v_I := v_up (v_up (v_up (v_up (v_up (v_up I sl 0 0) sl 1 0) sl 2 0) sl 0 (nI n)) sl 1 (nI s)) sl 2 (I 31 2)
  have bl : p_bl (I 31 2) = some () := by unfold p_bl; rw [if_pos h2]
  have e31 : v_up (v_up (v_up (v_up (v_up I sl 0 0) sl 1 0) sl 2 0) sl 0 (nI n)) sl 1 (nI s) 31 = I 31 := by simp only [w_row _ sl _ _ (show (31 : Nat) ≠ sl by omega)]
  refine ⟨S7, cpn (cpn (cpn (cpn (cpn (cpn A 32 (sl + 1) n) 33 (sl + 2) n) 34 (sl + 3) n) 35 (sl + 4) n) 36 (sl + 5) n) 37 (sl + 6) s, F7, ?_, l7, ex1, s0, fun i hi => ?_, sx 6, fun a ha => ?_, ?_, ?_, fun i j hi hj => ?_, fun j hj => ?_, F7a, F7s⟩
  · unfold f_X8_trimmed
    simp only [p_bs, p_le, p_obS hS (a := 31) (kd := 8) rfl, p_FS hF (a := 31) (i := 3) (b := 32) (by decide), p_FS hF (a := 31) (i := 8) (b := 37) (by decide), p_lenS hS (a := 32) (kd := 20) (n := 12) (x := 12) rfl rfl, p_lenS hS (a := 37) (kd := 20) (n := 436) (x := 436) rfl rfl, h0, h1, clip_n hn (by omega) (show (12 : Int32) = nI 12 from rfl), clip_n hs (by omega) (show (436 : Int32) = nI 436 from rfl), hsl, init, p_obA (kd := 8) s0, p_obS hS' (a := 31) (kd := 8) rfl]
    rw [e31, bl, p_bs]
    simp only [G (i := 3) (b := 32) (by decide), G (i := 4) (b := 33) (by decide), G (i := 5) (b := 34) (by decide), G (i := 6) (b := 35) (by decide), G (i := 7) (b := 36) (by decide), G (i := 8) (b := 37) (by decide), f3, f4, f5, f6, f7, f8, p_bs, c1, c2, c3, c4, c5, c6]
    simp only [cp_n _ _ _ n (by omega), cp_n _ _ _ s (by omega)]
    rfl
  · match i, hi with
    | 0, _ => exact sx 1
    | 1, _ => exact sx 2
    | 2, _ => exact sx 3
    | 3, _ => exact sx 4
    | 4, _ => exact sx 5
  · rw [cp_row (by omega), cp_row (by omega), cp_row (by omega), cp_row (by omega), cp_row (by omega), cp_row (by omega)]
    show v_up _ _ _ _ a = _
    simp only [w_row _ sl _ _ (show a ≠ sl by omega)]
  · rw [cp_row (by omega), cp_row (by omega), cp_row (by omega), cp_row (by omega), cp_row (by omega), cp_row (by omega)]
    show v_up _ _ _ _ sl 0 = _
    simp [v_up]
  · rw [cp_row (by omega), cp_row (by omega), cp_row (by omega), cp_row (by omega), cp_row (by omega), cp_row (by omega)]
    show v_up _ _ _ _ sl 2 = _
    simp [v_up]
  · have lo : ∀ a j, a < sl → A a j = I a j := fun a j ha => by
      show v_up _ _ _ _ a j = _
      simp only [w_row _ sl _ _ (show a ≠ sl by omega)]
    match i, hi with
    | 0, _ => rw [show sl + 1 + 0 = sl + 1 by omega, cp_row (by omega), cp_row (by omega), cp_row (by omega), cp_row (by omega), cp_row (by omega), cp_at hj, lo _ _ (by omega)]
    | 1, _ => rw [show sl + 1 + 1 = sl + 2 by omega, cp_row (by omega), cp_row (by omega), cp_row (by omega), cp_row (by omega), cp_at hj, cp_row (by omega), lo _ _ (by omega)]
    | 2, _ => rw [show sl + 1 + 2 = sl + 3 by omega, cp_row (by omega), cp_row (by omega), cp_row (by omega), cp_at hj, cp_row (by omega), cp_row (by omega), lo _ _ (by omega)]
    | 3, _ => rw [show sl + 1 + 3 = sl + 4 by omega, cp_row (by omega), cp_row (by omega), cp_at hj, cp_row (by omega), cp_row (by omega), cp_row (by omega), lo _ _ (by omega)]
    | 4, _ => rw [show sl + 1 + 4 = sl + 5 by omega, cp_row (by omega), cp_at hj, cp_row (by omega), cp_row (by omega), cp_row (by omega), cp_row (by omega), lo _ _ (by omega)]
  · rw [cp_at hj, cp_row (by omega), cp_row (by omega), cp_row (by omega), cp_row (by omega), cp_row (by omega)]
    show v_up _ _ _ _ 37 j = _
    simp only [w_row _ sl _ _ (show (37 : Nat) ≠ sl by omega)]
end sp98k
