noncomputable section sp73
theorem nI_or {a b : Nat} (ha : a < 256) (hb : b < 256) : nI a ||| nI b = nI (a ||| b) ∧ (a ||| b) < 256 := by
  have h3 : a ||| b < 256 := Nat.or_lt_two_pow (n := 8) ha hb
  refine ⟨?_, h3⟩
  apply Int32.toBitVec_inj.1
  show BitVec.ofNat 32 a ||| BitVec.ofNat 32 b = BitVec.ofNat 32 (a ||| b)
  apply BitVec.eq_of_toNat_eq
  simp only [BitVec.toNat_or, BitVec.toNat_ofNat]
  rw [Nat.mod_eq_of_lt (show a < 2 ^ 32 by omega), Nat.mod_eq_of_lt (show b < 2 ^ 32 by omega), Nat.mod_eq_of_lt (show a ||| b < 2 ^ 32 by omega)]
/-- a part of them has no more of them -/
theorem pc_sub {t a : Nat} (ht : t < 256) (ha : a < 256) (h : nI t &&& (nI a ^^^ -1) = 0) : pc t ≤ pc a := by
  rw [nI_not ht ha] at h
  have h0 : t &&& (a ^^^ 255) = 0 := (i_eqI (a := t &&& (a ^^^ 255)) (b := 0) rfl rfl (Nat.lt_of_le_of_lt Nat.and_le_left (by omega)) (by omega)).mp h
  have bit : ∀ i, i < 8 → t / 2 ^ i % 2 ≤ a / 2 ^ i % 2 := by
    intro i hi
    have e : (t &&& (a ^^^ 255)).testBit i = false := by rw [h0]; simp
    have e2 : (255 : Nat).testBit i = true := by
      rw [show (255 : Nat) = 2 ^ 8 - 1 by decide, Nat.testBit_two_pow_sub_one]; simp; omega
    rw [Nat.testBit_and, Nat.testBit_xor, e2] at e
    have h1 : t / 2 ^ i % 2 < 2 := Nat.mod_lt _ (by omega)
    by_cases ht : t.testBit i = true
    · rw [ht] at e
      have : a.testBit i = true := by simpa using e
      rw [Nat.testBit_eq_decide_div_mod_eq, decide_eq_true_iff] at this
      omega
    · rw [Nat.testBit_eq_decide_div_mod_eq, decide_eq_true_iff] at ht
      omega
  have b0 := bit 0 (by omega)
  have b1 := bit 1 (by omega)
  have b2 := bit 2 (by omega)
  have b3 := bit 3 (by omega)
  have b4 := bit 4 (by omega)
  have b5 := bit 5 (by omega)
  have b6 := bit 6 (by omega)
  have b7 := bit 7 (by omega)
  unfold pc
  simp only [Nat.pow_zero, Nat.div_one, Nat.reducePow] at *
  omega
/-- the first by how many they are, then the lowest -/
def isS (a : Nat) (Q : Nat → Nat → Prop) (r : Int32) : Prop := (∃ z t : Nat, z ≤ 8 ∧ t ≤ a ∧ Q z t ∧ (∀ z', z' < z → ∀ t', t' ≤ a → ¬ Q z' t') ∧ (∀ t', t' < t → ¬ Q z t') ∧ r = nI t) ∨ ((∀ z, z ≤ 8 → ∀ t, t ≤ a → ¬ Q z t) ∧ r = -1)
theorem isS_eq {a : Nat} {Q : Nat → Nat → Prop} {r r' : Int32} (h : isS a Q r) (h' : isS a Q r') : r = r' := by
  rcases h with ⟨z, t, hz, ht, q, n1, n2, rfl⟩ | ⟨n, rfl⟩
  · rcases h' with ⟨z', t', hz', ht', q', n1', n2', rfl⟩ | ⟨n', rfl⟩
    · have : z = z' := by
        rcases Nat.lt_trichotomy z z' with u | u | u
        · exact absurd q (n1' z u t ht)
        · exact u
        · exact absurd q' (n1 z' u t' ht')
      subst this
      have : t = t' := by
        rcases Nat.lt_trichotomy t t' with u | u | u
        · exact absurd q (n2' t u)
        · exact u
        · exact absurd q' (n2 t' u)
      rw [this]
    · exact absurd q (n' z hz t ht)
  · rcases h' with ⟨z', t', hz', ht', q', n1', n2', rfl⟩ | ⟨n', rfl⟩
    · exact absurd q' (n z' hz' t' ht')
    · rfl
theorem srch {σ : Type} {B : Int32 × σ → Option ((Int32 × σ) ⊕ (Nat × (Int32 × σ)))} {inv : σ → Prop} {a : Nat} {Q : Nat → Prop} (ha : a < 256)
    (hb : ∀ t s, t ≤ a → inv s → wp (B (nI t, s)) (v_K (fun u => u.1 = nI (t + 1) ∧ inv u.2 ∧ ¬ Q t) (fun c => c.1 = 0 ∧ c.2.1 = nI t ∧ inv c.2.2 ∧ Q t)))
    (he : ∀ s, B (nI (a + 1), s) = some (.inr (1, (nI (a + 1), s)))) {s0 : σ} (h0 : inv s0) :
    wp (v_loop B FU (0, s0)) (fun c => inv c.2.2 ∧ ((c.1 = 0 ∧ ∃ t, t ≤ a ∧ c.2.1 = nI t ∧ Q t ∧ ∀ t', t' < t → ¬ Q t') ∨ (c.1 ≠ 0 ∧ ∀ t, t ≤ a → ¬ Q t))) := by
  refine wp_lp (fun t (u : Int32 × σ) => u.1 = nI t ∧ inv u.2 ∧ ∀ t', t' < t → ¬ Q t') (a + 1) (by omega) ⟨rfl, h0, fun t' h => absurd h (Nat.not_lt_zero _)⟩ ?_
  rintro t ⟨x, s⟩ ht ⟨u1, u2, u3⟩
  dsimp only at u1 u2 u3
  subst u1
  by_cases e : t ≤ a
  · refine wp_mono (hb t s e u2) fun y hy => ?_
    cases y with
    | inl u =>
      obtain ⟨y1, y2, y3⟩ := hy
      refine ⟨by omega, y1, y2, fun t' h => ?_⟩
      by_cases et : t' = t
      · rw [et]; exact y3
      · exact u3 t' (by omega)
    | inr c =>
      obtain ⟨y1, y2, y3, y4⟩ := hy
      exact ⟨y3, .inl ⟨y1, t, e, y2, y4, u3⟩⟩
  · have : t = a + 1 := by omega
    subst this
    rw [he]
    exact wp_some.mpr ⟨u2, .inr ⟨by dsimp only; omega, fun t' h => u3 t' (by omega)⟩⟩
theorem nI_ne (k : Nat) (h : k < 2 ^ 31) : nI k ≠ -1 := fun q => absurd (show nI k < 0 by rw [q]; decide) (nI_pos h)
theorem isF_none {f : Nat → Prop} {r : Int32} (h : isF f r) : r = -1 ↔ ¬ ∃ i, i ≤ 60 ∧ f i := by
  rcases h with ⟨i, hi, fi, _, rfl⟩ | ⟨hn, rfl⟩
  · exact ⟨fun e => absurd e (nI_ne i (by omega)), fun e => absurd ⟨i, hi, fi⟩ e⟩
  · exact ⟨fun _ ⟨i, hi, fi⟩ => hn i hi fi, fun _ => rfl⟩
def Qc (L : Option (List Cls)) (n : Nat) (k : Nat → Int32) (o a : Nat) (w : Int32) (z t : Nat) : Prop := (nI t &&& (nI a ^^^ -1) = 0 ∧ pc t = z) ∧ ∃ i, i ≤ 60 ∧ it L n 0 (kup k 0 (nI (o ||| t))) i 0 &&& w = w
def Qh (L : Option (List Cls)) (n : Nat) (k : Nat → Int32) (o a : Nat) (w : Int32) (z t : Nat) : Prop := (nI t &&& (nI a ^^^ -1) = 0 ∧ pc t = z) ∧ ¬ ∃ i, i ≤ 60 ∧ it L n t (kup k 0 (nI (o &&& (t ^^^ 255)))) i 0 &&& w = w
theorem c_part {t a z : Nat} (ht : t < 256) (hz : z ≤ 9) : h_X1_isPart (nI t) (nI a) (nI z) = some (if nI t &&& (nI a ^^^ -1) = 0 ∧ pc t = z then 1 else 0) := by
  unfold h_X1_isPart
  have := pc_le t
  rw [b_bc ht, p_bs]
  by_cases e : pc t = z
  · rw [if_pos (by rw [e])]
    by_cases e2 : nI t &&& (nI a ^^^ -1) = 0
    · rw [if_pos e2, if_pos ⟨e2, e⟩]
    · rw [if_neg e2, if_neg (fun q => e2 q.1)]
  · rw [if_neg (fun q => e ((i_eqI rfl rfl (by omega) (by omega)).mp q)), if_neg (fun q => e q.2)]

theorem c_fewestCoaxed {S : v_S} {I : v_I} {F : v_F} (J : v_J) {n o a : Nat} {lw : Option Nat} {L : Option (List Cls)} {k : Nat → Int32} (h : cX S I F n lw L k) (ho : o < 256) (e0 : k 0 = nI o) (ha : a < 256) (w : Int32) :
    wp (v_loop (h_X1_fewestCoaxed_B3 S F (nI a) w) FU (0, I, J)) (fun q => isS a (Qc L n k o a w) (if q.1 = 0 then q.2.2.2.2 else -1) ∧ fc I q.2.2.1) := by
  have inn : ∀ (z : Nat) (I' : v_I) (J' : v_J), z ≤ 8 → fc I I' → wp (v_loop (h_X1_fewestCoaxed_B13 S F (nI a) w (nI z)) FU (0, I', J')) (fun c => fc I c.2.2.1 ∧ ((c.1 = 0 ∧ ∃ t, t ≤ a ∧ c.2.1 = nI t ∧ Qc L n k o a w z t ∧ ∀ t', t' < t → ¬ Qc L n k o a w z t') ∨ (c.1 ≠ 0 ∧ ∀ t, t ≤ a → ¬ Qc L n k o a w z t))) := by
    intro z I' J' hz hf
    refine srch (σ := v_I × v_J) (inv := fun s => fc I s.1) (a := a) (Q := fun t => Qc L n k o a w z t) ha ?_ ?_ (s0 := (I', J')) hf
    · rintro t ⟨I1, J1⟩ ht hf1
      dsimp only at hf1
      unfold h_X1_fewestCoaxed_B13 h_X1_fewestCoaxed_J13_54
      dsimp only
      rw [if_neg (nI_nlt ht (by omega)), c_part (by omega) (by omega), p_bs]
      by_cases hp : nI t &&& (nI a ^^^ -1) = 0 ∧ pc t = z
      · rw [if_pos hp, if_neg (by decide)]
        rw [(fc_cX hf1 h).2.2.2.2.2.2.1.1, e0, (nI_or ho (show t < 256 by omega)).1]
        refine wp_seq (c_first (hd := 0) J1 (fc_cX hf1 h) (nI (o ||| t)) w (nI_or ho (show t < 256 by omega)).2 (by rw [show nI 0 = 0 from rfl, and_all]) (by omega)) fun r hr => ?_
        obtain ⟨r1, r2⟩ := hr
        have r3 := fc_trans hf1 r2
        by_cases e : r.1 = -1
        · rw [if_pos e]
          rw [p_le]
          exact wp_some.mpr ⟨(nI_succ t).symm, r3, fun q => (isF_none r1).mp e q.2⟩
        · rw [if_neg e]
          refine wp_some.mpr ⟨rfl, rfl, r3, hp, ?_⟩
          exact Classical.byContradiction fun q => e ((isF_none r1).mpr q)
      · rw [if_neg hp, if_pos rfl, p_le]
        exact wp_some.mpr ⟨(nI_succ t).symm, hf1, fun q => hp q.1⟩
    · rintro ⟨I1, J1⟩
      unfold h_X1_fewestCoaxed_B13
      dsimp only
      rw [if_pos (nI_lt (by omega) (by omega))]
  refine wp_lp (fun z (u : Int32 × v_I × v_J) => u.1 = nI z ∧ fc I u.2.1 ∧ ∀ z', z' < z → ∀ t, t ≤ a → ¬ Qc L n k o a w z' t) 9 (by omega) ⟨rfl, fc_refl I, fun z' h => absurd h (Nat.not_lt_zero _)⟩ ?_
  rintro z ⟨x, I', J'⟩ hz ⟨u1, u2, u3⟩
  dsimp only at u1 u2 u3
  subst u1
  unfold h_X1_fewestCoaxed_B3
  dsimp only
  by_cases h8 : 8 < z
  · rw [if_pos (show (8 : Int32) < nI z from i_lt (a := 8) rfl rfl h8 (by omega))]
    exact wp_some.mpr ⟨.inr ⟨fun z' hz' t ht => u3 z' (by omega) t ht, by dsimp only; rw [if_neg (by omega)]⟩, u2⟩
  rw [if_neg (show ¬ (8 : Int32) < nI z from i_nlt (a := 8) rfl rfl (by omega) (by omega))]
  refine wp_seq (inn z I' J' (by omega) u2) fun c hc => ?_
  obtain ⟨c1, c2⟩ := hc
  rcases c2 with ⟨e, t, ht, et, q1, q2⟩ | ⟨e, q1⟩
  · rw [if_pos e]
    exact wp_some.mpr ⟨.inl ⟨z, t, by omega, ht, q1, u3, q2, by dsimp only; rw [if_pos rfl, et]⟩, c1⟩
  · rw [if_neg e, p_le]
    refine wp_some.mpr ⟨by omega, (nI_succ z).symm, c1, fun z' hz' t ht => ?_⟩
    by_cases ez : z' = z
    · rw [ez]; exact q1 t ht
    · exact u3 z' (by omega) t ht

theorem c_fewestHeld {S : v_S} {I : v_I} {F : v_F} (J : v_J) {n o a : Nat} {lw : Option Nat} {L : Option (List Cls)} {k : Nat → Int32} (h : cX S I F n lw L k) (ho : o < 256) (e0 : k 0 = nI o) (ha : a < 256) {kk : Nat} (hkk : kk < 8) :
    wp (v_loop (h_X1_fewestHeld_B14 S F (nI kk) (nI a)) FU (0, I, J)) (fun q => isS a (Qh L n k o a ((1 : Int32) <<< (nI kk &&& 31))) (if q.1 = 0 then q.2.2.2.2 else -1) ∧ fc I q.2.2.1) := by
  have inn : ∀ (z : Nat) (I' : v_I) (J' : v_J), z ≤ 8 → fc I I' → wp (v_loop (h_X1_fewestHeld_B24 S F (nI kk) (nI a) (nI z)) FU (0, I', J')) (fun c => fc I c.2.2.1 ∧ ((c.1 = 0 ∧ ∃ t, t ≤ a ∧ c.2.1 = nI t ∧ Qh L n k o a ((1 : Int32) <<< (nI kk &&& 31)) z t ∧ ∀ t', t' < t → ¬ Qh L n k o a ((1 : Int32) <<< (nI kk &&& 31)) z t') ∨ (c.1 ≠ 0 ∧ ∀ t, t ≤ a → ¬ Qh L n k o a ((1 : Int32) <<< (nI kk &&& 31)) z t))) := by
    intro z I' J' hz hf
    refine srch (σ := v_I × v_J) (inv := fun s => fc I s.1) (a := a) (Q := fun t => Qh L n k o a ((1 : Int32) <<< (nI kk &&& 31)) z t) ha ?_ ?_ (s0 := (I', J')) hf
    · rintro t ⟨I1, J1⟩ ht hf1
      dsimp only at hf1
      unfold h_X1_fewestHeld_B24 h_X1_fewestHeld_J24_65
      dsimp only
      rw [if_neg (nI_nlt ht (by omega)), c_part (by omega) (by omega), p_bs]
      by_cases hp : nI t &&& (nI a ^^^ -1) = 0 ∧ pc t = z
      · rw [if_pos hp, if_neg (by decide)]
        rw [(fc_cX hf1 h).2.2.2.2.2.2.1.1, e0]
        refine wp_seq (c_first (hd := t) J1 (fc_cX hf1 h) (nI o) ((1 : Int32) <<< (nI kk &&& 31)) (Nat.lt_of_le_of_lt Nat.and_le_left ho) (nI_not ho (by omega)) (by omega)) fun r hr => ?_
        obtain ⟨r1, r2⟩ := hr
        have r3 := fc_trans hf1 r2
        by_cases e : r.1 = -1
        · rw [if_pos e]
          exact wp_some.mpr ⟨rfl, rfl, r3, hp, (isF_none r1).mp e⟩
        · rw [if_neg e]
          rw [p_le]
          exact wp_some.mpr ⟨(nI_succ t).symm, r3, fun q => e ((isF_none r1).mpr q.2)⟩
      · rw [if_neg hp, if_pos rfl, p_le]
        exact wp_some.mpr ⟨(nI_succ t).symm, hf1, fun q => hp q.1⟩
    · rintro ⟨I1, J1⟩
      unfold h_X1_fewestHeld_B24
      dsimp only
      rw [if_pos (nI_lt (by omega) (by omega))]
  refine wp_lp (fun z (u : Int32 × v_I × v_J) => u.1 = nI z ∧ fc I u.2.1 ∧ ∀ z', z' < z → ∀ t, t ≤ a → ¬ Qh L n k o a ((1 : Int32) <<< (nI kk &&& 31)) z' t) 9 (by omega) ⟨rfl, fc_refl I, fun z' h => absurd h (Nat.not_lt_zero _)⟩ ?_
  rintro z ⟨x, I', J'⟩ hz ⟨u1, u2, u3⟩
  dsimp only at u1 u2 u3
  subst u1
  unfold h_X1_fewestHeld_B14
  dsimp only
  by_cases h8 : 8 < z
  · rw [if_pos (show (8 : Int32) < nI z from i_lt (a := 8) rfl rfl h8 (by omega))]
    exact wp_some.mpr ⟨.inr ⟨fun z' hz' t ht => u3 z' (by omega) t ht, by dsimp only; rw [if_neg (by omega)]⟩, u2⟩
  rw [if_neg (show ¬ (8 : Int32) < nI z from i_nlt (a := 8) rfl rfl (by omega) (by omega))]
  refine wp_seq (inn z I' J' (by omega) u2) fun c hc => ?_
  obtain ⟨c1, c2⟩ := hc
  rcases c2 with ⟨e, t, ht, et, q1, q2⟩ | ⟨e, q1⟩
  · rw [if_pos e]
    exact wp_some.mpr ⟨.inl ⟨z, t, by omega, ht, q1, u3, q2, by dsimp only; rw [if_pos rfl, et]⟩, c1⟩
  · rw [if_neg e, p_le]
    refine wp_some.mpr ⟨by omega, (nI_succ z).symm, c1, fun z' hz' t ht => ?_⟩
    by_cases ez : z' = z
    · rw [ez]; exact q1 t ht
    · exact u3 z' (by omega) t ht

theorem m_fewestFor {I : v_I} {n o a : Nat} {L : Option (List Cls)} {k : Nat → Int32} (h : mX I n L k) (ho : o < 256) (e0 : k 0 = nI o) (ha : a < 256) (w : Int32) :
    wp (v_loop (h_X10_fewestFor_B2 (nI a) w) FU (0, I)) (fun q => isS a (Qc L n k o a w) (if q.1 = 0 then q.2.2.2 else -1) ∧ fs I q.2.2.1) := by
  have inn : ∀ (z : Nat) (I' : v_I), z ≤ 8 → fs I I' → wp (v_loop (h_X10_fewestFor_B13 (nI a) w (nI z)) FU (0, I')) (fun c => fs I c.2.2 ∧ ((c.1 = 0 ∧ ∃ t, t ≤ a ∧ c.2.1 = nI t ∧ Qc L n k o a w z t ∧ ∀ t', t' < t → ¬ Qc L n k o a w z t') ∨ (c.1 ≠ 0 ∧ ∀ t, t ≤ a → ¬ Qc L n k o a w z t))) := by
    intro z I' hz hf
    refine srch (σ := v_I) (inv := fun s => fs I s) (a := a) (Q := fun t => Qc L n k o a w z t) ha ?_ ?_ (s0 := I') hf
    · intro t I1 ht hf1
      unfold h_X10_fewestFor_B13 h_X10_fewestFor_J13_54
      dsimp only
      have := pc_le t
      rw [if_neg (nI_nlt ht (by omega))]
      by_cases hp1 : nI t &&& (nI a ^^^ -1) = 0
      · rw [if_pos hp1, b_ones (by omega), p_bs]
        by_cases hp2 : pc t = z
        · rw [if_pos (by rw [hp2])]
          refine wp_seq (m_first (mX_51 (fs_51 hf1) h) (nI t) w (nI_or ho (show t < 256 by omega)).2 (by rw [e0, (nI_or ho (show t < 256 by omega)).1])) fun r hr => ?_
          obtain ⟨r1, r2⟩ := hr
          have r3 := fs_trans hf1 r2
          by_cases e : r.1 = -1
          · rw [if_pos e, p_le]
            exact wp_some.mpr ⟨(nI_succ t).symm, r3, fun q => (isF_none r1).mp e q.2⟩
          · rw [if_neg e]
            refine wp_some.mpr ⟨rfl, rfl, r3, ⟨hp1, hp2⟩, ?_⟩
            exact Classical.byContradiction fun q => e ((isF_none r1).mpr q)
        · rw [if_neg (fun q => hp2 ((i_eqI rfl rfl (by omega) (by omega)).mp q)), p_le]
          exact wp_some.mpr ⟨(nI_succ t).symm, hf1, fun q => hp2 q.1.2⟩
      · rw [if_neg hp1, p_le]
        exact wp_some.mpr ⟨(nI_succ t).symm, hf1, fun q => hp1 q.1.1⟩
    · intro I1
      unfold h_X10_fewestFor_B13
      dsimp only
      rw [if_pos (nI_lt (by omega) (by omega))]
  have := pc_le a
  refine wp_lp (fun z (u : Int32 × v_I) => u.1 = nI z ∧ fs I u.2 ∧ ∀ z', z' < z → ∀ t, t ≤ a → ¬ Qc L n k o a w z' t) (pc a + 1) (by omega) ⟨rfl, fs_refl I, fun z' h => absurd h (Nat.not_lt_zero _)⟩ ?_
  rintro z ⟨x, I'⟩ hz ⟨u1, u2, u3⟩
  dsimp only at u1 u2 u3
  subst u1
  unfold h_X10_fewestFor_B2
  dsimp only
  rw [b_ones ha, p_bs]
  by_cases h8 : pc a < z
  · rw [if_pos (nI_lt h8 (by omega))]
    refine wp_some.mpr ⟨.inr ⟨fun z' hz' t ht => ?_, by dsimp only; rw [if_neg (by omega)]⟩, u2⟩
    by_cases ez : z' < z
    · exact u3 z' ez t ht
    · intro q
      have := pc_sub (by omega) ha q.1.1
      have := q.1.2
      omega
  rw [if_neg (nI_nlt (by omega) (by omega))]
  refine wp_seq (inn z I' (by omega) u2) fun c hc => ?_
  obtain ⟨c1, c2⟩ := hc
  rcases c2 with ⟨e, t, ht, et, q1, q2⟩ | ⟨e, q1⟩
  · rw [if_pos e]
    exact wp_some.mpr ⟨.inl ⟨z, t, by omega, ht, q1, u3, q2, by dsimp only; rw [if_pos rfl, et]⟩, c1⟩
  · rw [if_neg e, p_le]
    refine wp_some.mpr ⟨by omega, (nI_succ z).symm, c1, fun z' hz' t ht => ?_⟩
    by_cases ez : z' = z
    · rw [ez]; exact q1 t ht
    · exact u3 z' (by omega) t ht

theorem bit_and (u h : Nat) (hu : u < 256) (hh : h < 8) : (nI u >>> (nI h &&& 31) &&& 1 = 1) ↔ (nI u &&& ((1 : Int32) <<< (nI h &&& 31)) = (1 : Int32) <<< (nI h &&& 31)) := by
  have : ∀ h : Nat, h < 8 → ∀ u : Nat, u < 256 → ((nI u >>> (nI h &&& 31) &&& 1 = 1) ↔ (nI u &&& ((1 : Int32) <<< (nI h &&& 31)) = (1 : Int32) <<< (nI h &&& 31))) := by decide +kernel
  exact this h hh u hu
theorem m_shut {I : v_I} {n o t hh : Nat} {L : Option (List Cls)} {k : Nat → Int32} (h : mX I n L k) (ho : o < 256) (e0 : k 0 = nI o) (ht : t < 256) (hhh : hh < 8) :
    wp (h_X10_staysShut I (nI hh) (nI t)) (fun r => (r.1 = 0 ↔ ∃ i, i ≤ 60 ∧ it L n t (kup k 0 (nI (o &&& (t ^^^ 255)))) i 0 &&& ((1 : Int32) <<< (nI hh &&& 31)) = (1 : Int32) <<< (nI hh &&& 31)) ∧ fs I r.2) := by
  unfold h_X10_staysShut h_X10_isIn
  have hlt : o &&& (t ^^^ 255) < 256 := Nat.lt_of_le_of_lt Nat.and_le_left ho
  refine wp_seq (m_lays (hd := t) h 0 0 ((1 : Int32) <<< (nI hh &&& 31)) hlt (by rw [and_all, Int32.or_zero, e0]; exact nI_not ho ht) ht) fun r hr => ?_
  obtain ⟨r1, N, hN, r2, r3, r4, r5⟩ := hr
  rw [r2, p_in_nI (by omega) (by omega), p_bs, r4 N (Nat.le_refl _)]
  have hB0 : kB (kup k 0 (nI (o &&& (t ^^^ 255)))) := ⟨⟨_, hlt, kup_at _ _ _⟩, fun z hz => by rw [kup_ne _ _ (by omega)]; exact h.2.2.2.1.2 z hz⟩
  obtain ⟨⟨u, hu, eu⟩, _⟩ := it_B (L := L) (hd := t) h.2.1 hB0 N
  by_cases hw : it L n t (kup k 0 (nI (o &&& (t ^^^ 255)))) N 0 &&& ((1 : Int32) <<< (nI hh &&& 31)) = (1 : Int32) <<< (nI hh &&& 31)
  · rw [if_pos (by rw [eu] at hw ⊢; exact (bit_and u hh hu hhh).mpr hw), p_bs, if_neg (by decide)]
    exact wp_some.mpr ⟨⟨fun _ => ⟨N, hN, hw⟩, fun _ => rfl⟩, r1⟩
  · rw [if_neg (by rw [eu] at hw ⊢; exact fun q => hw ((bit_and u hh hu hhh).mp q)), p_bs, if_pos rfl]
    refine wp_some.mpr ⟨⟨fun e => absurd e (show ¬ (1 : Int32) = 0 by decide), fun ⟨i, hi, hf⟩ => ?_⟩, r1⟩
    exfalso
    rcases r5 with e | ⟨_, e | e⟩
    · exact hw e
    · by_cases hiN : i < N
      · exact r3 i hiN hf
      · rw [show i = N by omega] at hf; exact hw hf
    · by_cases hiN : i < N
      · exact r3 i hiN hf
      · rw [e i (by omega)] at hf; exact hw hf

theorem m_fewestHeld {I : v_I} {n o a : Nat} {L : Option (List Cls)} {k : Nat → Int32} (h : mX I n L k) (ho : o < 256) (e0 : k 0 = nI o) (ha : a < 256) {kk : Nat} (hkk : kk < 8) :
    wp (v_loop (h_X10_fewestHeld_B13 (nI kk) (nI a)) FU (0, I)) (fun q => isS a (Qh L n k o a ((1 : Int32) <<< (nI kk &&& 31))) (if q.1 = 0 then q.2.2.2 else -1) ∧ fs I q.2.2.1) := by
  have inn : ∀ (z : Nat) (I' : v_I), z ≤ 8 → fs I I' → wp (v_loop (h_X10_fewestHeld_B24 (nI kk) (nI a) (nI z)) FU (0, I')) (fun c => fs I c.2.2 ∧ ((c.1 = 0 ∧ ∃ t, t ≤ a ∧ c.2.1 = nI t ∧ Qh L n k o a ((1 : Int32) <<< (nI kk &&& 31)) z t ∧ ∀ t', t' < t → ¬ Qh L n k o a ((1 : Int32) <<< (nI kk &&& 31)) z t') ∨ (c.1 ≠ 0 ∧ ∀ t, t ≤ a → ¬ Qh L n k o a ((1 : Int32) <<< (nI kk &&& 31)) z t))) := by
    intro z I' hz hf
    refine srch (σ := v_I) (inv := fun s => fs I s) (a := a) (Q := fun t => Qh L n k o a ((1 : Int32) <<< (nI kk &&& 31)) z t) ha ?_ ?_ (s0 := I') hf
    · intro t I1 ht hf1
      unfold h_X10_fewestHeld_B24 h_X10_fewestHeld_J24_64
      dsimp only
      have := pc_le t
      rw [if_neg (nI_nlt ht (by omega))]
      by_cases hp1 : nI t &&& (nI a ^^^ -1) = 0
      · rw [if_pos hp1, b_ones (by omega), p_bs]
        by_cases hp2 : pc t = z
        · rw [if_pos (by rw [hp2])]
          refine wp_seq (m_shut (mX_51 (fs_51 hf1) h) ho e0 (show t < 256 by omega) hkk) fun r hr => ?_
          obtain ⟨r1, r2⟩ := hr
          have r3 := fs_trans hf1 r2
          by_cases e : r.1 = 0
          · rw [if_pos e, p_le]
            exact wp_some.mpr ⟨(nI_succ t).symm, r3, fun q => q.2 (r1.mp e)⟩
          · rw [if_neg e]
            exact wp_some.mpr ⟨rfl, rfl, r3, ⟨hp1, hp2⟩, fun q => e (r1.mpr q)⟩
        · rw [if_neg (fun q => hp2 ((i_eqI rfl rfl (by omega) (by omega)).mp q)), p_le]
          exact wp_some.mpr ⟨(nI_succ t).symm, hf1, fun q => hp2 q.1.2⟩
      · rw [if_neg hp1, p_le]
        exact wp_some.mpr ⟨(nI_succ t).symm, hf1, fun q => hp1 q.1.1⟩
    · intro I1
      unfold h_X10_fewestHeld_B24
      dsimp only
      rw [if_pos (nI_lt (by omega) (by omega))]
  have := pc_le a
  refine wp_lp (fun z (u : Int32 × v_I) => u.1 = nI z ∧ fs I u.2 ∧ ∀ z', z' < z → ∀ t, t ≤ a → ¬ Qh L n k o a ((1 : Int32) <<< (nI kk &&& 31)) z' t) (pc a + 1) (by omega) ⟨rfl, fs_refl I, fun z' h => absurd h (Nat.not_lt_zero _)⟩ ?_
  rintro z ⟨x, I'⟩ hz ⟨u1, u2, u3⟩
  dsimp only at u1 u2 u3
  subst u1
  unfold h_X10_fewestHeld_B13
  dsimp only
  rw [b_ones ha, p_bs]
  by_cases h8 : pc a < z
  · rw [if_pos (nI_lt h8 (by omega))]
    refine wp_some.mpr ⟨.inr ⟨fun z' hz' t ht => ?_, by dsimp only; rw [if_neg (by omega)]⟩, u2⟩
    by_cases ez : z' < z
    · exact u3 z' ez t ht
    · intro q
      have := pc_sub (by omega) ha q.1.1
      have := q.1.2
      omega
  rw [if_neg (nI_nlt (by omega) (by omega))]
  refine wp_seq (inn z I' (by omega) u2) fun c hc => ?_
  obtain ⟨c1, c2⟩ := hc
  rcases c2 with ⟨e, t, ht, et, q1, q2⟩ | ⟨e, q1⟩
  · rw [if_pos e]
    exact wp_some.mpr ⟨.inl ⟨z, t, by omega, ht, q1, u3, q2, by dsimp only; rw [if_pos rfl, et]⟩, c1⟩
  · rw [if_neg e, p_le]
    refine wp_some.mpr ⟨by omega, (nI_succ z).symm, c1, fun z' hz' t ht => ?_⟩
    by_cases ez : z' = z
    · rw [ez]; exact q1 t ht
    · exact u3 z' (by omega) t ht

theorem ev_n {n : Nat} (hn : n ≤ 8) : ((1 : Int32) <<< (nI n &&& 31)) - 1 = nI (2 ^ n - 1) := by
  have : ∀ n : Nat, n < 9 → ((1 : Int32) <<< (nI n &&& 31)) - 1 = nI (2 ^ n - 1) := by decide
  exact this n (by omega)
theorem tell_eq {r w : Int32} {t : Nat} (h : r = -1 ∨ (r = nI t ∧ t < 256)) : ∃ x, h_X9_tellSet r w = some x ∧ h_X10_toldOf r w = some x := by
  unfold h_X9_tellSet h_X10_toldOf
  rcases h with h | ⟨h, ht⟩
  · rw [if_pos h, if_pos h]; exact ⟨_, rfl, rfl⟩
  · have hr : ¬ r = -1 := by rw [h]; exact nI_ne t (by omega)
    rw [if_neg hr, if_neg hr]
    by_cases e : w = 1
    · rw [if_pos e, if_pos e]; exact ⟨_, rfl, rfl⟩
    · rw [if_neg e, if_neg e, h, b_bc ht, b_ones ht, p_bs]; exact ⟨_, rfl, rfl⟩
theorem isS_t {a : Nat} {Q : Nat → Nat → Prop} {r : Int32} (ha : a < 256) (h : isS a Q r) : ∃ t, r = -1 ∨ (r = nI t ∧ t < 256) := by
  rcases h with ⟨z, t, hz, ht, q, n1, n2, rfl⟩ | ⟨n, rfl⟩
  · exact ⟨t, .inr ⟨rfl, by omega⟩⟩
  · exact ⟨0, .inl rfl⟩
theorem ev_lt {n : Nat} (hn : n ≤ 8) : 2 ^ n - 1 < 256 := by have := two_le hn; omega
theorem ok_22 {S : v_S} {I : v_I} {J : v_J} {F : v_F} (h : R S I J F) : op_22 R S I J F := by
  intro a
  simp only [s_X9_seeds h.1 h.2.1, s_X10_seeds h.1 h.2.1]
  obtain ⟨n, lw, L, hX⟩ := R_cX h
  obtain ⟨o, ho, e0⟩ := id hX.2.2.2.2.1.1
  have hn := hX.2.2.1
  refine qop (md := fun I => h_X10_seeds I a) h ?_
  unfold h_X9_seeds
  rcases upTo_cases a (q := 1) (m := 1) rfl (by omega) with ⟨N, hN, rfl, u1, u2⟩ | ⟨u1, u2, _⟩
  · rw [u1, p_bs, if_neg (by decide)]
    unfold h_X0_everyone h_X1_fewestCoaxed
    rw [p_bs, p_le, p_bs, R_many h hX, show I 2 0 = nI o by rw [hX.2.2.2.2.2.2.1.1, e0], ev_n hn, nI_not (ev_lt hn) ho]
    have hlt : (2 ^ n - 1) &&& (o ^^^ 255) < 256 := Nat.lt_of_le_of_lt Nat.and_le_left (ev_lt hn)
    refine wp_seq (P := fun r => isS ((2 ^ n - 1) &&& (o ^^^ 255)) (Qc L n (I 51) o ((2 ^ n - 1) &&& (o ^^^ 255)) (nI (2 ^ n - 1))) r.1 ∧ fc I r.2.1) ?_ fun r hr => ?_
    · refine wp_seq (c_fewestCoaxed J hX ho e0 hlt _) fun q hq => ?_
      by_cases e : q.1 = 0
      · rw [if_pos e] at hq ⊢; exact wp_some.mpr hq
      · rw [if_neg e] at hq ⊢; exact wp_some.mpr hq
    obtain ⟨r1, r2⟩ := hr
    obtain ⟨t, ht⟩ := isS_t hlt r1
    obtain ⟨x, x1, x2⟩ := tell_eq (w := nI N) ht
    rw [x1, p_bs]
    refine wp_some.mpr ⟨fc_fr r2, ?_⟩
    dsimp only
    unfold h_X10_seeds h_X10_shutNow h_X10_everybody h_X10_many h_X10_fewestFor
    rw [bit_of u2 (.inr rfl), p_bs, if_neg (by decide)]
    simp only [p_bs]
    rw [fc_51 r2, hX.2.2.2.1, e0, ev_n hn, nI_not (ev_lt hn) ho]
    refine wp_seq (P := fun q => isS ((2 ^ n - 1) &&& (o ^^^ 255)) (Qc L n (I 51) o ((2 ^ n - 1) &&& (o ^^^ 255)) (nI (2 ^ n - 1))) q.1 ∧ fs r.2.1 q.2) ?_ fun q hq => ?_
    · refine wp_seq (m_fewestFor (mX_51 (fc_51 r2) (cX_mX hX)) ho e0 hlt _) fun q hq => ?_
      by_cases e : q.1 = 0
      · rw [if_pos e] at hq ⊢; exact wp_some.mpr hq
      · rw [if_neg e] at hq ⊢; exact wp_some.mpr hq
    obtain ⟨q1, q2⟩ := hq
    rw [← isS_eq r1 q1, x2, p_bs]
    exact wp_some.mpr ⟨rfl, fs_fr q2⟩
  · rw [u1, p_bs, if_pos rfl]
    refine wp_some.mpr ⟨fr_refl I, ?_⟩
    unfold h_X10_seeds
    rw [bit_of u2 (.inl rfl), p_bs, if_pos rfl]
    exact wp_some.mpr ⟨rfl, fr_refl I⟩
theorem ok_23 {S : v_S} {I : v_I} {J : v_J} {F : v_F} (h : R S I J F) : op_23 R S I J F := by
  intro p a
  simp only [s_X9_seedsFor h.1 h.2.1, s_X10_seedsFor h.1 h.2.1]
  obtain ⟨n, lw, L, hX⟩ := R_cX h
  obtain ⟨o, ho, e0⟩ := id hX.2.2.2.2.1.1
  have hn := hX.2.2.1
  refine qop (md := fun I => h_X10_seedsFor I p a) h ?_
  unfold h_X9_seedsFor
  rcases one_cases p (n := n) hn with ⟨k, hk, rfl, w1, w2⟩ | ⟨w1, w2, _⟩
  · rcases upTo_cases a (q := 1) (m := 1) rfl (by omega) with ⟨N, hN, rfl, u1, u2⟩ | ⟨u1, u2, _⟩
    · rw [u1, p_bs, if_neg (by decide), w1 S I (R_many h hX), p_bs, if_neg (by decide)]
      unfold h_X0_everyone h_X1_fewestCoaxed
      have hlt0 : (2 ^ n - 1) &&& (o ^^^ 255) < 256 := Nat.lt_of_le_of_lt Nat.and_le_left (ev_lt hn)
      rw [p_bs, p_le, R_many h hX, show I 2 0 = nI o by rw [hX.2.2.2.2.2.2.1.1, e0], ev_n hn, nI_not (ev_lt hn) ho, b_clr k _ (by omega) hlt0]
      have hlt : ((2 ^ n - 1) &&& (o ^^^ 255)) &&& (255 - 2 ^ k) < 256 := Nat.lt_of_le_of_lt Nat.and_le_left hlt0
      refine wp_seq (P := fun r => isS (((2 ^ n - 1) &&& (o ^^^ 255)) &&& (255 - 2 ^ k)) (Qc L n (I 51) o (((2 ^ n - 1) &&& (o ^^^ 255)) &&& (255 - 2 ^ k)) ((1 : Int32) <<< (nI k &&& 31))) r.1 ∧ fc I r.2.1) ?_ fun r hr => ?_
      · refine wp_seq (c_fewestCoaxed J hX ho e0 hlt _) fun q hq => ?_
        by_cases e : q.1 = 0
        · rw [if_pos e] at hq ⊢; exact wp_some.mpr hq
        · rw [if_neg e] at hq ⊢; exact wp_some.mpr hq
      obtain ⟨r1, r2⟩ := hr
      obtain ⟨t, ht⟩ := isS_t hlt r1
      obtain ⟨x, x1, x2⟩ := tell_eq (w := nI N) ht
      rw [x1, p_bs]
      refine wp_some.mpr ⟨fc_fr r2, ?_⟩
      dsimp only
      unfold h_X10_seedsFor h_X10_shutNow h_X10_everybody h_X10_many h_X10_fewestFor
      rw [w2 _ (by rw [fc_51 r2]; exact hX.2.2.2.1), p_bs, if_neg (by decide), bit_of u2 (.inr rfl), p_bs, if_neg (by decide), p_bs, p_bs, p_bs, fc_51 r2, hX.2.2.2.1, e0, ev_n hn, nI_not (ev_lt hn) ho, b_clr k _ (by omega) hlt0]
      refine wp_seq (P := fun q => isS (((2 ^ n - 1) &&& (o ^^^ 255)) &&& (255 - 2 ^ k)) (Qc L n (I 51) o (((2 ^ n - 1) &&& (o ^^^ 255)) &&& (255 - 2 ^ k)) ((1 : Int32) <<< (nI k &&& 31))) q.1 ∧ fs r.2.1 q.2) ?_ fun q hq => ?_
      · refine wp_seq (m_fewestFor (mX_51 (fc_51 r2) (cX_mX hX)) ho e0 hlt _) fun q hq => ?_
        by_cases e : q.1 = 0
        · rw [if_pos e] at hq ⊢; exact wp_some.mpr hq
        · rw [if_neg e] at hq ⊢; exact wp_some.mpr hq
      obtain ⟨q1, q2⟩ := hq
      rw [← isS_eq r1 q1, x2, p_bs]
      exact wp_some.mpr ⟨rfl, fs_fr q2⟩
    · rw [u1, p_bs, if_pos rfl]
      refine wp_some.mpr ⟨fr_refl I, ?_⟩
      unfold h_X10_seedsFor
      rw [w2 I hX.2.2.2.1, p_bs, if_neg (by decide), bit_of u2 (.inl rfl), p_bs, if_pos rfl]
      exact wp_some.mpr ⟨rfl, fr_refl I⟩
  · have fin : wp (some ((-1 : Int32), I, J)) (fun r => fr I r.2.1 ∧ wp (h_X10_seedsFor r.2.1 p a) (fun q => r.1 = q.1 ∧ fr r.2.1 q.2)) := by
      refine wp_some.mpr ⟨fr_refl I, ?_⟩
      unfold h_X10_seedsFor
      rw [w2 I hX.2.2.2.1, p_bs, if_pos rfl]
      exact wp_some.mpr ⟨rfl, fr_refl I⟩
    rcases upTo_cases a (q := 1) (m := 1) rfl (by omega) with ⟨N, hN, rfl, u1, u2⟩ | ⟨u1, u2, _⟩
    · rw [u1, p_bs, if_neg (by decide), w1 S I (R_many h hX), p_bs, if_pos rfl]; exact fin
    · rw [u1, p_bs, if_pos rfl]; exact fin
theorem ok_25 {S : v_S} {I : v_I} {J : v_J} {F : v_F} (h : R S I J F) : op_25 R S I J F := by
  intro p a
  simp only [s_X9_held h.1 h.2.1, s_X10_held h.1 h.2.1]
  obtain ⟨n, lw, L, hX⟩ := R_cX h
  obtain ⟨o, ho, e0⟩ := id hX.2.2.2.2.1.1
  have hn := hX.2.2.1
  refine qop (md := fun I => h_X10_held I p a) h ?_
  unfold h_X9_held
  rcases one_cases p (n := n) hn with ⟨k, hk, rfl, w1, w2⟩ | ⟨w1, w2, _⟩
  · have o1 : h_X3_isOpen S I 2 3 4 (nI k) = some (if o.testBit k = true then 1 else 0) := by
      unfold h_X3_isOpen
      rw [show I 2 0 = nI o by rw [hX.2.2.2.2.2.2.1.1, e0], b_bit k o (by omega) ho]
      simp only [bit_tb]
      split <;> rfl
    have o2 : ∀ I' : v_I, I' 51 = I 51 → h_X10_isOpen I' (nI k) = some (if o.testBit k = true then 1 else 0) := by
      intro I' e
      unfold h_X10_isOpen h_X10_isIn
      rw [e, e0, b_bit k o (by omega) ho]
      simp only [bit_tb]
      by_cases q : o.testBit k = true
      · rw [if_pos q, if_pos q]; rfl
      · rw [if_neg q, if_neg q]; rfl
    rcases upTo_cases a (q := 1) (m := 1) rfl (by omega) with ⟨N, hN, rfl, u1, u2⟩ | ⟨u1, u2, _⟩
    · rw [u1, p_bs, if_neg (by decide), w1 S I (R_many h hX), p_bs, if_neg (by decide), o1, p_bs]
      by_cases hop : o.testBit k = true
      · rw [if_pos hop, if_neg (by decide)]
        refine wp_some.mpr ⟨fr_refl I, ?_⟩
        unfold h_X10_held
        rw [w2 I hX.2.2.2.1, p_bs, if_neg (by decide), o2 I rfl, p_bs, if_pos hop, if_neg (by decide)]
        exact wp_some.mpr ⟨rfl, fr_refl I⟩
      · rw [if_neg hop, if_pos rfl]
        unfold h_X1_fewestHeld h_X0_everyone
        rw [p_bs, p_le, R_many h hX, ev_n hn, b_clr k _ (by omega) (ev_lt hn)]
        have hlt : (2 ^ n - 1) &&& (255 - 2 ^ k) < 256 := Nat.lt_of_le_of_lt Nat.and_le_left (ev_lt hn)
        refine wp_seq (P := fun r => isS ((2 ^ n - 1) &&& (255 - 2 ^ k)) (Qh L n (I 51) o ((2 ^ n - 1) &&& (255 - 2 ^ k)) ((1 : Int32) <<< (nI k &&& 31))) r.1 ∧ fc I r.2.1) ?_ fun r hr => ?_
        · refine wp_seq (c_fewestHeld J hX ho e0 hlt (show k < 8 by omega)) fun q hq => ?_
          by_cases e : q.1 = 0
          · rw [if_pos e] at hq ⊢; exact wp_some.mpr hq
          · rw [if_neg e] at hq ⊢; exact wp_some.mpr hq
        obtain ⟨r1, r2⟩ := hr
        obtain ⟨t, ht⟩ := isS_t hlt r1
        obtain ⟨x, x1, x2⟩ := tell_eq (w := nI N) ht
        rw [x1, p_bs]
        refine wp_some.mpr ⟨fc_fr r2, ?_⟩
        dsimp only
        unfold h_X10_held h_X10_fewestHeld h_X10_everybody h_X10_many
        rw [w2 _ (by rw [fc_51 r2]; exact hX.2.2.2.1), p_bs, if_neg (by decide), o2 _ (fc_51 r2), p_bs, if_neg hop, if_pos rfl, bit_of u2 (.inr rfl), p_bs, if_neg (by decide), p_bs, p_bs, p_le, fc_51 r2, hX.2.2.2.1, ev_n hn, b_clr k _ (by omega) (ev_lt hn)]
        refine wp_seq (P := fun q => isS ((2 ^ n - 1) &&& (255 - 2 ^ k)) (Qh L n (I 51) o ((2 ^ n - 1) &&& (255 - 2 ^ k)) ((1 : Int32) <<< (nI k &&& 31))) q.1 ∧ fs r.2.1 q.2) ?_ fun q hq => ?_
        · refine wp_seq (m_fewestHeld (mX_51 (fc_51 r2) (cX_mX hX)) ho e0 hlt (show k < 8 by omega)) fun q hq => ?_
          by_cases e : q.1 = 0
          · rw [if_pos e] at hq ⊢; exact wp_some.mpr hq
          · rw [if_neg e] at hq ⊢; exact wp_some.mpr hq
        obtain ⟨q1, q2⟩ := hq
        rw [← isS_eq r1 q1, x2, p_bs]
        exact wp_some.mpr ⟨rfl, fs_fr q2⟩
    · rw [u1, p_bs, if_pos rfl]
      refine wp_some.mpr ⟨fr_refl I, ?_⟩
      unfold h_X10_held
      rw [w2 I hX.2.2.2.1, p_bs, if_neg (by decide), o2 I rfl, p_bs]
      by_cases hop : o.testBit k = true
      · rw [if_pos hop, if_neg (by decide)]
        exact wp_some.mpr ⟨rfl, fr_refl I⟩
      · rw [if_neg hop, if_pos rfl, bit_of u2 (.inl rfl), p_bs, if_pos rfl]
        exact wp_some.mpr ⟨rfl, fr_refl I⟩
  · have fin : wp (some ((-1 : Int32), I, J)) (fun r => fr I r.2.1 ∧ wp (h_X10_held r.2.1 p a) (fun q => r.1 = q.1 ∧ fr r.2.1 q.2)) := by
      refine wp_some.mpr ⟨fr_refl I, ?_⟩
      unfold h_X10_held
      rw [w2 I hX.2.2.2.1, p_bs, if_pos rfl]
      exact wp_some.mpr ⟨rfl, fr_refl I⟩
    rcases upTo_cases a (q := 1) (m := 1) rfl (by omega) with ⟨N, hN, rfl, u1, u2⟩ | ⟨u1, u2, _⟩
    · rw [u1, p_bs, if_neg (by decide), w1 S I (R_many h hX), p_bs, if_pos rfl]; exact fin
    · rw [u1, p_bs, if_pos rfl]; exact fin
end sp73
