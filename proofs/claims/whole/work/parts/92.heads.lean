noncomputable section sp92
def K8 (W : Nat → Nat) (a : Nat) : Nat := nx (fun h => (sr W a 8).testBit h && (sr W h 8).testBit a) 8
def lo (W : Nat → Nat) (h : Nat) : Bool := decide (nI (K8 W h) &&& (((1 : Int32) <<< (nI h &&& 31)) - 1) = 0)
theorem K8_lt (W : Nat → Nat) (a : Nat) : K8 W a < 256 := nx_lt _ 8
theorem K8_bit {W : Nat → Nat} (hW : ∀ h, h < 8 → W h < 256) {a i : Nat} (ha : a < 8) : (K8 W a).testBit i = true ↔ i < 8 ∧ Rt W i a ∧ Rt W a i := by
  unfold K8
  rw [nx_bit, Bool.and_eq_true, decide_eq_true_iff, Bool.and_eq_true]
  constructor
  · rintro ⟨h1, h2, h3⟩
    exact ⟨h1, (sr_8 hW ha i).mp h2, (sr_8 hW h1 a).mp h3⟩
  · rintro ⟨h1, h2, h3⟩
    exact ⟨h1, (sr_8 hW ha i).mpr h2, (sr_8 hW h1 a).mpr h3⟩
theorem Rt_lt {W : Nat → Nat} {n x h : Nat} (hW : ∀ h, h < 8 → W h < 2 ^ n) (hh : h < n) (q : Rt W x h) : x < n := by
  obtain ⟨j, q⟩ := q
  exact pth_lt hW hh q
theorem K_eq {W Y : Nat → Nat} {n a : Nat} (hn : n ≤ 8) (hW : ∀ h, h < 8 → W h < 2 ^ n) (ha : a < n) (hY : ∀ h, h < n → ∀ y, y < n → ((Y h).testBit y = true ↔ Rt W h y)) : nx (fun b => (Y a).testBit b && (Y b).testBit a) n = K8 W a := by
  have t256 := two_le hn
  have hW8 : ∀ h, h < 8 → W h < 256 := fun h hh => by have := hW h hh; omega
  apply Nat.eq_of_testBit_eq
  intro i
  rw [Bool.eq_iff_iff, K8_bit hW8 (by omega), nx_bit, Bool.and_eq_true, decide_eq_true_iff, Bool.and_eq_true]
  constructor
  · rintro ⟨h1, h2, h3⟩
    exact ⟨by omega, (hY i h1 a ha).mp h3, (hY a ha i h1).mp h2⟩
  · rintro ⟨h1, h2, h3⟩
    have hi := Rt_lt hW ha h2
    exact ⟨hi, (hY a ha i hi).mpr h3, (hY i hi a ha).mpr h2⟩
theorem K8_self {W : Nat → Nat} (hW : ∀ h, h < 8 → W h < 256) {a : Nat} (ha : a < 8) : (K8 W a).testBit a = true := (K8_bit hW ha).mpr ⟨ha, ⟨0, rfl⟩, ⟨0, rfl⟩⟩
theorem c_lows {S : v_S} {I : v_I} {F : v_F} {W : Nat → Nat} {n : Nat} (hn : n ≤ 8) (hW : ∀ h, h < 8 → W h < 256 ∧ I 6 h = nI (W h)) (e10 : I 1 0 = nI n) : wp (h_X5_lowestOfKnots S I F) (fun r => r.1 = nI (nx (lo W) n) ∧ (∀ h, h < 8 → r.2 25 h = nI (sr W h 8)) ∧ ∀ a, a ≠ 25 → r.2 a = I a) := by
  have hW' : ∀ h, h < 8 → W h < 256 := fun h hh => (hW h hh).1
  unfold h_X5_lowestOfKnots
  refine wp_seq (c_src hW) fun I1 hI1 => ?_
  obtain ⟨a1, a2⟩ := hI1
  have hZ : ∀ h, h < 8 → sr W h 8 < 256 ∧ I1 25 h = nI (sr W h 8) := fun h hh => ⟨sr_lt (n := 8) hW' hh 8, a1 h hh⟩
  have e1 : I1 1 0 = nI n := by rw [a2 1 (by omega)]; exact e10
  have lp := v_loop_FU (body := h_X5_lowestOfKnots_B9 S F I1) (fun i => (nI (nx (lo W) i), nI i)) (nI (nx (lo W) n), nI n) n (by omega) (fun i hi => by
    unfold h_X5_lowestOfKnots_B9 h_X5_lowestOfKnots_J9_43 h_J6_lowestOneBit_0f7a4
    dsimp only
    rw [if_neg (by rw [e1]; exact nI_ge hi (by omega)), if_neg (show ¬ (8 : Int32) ≤ nI i from i_nle (a := 8) rfl rfl (by omega) (by omega)), c_knot hZ (by omega), p_bs, p_bs, show nx (fun h => (sr W i 8).testBit h && (sr W h 8).testBit i) 8 = K8 W i from rfl]
    have le := low_eq (K8_lt W i) (show i < 8 by omega) (K8_self hW' (by omega))
    by_cases q : nI (K8 W i) &&& (((1 : Int32) <<< (nI i &&& 31)) - 1) = 0
    · rw [if_pos (le.mpr q), p_le, p_le, nx_step (lo W) (show i < 8 by omega) true (decide_eq_true q), if_pos rfl, ← nI_succ]
    · rw [if_neg (fun z => q (le.mp z)), p_le, nx_step (lo W) (show i < 8 by omega) false (decide_eq_false q), if_neg (by decide), ← nI_succ]) (by
    unfold h_X5_lowestOfKnots_B9
    dsimp only
    rw [if_pos (by rw [e1]; exact nI_le (Nat.le_refl _) (by omega))])
  rw [show ((0 : Int32), (0 : Int32)) = (fun i => (nI (nx (lo W) i), nI i)) 0 from rfl, lp, p_bs]
  exact wp_some.mpr ⟨rfl, a1, a2⟩
theorem m_low {I : v_I} {W : Nat → Nat} {h : Nat} (hh : h < 8) (e : I 68 h = nI (K8 W h)) : h_X10_isLowest I (nI h) = some (if lo W h = true then 1 else 0) := by
  unfold h_X10_isLowest
  rw [p_in_nI hh (by omega), p_bs]
  by_cases q : nI (K8 W h) &&& (((1 : Int32) <<< (nI h &&& 31)) - 1) = 0
  · rw [if_pos (by rw [e]; exact q), if_pos (show lo W h = true from decide_eq_true q)]
  · rw [if_neg (by rw [e]; exact q), if_neg (by unfold lo; rw [decide_eq_false q]; decide)]
theorem fr_2 {I I' : v_I} (h : ∀ a, a ≠ 67 → a ≠ 68 → I' a = I a) : fr I I' := fun a j q => by
  rw [h a (by rintro rfl; exact q (by unfold scr; omega)) (by rintro rfl; exact q (by unfold scr; omega))]
theorem ok_27 {S : v_S} {I : v_I} {J : v_J} {F : v_F} (h : R S I J F) : op_27 R S I J F := by
  unfold op_27
  simp only [s_X9_knots h.1 h.2.1, s_X10_knots h.1 h.2.1]
  obtain ⟨n, W, hn, ek, hw⟩ := wt_of h.2.2.2.1
  have t256 := two_le hn
  have e10 : I 1 0 = nI n := by rw [h.2.2.1.2.1]; exact ek
  have hW' : ∀ z, z < 8 → W z < 2 ^ n := fun z hz => (hw z hz).1
  have hW6 : ∀ z, z < 8 → W z < 256 ∧ I 6 z = nI (W z) := fun z hz => ⟨by have := hW' z hz; omega, by rw [h.2.2.1.2.2.2.1 z hz]; exact (hw z hz).2⟩
  refine qop2 (md := fun I => h_X10_knots I) h ?_
  unfold h_X9_knots
  refine wp_seq (c_lows hn hW6 e10) fun r hr => ?_
  obtain ⟨r1, r2, r3⟩ := hr
  have ll : nx (lo W) n < 256 := Nat.lt_of_lt_of_le (nx_lt _ n) t256
  rw [r1, b_bc ll, p_bs]
  refine wp_some.mpr ⟨fr_1 (fun j => by unfold scr; omega) r3, ?_⟩
  dsimp only
  have r51 : r.2 51 = I 51 := r3 51 (by omega)
  unfold h_X10_knots
  refine wp_seq (m_knots hn (by rw [r51]; exact hw) (by rw [r51]; exact ek)) fun Im hm => ?_
  obtain ⟨Y, y1, y2⟩ := hm
  have e49 : Im 51 49 = nI n := by rw [y2 51 (by omega) (by omega), r51]; exact ek
  have lp := v_loop_FU (body := h_X10_knots_B8 Im) (fun i => (nI (cnt (lo W) i), nI i)) (nI (cnt (lo W) n), nI n) n (by omega) (fun i hi => by
    unfold h_X10_knots_B8 h_X10_many h_X10_knots_J8_30
    dsimp only
    rw [p_bs, if_neg (by rw [e49]; exact nI_ge hi (by omega)), m_low (W := W) (by omega) (by rw [(y1 i hi).2.2.2, K_eq hn hW' hi (fun z hz => (y1 z hz).2.2.1)]), p_bs, show cnt (lo W) (i + 1) = cnt (lo W) i + (if lo W i then 1 else 0) from rfl]
    by_cases q : lo W i = true
    · rw [if_pos q, if_neg (by decide), p_le, p_le, if_pos q, nI_succ, ← nI_succ i]
    · rw [if_neg q, if_pos rfl, p_le, p_le, if_neg q, Nat.add_zero, Int32.add_zero, ← nI_succ i]) (by
    unfold h_X10_knots_B8 h_X10_many
    dsimp only
    rw [p_bs, if_pos (by rw [e49]; exact nI_le (Nat.le_refl _) (by omega))])
  rw [show ((0 : Int32), (0 : Int32)) = (fun i => (nI (cnt (lo W) i), nI i)) 0 from rfl, lp, p_bs]
  exact wp_some.mpr ⟨by rw [pc_nx _ n hn], fr_2 y2⟩
def isR (W Y : Nat → Nat) (h : Nat) : Nat → Bool
  | 0 => false
  | z + 1 => isR W Y h z || (!(K8 W h).testBit z && (Y z).testBit h)
theorem isR_ex {W Y : Nat → Nat} {h : Nat} : ∀ n, isR W Y h n = true ↔ ∃ z, z < n ∧ (K8 W h).testBit z = false ∧ (Y z).testBit h = true
  | 0 => ⟨fun q => (by cases q), fun ⟨z, hz, _⟩ => absurd hz (Nat.not_lt_zero _)⟩
  | n + 1 => by
    unfold isR
    rw [Bool.or_eq_true, isR_ex n, Bool.and_eq_true, Bool.not_eq_true']
    constructor
    · rintro (⟨z, h1, h2⟩ | h1)
      · exact ⟨z, by omega, h2⟩
      · exact ⟨n, by omega, h1⟩
    · rintro ⟨z, h1, h2⟩
      by_cases e : z = n
      · subst e; exact .inr h2
      · exact .inl ⟨z, by omega, h2⟩
theorem m_isR {I : v_I} {W Y : Nat → Nat} {n h : Nat} (hn : n ≤ 8) (e49 : I 51 49 = nI n) (hh : h < n) (h67 : ∀ z, z < n → Y z < 256 ∧ I 67 z = nI (Y z)) (h68 : I 68 h = nI (K8 W h)) : h_X10_isReached I (nI h) = some (if isR W Y h n = true then 1 else 0) := by
  unfold h_X10_isReached
  have kl := K8_lt W h
  have lp := v_loop_FU (body := h_X10_isReached_B4 I (nI h)) (fun i => ((if isR W Y h i = true then (1 : Int32) else 0), nI i)) ((if isR W Y h n = true then (1 : Int32) else 0), nI n) n (by omega) (fun i hi => by
    unfold h_X10_isReached_B4 h_X10_many h_X10_isReached_J4_42 h_X10_isReached_J4_46 h_X10_isReached_J4_47 h_X10_isIn
    dsimp only
    have e : isR W Y h (i + 1) = (isR W Y h i || (!(K8 W h).testBit i && (Y i).testBit h)) := rfl
    rw [p_bs, if_neg (by rw [e49]; exact nI_ge hi (by omega)), e]
    cases hr : isR W Y h i with
    | true =>
      rw [show (if true = true then (1 : Int32) else 0) = 1 from rfl, if_neg (by decide), p_le, Bool.true_or, if_pos rfl, ← nI_succ]
    | false =>
      rw [show (if false = true then (1 : Int32) else 0) = 0 from rfl, if_pos rfl, p_in_nI (by omega) (by omega), p_bs, Bool.false_or]
      by_cases q1 : (K8 W h).testBit i = true
      · rw [if_pos (by rw [h68]; exact (bit_c kl (by omega)).mpr q1), p_bs, if_neg (by decide), p_le, q1, ← nI_succ]
        rfl
      · have q1' := Bool.eq_false_iff.mpr q1
        rw [if_neg (by rw [h68]; exact fun z => q1 ((bit_c kl (by omega)).mp z)), p_bs, if_pos rfl, p_in_nI (by omega) (by omega), p_bs, q1']
        by_cases q2 : (Y i).testBit h = true
        · rw [if_pos (by rw [(h67 i hi).2]; exact (bit_c (h67 i hi).1 (by omega)).mpr q2), p_bs, if_neg (by decide), p_le, q2, ← nI_succ]
          rfl
        · rw [if_neg (by rw [(h67 i hi).2]; exact fun z => q2 ((bit_c (h67 i hi).1 (by omega)).mp z)), p_bs, if_pos rfl, p_le, Bool.eq_false_iff.mpr q2, ← nI_succ]
          rfl) (by
    unfold h_X10_isReached_B4 h_X10_many
    dsimp only
    rw [p_bs, if_pos (by rw [e49]; exact nI_le (Nat.le_refl _) (by omega))])
  rw [show ((0 : Int32), (0 : Int32)) = (fun i => ((if isR W Y h i = true then (1 : Int32) else 0), nI i)) 0 from rfl, lp, p_bs]
  dsimp only
  rw [b_bl, p_bs]
theorem hd_eq {W Y : Nat → Nat} {n h : Nat} (hn : n ≤ 8) (hW : ∀ h, h < 8 → W h < 2 ^ n) (hh : h < n) (hY : ∀ z, z < n → ∀ y, y < n → ((Y z).testBit y = true ↔ Rt W z y)) : (nI (sr W h 8) = nI (K8 W h)) ↔ isR W Y h n = false := by
  have t256 := two_le hn
  have hW8 : ∀ h, h < 8 → W h < 256 := fun h hh => by have := hW h hh; omega
  have s256 : sr W h 8 < 256 := sr_lt (n := 8) hW8 (by omega) 8
  have k256 := K8_lt W h
  rw [nI_eq (by omega) (by omega), Bool.eq_false_iff]
  constructor
  · intro e q
    obtain ⟨z, hz, q1, q2⟩ := (isR_ex n).mp q
    have r1 : Rt W z h := (hY z hz h hh).mp q2
    have r2 := (sr_8 hW8 (show h < 8 by omega) z).mpr r1
    rw [e, q1] at r2
    cases r2
  · intro q
    apply Nat.eq_of_testBit_eq
    intro z
    rw [Bool.eq_iff_iff, sr_8 hW8 (by omega), K8_bit hW8 (by omega)]
    constructor
    · intro r1
      have hz := Rt_lt hW hh r1
      refine ⟨by omega, r1, ?_⟩
      refine Classical.byContradiction fun hne => q ((isR_ex n).mpr ⟨z, hz, ?_, (hY z hz h hh).mpr r1⟩)
      rw [Bool.eq_false_iff]
      exact fun q2 => hne ((K8_bit hW8 (by omega)).mp q2).2.2
    · exact fun q2 => q2.2.1
theorem ok_28 {S : v_S} {I : v_I} {J : v_J} {F : v_F} (h : R S I J F) : op_28 R S I J F := by
  intro a
  simp only [s_X9_heads h.1 h.2.1, s_X10_heads h.1 h.2.1]
  obtain ⟨n, W, hn, ek, hw⟩ := wt_of h.2.2.2.1
  have t256 := two_le hn
  have e10 : I 1 0 = nI n := by rw [h.2.2.1.2.1]; exact ek
  have hW' : ∀ z, z < 8 → W z < 2 ^ n := fun z hz => (hw z hz).1
  have hW8 : ∀ z, z < 8 → W z < 256 := fun z hz => by have := hW' z hz; omega
  have hW6 : ∀ z, z < 8 → W z < 256 ∧ I 6 z = nI (W z) := fun z hz => ⟨hW8 z hz, by rw [h.2.2.1.2.2.2.1 z hz]; exact (hw z hz).2⟩
  refine qop2 (md := fun I => h_X10_heads I a) h ?_
  unfold h_X9_heads
  rcases upTo_cases a (q := 1) (m := 1) rfl (by omega) with ⟨N, hN, rfl, u1, u2⟩ | ⟨u1, u2, _⟩
  · rw [u1, p_bs, if_neg (by decide)]
    unfold h_X5_fewestHeads
    rw [wp_bind, wp_bind]
    refine wp_mono (c_lows hn hW6 e10) fun r hr => ?_
    obtain ⟨r1, r2, r3⟩ := hr
    have ll : nx (lo W) n < 256 := Nat.lt_of_lt_of_le (nx_lt _ n) t256
    have hZ : ∀ z, z < 8 → sr W z 8 < 256 ∧ r.2 25 z = nI (sr W z 8) := fun z hz => ⟨sr_lt (n := 8) hW8 hz 8, r2 z hz⟩
    let hd : Nat → Bool := fun z => (nx (lo W) n).testBit z && decide (nI (sr W z 8) = nI (K8 W z))
    have lp := v_loop_FU (body := h_X5_fewestHeads_B11 S F r.2 r.1) (fun i => (nI (nx hd i), nI i)) (nI (nx hd 8), nI 8) 8 (by omega) (fun i hi => by
      unfold h_X5_fewestHeads_B11 h_X5_fewestHeads_J11_51
      dsimp only
      rw [if_neg (show ¬ (8 : Int32) ≤ nI i from i_nle (a := 8) rfl rfl (by omega) (by omega))]
      by_cases q1 : (nx (lo W) n).testBit i = true
      · rw [if_pos (by rw [r1]; exact (bit_c ll hi).mpr q1), p_in_nI hi (by omega), p_bs, c_knot hZ hi, p_bs]
        by_cases q2 : nI (sr W i 8) = nI (K8 W i)
        · rw [if_pos (by rw [r2 i hi]; exact q2), p_le, p_le, nx_step hd hi true (by show ((nx (lo W) n).testBit i && decide (nI (sr W i 8) = nI (K8 W i))) = true; rw [q1, decide_eq_true q2]; rfl), if_pos rfl, ← nI_succ]
        · rw [if_neg (by rw [r2 i hi]; exact q2), p_le, nx_step hd hi false (by show ((nx (lo W) n).testBit i && decide (nI (sr W i 8) = nI (K8 W i))) = false; rw [decide_eq_false q2, Bool.and_false]), if_neg (by decide), ← nI_succ]
      · rw [if_neg (by rw [r1]; exact fun z => q1 ((bit_c ll hi).mp z)), p_le, nx_step hd hi false (by show ((nx (lo W) n).testBit i && decide (nI (sr W i 8) = nI (K8 W i))) = false; rw [Bool.eq_false_iff.mpr q1]; rfl), if_neg (by decide), ← nI_succ]) (by
      unfold h_X5_fewestHeads_B11
      dsimp only
      rw [if_pos (show (8 : Int32) ≤ nI 8 by decide)])
    rw [show ((0 : Int32), (0 : Int32)) = (fun i => (nI (nx hd i), nI i)) 0 from rfl, lp, p_bs, wp_some]
    dsimp only
    have hl : nx hd 8 < 256 := nx_lt _ 8
    obtain ⟨x, x1, x2⟩ := tell_eq (w := nI N) (t := nx hd 8) (.inr ⟨rfl, hl⟩)
    rw [x1, p_bs]
    refine wp_some.mpr ⟨fr_1 (fun j => by unfold scr; omega) r3, ?_⟩
    dsimp only
    have r51 : r.2 51 = I 51 := r3 51 (by omega)
    unfold h_X10_heads
    rw [bit_of u2 (.inr rfl), p_bs, if_neg (by decide)]
    refine wp_seq (m_knots hn (by rw [r51]; exact hw) (by rw [r51]; exact ek)) fun Im hm => ?_
    obtain ⟨Y, y1, y2⟩ := hm
    have e49 : Im 51 49 = nI n := by rw [y2 51 (by omega) (by omega), r51]; exact ek
    have k68 : ∀ z, z < n → Im 68 z = nI (K8 W z) := fun z hz => by rw [(y1 z hz).2.2.2, K_eq hn hW' hz (fun z hz => (y1 z hz).2.2.1)]
    have lm := v_loop_FU (body := h_X10_heads_B17 Im (nI N)) (fun i => (nI (nx hd i), nI i)) (nI (nx hd n), nI n) n (by omega) (fun i hi => by
      unfold h_X10_heads_B17 h_X10_many h_X10_heads_J17_48 h_X10_heads_J17_49
      dsimp only
      have lb : (nx (lo W) n).testBit i = lo W i := by rw [nx_bit, decide_eq_true hi, Bool.true_and]
      have he := hd_eq (Y := Y) hn hW' hi (fun z hz => (y1 z hz).2.2.1)
      rw [p_bs, if_neg (by rw [e49]; exact nI_ge hi (by omega)), m_low (W := W) (by omega) (k68 i hi), p_bs]
      by_cases q1 : lo W i = true
      · rw [if_pos q1, if_neg (by decide), m_isR (W := W) (Y := Y) hn e49 hi (fun z hz => ⟨by have := (y1 z hz).1; omega, (y1 z hz).2.1⟩) (k68 i hi), p_bs]
        by_cases q2 : isR W Y i n = true
        · have q3 : ¬ nI (sr W i 8) = nI (K8 W i) := fun z => by rw [he.mp z] at q2; cases q2
          rw [if_pos q2, if_neg (by decide), p_le, p_le, Int32.or_zero, nx_step hd (show i < 8 by omega) false (by show ((nx (lo W) n).testBit i && decide (nI (sr W i 8) = nI (K8 W i))) = false; rw [decide_eq_false q3, Bool.and_false]), if_neg (by decide), ← nI_succ]
        · have q3 := he.mpr (Bool.eq_false_iff.mpr q2)
          rw [if_neg q2, if_pos rfl, p_le, p_le, nx_step hd (show i < 8 by omega) true (by show ((nx (lo W) n).testBit i && decide (nI (sr W i 8) = nI (K8 W i))) = true; rw [lb, q1, decide_eq_true q3]; rfl), if_pos rfl, ← nI_succ]
      · rw [if_neg q1, if_pos rfl, p_le, p_le, Int32.or_zero, nx_step hd (show i < 8 by omega) false (by show ((nx (lo W) n).testBit i && decide (nI (sr W i 8) = nI (K8 W i))) = false; rw [lb, Bool.eq_false_iff.mpr q1]; rfl), if_neg (by decide), ← nI_succ]) (by
      unfold h_X10_heads_B17 h_X10_many
      dsimp only
      rw [p_bs, if_pos (by rw [e49]; exact nI_le (Nat.le_refl _) (by omega))])
    have hsame : nx hd n = nx hd 8 := by
      apply Nat.eq_of_testBit_eq
      intro z
      rw [nx_bit, nx_bit]
      by_cases q : z < n
      · rw [decide_eq_true q, decide_eq_true (show z < 8 by omega)]
      · have : hd z = false := by
          show ((nx (lo W) n).testBit z && _) = false
          rw [nx_bit, decide_eq_false q]; rfl
        rw [this, Bool.and_false, Bool.and_false]
    rw [show ((0 : Int32), (0 : Int32)) = (fun i => (nI (nx hd i), nI i)) 0 from rfl, lm, p_bs]
    dsimp only
    rw [hsame, x2, p_bs]
    exact wp_some.mpr ⟨rfl, fr_2 y2⟩
  · rw [u1, p_bs, if_pos rfl]
    refine wp_some.mpr ⟨fr_refl I, ?_⟩
    unfold h_X10_heads
    rw [bit_of u2 (.inl rfl), p_bs, if_pos rfl]
    exact wp_some.mpr ⟨rfl, fr_refl I⟩
end sp92
