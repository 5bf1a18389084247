noncomputable section sp71
theorem m18 {q i : Nat} (hq : q < 2) : (18 : Int32) * nI q + nI i = nI (18 * q + i) := by
  rw [← nI_add]
  rcases (show q = 0 ∨ q = 1 by omega) with rfl | rfl <;> rfl
theorem m_aside {I : v_I} {q : Nat} (hq : q < 2) : wp (h_X10_laysAside I (nI q)) (fun I1 => (∀ i, i < 18 → I1 54 (18 * q + i) = I 51 i) ∧ ∀ a j, ¬ (a = 54 ∧ 18 * q ≤ j ∧ j < 18 * q + 18) → I1 a j = I a j) := by
  unfold h_X10_laysAside
  refine wp_seq (P := fun t : Int32 × v_I => (∀ i, i < 18 → t.2 54 (18 * q + i) = I 51 i) ∧ ∀ a j, ¬ (a = 54 ∧ 18 * q ≤ j ∧ j < 18 * q + 18) → t.2 a j = I a j) ?_ (fun t ht => wp_some.mpr ht)
  refine wp_lp (fun i (t : Int32 × v_I) => t.1 = nI i ∧ (∀ z, z < i → t.2 54 (18 * q + z) = I 51 z) ∧ ∀ a j, ¬ (a = 54 ∧ 18 * q ≤ j ∧ j < 18 * q + 18) → t.2 a j = I a j) 18 (by omega) ⟨rfl, fun z hz => absurd hz (Nat.not_lt_zero _), fun _ _ _ => rfl⟩ ?_
  rintro i ⟨c, I'⟩ hi ⟨u1, u2, u3⟩
  dsimp only at u1 u2 u3
  subst u1
  unfold h_X10_laysAside_B2
  dsimp only
  by_cases h18 : i = 18
  · rw [if_pos (show (18 : Int32) ≤ nI i from i_le (a := 18) rfl rfl (by omega) (by omega))]
    exact wp_some.mpr ⟨fun z hz => u2 z (by omega), u3⟩
  rw [if_neg (show ¬ (18 : Int32) ≤ nI i from i_nle (a := 18) rfl rfl (by omega) (by omega)), p_in_nI (by omega) (by omega), p_bs, m18 hq, p_in_nI (by omega) (by omega), p_bs, p_le, p_le]
  refine wp_some.mpr ⟨by omega, (nI_succ i).symm, fun z hz => ?_, fun a j h => ?_⟩
  · dsimp only
    by_cases e : z = i
    · subst e; rw [w_at]; exact u3 51 z (by omega)
    · rw [w_ne _ _ _ _ (by omega)]; exact u2 z (by omega)
  · dsimp only
    by_cases e : a = 54
    · subst e; rw [w_ne _ _ _ _ (by omega)]; exact u3 54 j h
    · rw [v_up_row _ 54 _ _ e]; exact u3 a j h
theorem m_back {I : v_I} {q : Nat} (hq : q < 2) : wp (h_X10_takesBack I (nI q)) (fun I1 => (∀ i, i < 18 → I1 51 i = I 54 (18 * q + i)) ∧ ∀ a j, ¬ (a = 51 ∧ j < 18) → I1 a j = I a j) := by
  unfold h_X10_takesBack
  refine wp_seq (P := fun t : Int32 × v_I => (∀ i, i < 18 → t.2 51 i = I 54 (18 * q + i)) ∧ ∀ a j, ¬ (a = 51 ∧ j < 18) → t.2 a j = I a j) ?_ (fun t ht => wp_some.mpr ht)
  refine wp_lp (fun i (t : Int32 × v_I) => t.1 = nI i ∧ (∀ z, z < i → t.2 51 z = I 54 (18 * q + z)) ∧ ∀ a j, ¬ (a = 51 ∧ j < 18) → t.2 a j = I a j) 18 (by omega) ⟨rfl, fun z hz => absurd hz (Nat.not_lt_zero _), fun _ _ _ => rfl⟩ ?_
  rintro i ⟨c, I'⟩ hi ⟨u1, u2, u3⟩
  dsimp only at u1 u2 u3
  subst u1
  unfold h_X10_takesBack_B2
  dsimp only
  by_cases h18 : i = 18
  · rw [if_pos (show (18 : Int32) ≤ nI i from i_le (a := 18) rfl rfl (by omega) (by omega))]
    exact wp_some.mpr ⟨fun z hz => u2 z (by omega), u3⟩
  rw [if_neg (show ¬ (18 : Int32) ≤ nI i from i_nle (a := 18) rfl rfl (by omega) (by omega)), m18 hq, p_in_nI (by omega) (by omega), p_bs, p_in_nI (by omega) (by omega), p_bs, p_le, p_le]
  refine wp_some.mpr ⟨by omega, (nI_succ i).symm, fun z hz => ?_, fun a j h => ?_⟩
  · dsimp only
    by_cases e : z = i
    · subst e; rw [w_at]; exact u3 54 _ (by omega)
    · rw [w_ne _ _ _ _ (by omega)]; exact u2 z (by omega)
  · dsimp only
    by_cases e : a = 51
    · subst e; rw [w_ne _ _ _ _ (by omega)]; exact u3 51 j h
    · rw [v_up_row _ 51 _ _ e]; exact u3 a j h
theorem m_settl {I : v_I} {i : Nat} (hi : i ≤ 60) : h_X10_isSettled I (nI i) = some (if I 51 52 = -1 ∧ i ≠ 0 ∧ I 65 i = I 65 (i - 1) then 1 else 0) := by
  unfold h_X10_isSettled
  by_cases e : I 51 52 = -1
  · rw [if_pos e]
    by_cases e0 : i = 0
    · rw [if_pos (by rw [e0]; rfl), if_neg (fun q => q.2.1 e0)]
    · rw [if_neg (show ¬ nI i = 0 from fun q => e0 ((i_eqI (b := 0) rfl rfl (by omega) (by omega)).mp q)), p_in_nI (by omega) (by omega), p_bs]
      obtain ⟨j, rfl⟩ : ∃ j, i = j + 1 := ⟨i - 1, by omega⟩
      rw [nI_pred, p_in_nI (by omega) (by omega), p_bs, show j + 1 - 1 = j by omega]
      by_cases e1 : I 65 (j + 1) = I 65 j
      · rw [if_pos e1, if_pos ⟨e, e0, e1⟩]
      · rw [if_neg e1, if_neg (fun q => e1 q.2.2)]
  · rw [if_neg e, if_neg (fun q => e q.1)]
/-- what the model's minutes on paper leave alone -/
def fs (I I' : v_I) : Prop := ∀ a j, a ≠ 54 → a ≠ 61 → a ≠ 62 → a ≠ 65 → ¬ (a = 49 ∧ 22 ≤ j ∧ j ≤ 25) → I' a j = I a j
theorem fs_refl (I : v_I) : fs I I := fun _ _ _ _ _ _ _ => rfl
theorem fs_trans {I I' I'' : v_I} (h : fs I I') (h' : fs I' I'') : fs I I'' := fun a j q1 q2 q3 q4 q5 => (h' a j q1 q2 q3 q4 q5).trans (h a j q1 q2 q3 q4 q5)
theorem fs_51 {I I' : v_I} (h : fs I I') : I' 51 = I 51 := funext fun j => h 51 j (by omega) (by omega) (by omega) (by omega) (by omega)
theorem fs_fr {I I' : v_I} (h : fs I I') : fr I I' := fun a j q => h a j (by rintro rfl; exact q (by unfold scr; omega)) (by rintro rfl; exact q (by unfold scr; omega)) (by rintro rfl; exact q (by unfold scr; omega)) (by rintro rfl; exact q (by unfold scr; omega)) (by rintro ⟨rfl, q2⟩; exact q (by unfold scr; omega))
def mX (I : v_I) (n : Nat) (L : Option (List Cls)) (k : Nat → Int32) : Prop := I 51 = k ∧ n ≤ 8 ∧ k 49 = nI n ∧ kB k ∧ mLw k L
theorem cX_mX {S : v_S} {I : v_I} {F : v_F} {n : Nat} {lw : Option Nat} {L : Option (List Cls)} (h : cX S I F n lw L (I 51)) : mX I n L (I 51) := ⟨rfl, h.2.2.1, h.2.2.2.1, h.2.2.2.2.1, rLw_m h.2.2.2.2.2.2.2.1⟩
theorem mX_51 {I I' : v_I} {n : Nat} {L : Option (List Cls)} {k : Nat → Int32} (e : I' 51 = I 51) (h : mX I n L k) : mX I' n L k := ⟨e.trans h.1, h.2⟩
theorem m_lays {I : v_I} {n hd o : Nat} {L : Option (List Cls)} {k : Nat → Int32} (h : mX I n L k) (p1 p2 w : Int32) (ho : o < 256) (hp : ((k 0 ||| p1) &&& (p2 ^^^ -1)) &&& (nI hd ^^^ -1) = nI o) (hhd : hd < 256) :
    wp (h_X10_laysMinutes I p1 p2 (nI hd) w) (fun r => fs I r.2 ∧ ∃ N : Nat, N ≤ 60 ∧ r.1 = nI N ∧ (∀ j, j < N → ¬ it L n hd (kup k 0 (nI o)) j 0 &&& w = w) ∧ (∀ i, i ≤ N → r.2 65 i = it L n hd (kup k 0 (nI o)) i 0)
      ∧ (it L n hd (kup k 0 (nI o)) N 0 &&& w = w ∨ ((∀ i, i ≤ 60 → r.2 65 i = it L n hd (kup k 0 (nI o)) i 0) ∧ (N = 60 ∨ ∀ j, N ≤ j → it L n hd (kup k 0 (nI o)) j 0 = it L n hd (kup k 0 (nI o)) N 0)))) := by
  obtain ⟨h1, h3, h4, h5, h6⟩ := h
  generalize hK : it L n hd (kup k 0 (nI o)) = K
  have hK0 : K 0 = kup k 0 (nI o) := by rw [← hK]; rfl
  have hKs : ∀ i, K (i + 1) = mn L n hd (K i) := fun i => by rw [← hK]; rfl
  have hge : ∀ i z, 18 ≤ z → K i z = k z := fun i z hz => by rw [← hK, it_ge h3 i hz, kup_ne _ _ (by omega)]
  have hB0 : kB (kup k 0 (nI o)) := ⟨⟨o, ho, kup_at _ _ _⟩, fun z hz => by rw [kup_ne _ _ (by omega)]; exact h5.2 z hz⟩
  have hKB : ∀ i, kB (K i) := fun i => by rw [← hK]; exact it_B h3 hB0 i
  have hset : ∀ i, i ≠ 0 → k 52 = -1 → K i 0 = K (i - 1) 0 → ∀ j, i ≤ j → K j 0 = K i 0 := by
    intro i hi e52 e0 j hj
    have hL : L = none := by
      rcases h6 with ⟨q, _⟩ | ⟨D, f, _, hf, e, _⟩
      · exact q
      · rw [e52] at e; exact absurd (show nI f < 0 by rw [← e]; decide) (nI_pos (by omega))
    obtain ⟨i', rfl⟩ : ∃ i', i = i' + 1 := ⟨i - 1, by omega⟩
    rw [show i' + 1 - 1 = i' by omega] at e0
    have hs : stl L n hd (it L n hd (kup k 0 (nI o)) i') := by
      rw [hK]
      refine ⟨by rw [← hKs]; exact e0, fun z hz => by rw [hL]; rfl, fun D e => by rw [hL] at e; cases e⟩
    have a := it_stl h3 hs 1
    have b := it_stl h3 hs (j - i')
    rw [hK] at a b
    rw [show i' + (j - i') = j by omega] at b
    rw [a, b]
  unfold h_X10_laysMinutes
  refine wp_seq (m_aside (I := I) (q := 0) (by omega)) fun Ia ha => ?_
  obtain ⟨a1, a2⟩ := ha
  have a51 : Ia 51 = k := by rw [← h1]; funext j; exact a2 51 j (by omega)
  rw [p_le, p_le, a51, hp, w_at]
  have loop : wp (v_loop (h_X10_laysMinutes_B42 (nI hd) w) FU (0, v_up (v_up Ia 51 0 (nI o)) 65 0 (nI o))) (fun q => ∃ N : Nat, N ≤ 60 ∧ q.1 = nI N ∧ q.2 51 = K N ∧ (∀ j, j < 18 → q.2 54 j = k j) ∧ (∀ j, j ≤ N → q.2 65 j = K j 0) ∧ (∀ j, j < N → ¬ K j 0 &&& w = w) ∧ (∀ a j, a ≠ 51 → a ≠ 54 → a ≠ 61 → a ≠ 62 → a ≠ 65 → ¬ (a = 49 ∧ 22 ≤ j ∧ j ≤ 25) → q.2 a j = I a j) ∧ (N = 60 ∨ K N 0 &&& w = w ∨ (k 52 = -1 ∧ N ≠ 0 ∧ K N 0 = K (N - 1) 0))) := by
    refine wp_lp (fun i (t : Int32 × v_I) => t.1 = nI i ∧ t.2 51 = K i ∧ (∀ j, j < 18 → t.2 54 j = k j) ∧ (∀ j, j ≤ i → t.2 65 j = K j 0) ∧ (∀ j, j < i → ¬ K j 0 &&& w = w) ∧ ∀ a j, a ≠ 51 → a ≠ 54 → a ≠ 61 → a ≠ 62 → a ≠ 65 → ¬ (a = 49 ∧ 22 ≤ j ∧ j ≤ 25) → t.2 a j = I a j) 60 (by omega) ⟨rfl, ?_, ?_, ?_, fun j hj => absurd hj (Nat.not_lt_zero _), ?_⟩ ?_
    · dsimp only
      rw [v_up_row _ 65 _ _ (by omega), v_up_k, a51, hK0]
    · intro j hj
      dsimp only
      rw [v_up_row _ 65 _ _ (by omega), v_up_row _ 51 _ _ (by omega)]
      have := a1 j hj
      rw [show 18 * 0 + j = j by omega] at this
      rw [this, h1]
    · intro j hj
      dsimp only
      rw [show j = 0 by omega, w_at, hK0, kup_at]
    · intro a j b1 b2 b3 b4 b5 b6
      dsimp only
      rw [v_up_row _ 65 _ _ b5, v_up_row _ 51 _ _ b1]
      exact a2 a j (by omega)
    · rintro i ⟨c, I'⟩ hi ⟨u1, u2, u3, u4, u5, u6⟩
      dsimp only at u1 u2 u3 u4 u5 u6
      subst u1
      unfold h_X10_laysMinutes_B42
      dsimp only
      have e52 : I' 51 52 = k 52 := by rw [u2]; exact hge i 52 (by omega)
      by_cases h60 : i = 60
      · rw [if_pos (show (60 : Int32) ≤ nI i from i_le (a := 60) rfl rfl (by omega) (by omega))]
        exact wp_some.mpr ⟨i, hi, rfl, u2, u3, u4, u5, u6, .inl h60⟩
      rw [if_neg (show ¬ (60 : Int32) ≤ nI i from i_nle (a := 60) rfl rfl (by omega) (by omega)), p_in_nI (by omega) (by omega), p_bs]
      by_cases hw : K i 0 &&& w = w
      · rw [if_pos (by rw [u4 i (Nat.le_refl _)]; exact hw)]
        exact wp_some.mpr ⟨i, hi, rfl, u2, u3, u4, u5, u6, .inr (.inl hw)⟩
      rw [if_neg (by rw [u4 i (Nat.le_refl _)]; exact hw), m_settl hi, p_bs]
      by_cases hs : I' 51 52 = -1 ∧ i ≠ 0 ∧ I' 65 i = I' 65 (i - 1)
      · rw [if_pos hs, if_neg (by decide)]
        refine wp_some.mpr ⟨i, hi, rfl, u2, u3, u4, u5, u6, .inr (.inr ⟨by rw [← e52]; exact hs.1, hs.2.1, ?_⟩)⟩
        rw [← u4 i (Nat.le_refl _), ← u4 (i - 1) (by omega)]; exact hs.2.2
      rw [if_neg hs, if_pos rfl]
      have hmL : mLw (I' 51) L := by
        rw [u2]
        rcases h6 with ⟨q1, q2⟩ | ⟨D, f, q1, q2, q3, q4⟩
        · exact .inl ⟨q1, by rw [hge i _ (by omega)]; exact q2⟩
        · exact .inr ⟨D, f, q1, q2, by rw [hge i _ (by omega)]; exact q3, tk_fr (fun z hz => hge i z (by omega)) q4⟩
      refine wp_seq (m_min hmL (by rw [u2]; exact hKB i) h3 (by rw [u2, hge i _ (by omega)]; exact h4) hhd) fun r hr => ?_
      obtain ⟨r1, r2, r3⟩ := hr
      rw [u2, ← hKs] at r2
      rw [p_le, show nI i + 1 = nI (i + 1) from (nI_succ i).symm, p_in_nI (by omega) (by omega), p_bs, p_le, r2]
      refine wp_some.mpr ⟨by omega, rfl, ?_, fun j hj => ?_, fun j hj => ?_, fun j hj => ?_, fun a j b1 b2 b3 b4 b5 b6 => ?_⟩
      · dsimp only
        rw [v_up_row _ 65 _ _ (by omega), r2]
      · dsimp only
        rw [v_up_row _ 65 _ _ (by omega), r3 54 j (by omega) (by omega) (by omega) (by omega)]; exact u3 j hj
      · dsimp only
        by_cases e : j = i + 1
        · subst e; rw [w_at]
        · rw [w_ne _ _ _ _ e, r3 65 j (by omega) (by omega) (by omega) (by omega)]; exact u4 j (by omega)
      · by_cases e : j = i
        · rw [e]; exact hw
        · exact u5 j (by omega)
      · dsimp only
        rw [v_up_row _ 65 _ _ b5, r3 a j b1 b3 b4 b6]; exact u6 a j b1 b2 b3 b4 b5 b6
  refine wp_seq loop fun q hq => ?_
  obtain ⟨N, hN, q1, q2, q3, q4, q5, q6, q7⟩ := hq
  rw [q1]
  unfold h_X10_laysMinutes_J98
  refine wp_seq (m_back (I := q.2) (q := 0) (by omega)) fun Ib hb => ?_
  obtain ⟨b1, b2⟩ := hb
  have b51 : Ib 51 = k := by
    funext j
    by_cases hj : j < 18
    · rw [b1 j hj, show 18 * 0 + j = j by omega, q3 j hj]
    · rw [b2 51 j (by omega), q2, hge N j (by omega)]
  have bfs : ∀ a j, a ≠ 54 → a ≠ 61 → a ≠ 62 → a ≠ 65 → ¬ (a = 49 ∧ 22 ≤ j ∧ j ≤ 25) → Ib a j = I a j := by
    intro a j c1 c2 c3 c4 c5
    by_cases e : a = 51
    · subst e; rw [b51, h1]
    · rw [b2 a j (by omega)]; exact q6 a j e c1 c2 c3 c4 c5
  have b65 : ∀ j, Ib 65 j = q.2 65 j := fun j => b2 65 j (by omega)
  rw [m_settl hN, p_bs]
  by_cases hs : Ib 51 52 = -1 ∧ N ≠ 0 ∧ Ib 65 N = Ib 65 (N - 1)
  · rw [if_pos hs, if_neg (by decide), p_le, ← nI_succ]
    have hall : ∀ j, N ≤ j → K j 0 = K N 0 := hset N hs.2.1 (by rw [← b51]; exact hs.1) (by
      rw [← q4 N (Nat.le_refl _), ← q4 (N - 1) (by omega), ← b65, ← b65]; exact hs.2.2)
    have fill : wp (v_loop (h_X10_laysMinutes_B118 (nI N)) FU (nI (N + 1), Ib)) (fun t => (∀ i, i ≤ 60 → t.2 65 i = K i 0) ∧ ∀ a, a ≠ 65 → t.2 a = Ib a) := by
      refine wp_lp (fun i (t : Int32 × v_I) => t.1 = nI (N + 1 + i) ∧ (∀ z, z ≤ N + i → t.2 65 z = K z 0) ∧ ∀ a, a ≠ 65 → t.2 a = Ib a) (60 - N) (by omega) ⟨rfl, fun z hz => by dsimp only; rw [b65]; exact q4 z (by omega), fun _ _ => rfl⟩ ?_
      rintro i ⟨c, I'⟩ hi ⟨u1, u2, u3⟩
      dsimp only at u1 u2 u3
      subst u1
      unfold h_X10_laysMinutes_B118
      dsimp only
      by_cases h60 : N + i = 60
      · rw [if_pos (show (60 : Int32) < nI (N + 1 + i) from i_lt (a := 60) rfl rfl (by omega) (by omega))]
        exact wp_some.mpr ⟨fun z hz => u2 z (by omega), u3⟩
      rw [if_neg (show ¬ (60 : Int32) < nI (N + 1 + i) from i_nlt (a := 60) rfl rfl (by omega) (by omega)), p_in_nI (by omega) (by omega), p_bs, p_in_nI (by omega) (by omega), p_bs, p_le, p_le]
      refine wp_some.mpr ⟨by omega, ?_, fun z hz => ?_, fun a ha => ?_⟩
      · dsimp only
        rw [← nI_succ]; rfl
      · dsimp only
        by_cases e : z = N + 1 + i
        · subst e; rw [w_at, u2 N (by omega), hall (N + 1 + i) (by omega)]
        · rw [w_ne _ _ _ _ e]; exact u2 z (by omega)
      · dsimp only
        rw [v_up_row _ 65 _ _ ha]; exact u3 a ha
    refine wp_seq fill fun t ht => ?_
    obtain ⟨t1, t2⟩ := ht
    refine wp_some.mpr ⟨fun a j c1 c2 c3 c4 c5 => ?_, N, hN, rfl, q5, fun i hi => t1 i (by omega), .inr ⟨t1, .inr hall⟩⟩
    dsimp only
    rw [t2 a c4]; exact bfs a j c1 c2 c3 c4 c5
  · rw [if_neg hs, if_pos rfl]
    refine wp_some.mpr ⟨bfs, N, hN, rfl, q5, fun i hi => by dsimp only; rw [b65]; exact q4 i hi, ?_⟩
    rcases q7 with e | e | ⟨e1, e2, e3⟩
    · right
      exact ⟨fun i hi => by dsimp only; rw [b65]; exact q4 i (by omega), .inl e⟩
    · exact .inl e
    · exfalso
      exact hs ⟨by rw [b51]; exact e1, e2, by rw [b65, b65, q4 N (Nat.le_refl _), q4 (N - 1) (by omega)]; exact e3⟩
theorem and_256 {o : Nat} (ho : o < 256) : ¬ nI o &&& 256 = 256 := by
  have : ∀ o : Nat, o < 256 → ¬ nI o &&& 256 = 256 := by decide +kernel
  exact this o ho
theorem m_all {I : v_I} {n hd o : Nat} {L : Option (List Cls)} {k : Nat → Int32} (h : mX I n L k) (p1 p2 : Int32) (ho : o < 256) (hp : ((k 0 ||| p1) &&& (p2 ^^^ -1)) &&& (nI hd ^^^ -1) = nI o) (hhd : hd < 256) :
    wp (h_X10_laysAllMinutes I p1 p2 (nI hd)) (fun r => fs I r ∧ ∀ i, i ≤ 60 → r 65 i = it L n hd (kup k 0 (nI o)) i 0) := by
  unfold h_X10_laysAllMinutes
  refine wp_seq (m_lays h p1 p2 256 ho hp hhd) fun r hr => ?_
  obtain ⟨r1, N, hN, r2, r3, r4, r5⟩ := hr
  refine wp_some.mpr ⟨r1, ?_⟩
  rcases r5 with e | e
  · exfalso
    have hB0 : kB (kup k 0 (nI o)) := ⟨⟨o, ho, kup_at _ _ _⟩, fun z hz => by rw [kup_ne _ _ (by omega)]; exact h.2.2.2.1.2 z hz⟩
    obtain ⟨⟨u, hu, eu⟩, _⟩ := it_B (L := L) (hd := hd) h.2.1 hB0 N
    rw [eu] at e
    exact and_256 hu e
  · exact e.1
theorem m_first {I : v_I} {n o : Nat} {L : Option (List Cls)} {k : Nat → Int32} (h : mX I n L k) (p1 w : Int32) (ho : o < 256) (hp : k 0 ||| p1 = nI o) :
    wp (h_X10_opensBy I p1 w) (fun r => isF (fun i => it L n 0 (kup k 0 (nI o)) i 0 &&& w = w) r.1 ∧ fs I r.2) := by
  unfold h_X10_opensBy
  have z : ∀ x : Int32, x &&& ((0 : Int32) ^^^ -1) = x := fun x => by rw [Int32.zero_xor, Int32.and_neg_one]
  refine wp_seq (m_lays (hd := 0) h p1 0 w ho (by rw [show nI 0 = 0 from rfl, z, z]; exact hp) (by omega)) fun r hr => ?_
  obtain ⟨r1, N, hN, r2, r3, r4, r5⟩ := hr
  rw [r2, p_in_nI (by omega) (by omega), p_bs]
  by_cases hw : it L n 0 (kup k 0 (nI o)) N 0 &&& w = w
  · rw [if_pos (by rw [r4 N (Nat.le_refl _)]; exact hw)]
    exact wp_some.mpr ⟨.inl ⟨N, hN, hw, r3, rfl⟩, r1⟩
  · rw [if_neg (by rw [r4 N (Nat.le_refl _)]; exact hw)]
    refine wp_some.mpr ⟨.inr ⟨fun i hi => ?_, rfl⟩, r1⟩
    rcases r5 with e | ⟨_, e | e⟩
    · exact absurd e hw
    · by_cases hiN : i < N
      · exact r3 i hiN
      · rw [show i = N by omega]; exact hw
    · by_cases hiN : i < N
      · exact r3 i hiN
      · show ¬ it L n 0 (kup k 0 (nI o)) i 0 &&& w = w
        rw [e i (by omega)]; exact hw
end sp71
