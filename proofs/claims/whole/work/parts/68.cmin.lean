noncomputable section sp68
/-- what a MINUTE doesn't change of a Chamber -/
def rS (I : v_I) (k : Nat → Int32) : Prop := I 1 0 = k 49 ∧ (∀ h, h < 8 → I 5 h = k (18 + h)) ∧ (∀ h, h < 8 → I 6 h = k (26 + h)) ∧ I 1 5 = k 47 ∧ I 1 6 = k 48
def mB (m w s : Nat) : Prop := m ≠ w ∧ m ≠ s ∧ w ≠ s ∧ (m ≠ 1 ∧ m ≠ 5 ∧ m ≠ 6 ∧ m ≠ 16 ∧ m ≠ 21 ∧ m < 72) ∧ (w ≠ 1 ∧ w ≠ 5 ∧ w ≠ 6 ∧ w ≠ 16 ∧ w ≠ 21 ∧ w < 72) ∧ (s ≠ 1 ∧ s ≠ 5 ∧ s ≠ 6 ∧ s ≠ 16 ∧ s ≠ 21 ∧ s < 72)
/-- the LAW that is gone by: the class's, as it is kept, what it is -/
def rLw (S : v_S) (I : v_I) (F : v_F) (lw : Option Nat) (k : Nat → Int32) (L : Option (List Cls)) : Prop := (lw = none ∧ L = none ∧ k 52 = -1)
  ∨ ∃ (x : Nat) (D : List Cls) (f ak af as at' ai ac cn m : Nat), lw = some x ∧ L = some D ∧ f < 6 ∧ k 52 = nI f ∧ tk_D false k f D ∧ tx_D S I F x ak af as at' ai ac cn m D ∧ (I x 2 = 0 → cl_still D) ∧ 72 ≤ x ∧ 72 ≤ ak ∧ 72 ≤ af ∧ 72 ≤ as ∧ 72 ≤ at' ∧ 72 ≤ ai ∧ 72 ≤ ac
theorem rLw_fr {S : v_S} {I I' : v_I} {F : v_F} {lw : Option Nat} {k : Nat → Int32} {L : Option (List Cls)} (e : ∀ a, 72 ≤ a → I' a = I a) (h : rLw S I F lw k L) : rLw S I' F lw k L := by
  rcases h with h | ⟨x, D, f, ak, af, as, at', ai, ac, cn, m, h1, h2, h3, h4, h5, h6, h7, o1, o2, o3, o4, o5, o6, o7⟩
  · exact .inl h
  · refine .inr ⟨x, D, f, ak, af, as, at', ai, ac, cn, m, h1, h2, h3, h4, h5, tx_fr (e _ o1) (e _ o2) (e _ o3) (e _ o4) (e _ o5) (e _ o6) (e _ o7) h6, ?_, o1, o2, o3, o4, o5, o6, o7⟩
    rw [e _ o1]; exact h7
theorem rLw_k {S : v_S} {I : v_I} {F : v_F} {lw : Option Nat} {k k' : Nat → Int32} {L : Option (List Cls)} (e : ∀ i, 52 ≤ i → k' i = k i) (h : rLw S I F lw k L) : rLw S I F lw k' L := by
  rcases h with ⟨h1, h2, h3⟩ | ⟨x, D, f, ak, af, as, at', ai, ac, cn, m, h1, h2, h3, h4, h5, h6⟩
  · exact .inl ⟨h1, h2, by rw [e _ (by omega)]; exact h3⟩
  · exact .inr ⟨x, D, f, ak, af, as, at', ai, ac, cn, m, h1, h2, h3, by rw [e _ (by omega)]; exact h4, tk_fr (fun i hi => e i (by omega)) h5, h6⟩
theorem c_hear {S : v_S} {I : v_I} {F : v_F} {m w s : Nat} {k : Nat → Int32} {h : Nat} (hB : mB m w s) (hS : rS I k) (hM : rM I m w s k) (hk : kB k) (hh : h < 8) : wp (h_X1_hear S I F m w s (nI h)) (fun I1 => (∀ i, i < 9 → I1 16 i = env k h i) ∧ ∀ a, a ≠ 16 → I1 a = I a) := by
  obtain ⟨b1, b2, b3, b4, b5, b6⟩ := hB
  obtain ⟨s1, s2, s3, s4, s5⟩ := hS
  obtain ⟨q1, q2, q3, q4⟩ := hM
  obtain ⟨⟨o, ho, e0⟩, hw⟩ := hk
  obtain ⟨wa, hwa, e1⟩ := hw h hh
  unfold h_X1_hear h_X3_openMany
  have rr : ∀ (I1 : v_I) (j : Nat) (x : Int32) (a : Nat), a ≠ 16 → v_up I1 16 j x a = I1 a := fun I1 j x a ha => v_up_row I1 16 j x ha
  rw [p_le, p_in_nI hh (by omega), p_bs, p_le, p_bs, p_le, p_bs]
  simp only [rr _ _ _ w (by omega), rr _ _ _ m (by omega), rr _ _ _ s (by omega), rr _ _ _ 5 (by omega), rr _ _ _ 6 (by omega), rr _ _ _ 1 (by omega)]
  rw [s3 h hh, q1, e0, e1, (nI_and hwa ho).1, b_bc (nI_and hwa ho).2, p_bs, p_le]
  simp only [rr _ _ _ w (by omega), rr _ _ _ m (by omega), rr _ _ _ s (by omega), rr _ _ _ 5 (by omega), rr _ _ _ 6 (by omega), rr _ _ _ 1 (by omega)]
  rw [q1, e0, b_bc ho, p_bs, p_bs, p_le, p_bs, p_le, p_le, p_le, p_le]
  simp only [rr _ _ _ w (by omega), rr _ _ _ m (by omega), rr _ _ _ s (by omega), rr _ _ _ 5 (by omega), rr _ _ _ 6 (by omega), rr _ _ _ 1 (by omega)]
  rw [q2, s4, s5, s2 h hh, q3 h hh, q4 h hh]
  refine wp_some.mpr ⟨fun i hi => ?_, fun a ha => ?_⟩
  · have n3 : pcI (k (26 + h) &&& k 0) = nI (pc (wa &&& o)) := by rw [e0, e1, (nI_and hwa ho).1, pcI_nI (nI_and hwa ho).2]
    have n4 : pcI (k 0) = nI (pc o) := by rw [e0, pcI_nI ho]
    rcases (show i = 0 ∨ i = 1 ∨ i = 2 ∨ i = 3 ∨ i = 4 ∨ i = 5 ∨ i = 6 ∨ i = 7 ∨ i = 8 by omega) with rfl | rfl | rfl | rfl | rfl | rfl | rfl | rfl | rfl
    · simp [v_up, env]
    · simp [v_up, env]
    · simp [v_up, env]
    · simp [v_up, env, n3]
    · simp [v_up, env, n4]
    · simp [v_up, env]
    · simp [v_up, env]
    · simp [v_up, env]
    · simp [v_up, env]
  · simp only [rr _ _ _ a ha]
theorem c_tl {S : v_S} {I : v_I} {F : v_F} (J : v_J) {lw : Option Nat} {k : Nat → Int32} {L : Option (List Cls)} {h : Nat} (hL : rLw S I F lw k L) (he : ∀ i, i < 9 → I 16 i = env k h i) (kind w : Int32) : wp (h_X1_told S I J F lw kind w) (fun r => r.1 = tl L k h kind w) := by
  rcases hL with ⟨h1, h2, h3⟩ | ⟨x, D, f, ak, af, as, at', ai, ac, cn, m, h1, h2, h3, h4, h5, h6, h7⟩
  · rw [h1, h2]
    exact wp_some.mpr rfl
  · rw [h1, h2]
    refine wp_mono (c_told J h6 kind w) fun r hr => ?_
    rw [hr]
    exact told_nine kind w (tk_nine h5) he
/-- nothing but time goes on -/
def stl (L : Option (List Cls)) (n held : Nat) (k : Nat → Int32) : Prop := mn L n held k 0 = k 0 ∧ (∀ h, h < n → tl L k h 1 (k (1 + h)) = k (1 + h)) ∧ ∀ D, L = some D → cl_still D
theorem min_99 (x : Int32) : p_min (x + 1) 99 = st99 x := by
  unfold p_min st99
  by_cases h : (99 : Int32) < x + 1
  · rw [if_pos h, if_neg (fun q => absurd h (Int32.not_lt.mpr q))]
  · rw [if_neg h, if_pos (Int32.not_lt.mp h)]
theorem or_bit {a b : Int32} (ha : a = 0 ∨ a = 1) (hb : b = 0 ∨ b = 1) : (a ||| b = 0 ∨ a ||| b = 1) ∧ (a ||| b = 0 → a = 0 ∧ b = 0) := by
  rcases ha with rfl | rfl <;> rcases hb with rfl | rfl <;> decide
theorem c_min {S : v_S} {I : v_I} {F : v_F} (J : v_J) {lw : Option Nat} {k : Nat → Int32} {L : Option (List Cls)} {m w s n hd : Nat} (hB : mB m w s) (hS : rS I k) (hM : rM I m w s k) (hk : kB k) (hL : rLw S I F lw k L) (hn : n ≤ 8) (ek : k 49 = nI n) (hhd : hd < 256) :
    wp (h_X1_passMinute S I J F m w s lw (nI hd)) (fun r => rM r.2.1 m w s (mn L n hd k) ∧ (∀ a, a ≠ 16 → a ≠ 21 → a ≠ m → a ≠ w → a ≠ s → r.2.1 a = I a) ∧ (r.1 = 0 → stl L n hd k) ∧ (∀ j, 2 ≤ j → r.2.1 m j = I m j)) := by
  obtain ⟨b1, b2, b3, b4, b5, b6⟩ := id hB
  obtain ⟨s1, s2, s3, s4, s5⟩ := id hS
  obtain ⟨q1, q2, q3, q4⟩ := id hM
  obtain ⟨⟨o, ho, e0⟩, hwat⟩ := id hk
  -- from the loop on
  have main : ∀ mov, (mov = 0 ∨ mov = 1) → (mov = 0 → ∀ D, L = some D → cl_still D) → wp (h_X1_passMinute_J19 m w s S F I J lw (nI hd) 0 mov) (fun r => rM r.2.1 m w s (mn L n hd k) ∧ (∀ a, a ≠ 16 → a ≠ 21 → a ≠ m → a ≠ w → a ≠ s → r.2.1 a = I a) ∧ (r.1 = 0 → stl L n hd k) ∧ (∀ j, 2 ≤ j → r.2.1 m j = I m j)) := by
    intro mov hmov hstill
    unfold h_X1_passMinute_J19
    -- the first loop
    have l1 : wp (v_loop (h_X1_passMinute_B24 m w s S F lw (nI hd)) FU (0, mov, 0, I, J)) (fun q => q.1 = nI (nx (opn L k) n) ∧ (q.2.1 = 0 ∨ q.2.1 = 1) ∧ (q.2.1 = 0 → mov = 0 ∧ ∀ h, h < n → tl L k h 1 (k (1 + h)) = k (1 + h)) ∧ (∀ a, a ≠ 16 → a ≠ 21 → q.2.2.2.1 a = I a) ∧ ∀ h, h < n → q.2.2.2.1 21 h = tl L k h 1 (k (1 + h))) := by
      refine wp_lp (fun i (t : Int32 × Int32 × Int32 × v_I × v_J) => t.1 = nI (nx (opn L k) i) ∧ (t.2.1 = 0 ∨ t.2.1 = 1) ∧ t.2.2.1 = nI i ∧ (t.2.1 = 0 → mov = 0 ∧ ∀ h, h < i → tl L k h 1 (k (1 + h)) = k (1 + h)) ∧ (∀ a, a ≠ 16 → a ≠ 21 → t.2.2.2.1 a = I a) ∧ ∀ h, h < i → t.2.2.2.1 21 h = tl L k h 1 (k (1 + h))) n (by omega) ⟨rfl, hmov, rfl, fun e => ⟨e, fun h hh => absurd hh (Nat.not_lt_zero _)⟩, fun _ _ _ => rfl, fun h hh => absurd hh (Nat.not_lt_zero _)⟩ ?_
      rintro i ⟨t1, t2, t3, I', J'⟩ hi ⟨u1, u2, u3, u4, u5, u6⟩
      dsimp only at u1 u2 u3 u4 u5 u6
      subst u3
      unfold h_X1_passMinute_B24
      dsimp only
      have e10 : I' 1 0 = nI n := by rw [u5 1 (by omega) (by omega), s1, ek]
      by_cases hin : n ≤ i
      · have : i = n := by omega
        subst this
        rw [if_pos (by rw [e10]; exact nI_le (Nat.le_refl _) (by omega))]
        exact wp_some.mpr ⟨u1, u2, u4, u5, u6⟩
      rw [if_neg (by rw [e10]; exact nI_ge (by omega) (by omega)), if_neg (show ¬ (8 : Int32) ≤ nI i from i_nle (a := 8) rfl rfl (by omega) (by omega))]
      have hS' : rS I' k := by
        unfold rS
        rw [u5 1 (by omega) (by omega), u5 5 (by omega) (by omega), u5 6 (by omega) (by omega)]; exact hS
      have hM' : rM I' m w s k := rM_fr (u5 m (by omega) (by omega)) (u5 w (by omega) (by omega)) (u5 s (by omega) (by omega)) hM
      refine wp_seq (c_hear hB hS' hM' hk (by omega)) fun I1 hI1 => ?_
      obtain ⟨v1, v2⟩ := hI1
      have hL1 : rLw S I1 F lw k L := rLw_fr (fun a ha => by rw [v2 a (by omega), u5 a (by omega) (by omega)]) hL
      rw [p_in_nI (by omega) (by omega), p_bs, p_le, show I1 w i = k (1 + i) by rw [v2 w (by omega), u5 w (by omega) (by omega)]; exact q3 i (by omega)]
      unfold h_X3_isOpen
      rw [show I1 m 0 = nI o by rw [v2 m (by omega), u5 m (by omega) (by omega), q1, e0], b_bit i o (by omega) ho]
      simp only [bit_tb]
      -- how it goes on
      have j109 : ∀ z0 J2, (z0 = if opn L k i then 1 else 0) → wp (h_X1_passMinute_J24_109 m w s S F lw (nI hd) I1 J2 t1 t2 (nI i) (k (1 + i)) z0) (v_K (fun (t : Int32 × Int32 × Int32 × v_I × v_J) => i < n ∧ t.1 = nI (nx (opn L k) (i + 1)) ∧ (t.2.1 = 0 ∨ t.2.1 = 1) ∧ t.2.2.1 = nI (i + 1) ∧ (t.2.1 = 0 → mov = 0 ∧ ∀ h, h < i + 1 → tl L k h 1 (k (1 + h)) = k (1 + h)) ∧ (∀ a, a ≠ 16 → a ≠ 21 → t.2.2.2.1 a = I a) ∧ ∀ h, h < i + 1 → t.2.2.2.1 21 h = tl L k h 1 (k (1 + h))) (fun q => q.1 = nI (nx (opn L k) n) ∧ (q.2.1 = 0 ∨ q.2.1 = 1) ∧ (q.2.1 = 0 → mov = 0 ∧ ∀ h, h < n → tl L k h 1 (k (1 + h)) = k (1 + h)) ∧ (∀ a, a ≠ 16 → a ≠ 21 → q.2.2.2.1 a = I a) ∧ ∀ h, h < n → q.2.2.2.1 21 h = tl L k h 1 (k (1 + h)))) := by
        intro z0 J2 hz
        have hlt : nx (opn L k) i < 256 := Nat.lt_of_lt_of_le (nx_lt _ i) (two_le (by omega))
        have j126 : ∀ zz, (t1 ||| zz = nI (nx (opn L k) (i + 1))) → wp (h_X1_passMinute_J24_126 m w s S F lw (nI hd) I1 J2 t2 (nI i) (k (1 + i)) zz t1) (v_K (fun (t : Int32 × Int32 × Int32 × v_I × v_J) => i < n ∧ t.1 = nI (nx (opn L k) (i + 1)) ∧ (t.2.1 = 0 ∨ t.2.1 = 1) ∧ t.2.2.1 = nI (i + 1) ∧ (t.2.1 = 0 → mov = 0 ∧ ∀ h, h < i + 1 → tl L k h 1 (k (1 + h)) = k (1 + h)) ∧ (∀ a, a ≠ 16 → a ≠ 21 → t.2.2.2.1 a = I a) ∧ ∀ h, h < i + 1 → t.2.2.2.1 21 h = tl L k h 1 (k (1 + h))) (fun q => q.1 = nI (nx (opn L k) n) ∧ (q.2.1 = 0 ∨ q.2.1 = 1) ∧ (q.2.1 = 0 → mov = 0 ∧ ∀ h, h < n → tl L k h 1 (k (1 + h)) = k (1 + h)) ∧ (∀ a, a ≠ 16 → a ≠ 21 → q.2.2.2.1 a = I a) ∧ ∀ h, h < n → q.2.2.2.1 21 h = tl L k h 1 (k (1 + h)))) := by
          intro zz hzz
          unfold h_X1_passMinute_J24_126 h_X1_passMinute_J24_163
          rw [p_le, hzz]
          refine wp_seq (c_tl J2 hL1 v1 1 (k (1 + i))) fun r hr => ?_
          rw [p_in_nI (by omega) (by omega), p_bs, p_le, p_bs, w_at, hr]
          have fin : ∀ z1, (z1 = if tl L k i 1 (k (1 + i)) = k (1 + i) then (0 : Int32) else 1) → wp (p_let (t2 ||| z1) fun x_26 => p_let (nI i + 1) fun x_28 => some (Sum.inl (nI (nx (opn L k) (i + 1)), x_26, x_28, v_up I1 21 i (tl L k i 1 (k (1 + i))), r.2))) (v_K (fun (t : Int32 × Int32 × Int32 × v_I × v_J) => i < n ∧ t.1 = nI (nx (opn L k) (i + 1)) ∧ (t.2.1 = 0 ∨ t.2.1 = 1) ∧ t.2.2.1 = nI (i + 1) ∧ (t.2.1 = 0 → mov = 0 ∧ ∀ h, h < i + 1 → tl L k h 1 (k (1 + h)) = k (1 + h)) ∧ (∀ a, a ≠ 16 → a ≠ 21 → t.2.2.2.1 a = I a) ∧ ∀ h, h < i + 1 → t.2.2.2.1 21 h = tl L k h 1 (k (1 + h))) (fun q : Int32 × Int32 × Int32 × v_I × v_J => q.1 = nI (nx (opn L k) n) ∧ (q.2.1 = 0 ∨ q.2.1 = 1) ∧ (q.2.1 = 0 → mov = 0 ∧ ∀ h, h < n → tl L k h 1 (k (1 + h)) = k (1 + h)) ∧ (∀ a, a ≠ 16 → a ≠ 21 → q.2.2.2.1 a = I a) ∧ ∀ h, h < n → q.2.2.2.1 21 h = tl L k h 1 (k (1 + h)))) := by
            intro z1 hz1
            rw [p_le, p_le]
            have hz1b : z1 = 0 ∨ z1 = 1 := by rw [hz1]; split; exact .inl rfl; exact .inr rfl
            have ob := or_bit u2 hz1b
            refine wp_some.mpr ⟨by omega, rfl, ob.1, (nI_succ i).symm, fun e => ?_, fun a ha1 ha2 => ?_, fun h hh => ?_⟩
            · have := ob.2 e
              refine ⟨(u4 this.1).1, fun h hh => ?_⟩
              by_cases hhi : h < i
              · exact (u4 this.1).2 h hhi
              · have : h = i := by omega
                subst this
                by_cases eq : tl L k h 1 (k (1 + h)) = k (1 + h)
                · exact eq
                · rw [if_neg eq] at hz1
                  rw [hz1] at this
                  exact absurd this.2 (by decide)
            · dsimp only
              rw [v_up_row _ 21 _ _ ha2, v2 a ha1, u5 a ha1 ha2]
            · dsimp only
              by_cases hhi : h = i
              · subst hhi; rw [w_at]
              · rw [w_ne _ _ _ _ hhi, v2 21 (by omega)]; exact u6 h (by omega)
          by_cases eq : tl L k i 1 (k (1 + i)) = k (1 + i)
          · rw [if_pos eq]; exact fin 0 (by rw [if_pos eq])
          · rw [if_neg eq]; exact fin 1 (by rw [if_neg eq])
        unfold h_X1_passMinute_J24_109
        rw [hz]
        cases hop : opn L k i with
        | false =>
          rw [show (if false = true then (1 : Int32) else 0) = 0 from rfl, if_pos rfl]
          exact j126 0 (by
            rw [u1, show nx (opn L k) (i + 1) = nx (opn L k) i ||| (if opn L k i then 2 ^ i else 0) from rfl, hop, if_neg (by decide), Nat.or_zero, Int32.or_zero])
        | true =>
          rw [show (if true = true then (1 : Int32) else 0) = 1 from rfl, if_neg (by decide)]
          exact j126 _ (by
            rw [u1, b_set i _ (by omega) hlt, show nx (opn L k) (i + 1) = nx (opn L k) i ||| (if opn L k i then 2 ^ i else 0) from rfl, hop, if_pos rfl])
      by_cases hob : o.testBit i = true
      · rw [if_pos hob, p_bs, if_neg (by decide)]
        refine wp_seq (c_tl J' hL1 v1 2 0) fun r hr => ?_
        have hop : opn L k i = decide (tl L k i 2 0 = 0) := by
          unfold opn; rw [e0, bt_nI ho, hob, if_pos rfl]
        by_cases z : r.1 = 0
        · rw [if_pos z]; rw [hr] at z; exact j109 1 _ (by rw [hop, decide_eq_true z, if_pos rfl])
        · rw [if_neg z]; rw [hr] at z; exact j109 0 _ (by rw [hop, decide_eq_false z, if_neg (by decide)])
      · rw [if_neg hob, p_bs, if_pos rfl]
        refine wp_seq (c_tl J' hL1 v1 0 (k (1 + i))) fun r hr => ?_
        have hop : opn L k i = decide (¬ env k i 3 < tl L k i 0 (k (1 + i))) := by
          unfold opn; rw [e0, bt_nI ho, if_neg hob]
        rw [v1 3 (by omega), hr]
        by_cases z : env k i 3 < tl L k i 0 (k (1 + i))
        · rw [if_pos z]; exact j109 0 _ (by rw [hop, decide_eq_false (fun q => q z), if_neg (by decide)])
        · rw [if_neg z]; exact j109 1 _ (by rw [hop, decide_eq_true z, if_pos rfl])
    refine wp_seq l1 fun q hq => ?_
    obtain ⟨t1, t2, t3, I', J'⟩ := q
    obtain ⟨u1, u2, u4, u5, u6⟩ := hq
    dsimp only at u1 u2 u4 u5 u6 ⊢
    unfold h_X1_passMinute_J172
    rw [p_le, u1, nx_held (opn L k) hn hhd]
    generalize hnx : nI (nx (fun h => opn L k h && !hd.testBit h) n) = nxt
    have mn0 : mn L n hd k 0 = nxt := by unfold mn; rw [if_pos rfl]; exact hnx
    have j197 : ∀ z0, (z0 = if nxt = I' m 0 then (0 : Int32) else 1) → wp (h_X1_passMinute_J197 m w s S F I' J' nxt z0 t2) (fun r => rM r.2.1 m w s (mn L n hd k) ∧ (∀ a, a ≠ 16 → a ≠ 21 → a ≠ m → a ≠ w → a ≠ s → r.2.1 a = I a) ∧ (r.1 = 0 → stl L n hd k) ∧ (∀ j, 2 ≤ j → r.2.1 m j = I m j)) := by
      intro z0 hz0
      have hz0b : z0 = 0 ∨ z0 = 1 := by rw [hz0]; split; exact .inl rfl; exact .inr rfl
      have ob := or_bit u2 hz0b
      unfold h_X1_passMinute_J197
      rw [p_le]
      have l2 : wp (v_loop (h_X1_passMinute_B203 m w s S F J' nxt (t2 ||| z0)) FU (0, I')) (fun q => (∀ a, a ≠ w → a ≠ s → q.2 a = I' a) ∧ ∀ h, h < 8 → (q.2 w h = if h < n then I' 21 h else I' w h) ∧ q.2 s h = if h < n then st99 (I' s h) else I' s h) := by
        refine wp_lp (fun i (t : Int32 × v_I) => t.1 = nI i ∧ (∀ a, a ≠ w → a ≠ s → t.2 a = I' a) ∧ ∀ h, h < 8 → (t.2 w h = if h < i then I' 21 h else I' w h) ∧ t.2 s h = if h < i then st99 (I' s h) else I' s h) n (by omega) ⟨rfl, fun _ _ _ => rfl, fun h hh => ⟨by rw [if_neg (by omega)], by rw [if_neg (by omega)]⟩⟩ ?_
        rintro i ⟨x, I2⟩ hi ⟨y1, y2, y3⟩
        dsimp only at y1 y2 y3
        subst y1
        unfold h_X1_passMinute_B203
        dsimp only
        have e10 : I2 1 0 = nI n := by rw [y2 1 (by omega) (by omega), u5 1 (by omega) (by omega), s1, ek]
        by_cases hin : n ≤ i
        · have : i = n := by omega
          subst this
          rw [if_pos (by rw [e10]; exact nI_le (Nat.le_refl _) (by omega))]
          exact wp_some.mpr ⟨y2, y3⟩
        rw [if_neg (by rw [e10]; exact nI_ge (by omega) (by omega)), if_neg (show ¬ (8 : Int32) ≤ nI i from i_nle (a := 8) rfl rfl (by omega) (by omega)), p_in_nI (by omega) (by omega), p_bs, p_bs, p_le, p_bs, p_bs, p_le, p_le, min_99, v_up_row _ w _ _ (fun e => b3 e.symm)]
        refine wp_some.mpr ⟨by omega, (nI_succ i).symm, fun a ha1 ha2 => ?_, fun h hh => ⟨?_, ?_⟩⟩
        · dsimp only
          rw [v_up_row _ s _ _ ha2, v_up_row _ w _ _ ha1, y2 a ha1 ha2]
        · dsimp only
          rw [v_up_row _ s _ _ b3]
          by_cases e : h = i
          · subst e; rw [w_at, if_pos (by omega), y2 21 (by omega) (by omega)]
          · rw [w_ne _ _ _ _ e, (y3 h hh).1]
            by_cases q : h < i
            · rw [if_pos q, if_pos (by omega)]
            · rw [if_neg q, if_neg (by omega)]
        · dsimp only
          by_cases e : h = i
          · subst e; rw [w_at, if_pos (by omega), (y3 h hh).2, if_neg (by omega)]
          · rw [w_ne _ _ _ _ e, v_up_row _ w _ _ (fun e => b3 e.symm), (y3 h hh).2]
            by_cases q : h < i
            · rw [if_pos q, if_pos (by omega)]
            · rw [if_neg q, if_neg (by omega)]
      refine wp_seq l2 fun q hq => ?_
      obtain ⟨y2, y3⟩ := hq
      unfold h_X1_passMinute_J260
      have mw : (m : Nat) ≠ w := b1
      rw [p_le, p_le, w_ne _ _ _ _ (show (1 : Nat) ≠ 0 by decide), y2 m b1 b2, show p_bl (t2 ||| z0) = some () by rcases ob.1 with e | e <;> rw [e] <;> rfl, p_bs, u5 m (by omega) (by omega), q2]
      refine wp_some.mpr ⟨⟨?_, ?_, fun h hh => ?_, fun h hh => ?_⟩, fun a a1 a2 a3 a4 a5 => ?_, fun e => ?_, fun j hj => ?_⟩
      · dsimp only
        rw [w_ne _ _ _ _ (show (0 : Nat) ≠ 1 by decide), w_at, mn0]
      · dsimp only
        rw [w_at, mn_17 L hd k hn]
      · dsimp only
        rw [v_up_row _ m _ _ (fun e => b1 e.symm), v_up_row _ m _ _ (fun e => b1 e.symm), (y3 h hh).1, mn_w L hd k hn hh]
        by_cases q : h < n
        · rw [if_pos q, if_pos q, u6 h q]
        · rw [if_neg q, if_neg q, u5 w (by omega) (by omega), q3 h hh]
      · dsimp only
        rw [v_up_row _ m _ _ (fun e => b2 e.symm), v_up_row _ m _ _ (fun e => b2 e.symm), (y3 h hh).2, mn_s L hd k hn hh, u5 s (by omega) (by omega), q4 h hh]
      · dsimp only
        rw [v_up_row _ m _ _ a3, v_up_row _ m _ _ a3, y2 a a4 a5, u5 a a1 a2]
      · have := ob.2 e
        have h4 := u4 this.1
        refine ⟨?_, h4.2, hstill h4.1⟩
        rw [mn0]
        by_cases eq : nxt = I' m 0
        · rw [eq, u5 m (by omega) (by omega), q1]
        · rw [if_neg eq] at hz0
          rw [hz0] at this
          exact absurd this.2 (by decide)
      · dsimp only
        rw [w_ne _ _ _ _ (by omega), w_ne _ _ _ _ (by omega), y2 m b1 b2, u5 m (by omega) (by omega)]
    by_cases eq : nxt = I' m 0
    · rw [if_pos eq]; exact j197 0 (by rw [if_pos eq])
    · rw [if_neg eq]; exact j197 1 (by rw [if_neg eq])
  unfold h_X1_passMinute h_X1_passMinute_J18
  rcases id hL with ⟨h1, h2, h3⟩ | ⟨x, D, f, ak, af, as, at', ai, ac, cn, m', h1, h2, h3, h4, h5, h6, h7, h8⟩
  · have := main 0 (.inl rfl) (fun _ D e => by rw [h2] at e; cases e)
    rw [h1] at this ⊢
    exact this
  · rw [h1]
    unfold p_nul
    dsimp only
    rw [p_obA (kd := 8) h6.1, p_bs]
    by_cases e : I x 2 = 0
    · rw [if_pos e]
      have := main 0 (.inl rfl) (fun _ D' eD => by rw [h2] at eD; cases eD; exact h7 e)
      rw [h1] at this
      exact this
    · rw [if_neg e]
      have := main 1 (.inr rfl) (fun e => absurd e (by decide))
      rw [h1] at this
      exact this
end sp68
