noncomputable section sp70
/-! MINUTE by MINUTE -/
def it (L : Option (List Cls)) (n hd : Nat) (k : Nat → Int32) : Nat → (Nat → Int32)
  | 0 => k
  | i + 1 => mn L n hd (it L n hd k i)
theorem it_ge {L : Option (List Cls)} {n hd : Nat} {k : Nat → Int32} (hn : n ≤ 8) : ∀ (i : Nat) {z : Nat}, 18 ≤ z → it L n hd k i z = k z
  | 0, _, _ => rfl
  | i + 1, z, h => by
    show mn L n hd (it L n hd k i) z = k z
    rw [mn_ge hn h]; exact it_ge hn i h
theorem mn_lt {L : Option (List Cls)} {n hd : Nat} {k : Nat → Int32} : ∃ o : Nat, o < 2 ^ n ∧ mn L n hd k 0 = nI o := ⟨_, nx_lt _ n, mn_0 L n hd k⟩
theorem it_B {L : Option (List Cls)} {n hd : Nat} {k : Nat → Int32} (hn : n ≤ 8) (h : kB k) : ∀ i, kB (it L n hd k i)
  | 0 => h
  | i + 1 => by
    refine ⟨?_, fun z hz => ?_⟩
    · obtain ⟨o, ho, e⟩ := mn_lt (L := L) (n := n) (hd := hd) (k := it L n hd k i)
      exact ⟨o, Nat.lt_of_lt_of_le ho (two_le hn), e⟩
    · rw [it_ge hn _ (by omega)]; exact h.2 z hz
theorem env_stl {L : Option (List Cls)} {n hd : Nat} {k : Nat → Int32} (hn : n ≤ 8) (h : stl L n hd k) {z : Nat} (hz : z < n) (i : Nat) (h5 : i ≠ 5) (h6 : i ≠ 6) : env (mn L n hd k) z i = env k z i := by
  obtain ⟨e0, e1, _⟩ := h
  unfold env
  rw [e0, mn_w L hd k hn (by omega), if_pos hz, e1 z hz, mn_ge hn (show 18 ≤ 18 + z by omega), mn_ge hn (show 18 ≤ 26 + z by omega), mn_ge hn (show 18 ≤ 47 by omega), mn_ge hn (show 18 ≤ 48 by omega)]
  by_cases a0 : i = 0
  · rw [if_pos a0, if_pos a0]
  · rw [if_neg a0, if_neg a0, if_neg h5, if_neg h5, if_neg h6, if_neg h6]
theorem tl_stl {L : Option (List Cls)} {n hd : Nat} {k : Nat → Int32} (hn : n ≤ 8) (h : stl L n hd k) {z : Nat} (hz : z < n) (kind w : Int32) : tl L (mn L n hd k) z kind w = tl L k z kind w := by
  cases L with
  | none => rfl
  | some D =>
    have hs := h.2.2 D rfl
    refine told_agr kind (fun x hx d hd' => ?_) w
    have e := env_stl hn h hz
    rcases hd' with q | q
    · exact (hs x hx).1 d q _ _ fun i a b => e i a b
    · exact (hs x hx).2 d q _ _ fun i a b => e i a b
theorem opn_stl {L : Option (List Cls)} {n hd : Nat} {k : Nat → Int32} (hn : n ≤ 8) (h : stl L n hd k) {z : Nat} (hz : z < n) : opn L (mn L n hd k) z = opn L k z := by
  unfold opn
  rw [h.1, tl_stl hn h hz, mn_w L hd k hn (by omega), if_pos hz, h.2.1 z hz, tl_stl hn h hz, env_stl hn h hz 3 (by omega) (by omega)]
theorem stl_step {L : Option (List Cls)} {n hd : Nat} {k : Nat → Int32} (hn : n ≤ 8) (h : stl L n hd k) : stl L n hd (mn L n hd k) := by
  refine ⟨?_, fun z hz => ?_, h.2.2⟩
  · rw [mn_0, mn_0]
    congr 1
    exact nx_eq fun i hi => by rw [opn_stl hn h hi]
  · rw [tl_stl hn h hz, mn_w L hd k hn (by omega), if_pos hz, h.2.1 z hz]; exact h.2.1 z hz
theorem it_stl {L : Option (List Cls)} {n hd : Nat} {k : Nat → Int32} (hn : n ≤ 8) {i : Nat} (h : stl L n hd (it L n hd k i)) : ∀ j, it L n hd k (i + j) 0 = it L n hd k i 0 := by
  have key : ∀ j, stl L n hd (it L n hd k (i + j)) ∧ it L n hd k (i + j) 0 = it L n hd k i 0 := by
    intro j
    induction j with
    | zero => exact ⟨h, rfl⟩
    | succ j ih =>
      refine ⟨stl_step hn ih.1, ?_⟩
      show mn L n hd (it L n hd k (i + j)) 0 = _
      rw [ih.1.1, ih.2]
  exact fun j => (key j).2
/-! a Moment is copied -/
theorem c_copy {S : v_S} {F : v_F} {I : v_I} {m0 w0 s0 m1 w1 s1 : Nat} (h0 : p_Mo S F m0 w0 s0) (h1 : p_Mo S F m1 w1 s1) (d1 : m0 ≠ w0) (d2 : m0 ≠ s0) (d3 : w0 ≠ s0) (d4 : w1 ≠ m0) (d5 : s1 ≠ m0) (d6 : s1 ≠ w0) (d7 : m1 ≠ m0) :
    ∃ I1, h_X3_copyFrom S I F m0 w0 s0 m1 w1 s1 = some I1 ∧ (∀ k, rM I m1 w1 s1 k → rM I1 m0 w0 s0 k) ∧ (∀ a, a ≠ m0 → a ≠ w0 → a ≠ s0 → I1 a = I a) ∧ ∀ j, 2 ≤ j → I1 m0 j = I m0 j := by
  have cp : ∀ a b, S[a]? = some (20, 8) → S[b]? = some (20, 8) → p_cp S a b 0 0 8 = some () := by
    intro a b ha hb
    unfold p_cp
    rw [ha, hb]
    decide
  have cy : ∀ (I : v_I) (a b : Nat), p_cpy I a b (0 : Int32).toNatClampNeg (0 : Int32).toNatClampNeg (8 : Int32).toNatClampNeg = fun k j => if k = b ∧ j < 8 then I a j else I k j := by
    intro I a b
    funext k j
    unfold p_cpy va_cpy
    rw [show (0 : Int32).toNatClampNeg = 0 by decide, show (8 : Int32).toNatClampNeg = 8 by decide]
    by_cases q : k = b
    · subst q
      rw [if_pos rfl]
      by_cases q2 : j < 8
      · rw [if_pos (by omega), if_pos ⟨rfl, q2⟩, show 0 + (j - 0) = j by omega]
      · rw [if_neg (by omega), if_neg (fun e => q2 e.2)]
    · rw [if_neg q, if_neg (fun e => q e.1)]
  unfold h_X3_copyFrom
  rw [p_le, p_le, cp w1 w0 h1.2.1 h0.2.1, p_bs, p_le, cp s1 s0 h1.2.2.1 h0.2.2.1, p_bs, p_le, cy, cy]
  refine ⟨_, rfl, fun k hM => ?_, fun a a1 a2 a3 => ?_, fun j hj => ?_⟩
  · obtain ⟨q1, q2, q3, q4⟩ := hM
    refine ⟨?_, ?_, fun h hh => ?_, fun h hh => ?_⟩
    · dsimp only
      rw [if_neg (fun e => d2 e.1), if_neg (fun e => d1 e.1), w_ne _ _ _ _ (by omega), w_at, q1]
    · dsimp only
      rw [if_neg (fun e => d2 e.1), if_neg (fun e => d1 e.1), w_at, v_up_row _ m0 _ _ d7, q2]
    · dsimp only
      rw [if_neg (fun e => d3 e.1), if_pos ⟨rfl, hh⟩, v_up_row _ m0 _ _ d4, v_up_row _ m0 _ _ d4, q3 h hh]
    · dsimp only
      rw [if_pos ⟨rfl, hh⟩, if_neg (fun e => d6 e.1), v_up_row _ m0 _ _ d5, v_up_row _ m0 _ _ d5, q4 h hh]
  · funext j
    dsimp only
    rw [if_neg (fun e => a3 e.1), if_neg (fun e => a2 e.1), v_up_row _ m0 _ _ a1, v_up_row _ m0 _ _ a1]
  · dsimp only
    rw [if_neg (fun e => d2 e.1), if_neg (fun e => d1 e.1), w_ne _ _ _ _ (by omega), w_ne _ _ _ _ (by omega)]
/-- all that the class's minutes go by, as it lies between the calls -/
def cX (S : v_S) (I : v_I) (F : v_F) (n : Nat) (lw : Option Nat) (L : Option (List Cls)) (k : Nat → Int32) : Prop :=
  p_SS S ∧ p_FF F ∧ n ≤ 8 ∧ k 49 = nI n ∧ kB k ∧ rS I k ∧ rM I 2 3 4 k ∧ rLw S I F lw k L ∧ h_X0_lawInForce S I F = some lw
theorem cX_fr {S : v_S} {I I' : v_I} {F : v_F} {n : Nat} {lw : Option Nat} {L : Option (List Cls)} {k : Nat → Int32} (e : ∀ a, (a ≤ 6 ∨ 72 ≤ a) → I' a = I a) (h : cX S I F n lw L k) : cX S I' F n lw L k := by
  obtain ⟨h1, h2, h3, h4, h5, h6, h7, h8, h9⟩ := h
  refine ⟨h1, h2, h3, h4, h5, ?_, rM_fr (e 2 (by omega)) (e 3 (by omega)) (e 4 (by omega)) h7, rLw_fr (fun a ha => e a (by omega)) h8, ?_⟩
  · unfold rS; rw [e 1 (by omega), e 5 (by omega), e 6 (by omega)]; exact h6
  · rw [← h9]; unfold h_X0_lawInForce h_X0_lawAt; rw [e 1 (by omega)]
theorem R_cX {S : v_S} {I : v_I} {J : v_J} {F : v_F} (h : R S I J F) : ∃ n lw L, cX S I F n lw L (I 51) := by
  obtain ⟨hS, hF, hC, hK, _, _, _, _, own, hN, hL, _⟩ := h
  obtain ⟨⟨m1, m2, m3, m4⟩, c1, c2, c3, c4, c5, c6, c7, c8, c9, c10, c11⟩ := id hC
  have hB := kK_B hK
  obtain ⟨n, tl, k1, k2, k3, k4, k5, k6, k7, k8, k9⟩ := hK
  have base : ∀ lw L, rLw S I F lw (I 51) L → h_X0_lawInForce S I F = some lw → ∃ n lw L, cX S I F n lw L (I 51) := fun lw L q1 q2 => ⟨n, lw, L, hS, hF, k1, k2, hB, ⟨c1, c2, c3, c5, c6⟩, ⟨m1, m2, m3, m4⟩, q1, q2⟩
  rcases k9 with e | ⟨f, hf, e⟩
  · refine base none none (.inl ⟨rfl, rfl, e⟩) ?_
    unfold h_X0_lawInForce h_X0_lawAt
    rw [c11, e, if_pos (by decide)]; rfl
  · obtain ⟨x, hx, D, ak, af, as, at', ai, ac, cn, m, t1, t2, t3, o1, o2, o3, o4, o5, o6, o7⟩ := hL f tl k7 k8 hf
    refine base (some x) (some D) (.inr ⟨x, D, f, ak, af, as, at', ai, ac, cn, m, rfl, rfl, by omega, e, t1, t2, t3, (hN _ (by omega)).1, (hN _ (by omega)).1, (hN _ (by omega)).1, (hN _ (by omega)).1, (hN _ (by omega)).1, (hN _ (by omega)).1, (hN _ (by omega)).1⟩) ?_
    unfold h_X0_lawInForce h_X0_lawAt
    rw [c11, e, if_neg (nI_pos (by omega)), if_neg (by rw [c10, k8]; exact nI_ge hf (by omega)), if_neg (show ¬ (6 : Int32) ≤ nI f from i_nle (a := 6) rfl rfl (by omega) (by omega)), p_in_nI (by omega) (by omega), p_bs, p_le, hx]; rfl
/-- what the class's minutes on paper leave alone -/
def fc (I I' : v_I) : Prop := ∀ a, a ≠ 16 → a ≠ 18 → a ≠ 19 → a ≠ 20 → a ≠ 21 → a ≠ 22 → I' a = I a
theorem fc_refl (I : v_I) : fc I I := fun _ _ _ _ _ _ _ => rfl
theorem fc_trans {I I' I'' : v_I} (h : fc I I') (h' : fc I' I'') : fc I I'' := fun a q1 q2 q3 q4 q5 q6 => (h' a q1 q2 q3 q4 q5 q6).trans (h a q1 q2 q3 q4 q5 q6)
theorem fc_fr {I I' : v_I} (h : fc I I') : fr I I' := fun a j q => by
  have : I' a = I a := h a (by rintro rfl; exact q (by unfold scr; omega)) (by rintro rfl; exact q (by unfold scr; omega)) (by rintro rfl; exact q (by unfold scr; omega)) (by rintro rfl; exact q (by unfold scr; omega)) (by rintro rfl; exact q (by unfold scr; omega)) (by rintro rfl; exact q (by unfold scr; omega))
  rw [this]
theorem fc_cX {S : v_S} {I I' : v_I} {F : v_F} {n : Nat} {lw : Option Nat} {L : Option (List Cls)} {k : Nat → Int32} (e : fc I I') (h : cX S I F n lw L k) : cX S I' F n lw L k := cX_fr (fun a ha => e a (by omega) (by omega) (by omega) (by omega) (by omega) (by omega)) h
theorem mo_paper {S : v_S} {F : v_F} (hS : p_SS S) (hF : p_FF F) : p_Mo S F 18 19 20 := p_MoC hS hF 18 19 20 rfl rfl rfl (by decide) (by decide)
theorem mo_now {S : v_S} {F : v_F} (hS : p_SS S) (hF : p_FF F) : p_Mo S F 2 3 4 := p_MoC hS hF 2 3 4 rfl rfl rfl (by decide) (by decide)
theorem mB_paper : mB 18 19 20 := by unfold mB; omega
theorem c_begin {S : v_S} {I : v_I} {F : v_F} {n : Nat} {lw : Option Nat} {L : Option (List Cls)} {k : Nat → Int32} (h : cX S I F n lw L k) (x : Int32) : ∃ I1, h_X1_begin S I F x = some I1 ∧ rM I1 18 19 20 (kup k 0 x) ∧ fc I I1 := by
  obtain ⟨h1, h2, h3, h4, h5, h6, h7, h8, h9⟩ := h
  obtain ⟨I1, e1, e2, e3, e4⟩ := c_copy (I := I) (mo_paper h1 h2) (mo_now h1 h2) (by omega) (by omega) (by omega) (by omega) (by omega) (by omega) (by omega)
  unfold h_X1_begin
  rw [e1, p_bs, p_le]
  refine ⟨_, rfl, ?_, fun a a1 a2 a3 a4 a5 a6 => ?_⟩
  · obtain ⟨q1, q2, q3, q4⟩ := e2 k h7
    refine ⟨by rw [w_at, kup_at], by rw [w_ne _ _ _ _ (by omega), q2, kup_ne _ _ (by omega)], fun h hh => ?_, fun h hh => ?_⟩
    · rw [v_up_row _ 18 _ _ (by omega), q3 h hh, kup_ne _ _ (by omega)]
    · rw [v_up_row _ 18 _ _ (by omega), q4 h hh, kup_ne _ _ (by omega)]
  · rw [v_up_row _ 18 _ _ a2, e3 a a2 a3 a4]
/-- one minute on paper -/
theorem c_step {S : v_S} {I I' : v_I} {F : v_F} (J : v_J) {n hd : Nat} {lw : Option Nat} {L : Option (List Cls)} {k : Nat → Int32} (h : cX S I F n lw L k) {o : Nat} (ho : o < 256) (hhd : hd < 256) {i : Nat} (hf : fc I I') (hM : rM I' 18 19 20 (it L n hd (kup k 0 (nI o)) i)) :
    wp (h_X1_passMinute S I' J F 18 19 20 lw (nI hd)) (fun r => rM r.2.1 18 19 20 (it L n hd (kup k 0 (nI o)) (i + 1)) ∧ fc I r.2.1 ∧ (∀ j, r.2.1 22 j = I' 22 j) ∧ (r.1 = 0 → stl L n hd (it L n hd (kup k 0 (nI o)) i))) := by
  obtain ⟨h1, h2, h3, h4, h5, h6, h7, h8, h9⟩ := fc_cX hf h
  have hge : ∀ z, 18 ≤ z → it L n hd (kup k 0 (nI o)) i z = k z := fun z hz => by rw [it_ge h3 i hz, kup_ne _ _ (by omega)]
  have hB0 : kB (kup k 0 (nI o)) := ⟨⟨o, ho, kup_at _ _ _⟩, fun z hz => by rw [kup_ne _ _ (by omega)]; exact h5.2 z hz⟩
  have hS : rS I' (it L n hd (kup k 0 (nI o)) i) := by
    obtain ⟨s1, s2, s3, s4, s5⟩ := h6
    exact ⟨by rw [hge _ (by omega)]; exact s1, fun z hz => by rw [hge _ (by omega)]; exact s2 z hz, fun z hz => by rw [hge _ (by omega)]; exact s3 z hz, by rw [hge _ (by omega)]; exact s4, by rw [hge _ (by omega)]; exact s5⟩
  refine wp_mono (c_min J mB_paper hS hM (it_B h3 hB0 i) (rLw_k (fun z hz => hge z (by omega)) h8) h3 (by rw [hge _ (by omega)]; exact h4) hhd) fun r hr => ?_
  obtain ⟨r1, r2, r3, r4⟩ := hr
  refine ⟨r1, fun a a1 a2 a3 a4 a5 a6 => ?_, fun j => ?_, r3⟩
  · rw [r2 a a1 a5 a2 a3 a4, hf a a1 a2 a3 a4 a5 a6]
  · rw [r2 22 (by omega) (by omega) (by omega) (by omega) (by omega)]
/-- the least of the MINUTES at which it is so -/
def isF (f : Nat → Prop) (r : Int32) : Prop := (∃ i : Nat, i ≤ 60 ∧ f i ∧ (∀ j, j < i → ¬ f j) ∧ r = nI i) ∨ ((∀ i, i ≤ 60 → ¬ f i) ∧ r = -1)
theorem isF_eq {f : Nat → Prop} {r r' : Int32} (h : isF f r) (h' : isF f r') : r = r' := by
  rcases h with ⟨i, hi, fi, ni, rfl⟩ | ⟨hn, rfl⟩
  · rcases h' with ⟨j, hj, fj, nj, rfl⟩ | ⟨hn', rfl⟩
    · have : i = j := by
        rcases Nat.lt_trichotomy i j with q | q | q
        · exact absurd fi (nj i q)
        · exact q
        · exact absurd fj (ni j q)
      rw [this]
    · exact absurd fi (hn' i hi)
  · rcases h' with ⟨j, hj, fj, nj, rfl⟩ | ⟨hn', rfl⟩
    · exact absurd fj (hn j hj)
    · rfl
theorem c_first {S : v_S} {I : v_I} {F : v_F} (J : v_J) {n hd o : Nat} {lw : Option Nat} {L : Option (List Cls)} {k : Nat → Int32} (h : cX S I F n lw L k) (p2 w : Int32) (ho : o < 256) (hp : p2 &&& (nI hd ^^^ -1) = nI o) (hhd : hd < 256) :
    wp (h_X1_firstMinute S I J F p2 (nI hd) w) (fun r => isF (fun i => it L n hd (kup k 0 (nI o)) i 0 &&& w = w) r.1 ∧ fc I r.2.1) := by
  unfold h_X1_firstMinute
  rw [hp]
  obtain ⟨I1, e1, e2, e3⟩ := c_begin h (nI o)
  rw [e1, p_bs, (fc_cX e3 h).2.2.2.2.2.2.2.2, p_bs]
  have key : wp (v_loop (h_X1_firstMinute_B22 S F (nI hd) w lw) FU (1, 0, I1, J)) (fun q => isF (fun i => it L n hd (kup k 0 (nI o)) i 0 &&& w = w) (if q.1 = 0 then q.2.2.1 else -1) ∧ fc I q.2.2.2.1) := by
    refine wp_lp (fun i (t : Int32 × Int32 × v_I × v_J) => t.2.1 = nI i ∧ rM t.2.2.1 18 19 20 (it L n hd (kup k 0 (nI o)) i) ∧ fc I t.2.2.1 ∧ (∀ j, j < i → ¬ it L n hd (kup k 0 (nI o)) j 0 &&& w = w) ∧ (t.1 = 0 → 0 < i ∧ stl L n hd (it L n hd (kup k 0 (nI o)) (i - 1)))) 61 (by omega) ⟨rfl, e2, e3, fun j hj => absurd hj (Nat.not_lt_zero _), fun e => absurd e (show ¬ (1 : Int32) = 0 by decide)⟩ ?_
    rintro i ⟨mv, c, I', J'⟩ hi ⟨u1, u2, u3, u4, u5⟩
    dsimp only at u1 u2 u3 u4 u5
    subst u1
    unfold h_X1_firstMinute_B22
    dsimp only
    by_cases h60 : 60 < i
    · rw [if_pos (show (60 : Int32) < nI i from i_lt (a := 60) rfl rfl h60 (by omega))]
      exact wp_some.mpr ⟨.inr ⟨fun j hj => u4 j (by omega), by dsimp only; rw [if_neg (by omega)]⟩, u3⟩
    rw [if_neg (show ¬ (60 : Int32) < nI i from i_nlt (a := 60) rfl rfl (by omega) (by omega))]
    by_cases hm : mv = 0
    · rw [if_pos hm]
      obtain ⟨hp, hs⟩ := u5 hm
      refine wp_some.mpr ⟨.inr ⟨fun j hj => ?_, by dsimp only; rw [if_neg (by omega)]⟩, u3⟩
      by_cases hji : j < i
      · exact u4 j hji
      · have e := it_stl h.2.2.1 hs (j - (i - 1))
        rw [show i - 1 + (j - (i - 1)) = j by omega] at e
        show ¬ it L n hd (kup k 0 (nI o)) j 0 &&& w = w
        rw [e]
        exact u4 (i - 1) (by omega)
    rw [if_neg hm]
    by_cases hw : it L n hd (kup k 0 (nI o)) i 0 &&& w = w
    · rw [if_pos (by rw [u2.1]; exact hw)]
      exact wp_some.mpr ⟨.inl ⟨i, by omega, hw, u4, by dsimp only; rw [if_pos rfl]⟩, u3⟩
    rw [if_neg (by rw [u2.1]; exact hw)]
    refine wp_seq (c_step J' h ho hhd u3 u2) fun r hr => ?_
    obtain ⟨r1, r2, r3, r4⟩ := hr
    rw [p_le]
    refine wp_some.mpr ⟨by omega, (nI_succ i).symm, r1, r2, fun j hj => ?_, fun e => ⟨by omega, ?_⟩⟩
    · by_cases hji : j < i
      · exact u4 j hji
      · rw [show j = i by omega]; exact hw
    · rw [show i + 1 - 1 = i by omega]; exact r4 e
  refine wp_seq key fun q hq => ?_
  obtain ⟨q1, q2⟩ := hq
  by_cases h0 : q.1 = 0
  · rw [if_pos h0] at q1 ⊢; exact wp_some.mpr ⟨q1, q2⟩
  · rw [if_neg h0] at q1 ⊢; exact wp_some.mpr ⟨q1, q2⟩
theorem c_behind {S : v_S} {I : v_I} {F : v_F} (J : v_J) {n o N : Nat} {lw : Option Nat} {L : Option (List Cls)} {k : Nat → Int32} (h : cX S I F n lw L k) (ho : o < 256) (hN : N ≤ 60) :
    wp (h_X1_openBehind S I J F (nI o) (nI N)) (fun r => r.1 = it L n 0 (kup k 0 (nI o)) N 0 ∧ fc I r.2.1) := by
  unfold h_X1_openBehind
  obtain ⟨I1, e1, e2, e3⟩ := c_begin h (nI o)
  rw [e1, p_bs, (fc_cX e3 h).2.2.2.2.2.2.2.2, p_bs]
  have key : wp (v_loop (h_X1_openBehind_B18 S F (nI N) lw) FU (1, 0, I1, J)) (fun q => q.2.2.1 18 0 = it L n 0 (kup k 0 (nI o)) N 0 ∧ fc I q.2.2.1) := by
    refine wp_lp (fun i (t : Int32 × Int32 × v_I × v_J) => t.2.1 = nI i ∧ rM t.2.2.1 18 19 20 (it L n 0 (kup k 0 (nI o)) i) ∧ fc I t.2.2.1 ∧ (t.1 = 0 → 0 < i ∧ stl L n 0 (it L n 0 (kup k 0 (nI o)) (i - 1)))) N (by omega) ⟨rfl, e2, e3, fun e => absurd e (show ¬ (1 : Int32) = 0 by decide)⟩ ?_
    rintro i ⟨mv, c, I', J'⟩ hi ⟨u1, u2, u3, u5⟩
    dsimp only at u1 u2 u3 u5
    subst u1
    unfold h_X1_openBehind_B18
    dsimp only
    by_cases hNi : N ≤ i
    · have : i = N := by omega
      subst this
      rw [if_pos (nI_le (Nat.le_refl _) (by omega))]
      exact wp_some.mpr ⟨u2.1, u3⟩
    rw [if_neg (nI_ge (by omega) (by omega))]
    by_cases hm : mv = 0
    · rw [if_pos hm]
      obtain ⟨hp, hs⟩ := u5 hm
      refine wp_some.mpr ⟨?_, u3⟩
      have a := it_stl h.2.2.1 hs 1
      have b := it_stl h.2.2.1 hs (N - (i - 1))
      rw [show i - 1 + 1 = i by omega] at a
      rw [show i - 1 + (N - (i - 1)) = N by omega] at b
      dsimp only
      rw [u2.1, a, b]
    rw [if_neg hm]
    refine wp_seq (c_step J' h ho (by omega : 0 < 256) u3 u2) fun r hr => ?_
    obtain ⟨r1, r2, r3, r4⟩ := hr
    rw [p_le]
    exact wp_some.mpr ⟨by omega, (nI_succ i).symm, r1, r2, fun e => ⟨by omega, by rw [show i + 1 - 1 = i by omega]; exact r4 e⟩⟩
  refine wp_seq key fun q hq => ?_
  exact wp_some.mpr hq
theorem kup_same {k : Nat → Int32} {x : Int32} (h : k 0 = x) : kup k 0 x = k := by
  funext z; unfold kup
  by_cases e : z = 0
  · rw [if_pos e, e, h]
  · rw [if_neg e]
theorem rM_22 {I : v_I} {k : Nat → Int32} (j : Nat) (x : Int32) (h : rM I 18 19 20 k) : rM (v_up I 22 j x) 18 19 20 k := rM_fr (v_up_row I 22 j x (show (18 : Nat) ≠ 22 by omega)) (v_up_row I 22 j x (show (19 : Nat) ≠ 22 by omega)) (v_up_row I 22 j x (show (20 : Nat) ≠ 22 by omega)) h
theorem c_follow {S : v_S} {I : v_I} {F : v_F} (J : v_J) {n : Nat} {lw : Option Nat} {L : Option (List Cls)} {k : Nat → Int32} (h : cX S I F n lw L k) :
    wp (h_X1_follow S I J F) (fun r => (∀ i, i ≤ 60 → r.1 22 i = it L n 0 k i 0) ∧ fc I r.1) := by
  obtain ⟨o, ho, e0⟩ := id h.2.2.2.2.1.1
  unfold h_X1_follow
  rw [show I 2 0 = nI o by rw [h.2.2.2.2.2.2.1.1, e0]]
  obtain ⟨I1, e1, e2, e3⟩ := c_begin h (nI o)
  rw [e1, p_bs, (fc_cX e3 h).2.2.2.2.2.2.2.2, p_bs, p_le, e2.1]
  have hk : kup k 0 (nI o) = k := kup_same e0
  have key : wp (v_loop (h_X1_follow_B32 S F lw) FU (1, v_up I1 22 0 (kup k 0 (nI o) 0), J)) (fun q => (∀ i, i ≤ 60 → q.2.1 22 i = it L n 0 k i 0) ∧ fc I q.2.1) := by
    refine wp_lp (fun i (t : Int32 × v_I × v_J) => t.1 = nI (i + 1) ∧ rM t.2.1 18 19 20 (it L n 0 (kup k 0 (nI o)) i) ∧ fc I t.2.1 ∧ ∀ j, j ≤ i → t.2.1 22 j = it L n 0 k j 0) 60 (by omega) ⟨rfl, ?_, ?_, ?_⟩ ?_
    · exact rM_22 _ _ e2
    · exact fun a a1 a2 a3 a4 a5 a6 => by dsimp only; rw [v_up_row _ 22 _ _ a6, e3 a a1 a2 a3 a4 a5 a6]
    · intro j hj
      dsimp only
      rw [show j = 0 by omega, w_at, hk]; rfl
    · rintro i ⟨c, I', J'⟩ hi ⟨u1, u2, u3, u4⟩
      dsimp only at u1 u2 u3 u4
      subst u1
      unfold h_X1_follow_B32
      dsimp only
      by_cases h60 : i = 60
      · rw [if_pos (show (60 : Int32) < nI (i + 1) from i_lt (a := 60) rfl rfl (by omega) (by omega))]
        exact wp_some.mpr ⟨fun j hj => u4 j (by omega), u3⟩
      rw [if_neg (show ¬ (60 : Int32) < nI (i + 1) from i_nlt (a := 60) rfl rfl (by omega) (by omega))]
      refine wp_seq (c_step J' h ho (by omega : 0 < 256) u3 u2) fun r hr => ?_
      obtain ⟨r1, r2, r3, r4⟩ := hr
      rw [p_in_nI (by omega) (by omega), p_bs, p_le, p_le, r1.1]
      refine wp_some.mpr ⟨by omega, (nI_succ (i + 1)).symm, rM_22 _ _ r1, fun a a1 a2 a3 a4 a5 a6 => ?_, fun j hj => ?_⟩
      · dsimp only
        rw [v_up_row _ 22 _ _ a6, r2 a a1 a2 a3 a4 a5 a6]
      · dsimp only
        by_cases e : j = i + 1
        · subst e; rw [w_at, hk]
        · rw [w_ne _ _ _ _ e, r3 j]; exact u4 j (by omega)
  refine wp_seq key fun q hq => ?_
  exact wp_some.mpr hq
end sp70
