noncomputable section sp85
def cpn (I : v_I) (a b n : Nat) : v_I := fun k j => if k = b ∧ j < n then I a j else I k j
theorem cp_row {I : v_I} {a b n : Nat} {c : Nat} (h : c ≠ b) : cpn I a b n c = I c := funext fun j => by unfold cpn; rw [if_neg (fun e => h e.1)]
theorem cp_at {I : v_I} {a b n : Nat} {j : Nat} (h : j < n) : cpn I a b n b j = I a j := by unfold cpn; rw [if_pos ⟨rfl, h⟩]
theorem cp_8 (I : v_I) (a b : Nat) : p_cpy I a b (0 : Int32).toNatClampNeg (0 : Int32).toNatClampNeg (8 : Int32).toNatClampNeg = cpn I a b 8 := by
  funext k j
  unfold p_cpy va_cpy cpn
  rw [show (0 : Int32).toNatClampNeg = 0 by decide, show (8 : Int32).toNatClampNeg = 8 by decide]
  by_cases q : k = b
  · subst q
    rw [if_pos rfl]
    by_cases q2 : j < 8
    · rw [if_pos (by omega), if_pos ⟨rfl, q2⟩, show 0 + (j - 0) = j by omega]
    · rw [if_neg (by omega), if_neg (fun e => q2 e.2)]
  · rw [if_neg q, if_neg (fun e => q e.1)]
theorem cp_6 (I : v_I) (a b : Nat) : p_cpy I a b (0 : Int32).toNatClampNeg (0 : Int32).toNatClampNeg (6 : Int32).toNatClampNeg = cpn I a b 6 := by
  funext k j
  unfold p_cpy va_cpy cpn
  rw [show (0 : Int32).toNatClampNeg = 0 by decide, show (6 : Int32).toNatClampNeg = 6 by decide]
  by_cases q : k = b
  · subst q
    rw [if_pos rfl]
    by_cases q2 : j < 6
    · rw [if_pos (by omega), if_pos ⟨rfl, q2⟩, show 0 + (j - 0) = j by omega]
    · rw [if_neg (by omega), if_neg (fun e => q2 e.2)]
  · rw [if_neg q, if_neg (fun e => q e.1)]
theorem cp_S8 {S : v_S} {a b : Nat} (ha : S[a]? = some (20, 8)) (hb : S[b]? = some (20, 8)) : p_cp S a b 0 0 8 = some () := by
  unfold p_cp
  rw [ha, hb]
  decide
theorem cp_S6 {S : v_S} {a b : Nat} (ha : S[a]? = some (20, 6)) (hb : S[b]? = some (20, 6)) : p_cp S a b 0 0 6 = some () := by
  unfold p_cp
  rw [ha, hb]
  decide
theorem S_ne {S : v_S} {a b : Nat} {p q : Nat × Nat} (ha : S[a]? = some p) (hb : S[b]? = some q) (h : p ≠ q) : a ≠ b := fun e => by
  rw [e, hb] at ha; cases ha; exact h rfl
theorem c_ch {S : v_S} {F : v_F} {I : v_I} {c0 m0 w0 s0 sh0 wa0 sm0 so0 la0 c1 m1 w1 s1 sh1 wa1 sm1 so1 la1 : Nat} (hS : p_SS S) (hF : p_FF F) (h0 : p_Ch S F c0 m0 w0 s0 sh0 wa0 sm0 so0 la0) (h1 : p_Ch S F c1 m1 w1 s1 sh1 wa1 sm1 so1 la1) (T : Nat → Prop)
    (t0 : T c0 ∧ T m0 ∧ T w0 ∧ T s0 ∧ T sh0 ∧ T wa0 ∧ T sm0 ∧ T so0 ∧ T la0) (t1 : ¬ T c1 ∧ ¬ T m1 ∧ ¬ T w1 ∧ ¬ T s1 ∧ ¬ T sh1 ∧ ¬ T wa1 ∧ ¬ T sm1 ∧ ¬ T so1 ∧ ¬ T la1) (hl : lOK S F la1) :
    ∃ I' F', f_X0_copyFrom S I F c0 c1 = some (I', F') ∧ (∀ k, rC I c1 m1 w1 s1 sh1 wa1 sm1 so1 k → rC I' c0 m0 w0 s0 sh0 wa0 sm0 so0 k)
      ∧ (∀ a, a ≠ c0 → a ≠ m0 → a ≠ w0 → a ≠ s0 → a ≠ sh0 → a ≠ wa0 → a ≠ sm0 → a ≠ so0 → I' a = I a) ∧ (∀ t, t < 6 → F' la0 t = F la1 t) ∧ (∀ a j, a ≠ la0 → F' a j = F a j) := by
  obtain ⟨p1, p2, p3, p4, p5, p6, p7, f1, f2, f3, f8, f9, f11, d1, d2, d3, d4, d5, d6, d7⟩ := id h0
  obtain ⟨q1, q2, q3, q4, q5, q6, q7, g1, g2, g3, g8, g9, g11, e1, e2, e3, e4, e5, e6, e7⟩ := id h1
  have ne : ∀ {x y : Nat}, T x → ¬ T y → y ≠ x := fun hx hy e => hy (e ▸ hx)
  obtain ⟨T1, T2, T3, T4, T5, T6, T7, T8, T9⟩ := t0
  obtain ⟨U1, U2, U3, U4, U5, U6, U7, U8, U9⟩ := t1
  have cm0 : c0 ≠ m0 := S_ne p1 p2.1 (by decide)
  have cw0 : c0 ≠ w0 := S_ne p1 p2.2.1 (by decide)
  have cs0 : c0 ≠ s0 := S_ne p1 p2.2.2.1 (by decide)
  have csh0 : c0 ≠ sh0 := S_ne p1 p3 (by decide)
  have cwa0 : c0 ≠ wa0 := S_ne p1 p4 (by decide)
  have csm0 : c0 ≠ sm0 := S_ne p1 p5 (by decide)
  have cso0 : c0 ≠ so0 := S_ne p1 p6 (by decide)
  have mw0 : m0 ≠ w0 := S_ne p2.1 p2.2.1 (by decide)
  have ms0 : m0 ≠ s0 := S_ne p2.1 p2.2.2.1 (by decide)
  have msh0 : m0 ≠ sh0 := S_ne p2.1 p3 (by decide)
  have mwa0 : m0 ≠ wa0 := S_ne p2.1 p4 (by decide)
  have msm0 : m0 ≠ sm0 := S_ne p2.1 p5 (by decide)
  have mso0 : m0 ≠ so0 := S_ne p2.1 p6 (by decide)
  have wsm0 : w0 ≠ sm0 := S_ne p2.2.1 p5 (by decide)
  have wso0 : w0 ≠ so0 := S_ne p2.2.1 p6 (by decide)
  have ssm0 : s0 ≠ sm0 := S_ne p2.2.2.1 p5 (by decide)
  have sso0 : s0 ≠ so0 := S_ne p2.2.2.1 p6 (by decide)
  have shsm0 : sh0 ≠ sm0 := S_ne p3 p5 (by decide)
  have shso0 : sh0 ≠ so0 := S_ne p3 p6 (by decide)
  have wasm0 : wa0 ≠ sm0 := S_ne p4 p5 (by decide)
  have waso0 : wa0 ≠ so0 := S_ne p4 p6 (by decide)
  unfold f_X0_copyFrom
  rw [p_obA (kd := 0) q1, p_bs, p_obA (kd := 0) p1, p_bs, p_le, f1, p_bs, g1, p_bs, p_Mo_ob p2, p_bs, s_X3_copyFrom hS hF p2 q2]
  obtain ⟨I1, b1, b2, b3, b4⟩ := c_copy (I := v_up I c0 0 (I c1 0)) p2 q2 mw0 ms0 d1 (ne T2 U3) (ne T2 U4) (ne T3 U4) (ne T2 U2)
  rw [b1]
  simp only [p_bs, g2, f2, cp_S8 q3 p3, p_le, g3, f3, cp_S8 q4 p4, g8, f8, cp_S6 q5 p5, g9, f9, cp_S6 q6 p6, cp_8, cp_6]
  have loop : ∀ I5 : v_I, wp (v_loop (f_X0_copyFrom_B121 S I5 c0 c1) FU (0, F)) (fun t => (∀ z, z < 6 → t.2 la0 z = F la1 z) ∧ ∀ a j, a ≠ la0 → t.2 a j = F a j) := by
    intro I5
    have cla0 : c0 ≠ la0 := S_ne p1 p7 (by decide)
    refine wp_lp (fun i (t : Int32 × v_F) => t.1 = nI i ∧ (∀ z, z < i → t.2 la0 z = F la1 z) ∧ ∀ a j, a ≠ la0 → t.2 a j = F a j) 6 (by omega) ⟨rfl, fun z hz => absurd hz (Nat.not_lt_zero _), fun _ _ _ => rfl⟩ ?_
    rintro i ⟨x, F'⟩ hi ⟨u1, u2, u3⟩
    dsimp only at u1 u2 u3
    subst u1
    unfold f_X0_copyFrom_B121
    dsimp only
    by_cases h6 : i = 6
    · rw [if_pos (show (6 : Int32) ≤ nI i from i_le (a := 6) rfl rfl (by omega) (by omega))]
      exact wp_some.mpr ⟨fun z hz => u2 z (by omega), u3⟩
    rw [if_neg (show ¬ (6 : Int32) ≤ nI i from i_nle (a := 6) rfl rfl (by omega) (by omega)), p_obA (kd := 0) p1, p_bs, u3 c0 11 cla0, f11, p_bs, p_obA (kd := 0) q1, p_bs, u3 c1 11 (ne T9 U1), g11, p_bs, p_ixA q7, p_in_nI (by omega) (by omega), p_bs, p_le, p_ixA p7, p_in_nI (by omega) (by omega), p_bs, u3 la1 i (ne T9 U9)]
    have oq : p_oq S 8 (F la1 i) = some () := by
      rcases hl i (by omega) with z | ⟨x, z1, z2⟩
      · rw [z]; rfl
      · rw [z1]; exact p_obA (kd := 8) z2
    rw [oq, p_bs, p_le, p_le]
    refine wp_some.mpr ⟨by omega, (nI_succ i).symm, fun z hz => ?_, fun a j ha => ?_⟩
    · dsimp only
      by_cases e : z = i
      · subst e; rw [w_at]
      · rw [w_ne _ _ _ _ e]; exact u2 z (by omega)
    · dsimp only
      rw [w_row _ _ _ _ ha]; exact u3 a j ha
  have I1r : ∀ a, a ≠ m0 → a ≠ w0 → a ≠ s0 → I1 a = v_up I c0 0 (I c1 0) a := b3
  generalize hI5 : (v_up (cpn (cpn (v_up (v_up (v_up (v_up (cpn (cpn I1 sh1 sh0 8) wa1 wa0 8) c0 4 (cpn (cpn I1 sh1 sh0 8) wa1 wa0 8 c1 4)) c0 5 (v_up (cpn (cpn I1 sh1 sh0 8) wa1 wa0 8) c0 4 (cpn (cpn I1 sh1 sh0 8) wa1 wa0 8 c1 4) c1 5)) c0 6 (v_up (v_up (cpn (cpn I1 sh1 sh0 8) wa1 wa0 8) c0 4 (cpn (cpn I1 sh1 sh0 8) wa1 wa0 8 c1 4)) c0 5 (v_up (cpn (cpn I1 sh1 sh0 8) wa1 wa0 8) c0 4 (cpn (cpn I1 sh1 sh0 8) wa1 wa0 8 c1 4) c1 5) c1 6)) c0 7 (v_up (v_up (v_up (cpn (cpn I1 sh1 sh0 8) wa1 wa0 8) c0 4 (cpn (cpn I1 sh1 sh0 8) wa1 wa0 8 c1 4)) c0 5 (v_up (cpn (cpn I1 sh1 sh0 8) wa1 wa0 8) c0 4 (cpn (cpn I1 sh1 sh0 8) wa1 wa0 8 c1 4) c1 5)) c0 6 (v_up (v_up (cpn (cpn I1 sh1 sh0 8) wa1 wa0 8) c0 4 (cpn (cpn I1 sh1 sh0 8) wa1 wa0 8 c1 4)) c0 5 (v_up (cpn (cpn I1 sh1 sh0 8) wa1 wa0 8) c0 4 (cpn (cpn I1 sh1 sh0 8) wa1 wa0 8 c1 4) c1 5) c1 6) c1 7)) sm1 sm0 6) so1 so0 6) c0 10 _) = I5
  obtain ⟨⟨x, F5⟩, l1, l2, l3⟩ := loop I5
  dsimp only at l2 l3
  rw [l1, p_bs]
  have N1 : ∀ x, ¬ T x → x ≠ c0 ∧ x ≠ m0 ∧ x ≠ w0 ∧ x ≠ s0 ∧ x ≠ sh0 ∧ x ≠ wa0 ∧ x ≠ sm0 ∧ x ≠ so0 := fun x hx => ⟨ne T1 hx, ne T2 hx, ne T3 hx, ne T4 hx, ne T5 hx, ne T6 hx, ne T7 hx, ne T8 hx⟩
  have src : ∀ x, ¬ T x → I1 x = I x := fun x hx => by
    obtain ⟨a1, a2, a3, a4, _⟩ := N1 x hx
    rw [I1r x a2 a3 a4, v_up_row _ c0 _ _ a1]
  have low : ∀ x, x ≠ c0 → x ≠ sh0 → x ≠ wa0 → x ≠ sm0 → x ≠ so0 → I5 x = I1 x := fun x a1 a2 a3 a4 a5 => by
    rw [← hI5, v_up_row _ c0 _ _ a1, cp_row a5, cp_row a4, v_up_row _ c0 _ _ a1, v_up_row _ c0 _ _ a1, v_up_row _ c0 _ _ a1, v_up_row _ c0 _ _ a1, cp_row a3, cp_row a2]
  have low1 : ∀ x, ¬ T x → I5 x = I x := fun x hx => by
    obtain ⟨a1, a2, a3, a4, a5, a6, a7, a8⟩ := N1 x hx
    rw [low x a1 a5 a6 a7 a8, src x hx]
  have inn : ∀ x, ¬ T x → (cpn (cpn I1 sh1 sh0 8) wa1 wa0 8) x = I x := fun x hx => by
    obtain ⟨a1, a2, a3, a4, a5, a6, a7, a8⟩ := N1 x hx
    rw [cp_row a6, cp_row a5, src x hx]
  have r_sh : ∀ j, j < 8 → I5 sh0 j = I sh1 j := fun j hj => by
    rw [← hI5, v_up_row _ c0 _ _ (fun e => csh0 e.symm), cp_row shso0, cp_row shsm0, v_up_row _ c0 _ _ (fun e => csh0 e.symm), v_up_row _ c0 _ _ (fun e => csh0 e.symm), v_up_row _ c0 _ _ (fun e => csh0 e.symm), v_up_row _ c0 _ _ (fun e => csh0 e.symm), cp_row d6, cp_at hj, src sh1 U5]
  have r_wa : ∀ j, j < 8 → I5 wa0 j = I wa1 j := fun j hj => by
    rw [← hI5, v_up_row _ c0 _ _ (fun e => cwa0 e.symm), cp_row waso0, cp_row wasm0, v_up_row _ c0 _ _ (fun e => cwa0 e.symm), v_up_row _ c0 _ _ (fun e => cwa0 e.symm), v_up_row _ c0 _ _ (fun e => cwa0 e.symm), v_up_row _ c0 _ _ (fun e => cwa0 e.symm), cp_at hj, cp_row (ne T5 U6), src wa1 U6]
  have r_sm : ∀ j, j < 6 → I5 sm0 j = I sm1 j := fun j hj => by
    rw [← hI5, v_up_row _ c0 _ _ (fun e => csm0 e.symm), cp_row d7, cp_at hj, v_up_row _ c0 _ _ (ne T1 U7), v_up_row _ c0 _ _ (ne T1 U7), v_up_row _ c0 _ _ (ne T1 U7), v_up_row _ c0 _ _ (ne T1 U7), inn sm1 U7]
  have r_so : ∀ j, j < 6 → I5 so0 j = I so1 j := fun j hj => by
    rw [← hI5, v_up_row _ c0 _ _ (fun e => cso0 e.symm), cp_at hj, cp_row (ne T7 U8), v_up_row _ c0 _ _ (ne T1 U8), v_up_row _ c0 _ _ (ne T1 U8), v_up_row _ c0 _ _ (ne T1 U8), v_up_row _ c0 _ _ (ne T1 U8), inn so1 U8]
  have r_0 : I5 c0 0 = I c1 0 := by
    rw [← hI5, w_ne _ _ _ _ (by omega), cp_row cso0, cp_row csm0, w_ne _ _ _ _ (by omega), w_ne _ _ _ _ (by omega), w_ne _ _ _ _ (by omega), w_ne _ _ _ _ (by omega), cp_row cwa0, cp_row csh0, I1r c0 cm0 cw0 cs0, w_at]
  have r_4 : I5 c0 4 = I c1 4 := by
    rw [← hI5, w_ne _ _ _ _ (by omega), cp_row cso0, cp_row csm0, w_ne _ _ _ _ (by omega), w_ne _ _ _ _ (by omega), w_ne _ _ _ _ (by omega), w_at, inn c1 U1]
  have r_5 : I5 c0 5 = I c1 5 := by
    rw [← hI5, w_ne _ _ _ _ (by omega), cp_row cso0, cp_row csm0, w_ne _ _ _ _ (by omega), w_ne _ _ _ _ (by omega), w_at, v_up_row _ c0 _ _ (ne T1 U1), inn c1 U1]
  have r_6 : I5 c0 6 = I c1 6 := by
    rw [← hI5, w_ne _ _ _ _ (by omega), cp_row cso0, cp_row csm0, w_ne _ _ _ _ (by omega), w_at, v_up_row _ c0 _ _ (ne T1 U1), v_up_row _ c0 _ _ (ne T1 U1), inn c1 U1]
  have r_7 : I5 c0 7 = I c1 7 := by
    rw [← hI5, w_ne _ _ _ _ (by omega), cp_row cso0, cp_row csm0, w_at, v_up_row _ c0 _ _ (ne T1 U1), v_up_row _ c0 _ _ (ne T1 U1), v_up_row _ c0 _ _ (ne T1 U1), inn c1 U1]
  have r_10 : I5 c0 10 = I c1 10 := by
    rw [← hI5, w_at, cp_row (ne T8 U1), cp_row (ne T7 U1), v_up_row _ c0 _ _ (ne T1 U1), v_up_row _ c0 _ _ (ne T1 U1), v_up_row _ c0 _ _ (ne T1 U1), v_up_row _ c0 _ _ (ne T1 U1), inn c1 U1]
  refine ⟨_, _, rfl, fun k hC => ?_, fun a a1 a2 a3 a4 a5 a6 a7 a8 => ?_, l2, l3⟩
  · obtain ⟨hM, c1', c2', c3', c4', c5', c6', c7', c8', c9', c10', c11'⟩ := hC
    have hM0 : rM (v_up I c0 0 (I c1 0)) m1 w1 s1 k := rM_fr (v_up_row _ c0 _ _ (ne T1 U2)) (v_up_row _ c0 _ _ (ne T1 U3)) (v_up_row _ c0 _ _ (ne T1 U4)) hM
    have rr : ∀ x, x ≠ c0 → v_up I5 c0 12 (I5 c1 12) x = I5 x := fun x hx => v_up_row _ c0 _ _ hx
    refine ⟨?_, ?_, fun j hj => ?_, fun j hj => ?_, ?_, ?_, ?_, ?_, fun j hj => ?_, fun j hj => ?_, ?_, ?_⟩
    · refine rM_fr ?_ ?_ ?_ (b2 k hM0)
      · rw [rr m0 (fun e => cm0 e.symm), low m0 (fun e => cm0 e.symm) msh0 mwa0 msm0 mso0]
      · rw [rr w0 (fun e => cw0 e.symm), low w0 (fun e => cw0 e.symm) d2 d3 wsm0 wso0]
      · rw [rr s0 (fun e => cs0 e.symm), low s0 (fun e => cs0 e.symm) d4 d5 ssm0 sso0]
    · rw [w_ne _ _ _ _ (by omega), r_0]; exact c1'
    · rw [rr sh0 (fun e => csh0 e.symm), r_sh j hj]; exact c2' j hj
    · rw [rr wa0 (fun e => cwa0 e.symm), r_wa j hj]; exact c3' j hj
    · rw [w_ne _ _ _ _ (by omega), r_4]; exact c4'
    · rw [w_ne _ _ _ _ (by omega), r_5]; exact c5'
    · rw [w_ne _ _ _ _ (by omega), r_6]; exact c6'
    · rw [w_ne _ _ _ _ (by omega), r_7]; exact c7'
    · rw [rr sm0 (fun e => csm0 e.symm), r_sm j hj]; exact c8' j hj
    · rw [rr so0 (fun e => cso0 e.symm), r_so j hj]; exact c9' j hj
    · rw [w_ne _ _ _ _ (by omega), r_10]; exact c10'
    · rw [w_at, low1 c1 U1]; exact c11'
  · rw [v_up_row _ c0 _ _ a1, low a a1 a5 a6 a7 a8, I1r a a2 a3 a4, v_up_row _ c0 _ _ a1]
/-- all that is kept, laid into an IMAGE's row, taken back from it -/
theorem m5660 {q i : Nat} (hq : q < 2) : (5660 : Int32) * nI q + nI i = nI (5660 * q + i) := by
  rw [← nI_add]
  rcases (show q = 0 ∨ q = 1 by omega) with rfl | rfl <;> rfl
theorem m_img {I : v_I} {q : Nat} (hq : q < 2) : wp (v_loop (h_X10_image_B17 (nI q)) FU (0, I)) (fun t => (∀ i, i < 5660 → t.2 52 (5660 * q + i) = I 51 i) ∧ ∀ a j, ¬ (a = 52 ∧ 5660 * q ≤ j ∧ j < 5660 * q + 5660) → t.2 a j = I a j) := by
  refine wp_lp (fun i (t : Int32 × v_I) => t.1 = nI i ∧ (∀ z, z < i → t.2 52 (5660 * q + z) = I 51 z) ∧ ∀ a j, ¬ (a = 52 ∧ 5660 * q ≤ j ∧ j < 5660 * q + 5660) → t.2 a j = I a j) 5660 (by omega) ⟨rfl, fun z hz => absurd hz (Nat.not_lt_zero _), fun _ _ _ => rfl⟩ ?_
  rintro i ⟨c, I'⟩ hi ⟨u1, u2, u3⟩
  dsimp only at u1 u2 u3
  subst u1
  unfold h_X10_image_B17
  dsimp only
  by_cases h18 : i = 5660
  · rw [if_pos (show (5660 : Int32) ≤ nI i from i_le (a := 5660) rfl rfl (by omega) (by omega))]
    exact wp_some.mpr ⟨fun z hz => u2 z (by omega), u3⟩
  rw [if_neg (show ¬ (5660 : Int32) ≤ nI i from i_nle (a := 5660) rfl rfl (by omega) (by omega)), p_in_nI (by omega) (by omega), p_bs, m5660 hq, p_in_nI (by omega) (by omega), p_bs, p_le, p_le]
  refine wp_some.mpr ⟨by omega, (nI_succ i).symm, fun z hz => ?_, fun a j h => ?_⟩
  · dsimp only
    by_cases e : z = i
    · subst e; rw [w_at]; exact u3 51 z (by omega)
    · rw [w_ne _ _ _ _ (by omega)]; exact u2 z (by omega)
  · dsimp only
    by_cases e : a = 52
    · subst e; rw [w_ne _ _ _ _ (by omega)]; exact u3 52 j h
    · rw [v_up_row _ 52 _ _ e]; exact u3 a j h
theorem m_bck {I : v_I} {q : Nat} (hq : q < 2) : wp (v_loop (h_X10_back_B33 (nI q)) FU (0, I)) (fun t => (∀ i, i < 5660 → t.2 51 i = I 52 (5660 * q + i)) ∧ ∀ a j, ¬ (a = 51 ∧ j < 5660) → t.2 a j = I a j) := by
  refine wp_lp (fun i (t : Int32 × v_I) => t.1 = nI i ∧ (∀ z, z < i → t.2 51 z = I 52 (5660 * q + z)) ∧ ∀ a j, ¬ (a = 51 ∧ j < 5660) → t.2 a j = I a j) 5660 (by omega) ⟨rfl, fun z hz => absurd hz (Nat.not_lt_zero _), fun _ _ _ => rfl⟩ ?_
  rintro i ⟨c, I'⟩ hi ⟨u1, u2, u3⟩
  dsimp only at u1 u2 u3
  subst u1
  unfold h_X10_back_B33
  dsimp only
  by_cases h18 : i = 5660
  · rw [if_pos (show (5660 : Int32) ≤ nI i from i_le (a := 5660) rfl rfl (by omega) (by omega))]
    exact wp_some.mpr ⟨fun z hz => u2 z (by omega), u3⟩
  rw [if_neg (show ¬ (5660 : Int32) ≤ nI i from i_nle (a := 5660) rfl rfl (by omega) (by omega)), m5660 hq, p_in_nI (by omega) (by omega), p_bs, p_in_nI (by omega) (by omega), p_bs, p_le, p_le]
  refine wp_some.mpr ⟨by omega, (nI_succ i).symm, fun z hz => ?_, fun a j h => ?_⟩
  · dsimp only
    by_cases e : z = i
    · subst e; rw [w_at]; exact u3 52 _ (by omega)
    · rw [w_ne _ _ _ _ (by omega)]; exact u2 z (by omega)
  · dsimp only
    by_cases e : a = 51
    · subst e; rw [w_ne _ _ _ _ (by omega)]; exact u3 51 j h
    · rw [v_up_row _ 51 _ _ e]; exact u3 a j h
theorem ch_1 {S : v_S} {F : v_F} (hS : p_SS S) (hF : p_FF F) : p_Ch S F 1 2 3 4 5 6 7 8 9 := ⟨hS 1 _ rfl, mo_now hS hF, hS 5 _ rfl, hS 6 _ rfl, hS 7 _ rfl, hS 8 _ rfl, hS 9 _ rfl, p_FS hF (by decide), p_FS hF (by decide), p_FS hF (by decide), p_FS hF (by decide), p_FS hF (by decide), p_FS hF (by decide), by omega, by omega, by omega, by omega, by omega, by omega, by omega⟩
/-- rows that say the same up to 5660 -/
theorem rC_ext {I : v_I} {c m w s sh wa sm so : Nat} {k k' : Nat → Int32} (e : ∀ i, i < 5660 → k' i = k i) (h : rC I c m w s sh wa sm so k) : rC I c m w s sh wa sm so k' := by
  obtain ⟨⟨m1, m2, m3, m4⟩, c1, c2, c3, c4, c5, c6, c7, c8, c9, c10, c11⟩ := h
  exact ⟨⟨by rw [e _ (by omega)]; exact m1, by rw [e _ (by omega)]; exact m2, fun z hz => by rw [e _ (by omega)]; exact m3 z hz, fun z hz => by rw [e _ (by omega)]; exact m4 z hz⟩, by rw [e _ (by omega)]; exact c1, fun z hz => by rw [e _ (by omega)]; exact c2 z hz, fun z hz => by rw [e _ (by omega)]; exact c3 z hz, by rw [e _ (by omega)]; exact c4, by rw [e _ (by omega)]; exact c5, by rw [e _ (by omega)]; exact c6, by rw [e _ (by omega)]; exact c7, fun z hz => by rw [e _ (by omega)]; exact c8 z hz, fun z hz => by rw [e _ (by omega)]; exact c9 z hz, by rw [e _ (by omega)]; exact c10, by rw [e _ (by omega)]; exact c11⟩
theorem kK_ext {k k' : Nat → Int32} (e : ∀ i, i < 5660 → k' i = k i) (h : kK k) : kK k' := by
  obtain ⟨n, tl, k1, k2, k3, k4, k5, k6, k7, k8, k9⟩ := h
  exact ⟨n, tl, k1, by rw [e _ (by omega)]; exact k2, kM_ext (fun i hi => e i (by omega)) k3, fun z hz => by rw [e _ (by omega)]; exact k4 z hz, by rw [e _ (by omega)]; exact k5, fun z hz => by rw [e _ (by omega)]; exact k6 z hz, k7, by rw [e _ (by omega)]; exact k8, by rw [e _ (by omega)]; exact k9⟩
theorem tk_ext {o : Bool} {k k' : Nat → Int32} {t : Nat} {D : List Cls} (ht : t < 6) (e : ∀ i, i < 5660 → k' i = k i) (h : tk_D o k t D) : tk_D o k' t D := tk_fr' (e _ (by omega)) (fun i hi => e _ (by omega)) (fun i hi => e _ (by omega)) h
end sp85
