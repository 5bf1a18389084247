noncomputable section sp98t
/-! the class runs ORDERS -/
theorem rM_k {I : v_I} {m w s : Nat} {k k' : Nat → Int32} (h : rM I m w s k) (e : ∀ i, i < 18 → k' i = k i) : rM I m w s k' := by
  obtain ⟨h1, h2, h3, h4⟩ := h
  exact ⟨by rw [e 0 (by omega)]; exact h1, by rw [e 17 (by omega)]; exact h2, fun z hz => by rw [e _ (by omega)]; exact h3 z hz, fun z hz => by rw [e _ (by omega)]; exact h4 z hz⟩
/-- what can be undone, as it lies with the class -/
def cR (S : v_S) (I : v_I) (F : v_F) (own : Nat → Nat) (g : RG) : Prop := ∃ nx, nx < 16 ∧ g.1 ≤ 16 ∧ I 11 0 = nI g.1 ∧ I 11 1 = nI nx
  ∧ (∀ q, q < 16 → F 13 q = none ∨ ∃ m w s, F 13 q = some m ∧ p_Mo S F m w s ∧ w ≠ s ∧ own m = 2 + q ∧ own w = 2 + q ∧ own s = 2 + q)
  ∧ ∀ j, j < g.1 → I 12 ((nx + 16 - g.1 + j) % 16) = g.2 j 18 ∧ ∃ m w s, F 13 ((nx + 16 - g.1 + j) % 16) = some m ∧ F m 2 = some w ∧ F m 3 = some s ∧ rM I m w s (g.2 j)
theorem cR_fr {S : v_S} {I I' : v_I} {F : v_F} {own : Nat → Nat} {g : RG} (hN : rN S own) (h : cR S I F own g) (e1 : I' 11 = I 11) (e2 : I' 12 = I 12) (e3 : ∀ a, 72 ≤ a → I' a = I a) : cR S I' F own g := by
  obtain ⟨nx, h1, h2, h3, h4, h5, h6⟩ := h
  refine ⟨nx, h1, h2, by rw [e1]; exact h3, by rw [e1]; exact h4, h5, fun j hj => ?_⟩
  rw [e2]
  obtain ⟨a1, m, w, s, b1, b2, b3, b4⟩ := h6 j hj
  refine ⟨a1, m, w, s, b1, b2, b3, ?_⟩
  rcases h5 ((nx + 16 - g.1 + j) % 16) (Nat.mod_lt _ (by omega)) with z | ⟨m2, w2, s2, z1, z2, z3, z4, z5, z6⟩
  · rw [z] at b1; cases b1
  · rw [z1] at b1; cases b1
    have := z2.2.2.2.1; rw [this] at b2; cases b2
    have := z2.2.2.2.2; rw [this] at b3; cases b3
    exact rM_fr (e3 _ (hN _ (by omega)).1) (e3 _ (hN _ (by omega)).1) (e3 _ (hN _ (by omega)).1) b4
theorem cR_keep {S : v_S} {I : v_I} {F : v_F} {own : Nat → Nat} {g : RG} {k : Nat → Int32} (hS : p_SS S) (hF : p_FF F) (hN : rN S own) (h : cR S I F own g) (hM : rM I 2 3 4 k) (kind : Int32) :
    ∃ S' I' F' own', f_X4_keep S I F 11 kind 2 = some (S', I', F') ∧ ext S S' F F' 13 ∧ rN S' own' ∧ (∀ a, own a ≠ 0 → own' a = own a) ∧ cR S' I' F' own' (psh g k kind) ∧ (∀ a, a < 72 → a ≠ 11 → a ≠ 12 → I' a = I a) ∧ (∀ a, own a ≠ 0 → (own a < 2 ∨ 18 ≤ own a) → I' a = I a) := by
  obtain ⟨nx, h1, h2, h3, h4, h5, h6⟩ := h
  have l71 : 71 < S.length := S_lt (hS 71 _ rfl)
  obtain ⟨S', I1, F', own', a1, hext, hq, hN', ho, ⟨m, w, s, s1, s2, s3, s4, s5, s6, s7⟩, f0, f1, f12, fa⟩ := c_keep hS hF hN h1 h2 h3 h4 (h5 nx h1) hM kind
  have hm15 : min g.1 15 + 1 = min (g.1 + 1) 16 := by omega
  refine ⟨S', I1, F', own', a1, hext, hN', ho, ⟨(nx + 1) % 16, Nat.mod_lt _ (by omega), by unfold psh; dsimp only; omega, by unfold psh; dsimp only; rw [f0, hm15], f1, fun q hq16 => ?_, fun j hj => ?_⟩, fun a q1 q2 q3 => fa a q2 q3 (by omega) (fun e => by have := (hN a (by omega)).1; omega), fun a q1 q2 => fa a (by have := (hN a q1).1; omega) (by have := (hN a q1).1; omega) (hN a q1).2 (by omega)⟩
  · by_cases hqx : q = nx
    · subst hqx
      exact .inr ⟨m, w, s, s1, s2, s3, s4, s5, s6⟩
    · rw [hq q hqx]
      rcases h5 q hq16 with z | ⟨m', w', s', z1, z2, z3, z4, z5, z6⟩
      · exact .inl z
      · have l := (hN m' (by omega)).1
        exact .inr ⟨m', w', s', z1, ext_Mo hext (by omega) z2, z3, by rw [ho _ (by omega)]; exact z4, by rw [ho _ (by omega)]; exact z5, by rw [ho _ (by omega)]; exact z6⟩
  · unfold psh at hj ⊢
    dsimp only at hj ⊢
    by_cases hlast : j = min g.1 15
    · have hidx : ((nx + 1) % 16 + 16 - (min g.1 15 + 1) + j) % 16 = nx := by omega
      rw [hidx, f12 nx, if_pos rfl, hlast]
      refine ⟨by rw [if_neg (by omega), if_neg (by omega)], m, w, s, s1, s2.2.2.2.1, s2.2.2.2.2, rM_k s7 (fun i hi => by rw [if_neg (by omega), if_pos hi])⟩
    · have hj' : j < min g.1 15 := by omega
      generalize hsh : (if g.1 = 16 then 1 else 0) = sh
      have hsh' : j + sh < g.1 ∧ ((nx + 1) % 16 + 16 - (min g.1 15 + 1) + j) % 16 = (nx + 16 - g.1 + (j + sh)) % 16 ∧ (nx + 16 - g.1 + (j + sh)) % 16 ≠ nx := by
        by_cases h16 : g.1 = 16
        · rw [if_pos h16] at hsh; omega
        · rw [if_neg h16] at hsh; omega
      obtain ⟨a1, m', w', s', b1, b2, b3, b4⟩ := h6 (j + sh) hsh'.1
      rw [hsh'.2.1]
      generalize hidx : (nx + 16 - g.1 + (j + sh)) % 16 = q at *
      rw [f12 q, if_neg hsh'.2.2, if_pos hj']
      have hq16 : q < 16 := by rw [← hidx]; exact Nat.mod_lt _ (by omega)
      rcases h5 q hq16 with z | ⟨m2, w2, s2', z1, z2, z3, z4, z5, z6⟩
      · rw [z] at b1; cases b1
      · rw [z1] at b1; cases b1
        have := z2.2.2.2.1; rw [this] at b2; cases b2
        have := z2.2.2.2.2; rw [this] at b3; cases b3
        have lm := hN m' (by omega)
        have lw := hN w' (by omega)
        have ls := hN s' (by omega)
        refine ⟨a1, m', w', s', by rw [hq q hsh'.2.2]; exact z1, by rw [hext.2 m' 2 (S_lt z2.1) (by omega)]; exact z2.2.2.2.1, by rw [hext.2 m' 3 (S_lt z2.1) (by omega)]; exact z2.2.2.2.2, ?_⟩
        exact rM_k (rM_fr (fa m' (by omega) (by omega) lm.2 (by omega)) (fa w' (by omega) (by omega) lw.2 (by omega)) (fa s' (by omega) (by omega) ls.2 (by omega)) b4) (fun i _ => by rw [if_pos hj'])
/-! where it stands -/
theorem mLw_u {k : Nat → Int32} {L L' : Option (List Cls)} (h : mLw k L) (h' : mLw k L') : L = L' := by
  rcases h with ⟨h1, h2⟩ | ⟨D, f, h1, h2, h3, n, h4, h5, h6⟩
  · rcases h' with ⟨g1, g2⟩ | ⟨D', f', g1, g2, g3, g4⟩
    · rw [h1, g1]
    · rw [h2] at g3; exact absurd g3.symm (nI_ne f' (by omega))
  · rcases h' with ⟨g1, g2⟩ | ⟨D', f', g1, g2, g3, n', g4, g5, g6⟩
    · rw [g2] at h3; exact absurd h3.symm (nI_ne f (by omega))
    · have : f = f' := (nI_eq (by omega) (by omega)).mp (h3.symm.trans g3)
      subst this
      have : n = n' := (nI_eq (by omega) (by omega)).mp (h5.symm.trans g5)
      subst this
      rw [h6] at g6
      cases g6
      rw [h1, g1]
def Ci (S : v_S) (I : v_I) (F : v_F) (own : Nat → Nat) (n : Nat) (L : Option (List Cls)) (q : OX) : Prop := p_SS S ∧ p_FF F ∧ rC I 1 2 3 4 5 6 7 8 q.1.1 ∧ kK q.1.1 ∧ n ≤ 8 ∧ q.1.1 49 = nI n ∧ mLw q.1.1 L ∧ rN S own ∧ rL S I F own 9 q.1.1 ∧ cR S I F own q.2 ∧ I 40 0 = q.1.2.1 ∧ I 40 1 = q.1.2.2
theorem Ci_X {S : v_S} {I : v_I} {F : v_F} {own : Nat → Nat} {n : Nat} {L : Option (List Cls)} {q : OX} (h : Ci S I F own n L q) : (∃ lw, cX S I F n lw L q.1.1) ∧ kM n q.1.1 := by
  obtain ⟨h1, h2, h3, h4, h5, h6, h7, h8, h9, h10, h11, h12⟩ := h
  obtain ⟨n', lw, L', hX⟩ := cX_mk h1 h2 h3 h4 h8 h9
  have en : n' = n := (nI_eq (by have := hX.2.2.1; omega) (by omega)).mp (hX.2.2.2.1.symm.trans h6)
  subst en
  have eL : L' = L := mLw_u (rLw_m hX.2.2.2.2.2.2.2.1) h7
  subst eL
  refine ⟨⟨lw, hX⟩, ?_⟩
  obtain ⟨n2, tl, k1, k2, k3, _⟩ := h4
  have : n2 = n' := (nI_eq (by omega) (by omega)).mp (k2.symm.trans h6)
  subst this
  exact k3
theorem rC_mv {I I' : v_I} {k k' : Nat → Int32} (h : rC I 1 2 3 4 5 6 7 8 k) (hM : rM I' 2 3 4 k') (e : ∀ a, a = 1 ∨ (5 ≤ a ∧ a ≤ 8) → I' a = I a) (ek : ∀ z, 18 ≤ z → k' z = k z) : rC I' 1 2 3 4 5 6 7 8 k' := by
  obtain ⟨_, c1, c2, c3, c4, c5, c6, c7, c8, c9, c10, c11⟩ := h
  refine ⟨hM, ?_, fun z hz => ?_, fun z hz => ?_, ?_, ?_, ?_, ?_, fun z hz => ?_, fun z hz => ?_, ?_, ?_⟩
  · rw [e 1 (by omega), ek _ (by omega)]; exact c1
  · rw [e 5 (by omega), ek _ (by omega)]; exact c2 z hz
  · rw [e 6 (by omega), ek _ (by omega)]; exact c3 z hz
  · rw [e 1 (by omega), ek _ (by omega)]; exact c4
  · rw [e 1 (by omega), ek _ (by omega)]; exact c5
  · rw [e 1 (by omega), ek _ (by omega)]; exact c6
  · rw [e 1 (by omega), ek _ (by omega)]; exact c7
  · rw [e 7 (by omega), ek _ (by omega)]; exact c8 z hz
  · rw [e 8 (by omega), ek _ (by omega)]; exact c9 z hz
  · rw [e 1 (by omega), ek _ (by omega)]; exact c10
  · rw [e 1 (by omega), ek _ (by omega)]; exact c11
theorem kK_mv {n : Nat} {k k' : Nat → Int32} (h : kK k) (hn : n ≤ 8) (e49 : k 49 = nI n) (hM : kM n k') (ek : ∀ z, 18 ≤ z → k' z = k z) : kK k' := by
  obtain ⟨n', tl, k1, kk2, k3, k4, k5, k6, k7, k8, k9⟩ := h
  have : n' = n := (nI_eq (by omega) (by omega)).mp (kk2.symm.trans e49)
  subst this
  exact ⟨n', tl, k1, by rw [ek _ (by omega)]; exact kk2, hM, fun z hz => by rw [ek _ (by omega)]; exact k4 z hz, by rw [ek _ (by omega)]; exact k5, fun z hz => by rw [ek _ (by omega)]; exact k6 z hz, k7, by rw [ek _ (by omega)]; exact k8, by rw [ek _ (by omega)]; exact k9⟩
def fC (own : Nat → Nat) (I I' : v_I) : Prop := (∀ a, a < 72 → a ≠ 2 → a ≠ 3 → a ≠ 4 → a ≠ 11 → a ≠ 12 → a ≠ 16 → a ≠ 21 → a ≠ 40 → a ≠ 42 → I' a = I a) ∧ ∀ a, own a ≠ 0 → (own a < 2 ∨ 18 ≤ own a) → I' a = I a
theorem fC_trans {own own' : Nat → Nat} {I I' I'' : v_I} (h : fC own I I') (h' : fC own' I' I'') (ho : ∀ a, own a ≠ 0 → own' a = own a) : fC own I I'' := ⟨fun a q1 q2 q3 q4 q5 q6 q7 q8 q9 q10 => (h'.1 a q1 q2 q3 q4 q5 q6 q7 q8 q9 q10).trans (h.1 a q1 q2 q3 q4 q5 q6 q7 q8 q9 q10), fun a q1 q2 => (h'.2 a (by rw [ho a q1]; exact q1) (by rw [ho a q1]; exact q2)).trans (h.2 a q1 q2)⟩
theorem ext_trans {S S' S'' : v_S} {F F' F'' : v_F} {row : Nat} (h : ext S S' F F' row) (h' : ext S' S'' F' F'' row) : ext S S'' F F'' row := by
  refine ⟨fun a q e => h'.1 a q (h.1 a q e), fun a j q1 q2 => ?_⟩
  rw [h'.2 a j ?_ q2, h.2 a j q1 q2]
  have : S[a]? = some S[a] := List.getElem?_eq_getElem q1
  exact S_lt (h.1 _ _ this)
/-- behind its TEST -/
def c_tailR (S : v_S) (I : v_I) (F : v_F) (J : v_J) (p2 : Int32) : Option (Int32 × v_S × v_I × v_J × v_F) :=
(F 31 3).bind fun a_10 =>
(p_ix S 20 a_10 p2).bind fun j_12 =>
p_let (I a_10 j_12) fun x_14 =>
(F 31 4).bind fun a_16 =>
(p_ix S 20 a_16 p2).bind fun j_18 =>
(f_X2_sumAt S I J F 40 31 (I a_16 j_18)).bind fun r_20 =>
(F 31 5).bind fun a_22 =>
(p_ix S 20 a_22 p2).bind fun j_24 =>
(f_X2_sumAt S I r_20.2 F 40 31 (I a_22 j_24)).bind fun r_26 =>
if (lg_cmp r_20.1 (-1000000000000000 : Int64)) = (0 : Int32) then (
some ((0 : Int32), S, I, r_26.2, F))
else (
if (lg_cmp r_26.1 (-1000000000000000 : Int64)) = (0 : Int32) then (
some ((0 : Int32), S, I, r_26.2, F))
else (
(p_ob S 0 1).bind fun _ =>
(f_X0_whyNot S I F 1 2 x_14 r_20.1 r_26.1).bind fun r_30 =>
if r_30 = (0 : Int32) then (
(p_ob S 4 11).bind fun _ =>
(f_X4_keep S I F 11 x_14 2).bind fun r_34 =>
(p_ob r_34.1 1 14).bind fun _ =>
(f_X1_perform r_34.1 r_34.2.1 r_26.2 r_34.2.2 14 1 2 x_14 r_20.1.toInt32 r_26.1.toInt32).bind fun r_37 =>
(p_ob r_34.1 2 40).bind fun _ =>
p_let (v_up r_37.2.1 40 0 ((r_37.2.1 40 0) + (1 : Int32))) fun I_41 =>
if x_14 = (3 : Int32) then (
p_let (v_up I_41 40 1 r_37.1) fun I_46 =>
some ((1 : Int32), r_34.1, I_46, r_37.2.2, r_34.2.2))
else (
p_let (v_up I_41 40 1 (I_41 40 1)) fun I_44 =>
some ((1 : Int32), r_34.1, I_44, r_37.2.2, r_34.2.2)))
else (
some ((0 : Int32), S, I, r_26.2, F))))
theorem c_onceR_e (S : v_S) (I : v_I) (J : v_J) (F : v_F) (p2 : Int32) : f_X2_runOnce S I J F 40 31 p2 1 2 14 11 = (p_ob S 2 40).bind fun _ => (f_X2_hear S I F 40 1 2).bind fun r_1 => (p_ob S 8 31).bind fun _ => (F 31 6).bind fun a_5 => (p_ix S 20 a_5 p2).bind fun j_7 => if (r_1 a_5 j_7) = (-1 : Int32) then c_tailR S r_1 F J p2 else (F 40 2).bind fun a_48 => (F 31 6).bind fun a_50 => (p_ix S 20 a_50 p2).bind fun j_52 => (p_ob S 7 a_48).bind fun _ => (f_X7_reckon S r_1 J F a_48 31 (r_1 a_50 j_52)).bind fun r_54 => if (lg_cmp r_54.1 (1 : Int64)) = (0 : Int32) then c_tailR S r_1 F r_54.2 p2 else some ((1 : Int32), S, r_1, r_54.2, F) := rfl
theorem Ci_fr {S : v_S} {I I' : v_I} {F : v_F} {own : Nat → Nat} {n : Nat} {L : Option (List Cls)} {q : OX} (h : Ci S I F own n L q) (e : ∀ a, a ≠ 42 → I' a = I a) : Ci S I' F own n L q := by
  obtain ⟨h1, h2, h3, h4, h5, h6, h7, h8, h9, h10, h11, h12⟩ := h
  refine ⟨h1, h2, rC_f h3 (fun a q1 q2 => e a (by omega)), h4, h5, h6, h7, h8, rL_fr (fun a ha => e a (by have := (h8 a (by omega)).1; omega)) h9, cR_fr h8 h10 (e 11 (by omega)) (e 12 (by omega)) (fun a ha => e a (by omega)), by rw [e 40 (by omega)]; exact h11, by rw [e 40 (by omega)]; exact h12⟩
theorem c_tailOK {S : v_S} {I : v_I} {F : v_F} (J : v_J) {own : Nat → Nat} {n : Nat} {L : Option (List Cls)} {q : OX} (C : Ci S I F own n L q) {i : Nat} {x : Cls} (hx : tR S I F i x) (hw : wfO x) {st : OS} (hac : ac1 L n x.1 q.1 (sm (I 42) x.2.1) (sm (I 42) x.2.2.1) = some st) :
    ∃ S' I' J' F' own', c_tailR S I F J (nI i) = some (1, S', I', J', F') ∧ Ci S' I' F' own' n L (st, psh q.2 q.1.1 x.1) ∧ ext S S' F F' 13 ∧ (∀ a, own a ≠ 0 → own' a = own a) ∧ fC own I I' := by
  obtain ⟨⟨lw, hX⟩, hkM⟩ := Ci_X C
  obtain ⟨hS, hF, h3, h4, hn, h6, h7, hN, h9, h10, h11, h12⟩ := id C
  have hkB := hX.2.2.2.2.1
  have h10' : I 1 0 = nI n := by rw [hX.2.2.2.2.2.1.1, h6]
  have hM := hX.2.2.2.2.2.2.1
  obtain ⟨hi, x1, x2, x3, x4, x5⟩ := hx
  have hk := kind_c hw
  obtain ⟨⟨J1, a1⟩, a2, a3⟩ := c_sumAt (S := S) (F := F) J hS hF x2
  obtain ⟨⟨J2, b1⟩, b2, b3⟩ := c_sumAt (S := S) (F := F) J1 hS hF x3
  unfold ac1 at hac
  cases ea : sm (I 42) x.2.1 with
  | none => rw [ea] at hac; cases hac
  | some a =>
    cases eb : sm (I 42) x.2.2.1 with
    | none => rw [ea, eb] at hac; cases hac
    | some b =>
      rw [ea, eb] at hac
      dsimp only at hac
      rw [ea] at a1 a2 a3
      rw [eb] at b1 b2 b3
      by_cases hc : can n q.1.1 x.1 a.toInt32 b.toInt32 = true
      · rw [if_pos hc] at hac
        cases hac
        have wa := w32_e (sm_32 (fun d hd => (hw.1 d (.inl hd)).2) ea)
        have wb := w32_e (sm_32 (fun d hd => (hw.1 d (.inr hd)).2) eb)
        obtain ⟨z, z1, z2⟩ := c_whyC (S := S) (F := F) hM hkB hn h10' hk a.toInt32 b.toInt32
        rw [wa, wb] at z1
        have ba : brk (some a) ≠ -1000000000000000 := fun e => by cases a2.mp e
        have bb : brk (some b) ≠ -1000000000000000 := fun e => by cases b2.mp e
        obtain ⟨S', I1, F', own', k1, k2, k3, k4, k5, k6, k7⟩ := cR_keep hS hF hN h10 hM x.1
        have hS' := ext_SS k2 hS
        have hF' := ext_FF k2 hS (.inl rfl) hF
        have hkp := pf_kM (L := L) hkM hn hk hc
        have hgp := pf_ge (L := L) hn hc
        have C1 : rC I1 1 2 3 4 5 6 7 8 q.1.1 := rC_f h3 (fun a q1 q2 => k6 a (by omega) (by omega) (by omega))
        have l71 : 71 < S.length := S_lt (hS 71 _ rfl)
        have L1 : rL S' I1 F' own' 9 q.1.1 := ext_rL k2 (by omega) hN k4 (fun a ha => k7 a (by omega) (by omega)) (by omega) (by omega) rfl (fun _ _ _ q => q) h9
        obtain ⟨n', lw', L', hX1'⟩ := cX_mk hS' hF' C1 h4 k3 L1
        have en : n' = n := (nI_eq (by have := hX1'.2.2.1; omega) (by omega)).mp (hX1'.2.2.2.1.symm.trans h6)
        subst en
        have eL : L' = L := mLw_u (rLw_m hX1'.2.2.2.2.2.2.2.1) h7
        subst eL
        obtain ⟨y, I2, J3, c1, c2, c3, c4⟩ := c_pfC J2 hX1' mB_now C1.1 hkB (fun _ _ => rfl) hk hc
        have r40 : I2 40 = I 40 := by rw [c4 40 (by omega) (by omega) (by omega) (by omega) (by omega), k6 40 (by omega) (by omega) (by omega)]
        let I3 : v_I := v_up (v_up I2 40 0 (I 40 0 + 1)) 40 1 (if x.1 = 3 then y else I 40 1)
        have r3 : ∀ a, a ≠ 40 → I3 a = I2 a := fun a h => by
          show v_up _ _ _ _ a = _
          rw [w_row _ _ _ _ h, w_row _ _ _ _ h]
        have ea40 : I3 40 0 = q.1.2.1 + 1 := by
          show v_up _ _ _ _ 40 0 = _
          rw [w_ne _ _ _ _ (by decide), w_at, h11]
        have eb40 : I3 40 1 = if x.1 = 3 then pcI (mn L' n' 0 q.1.1 0) else q.1.2.2 := by
          show v_up _ _ _ _ 40 1 = _
          rw [w_at]
          by_cases e3 : x.1 = 3
          · rw [if_pos e3, if_pos e3]; exact c3 e3
          · rw [if_neg e3, if_neg e3]; exact h12
        have big : ∀ a, 72 ≤ a → I3 a = I1 a := fun a ha => by rw [r3 a (by omega), c4 a (by omega) (by omega) (by omega) (by omega) (by omega)]
        refine ⟨S', I3, J3, F', own', ?_, ⟨hS', hF', ?_, kK_mv h4 hn h6 hkp hgp, hn, (hgp 49 (by omega)).trans h6, mLw_k h7 hgp, k3, ?_, ?_, ea40, eb40⟩, k2, k4, ⟨fun a q1 q2 q3 q4 q5 q6 q7 q8 q9 q10 => ?_, fun a q1 q2 => ?_⟩⟩
        · unfold c_tailR
          rw [p_FS hF (a := 31) (i := 3) (b := 32) (by decide), p_bs, ix12 hS hi rfl, p_bs, p_le, p_FS hF (a := 31) (i := 4) (b := 33) (by decide), p_bs, ix12 hS hi rfl, p_bs, a1, p_bs, p_FS hF (a := 31) (i := 5) (b := 34) (by decide), p_bs, ix12 hS hi rfl, p_bs]
          dsimp only
          rw [b1, p_bs, x1]
          dsimp only
          rw [if_neg (fun e => ba ((cmp_eq _ _).mp e)), if_neg (fun e => bb ((cmp_eq _ _).mp e)), a3 a rfl, b3 b rfl, p_obS hS (a := 1) (kd := 0) rfl, p_bs, s_X0_whyNot hS hF (mo_now hS hF), z1, p_bs, if_pos (z2.mpr hc), p_obS hS (a := 11) (kd := 4) rfl, p_bs, k1, p_bs]
          dsimp only
          rw [p_obS hS' (a := 14) (kd := 1) rfl, p_bs, s_X1_perform hS' hF' (mo_now hS' hF'), c1, p_bs]
          dsimp only
          rw [p_obS hS' (a := 40) (kd := 2) rfl, p_bs, p_le, p_le, p_le, r40]
          show _ = some (1, S', v_up (v_up I2 40 0 (I 40 0 + 1)) 40 1 (if x.1 = 3 then y else I 40 1), J3, F')
          by_cases e3 : x.1 = 3
          · rw [if_pos e3, if_pos e3]
          · rw [if_neg e3, if_neg e3, w_ne _ _ _ _ (by decide), r40]
        · refine rC_mv C1 (rM_fr (r3 2 (by omega)) (r3 3 (by omega)) (r3 4 (by omega)) c2) (fun a ha => ?_) hgp
          rw [r3 a (by omega), c4 a (by omega) (by omega) (by omega) (by omega) (by omega)]
        · exact rL_tk (hgp 51 (by omega)) (fun i hi => hgp i (by omega)) (rL_fr (fun a ha => big a (k3 a (by omega)).1) L1)
        · refine cR_fr k3 k5 ?_ ?_ big
          · rw [r3 11 (by omega), c4 11 (by omega) (by omega) (by omega) (by omega) (by omega)]
          · rw [r3 12 (by omega), c4 12 (by omega) (by omega) (by omega) (by omega) (by omega)]
        · rw [r3 a q9, c4 a q7 q8 q2 q3 q4, k6 a q1 q5 q6]
        · rw [big a (hN a q1).1, k7 a q1 q2]
      · rw [if_neg hc] at hac; cases hac
theorem c_onceR {S : v_S} {I : v_I} {F : v_F} (J : v_J) {own : Nat → Nat} {n : Nat} {L : Option (List Cls)} {q : OX} (C : Ci S I F own n L q) {i : Nat} {x : Cls} (hx : tR S I F i x) (hw : wfO x) {u : OX} (hu : o1x L n x q = some u) :
    ∃ S' I' J' F' own', f_X2_runOnce S I J F 40 31 (nI i) 1 2 14 11 = some (1, S', I', J', F') ∧ Ci S' I' F' own' n L u ∧ ext S S' F F' 13 ∧ (∀ a, own a ≠ 0 → own' a = own a) ∧ fC own I I' := by
  obtain ⟨⟨lw, hX⟩, hkM⟩ := Ci_X C
  obtain ⟨hS, hF, h3, h4, hn, h6, h7, hN, h9, h10, h11, h12⟩ := id C
  have hkB := hX.2.2.2.2.1
  have h10' : I 1 0 = nI n := by rw [hX.2.2.2.2.2.1.1, h6]
  obtain ⟨I1, a1, a2, a3⟩ := co_hear hS hF (mo_now hS hF) (by decide) (by decide) (by decide) hX.2.2.2.2.2.2.1 hkB hn h10'
  rw [h11, h12] at a2
  have C1 : Ci S I1 F own n L q := Ci_fr C a3
  have f1 : fC own I I1 := ⟨fun a _ _ _ _ _ _ _ _ _ q => a3 a q, fun a q1 _ => a3 a (by have := (hN a q1).1; omega)⟩
  have hx1 : tR S I1 F i x := tR_fr hx (fun a _ _ => a3 a (by omega))
  have hh := holds_ov hw.2.1 a2
  have go : ∀ J' st, ac1 L n x.1 q.1 (sm (ov n q.1.1 q.1.2.1 q.1.2.2) x.2.1) (sm (ov n q.1.1 q.1.2.1 q.1.2.2) x.2.2.1) = some st → ∃ S' I' J'' F' own', c_tailR S I1 F J' (nI i) = some (1, S', I', J'', F') ∧ Ci S' I' F' own' n L (st, psh q.2 q.1.1 x.1) ∧ ext S S' F F' 13 ∧ (∀ a, own a ≠ 0 → own' a = own a) ∧ fC own I I' := by
    intro J' st h
    rw [← sm_ov (fun d hd => (hw.1 d (.inl hd)).1) a2, ← sm_ov (fun d hd => (hw.1 d (.inr hd)).1) a2] at h
    obtain ⟨S', I', J'', F', own', b1, b2, b3, b4, b5⟩ := c_tailOK J' C1 hx1 hw h
    exact ⟨S', I', J'', F', own', b1, b2, b3, b4, fC_trans f1 b5 (fun _ _ => rfl)⟩
  obtain ⟨hi, x1, x2, x3, x4, x5⟩ := id hx1
  rw [c_onceR_e, p_obS hS (a := 40) (kd := 2) rfl, p_bs, a1, p_bs, p_obS hS (a := 31) (kd := 8) rfl, p_bs, p_FS hF (a := 31) (i := 6) (b := 35) (by decide), p_bs, ix12 hS hx.1 rfl, p_bs]
  unfold o1x at hu
  have fin : d_holds (ov n q.1.1 q.1.2.1 q.1.2.2) x.2.2.2.1 = true → ∃ st, ac1 L n x.1 q.1 (sm (ov n q.1.1 q.1.2.1 q.1.2.2) x.2.1) (sm (ov n q.1.1 q.1.2.1 q.1.2.2) x.2.2.1) = some st ∧ u = (st, psh q.2 q.1.1 x.1) := by
    intro h
    rw [if_pos h] at hu
    cases e : ac1 L n x.1 q.1 (sm (ov n q.1.1 q.1.2.1 q.1.2.2) x.2.1) (sm (ov n q.1.1 q.1.2.1 q.1.2.2) x.2.2.1) with
    | none => rw [e] at hu; cases hu
    | some st => rw [e] at hu; cases hu; exact ⟨st, rfl, rfl⟩
  cases ht : x.2.2.2.1 with
  | none =>
    rw [ht] at x4 fin
    have e : I1 35 i = -1 := x4
    rw [if_pos e]
    obtain ⟨st, g1, rfl⟩ := fin rfl
    exact go J st g1
  | some d =>
    rw [ht] at x4 hh fin hu
    obtain ⟨b1, ⟨J1, b2⟩, b3, b4⟩ := c_rkt (S := S) (F := F) J hS hF x4
    rw [if_neg b1, p_FS hF (a := 40) (i := 2) (b := 41) (by decide), p_bs, p_bs, ix12 hS hx.1 rfl, p_bs, p_obS hS (a := 41) (kd := 7) rfl, p_bs, b2, p_bs]
    dsimp only
    have hb : brk (d (I1 42)) = 1 ↔ d (I1 42) = some 1 := by
      refine ⟨fun e => ?_, fun e => b4 1 e⟩
      cases ed : d (I1 42) with
      | none => rw [ed] at e; exact absurd e (by decide)
      | some y => rw [b4 y ed] at e; rw [e]
    have hd : d_holds (I1 42) (some d) = decide (d (I1 42) = some 1) := rfl
    by_cases e : d (I1 42) = some 1
    · rw [if_pos ((cmp_eq _ _).mpr (hb.mpr e))]
      obtain ⟨st, g1, rfl⟩ := fin (by rw [← hh, hd]; exact decide_eq_true e)
      exact go J1 st g1
    · rw [if_neg (fun w => e (hb.mp ((cmp_eq _ _).mp w)))]
      rw [if_neg (show ¬ d_holds (ov n q.1.1 q.1.2.1 q.1.2.2) (some d) = true by rw [← hh, hd]; exact fun w => e (of_decide_eq_true w))] at hu
      cases hu
      exact ⟨S, I1, J1, F, own, rfl, C1, ext_refl S F 13, fun _ _ => rfl, f1⟩
theorem c_timesR {n : Nat} {L : Option (List Cls)} {i : Nat} {x : Cls} {T : Nat} (hw : wfO x) (hT : x.2.2.2.2 = nI T) (hT2 : T ≤ 20) : ∀ (f t m : Nat) (S : v_S) (I : v_I) (J : v_J) (F : v_F) (own : Nat → Nat) (q u : OX), t + f = T → f < m → Ci S I F own n L q → tR S I F i x → oTx L n x f q = some u →
    ∃ y S' I' J' F' own', v_loop (f_X2_runAll_B35 40 31 1 2 14 11 (nI i)) m (nI t, S, I, J, F) = some (1, (y, S', I', J', F')) ∧ Ci S' I' F' own' n L u ∧ ext S S' F F' 13 ∧ (∀ a, own a ≠ 0 → own' a = own a) ∧ fC own I I' := by
  intro f
  induction f with
  | zero =>
    intro t m S I J F own q u ht hm C hx hu
    obtain ⟨m, rfl⟩ : ∃ k, m = k + 1 := ⟨m - 1, by omega⟩
    have hS := C.1
    have hF := C.2.1
    cases hu
    have : f_X2_runAll_B35 40 31 1 2 14 11 (nI i) (nI t, S, I, J, F) = some (.inr (1, (nI t, S, I, J, F))) := by
      unfold f_X2_runAll_B35
      dsimp only
      rw [p_obS hS (a := 31) (kd := 8) rfl, p_bs, p_FS hF (a := 31) (i := 7) (b := 36) (by decide), p_bs, ix12 hS hx.1 rfl, p_bs, if_pos (show I 36 i ≤ nI t by rw [hx.2.2.2.2.2, hT]; exact nI_le (by omega) (by omega))]
    refine ⟨nI t, S, I, J, F, own, ?_, C, ext_refl S F 13, fun _ _ => rfl, ⟨fun _ _ _ _ _ _ _ _ _ _ _ => rfl, fun _ _ _ => rfl⟩⟩
    simp only [v_loop, this]
  | succ f ih =>
    intro t m S I J F own q u ht hm C hx hu
    obtain ⟨m, rfl⟩ : ∃ k, m = k + 1 := ⟨m - 1, by omega⟩
    have hS := C.1
    have hF := C.2.1
    unfold oTx at hu
    cases ho : o1x L n x q with
    | none => rw [ho] at hu; cases hu
    | some u1 =>
      rw [ho, p_bs] at hu
      obtain ⟨S1, I1, J1, F1, own1, b1, b2, b3, b4, b5⟩ := c_onceR J C hx hw ho
      have e0 : f_X2_runAll_B35 40 31 1 2 14 11 (nI i) (nI t, S, I, J, F) = some (.inl (nI (t + 1), S1, I1, J1, F1)) := by
        unfold f_X2_runAll_B35
        dsimp only
        rw [p_obS hS (a := 31) (kd := 8) rfl, p_bs, p_FS hF (a := 31) (i := 7) (b := 36) (by decide), p_bs, ix12 hS hx.1 rfl, p_bs, if_neg (show ¬ I 36 i ≤ nI t by rw [hx.2.2.2.2.2, hT]; exact nI_ge (by omega) (by omega)), p_obS hS (a := 40) (kd := 2) rfl, p_bs, b1, p_bs]
        dsimp only
        rw [if_neg (by decide), p_le, ← nI_succ]
      obtain ⟨y, S2, I2, J2, F2, own2, c1, c2, c3, c4, c5⟩ := ih (t + 1) m S1 I1 J1 F1 own1 u1 u (by omega) (by omega) b2 (tR_fr hx (fun a q1 q2 => b5.1 a (by omega) (by omega) (by omega) (by omega) (by omega) (by omega) (by omega) (by omega) (by omega) (by omega))) hu
      refine ⟨y, S2, I2, J2, F2, own2, ?_, c2, ext_trans b3 c3, fun a ha => by rw [c4 a (by rw [b4 a ha]; exact ha), b4 a ha], fC_trans b5 c5 b4⟩
      simp only [v_loop, e0]
      exact c1
theorem c_allR {n : Nat} {L : Option (List Cls)} {D : List Cls} (hD : D.length ≤ 12) (hwf : ∀ x ∈ D, wfO x) : ∀ (E : List Cls) (i m : Nat) (S : v_S) (I : v_I) (J : v_J) (F : v_F) (own : Nat → Nat) (q u : OX), D.drop i = E → i ≤ D.length → E.length < m → Ci S I F own n L q → I 31 0 = nI D.length → (∀ j x, D[j]? = some x → tR S I F j x) → oRx L n E i q = .inl u →
    ∃ y S' I' J' F' own', v_loop (f_X2_runAll_B13 40 31 1 2 14 11) m (nI i, S, I, J, F) = some (1, (y, S', I', J', F')) ∧ Ci S' I' F' own' n L u ∧ ext S S' F F' 13 ∧ (∀ a, own a ≠ 0 → own' a = own a) ∧ fC own I I' := by
  intro E
  induction E with
  | nil =>
    intro i m S I J F own q u hE hi hm C h31 hx hu
    obtain ⟨m, rfl⟩ : ∃ k, m = k + 1 := ⟨m - 1, by omega⟩
    have hS := C.1
    cases hu
    have hl : D.length ≤ i := by
      have := congrArg List.length hE
      rw [List.length_drop] at this
      simp at this
      omega
    have : f_X2_runAll_B13 40 31 1 2 14 11 (nI i, S, I, J, F) = some (.inr (1, (nI i, S, I, J, F))) := by
      unfold f_X2_runAll_B13
      dsimp only
      rw [p_obS hS (a := 31) (kd := 8) rfl, p_bs, if_pos (show I 31 0 ≤ nI i by rw [h31]; exact nI_le hl (by omega))]
    refine ⟨nI i, S, I, J, F, own, ?_, C, ext_refl S F 13, fun _ _ => rfl, ⟨fun _ _ _ _ _ _ _ _ _ _ _ => rfl, fun _ _ _ => rfl⟩⟩
    simp only [v_loop, this]
  | cons x E ih =>
    intro i m S I J F own q u hE hi hm C h31 hx hu
    obtain ⟨m, rfl⟩ : ∃ k, m = k + 1 := ⟨m - 1, by omega⟩
    have hS := C.1
    have hF := C.2.1
    have hl : i < D.length := by
      have := congrArg List.length hE
      rw [List.length_drop] at this
      simp at this
      omega
    have hxi : D[i]? = some x := by
      have := congrArg (fun l => l[0]?) hE
      simp at this
      simpa using this
    have hE' : D.drop (i + 1) = E := by
      have := congrArg List.tail hE
      simpa using this
    have hw := hwf x (List.mem_of_getElem? hxi)
    obtain ⟨T, ht1, ht2, ht3⟩ := hw.2.2.1
    unfold oRx at hu
    rw [ht3, nI_clamp (by omega)] at hu
    cases ho : oTx L n x T q with
    | none => rw [ho] at hu; cases hu
    | some u1 =>
      rw [ho] at hu
      dsimp only at hu
      obtain ⟨y, S1, I1, J1, F1, own1, b1, b2, b3, b4, b5⟩ := c_timesR (i := i) hw ht3 ht2 T 0 21 S I J F own q u1 (by omega) (by omega) C (hx i x hxi) ho
      rw [show nI 0 = (0 : Int32) from rfl] at b1
      have e0 : f_X2_runAll_B13 40 31 1 2 14 11 (nI i, S, I, J, F) = some (.inl (nI (i + 1), S1, I1, J1, F1)) := by
        unfold f_X2_runAll_B13
        dsimp only
        rw [p_obS hS (a := 31) (kd := 8) rfl, p_bs, if_neg (show ¬ I 31 0 ≤ nI i by rw [h31]; exact nI_ge hl (by omega)), p_FS hF (a := 31) (i := 7) (b := 36) (by decide), p_bs, p_lenS hS (a := 36) (kd := 20) (n := 12) (x := 12) rfl rfl, p_bs, if_neg (show ¬ (12 : Int32) ≤ nI i from i_nle (a := 12) rfl rfl (by omega) (by omega)), b1, p_bs]
        rw [if_neg (show ¬ (1 : Nat) = 0 by decide), p_le, ← nI_succ]
      have g : ∀ a, 31 ≤ a → a ≤ 37 → I1 a = I a := fun a q1 q2 => b5.1 a (by omega) (by omega) (by omega) (by omega) (by omega) (by omega) (by omega) (by omega) (by omega) (by omega)
      obtain ⟨y', S2, I2, J2, F2, own2, c1, c2, c3, c4, c5⟩ := ih (i + 1) m S1 I1 J1 F1 own1 u1 u hE' (by omega) (by simp at hm; omega) b2 (by rw [g 31 (by omega) (by omega)]; exact h31) (fun j x hj => tR_fr (hx j x hj) (fun a q1 q2 => g a (by omega) (by omega))) hu
      refine ⟨y', S2, I2, J2, F2, own2, ?_, c2, ext_trans b3 c3, fun a ha => by rw [c4 a (by rw [b4 a ha]; exact ha), b4 a ha], fC_trans b5 c5 b4⟩
      simp only [v_loop, e0]
      exact c1
end sp98t
