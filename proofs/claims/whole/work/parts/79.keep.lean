noncomputable section sp79
/-- more cells, and what those there were point to, but for one row -/
def ext (S S' : v_S) (F F' : v_F) (row : Nat) : Prop := (∀ (a : Nat) (q : Nat × Nat), S[a]? = some q → S'[a]? = some q) ∧ ∀ a j : Nat, a < S.length → a ≠ row → F' a j = F a j
theorem ext_refl (S : v_S) (F : v_F) (row : Nat) : ext S S F F row := ⟨fun _ _ h => h, fun _ _ _ _ => rfl⟩
theorem S_lt {S : v_S} {a : Nat} {q : Nat × Nat} (h : S[a]? = some q) : a < S.length := by
  by_cases e : a < S.length
  · exact e
  · rw [List.getElem?_eq_none (by omega)] at h; cases h
theorem ext_SS {S S' : v_S} {F F' : v_F} {row : Nat} (e : ext S S' F F' row) (h : p_SS S) : p_SS S' := fun k q hq => e.1 _ _ (h k q hq)
theorem ext_FF {S S' : v_S} {F F' : v_F} {row : Nat} (e : ext S S' F F' row) (hS : p_SS S) (hr : row = 13 ∨ row = 10 ∨ row = 9) (h : p_FF F) : p_FF F' := by
  have d : ∀ q ∈ p_FT, q.1 ≠ 13 ∧ q.1 ≠ 10 ∧ q.1 ≠ 9 ∧ q.1 < 72 := by decide
  have l : 71 < S.length := S_lt (hS 71 _ rfl)
  intro q hq
  rw [e.2 q.1 q.2.1 (by have := d q hq; omega) (by have := d q hq; omega)]
  exact h q hq
theorem ext_Mo {S S' : v_S} {F F' : v_F} {row m w s : Nat} (e : ext S S' F F' row) (hm : m ≠ row) (h : p_Mo S F m w s) : p_Mo S' F' m w s := by
  obtain ⟨h1, h2, h3, h4, h5⟩ := h
  exact ⟨e.1 _ _ h1, e.1 _ _ h2, e.1 _ _ h3, by rw [e.2 m 2 (S_lt h1) hm]; exact h4, by rw [e.2 m 3 (S_lt h1) hm]; exact h5⟩
theorem ext_tx {S S' : v_S} {I I' : v_I} {F F' : v_F} {row x ak af as at' ai ac cn m : Nat} {D : List Cls} (e : ext S S' F F' row) (hx : x ≠ row) (e1 : I' x = I x) (e2 : I' ak = I ak) (e3 : I' af = I af) (e4 : I' as = I as) (e5 : I' at' = I at') (e6 : I' ai = I ai) (e7 : I' ac = I ac) (h : tx_D S I F x ak af as at' ai ac cn m D) : tx_D S' I' F' x ak af as at' ai ac cn m D := by
  obtain ⟨s1, s2, s3, s4, s5, s6, s7, f3, f4, f5, f6, f7, f8, h⟩ := tx_fr e1 e2 e3 e4 e5 e6 e7 h
  have l := S_lt s1
  exact ⟨e.1 _ _ s1, e.1 _ _ s2, e.1 _ _ s3, e.1 _ _ s4, e.1 _ _ s5, e.1 _ _ s6, e.1 _ _ s7, by rw [e.2 x 3 l hx]; exact f3, by rw [e.2 x 4 l hx]; exact f4, by rw [e.2 x 5 l hx]; exact f5, by rw [e.2 x 6 l hx]; exact f6, by rw [e.2 x 7 l hx]; exact f7, by rw [e.2 x 8 l hx]; exact f8, h⟩
theorem ext_rX {S S' : v_S} {I I' : v_I} {F F' : v_F} {row : Nat} {own own' : Nat → Nat} {x : Nat} {k k' : Nat → Int32} {t : Nat} (e : ext S S' F F' row) (hr : row < 72) (hN : rN S own) (ho : ∀ a, own a ≠ 0 → own' a = own a) (he : ∀ a, own a = 1 → I' a = I a) (hk : ∀ D, tk_D false k t D → tk_D false k' t D) (h : rX S I F own x k t) : rX S' I' F' own' x k' t := by
  obtain ⟨D, ak, af, as, at', ai, ac, cn, m, h1, h2, h3, o1, o2, o3, o4, o5, o6, o7⟩ := h
  have q : ∀ a, own a = 1 → own' a = 1 := fun a ha => by rw [ho a (by omega)]; exact ha
  have l := (hN x (by omega)).1
  refine ⟨D, ak, af, as, at', ai, ac, cn, m, hk D h1, ext_tx e (by omega) (he _ o1) (he _ o2) (he _ o3) (he _ o4) (he _ o5) (he _ o6) (he _ o7) h2, ?_, q _ o1, q _ o2, q _ o3, q _ o4, q _ o5, q _ o6, q _ o7⟩
  rw [he _ o1]; exact h3
theorem ext_rL {S S' : v_S} {I I' : v_I} {F F' : v_F} {row : Nat} {own own' : Nat → Nat} {la : Nat} {k k' : Nat → Int32} (e : ext S S' F F' row) (hr : row < 72) (hN : rN S own) (ho : ∀ a, own a ≠ 0 → own' a = own a) (he : ∀ a, own a = 1 → I' a = I a) (hl : la < S.length) (hla : la ≠ row) (h51 : k' 51 = k 51) (hk : ∀ t D, t < 6 → tk_D false k t D → tk_D false k' t D) (h : rL S I F own la k) : rL S' I' F' own' la k' := fun t n hn hkn ht => by
  obtain ⟨x, hx, r⟩ := h t n hn (by rw [← h51]; exact hkn) ht
  exact ⟨x, by rw [e.2 la t hl hla]; exact hx, ext_rX e hr hN ho he (fun D => hk t D (by omega)) r⟩
theorem ext_lOK {S S' : v_S} {F F' : v_F} {row la : Nat} (e : ext S S' F F' row) (hl : la < S.length) (hla : la ≠ row) (h : lOK S F la) : lOK S' F' la := fun t ht => by
  rw [e.2 la t hl hla]
  rcases h t ht with q | ⟨x, q1, q2⟩
  · exact .inl q
  · exact .inr ⟨x, q1, e.1 _ _ q2⟩
theorem ext_rG1 {S S' : v_S} {I I' : v_I} {F F' : v_F} {row : Nat} {own own' : Nat → Nat} {j : Nat} {k : Nat → Int32} (e : ext S S' F F' row) (hr : row < 72) (hr10 : row ≠ 10) (hS : p_SS S) (hN : rN S own) (ho : ∀ a, own a ≠ 0 → own' a = own a) (he : ∀ a, (own a = 1 ∨ own a = 20 + j) → I' a = I a) (h : rG1 S I F own j k) : rG1 S' I' F' own' j k := by
  obtain ⟨c, m, w, s, sh, wa, sm, so, la, h1, h2, o1, o2, o3, o4, o5, o6, o7, o8, o9, h3, h4, h5, h6⟩ := h
  obtain ⟨p1, p2, p3, p4, p5, p6, p7, f1, f2, f3, f8, f9, f11, d⟩ := h2
  have q : ∀ a, own a = 20 + j → own' a = 20 + j := fun a ha => by rw [ho a (by omega)]; exact ha
  have lc := S_lt p1
  have l72 : ∀ a, own a = 20 + j → a ≠ row := fun a ha => by have := (hN a (by omega)).1; omega
  have F0 : F' 10 j = F 10 j := e.2 10 j (Nat.lt_trans (by omega) (S_lt (hS 71 _ rfl))) (by omega)
  refine ⟨c, m, w, s, sh, wa, sm, so, la, by rw [F0]; exact h1, ⟨e.1 _ _ p1, ext_Mo e (l72 _ o2) p2, e.1 _ _ p3, e.1 _ _ p4, e.1 _ _ p5, e.1 _ _ p6, e.1 _ _ p7, ?_, ?_, ?_, ?_, ?_, ?_, d⟩, q _ o1, q _ o2, q _ o3, q _ o4, q _ o5, q _ o6, q _ o7, q _ o8, q _ o9, rC_fr (he _ (.inr o1)) (he _ (.inr o2)) (he _ (.inr o3)) (he _ (.inr o4)) (he _ (.inr o5)) (he _ (.inr o6)) (he _ (.inr o7)) (he _ (.inr o8)) h3, h4, ext_rL e hr hN ho (fun a q => he a (.inl q)) (S_lt p7) (l72 _ o9) rfl (fun _ _ _ h => h) h5, ext_lOK e (S_lt p7) (l72 _ o9) h6⟩
  · rw [e.2 c 1 lc (l72 _ o1)]; exact f1
  · rw [e.2 c 2 lc (l72 _ o1)]; exact f2
  · rw [e.2 c 3 lc (l72 _ o1)]; exact f3
  · rw [e.2 c 8 lc (l72 _ o1)]; exact f8
  · rw [e.2 c 9 lc (l72 _ o1)]; exact f9
  · rw [e.2 c 11 lc (l72 _ o1)]; exact f11
theorem ext_rG {S S' : v_S} {I I' : v_I} {F F' : v_F} {row : Nat} {own own' : Nat → Nat} (e : ext S S' F F' row) (hr : row < 72) (hr10 : row ≠ 10) (hr9 : row ≠ 9) (hS : p_SS S) (hN : rN S own) (ho : ∀ a, own a ≠ 0 → own' a = own a) (he : ∀ a, (own a = 1 ∨ 20 ≤ own a) → I' a = I a) (h52 : I' 52 = I 52) (h53 : I' 53 = I 53) (h : rG S I F own) : rG S' I' F' own' := ⟨fun j hj => by
  have F0 : F' 10 j = F 10 j := e.2 10 j (Nat.lt_trans (by omega) (S_lt (hS 71 _ rfl))) (by omega)
  rw [h52, h53, F0]
  rcases h.1 j hj with q | ⟨q, g⟩
  · exact .inl q
  · exact .inr ⟨q, ext_rG1 e hr hr10 hS hN ho (fun a o => he a (by omega)) g⟩, ext_lOK e (Nat.lt_trans (by omega) (S_lt (hS 71 _ rfl))) (by omega) h.2⟩
/-! what can be undone is kept -/
theorem md16 {x : Nat} (hx : x < 16) : (nI x + 16 - 1) - (nI x + 16 - 1) / 16 * 16 = nI ((x + 15) % 16) ∧ (nI x + 1) - (nI x + 1) / 16 * 16 = nI ((x + 1) % 16) := by
  have : ∀ x : Nat, x < 16 → (nI x + 16 - 1) - (nI x + 16 - 1) / 16 * 16 = nI ((x + 15) % 16) ∧ (nI x + 1) - (nI x + 1) / 16 * 16 = nI ((x + 1) % 16) := by decide
  exact this x hx
theorem mn16 {n : Nat} (hn : n ≤ 16) : p_min (nI n + 1) 16 = nI (min (n + 1) 16) := by
  have : ∀ n : Nat, n < 17 → p_min (nI n + 1) 16 = nI (min (n + 1) 16) := by decide
  exact this n (by omega)
theorem c_keep {S : v_S} {I : v_I} {F : v_F} {own : Nat → Nat} {n nx : Nat} {k : Nat → Int32} (hS : p_SS S) (hF : p_FF F) (hN : rN S own) (hnx : nx < 16) (hn : n ≤ 16) (e0 : I 11 0 = nI n) (e1 : I 11 1 = nI nx)
    (h4 : F 13 nx = none ∨ ∃ m w s, F 13 nx = some m ∧ p_Mo S F m w s ∧ w ≠ s ∧ own m = 2 + nx ∧ own w = 2 + nx ∧ own s = 2 + nx) (hM : rM I 2 3 4 k) (kind : Int32) :
    ∃ S' I' F' own', f_X4_keep S I F 11 kind 2 = some (S', I', F') ∧ ext S S' F F' 13 ∧ (∀ q, q ≠ nx → F' 13 q = F 13 q) ∧ rN S' own' ∧ (∀ a, own a ≠ 0 → own' a = own a)
      ∧ (∃ m w s, F' 13 nx = some m ∧ p_Mo S' F' m w s ∧ w ≠ s ∧ own' m = 2 + nx ∧ own' w = 2 + nx ∧ own' s = 2 + nx ∧ rM I' m w s k)
      ∧ I' 11 0 = nI (min (n + 1) 16) ∧ I' 11 1 = nI ((nx + 1) % 16) ∧ (∀ j, I' 12 j = if j = nx then kind else I 12 j)
      ∧ (∀ a, a ≠ 11 → a ≠ 12 → a < S.length → own a ≠ 2 + nx → I' a = I a) := by
  have l71 : 71 < S.length := S_lt (hS 71 _ rfl)
  have mo2 := mo_now hS hF
  have e16 : ¬ (16 : Int32) ≤ nI nx := i_nle (a := 16) rfl rfl (by omega) (by omega)
  unfold f_X4_keep
  rw [p_obS hS (a := 11) (kd := 4) rfl, p_bs, if_neg (by rw [e1]; exact nI_pos (by omega)), if_pos (by rw [e1]; exact i_lt (b := 16) rfl rfl (by omega) (by omega)), p_FS hF (a := 11) (i := 3) (b := 13) (by decide), p_bs, p_ixS hS (kd := 25) (a := 13) (n := 16) rfl, e1, p_in_nI hnx (by omega), p_bs, p_le]
  rcases h4 with h4 | ⟨m, w, s, h4, hm, hws, o1, o2, o3⟩
  · -- a new Moment
    rw [h4]
    unfold p_nul
    dsimp only
    generalize hsl : S.length = sl at *
    have i1 : p_ob (S ++ [(3, v_n 3)]) 3 sl = some () := p_obA (kd := 3) (by rw [← hsl]; simp)
    have ln1 : (S ++ [(3, v_n 3)]).length = sl + 1 := by simp [hsl]
    have ln2 : (S ++ [(3, v_n 3)] ++ [(20, 8)]).length = sl + 2 := by simp [hsl]
    have init : f_X3_init (S ++ [(3, v_n 3)]) I F sl = some (S ++ [(3, v_n 3)] ++ [(20, 8)] ++ [(20, 8)], v_up (v_up I sl 0 0) sl 1 0, v_up (v_up F sl 2 (some (sl + 1))) sl 3 (some (sl + 2))) := by
      unfold f_X3_init
      rw [i1, p_bs, p_le, p_le, p_le, p_le, p_le, p_le, ln1, ln2]
    rw [p_le, init, p_bs]
    dsimp only
    generalize hS3 : S ++ [(3, v_n 3)] ++ [(20, 8)] ++ [(20, 8)] = S3
    have ext1 : ∀ (a : Nat) (q : Nat × Nat), S[a]? = some q → S3[a]? = some q := by
      intro a q h
      have := S_lt h
      rw [← hS3, List.append_assoc, List.append_assoc, List.getElem?_append_left this]; exact h
    have c0 : S3[sl]? = some (3, 4) := by
      rw [← hS3, List.append_assoc, List.append_assoc, List.getElem?_append_right (by omega), hsl, Nat.sub_self]; rfl
    have c1 : S3[sl + 1]? = some (20, 8) := by
      rw [← hS3, List.append_assoc, List.append_assoc, List.getElem?_append_right (by omega), hsl, show sl + 1 - sl = 1 by omega]; rfl
    have c2 : S3[sl + 2]? = some (20, 8) := by
      rw [← hS3, List.append_assoc, List.append_assoc, List.getElem?_append_right (by omega), hsl, show sl + 2 - sl = 2 by omega]; rfl
    have l3 : S3.length = sl + 3 := by rw [← hS3]; simp [hsl]
    have hS' : p_SS S3 := fun a q h => ext1 _ _ (hS a q h)
    have F13 : ∀ a j, a ≠ sl → v_up (v_up F sl 2 (some (sl + 1))) sl 3 (some (sl + 2)) a j = F a j := fun a j h => by rw [v_up_row _ sl _ _ h, v_up_row _ sl _ _ h]
    rw [p_obS hS' (a := 11) (kd := 4) rfl, p_bs, F13 11 3 (by omega), p_FS hF (a := 11) (i := 3) (b := 13) (by decide), p_bs, p_ixS hS' (kd := 25) (a := 13) (n := 16) rfl, v_up_row _ sl _ _ (show (11 : Nat) ≠ sl by omega), v_up_row _ sl _ _ (show (11 : Nat) ≠ sl by omega), e1, p_in_nI hnx (by omega), p_bs, show p_oq S3 3 (some sl) = some () from p_obA (kd := 3) c0, p_bs, p_le]
    generalize hF2 : v_up (v_up (v_up F sl 2 (some (sl + 1))) sl 3 (some (sl + 2))) 13 nx (some sl) = F2
    have F2a : ∀ a j, a ≠ 13 → a ≠ sl → F2 a j = F a j := fun a j q1 q2 => by rw [← hF2, v_up_row _ 13 _ _ q1, F13 a j q2]
    have F2s2 : F2 sl 2 = some (sl + 1) := by rw [← hF2, v_up_row _ 13 _ _ (by omega), w_ne _ _ _ _ (by omega), w_at]
    have F2s3 : F2 sl 3 = some (sl + 2) := by rw [← hF2, v_up_row _ 13 _ _ (by omega), w_at]
    have hext : ext S S3 F F2 13 := ⟨ext1, fun a j q1 q2 => F2a a j q2 (by omega)⟩
    have hF' : p_FF F2 := ext_FF hext hS (.inl rfl) hF
    have moN : p_Mo S3 F2 sl (sl + 1) (sl + 2) := ⟨c0, c1, c2, F2s2, F2s3⟩
    have mo2' : p_Mo S3 F2 2 3 4 := ext_Mo hext (by omega) mo2
    rw [p_obA (kd := 3) c0, p_bs, s_X3_copyFrom hS' hF' moN mo2']
    obtain ⟨I1, b1, b2, b3, b4⟩ := c_copy (I := v_up (v_up I sl 0 0) sl 1 0) moN mo2' (by omega) (by omega) (by omega) (by omega) (by omega) (by omega) (by omega)
    have I0a : ∀ a, a ≠ sl → v_up (v_up I sl 0 0) sl 1 0 a = I a := fun a h => by rw [v_up_row _ sl _ _ h, v_up_row _ sl _ _ h]
    have hM0 : rM (v_up (v_up I sl 0 0) sl 1 0) 2 3 4 k := rM_fr (I0a 2 (by omega)) (I0a 3 (by omega)) (I0a 4 (by omega)) hM
    have hM1 := b2 k hM0
    have I1a : ∀ a, a < sl → I1 a = I a := fun a h => by rw [b3 a (by omega) (by omega) (by omega), I0a a (by omega)]
    rw [b1, p_bs, F2a 11 2 (by omega) (by omega), p_FS hF (a := 11) (i := 2) (b := 12) (by decide), p_bs, p_ixS hS' (kd := 20) (a := 12) (n := 16) rfl, I1a 11 (by omega), e1, p_in_nI hnx (by omega), p_bs, p_le, v_up_row _ 12 _ _ (show (11 : Nat) ≠ 12 by omega), I1a 11 (by omega), e1, (md16 hnx).2, p_le, w_ne _ _ _ _ (show (0 : Nat) ≠ 1 by omega), v_up_row _ 12 _ _ (show (11 : Nat) ≠ 12 by omega), I1a 11 (by omega), e0, mn16 hn, p_le]
    refine ⟨S3, _, F2, fun a => if a = sl ∨ a = sl + 1 ∨ a = sl + 2 then 2 + nx else own a, rfl, hext, fun q hq => ?_, fun a ha => ?_, fun a ha => ?_, ⟨sl, sl + 1, sl + 2, ?_, moN, by omega, if_pos (.inl rfl), if_pos (.inr (.inl rfl)), if_pos (.inr (.inr rfl)), ?_⟩, by rw [w_at], by rw [w_ne _ _ _ _ (by omega), w_at], fun j => ?_, fun a a1 a2 a3 a4 => ?_⟩
    · rw [← hF2, w_ne _ _ _ _ hq, F13 13 q (by omega)]
    · rw [l3]
      by_cases q : a = sl ∨ a = sl + 1 ∨ a = sl + 2
      · omega
      · dsimp only at ha
        rw [if_neg q] at ha
        have := hN a ha
        rw [hsl] at this
        omega
    · have := hN a ha
      rw [hsl] at this
      dsimp only
      rw [if_neg (by omega)]
    · rw [← hF2, w_at]
    · refine rM_fr ?_ ?_ ?_ hM1 <;> rw [v_up_row _ 11 _ _ (by omega), v_up_row _ 11 _ _ (by omega), v_up_row _ 12 _ _ (by omega)]
    · rw [v_up_row _ 11 _ _ (by omega), v_up_row _ 11 _ _ (by omega)]
      by_cases q : j = nx
      · subst q; rw [w_at, if_pos rfl]
      · rw [w_ne _ _ _ _ q, if_neg q, I1a 12 (by omega)]
    · rw [v_up_row _ 11 _ _ a1, v_up_row _ 11 _ _ a1, v_up_row _ 12 _ _ a2, I1a a a3]
  · -- one that was there
    rw [h4]
    unfold p_nul
    dsimp only
    have q1 := (hN m (by omega)).1
    have q2 := (hN w (by omega)).1
    have q3 := (hN s (by omega)).1
    have dmw : m ≠ w := fun e => by have := hm.1; rw [e, hm.2.1] at this; cases this
    have dms : m ≠ s := fun e => by have := hm.1; rw [e, hm.2.2.1] at this; cases this
    rw [p_obA (kd := 3) hm.1, p_bs, s_X3_copyFrom hS hF hm mo2]
    obtain ⟨I1, b1, b2, b3, b4⟩ := c_copy (I := I) hm mo2 dmw dms hws (by omega) (by omega) (by omega) (by omega)
    have hM1 := b2 k hM
    have I1a : ∀ a, a < 72 → I1 a = I a := fun a h => b3 a (by omega) (by omega) (by omega)
    rw [b1, p_bs, p_FS hF (a := 11) (i := 2) (b := 12) (by decide), p_bs, p_ixS hS (kd := 20) (a := 12) (n := 16) rfl, I1a 11 (by omega), e1, p_in_nI hnx (by omega), p_bs, p_le, v_up_row _ 12 _ _ (show (11 : Nat) ≠ 12 by omega), I1a 11 (by omega), e1, (md16 hnx).2, p_le, w_ne _ _ _ _ (show (0 : Nat) ≠ 1 by omega), v_up_row _ 12 _ _ (show (11 : Nat) ≠ 12 by omega), I1a 11 (by omega), e0, mn16 hn, p_le]
    refine ⟨S, _, F, own, rfl, ext_refl S F 13, fun _ _ => rfl, hN, fun _ _ => rfl, ⟨m, w, s, h4, hm, hws, o1, o2, o3, ?_⟩, by rw [w_at], by rw [w_ne _ _ _ _ (by omega), w_at], fun j => ?_, fun a a1 a2 a3 a4 => ?_⟩
    · refine rM_fr ?_ ?_ ?_ hM1 <;> rw [v_up_row _ 11 _ _ (by omega), v_up_row _ 11 _ _ (by omega), v_up_row _ 12 _ _ (by omega)]
    · rw [v_up_row _ 11 _ _ (by omega), v_up_row _ 11 _ _ (by omega)]
      by_cases q : j = nx
      · subst q; rw [w_at, if_pos rfl]
      · rw [w_ne _ _ _ _ q, if_neg q, I1a 12 (by omega)]
    · rw [v_up_row _ 11 _ _ a1, v_up_row _ 11 _ _ a1, v_up_row _ 12 _ _ a2, b3 a (fun e => a4 (by rw [e]; exact o1)) (fun e => a4 (by rw [e]; exact o2)) (fun e => a4 (by rw [e]; exact o3))]
end sp79
