noncomputable section sp60
def brk (o : Option Int64) : Int64 := match o with
  | none => -1000000000000000
  | some v => v
theorem lim_c (x : Int64) : h_X7_join_J152 x = some (brk (jn_lim x)) := by
  have ge : ∀ x y : Int64, (0 ≤ lg_cmp x y) ↔ ¬ x < y := fun x y => by
    rw [← b_neg x y]; exact ⟨fun a b => absurd b (Int32.not_lt.mpr a), fun a => Int32.not_lt.mp a⟩
  unfold h_X7_join_J152 jn_lim
  simp only [b_pos, ge]
  by_cases h1 : 1000000000 < x
  · rw [if_pos h1, if_pos (.inl h1)]; rfl
  · by_cases h2 : x < -1000000000
    · rw [if_neg h1, if_neg (fun q => q h2), if_pos (.inr h2)]; rfl
    · rw [if_neg h1, if_pos h2, if_neg (fun q => q.elim h1 h2)]; rfl
theorem cmp_eq (x y : Int64) : (lg_cmp x y = 0) ↔ x = y := by
  unfold lg_cmp
  by_cases h1 : y < x
  · simp [h1]
    intro e; subst e; exact Int64.lt_irrefl h1
  · by_cases h2 : x = y
    · subst h2; simp
    · simp [h1, h2]
theorem join_c (s : Int32) (a b : Int64) : h_X7_join s a b = some (brk (jn s a b)) := by
  have ge : ∀ x y : Int64, (0 ≤ lg_cmp x y) ↔ ¬ x < y := fun x y => by
    rw [← b_neg x y]; exact ⟨fun a b => absurd b (Int32.not_lt.mpr a), fun a => Int32.not_lt.mp a⟩
  have le : ∀ x y : Int64, (lg_cmp x y ≤ 0) ↔ ¬ y < x := fun x y => by
    rw [← b_pos x y]; exact ⟨fun a b => absurd b (Int32.not_lt.mpr a), fun a => Int32.not_lt.mp a⟩
  have br : jn_lim (-1000000000000000) = none := by decide
  unfold h_X7_join jn
  simp only [h_X7_join_J123, h_X7_join_J143, ge, le, cmp_eq, p_le, lim_c]
  by_cases h6 : s = 6
  · rw [if_pos h6, if_pos h6]
    by_cases q : a < b
    · rw [if_neg (fun z => z q), if_pos q]; rfl
    · rw [if_pos q, if_neg q]; rfl
  rw [if_neg h6, if_neg h6]
  by_cases h7 : s = 7
  · rw [if_pos h7, if_pos h7]
    by_cases q : b < a
    · rw [if_neg (fun z => z q), if_pos q]; rfl
    · rw [if_pos q, if_neg q]; rfl
  rw [if_neg h7, if_neg h7]
  by_cases h8 : s = 8
  · rw [if_pos h8, if_pos h8]
    by_cases q : a = b
    · rw [if_pos q, if_pos q]; rfl
    · rw [if_neg q, if_neg q]; rfl
  rw [if_neg h8, if_neg h8]
  by_cases h9 : s = 9
  · rw [if_pos h9, if_pos h9]
  rw [if_neg h9, if_neg h9]
  by_cases h10 : s = 10
  · rw [if_pos h10, if_pos h10]
  rw [if_neg h10, if_neg h10]
  by_cases h11 : s = 11
  · rw [if_pos h11, if_pos h11]
  rw [if_neg h11, if_neg h11]
  have nz : ∀ x : Int64, ¬ x = 0 → p_nz64 x = some () := fun x hx => by unfold p_nz64; rw [if_neg hx]
  by_cases h12 : s = 12
  · rw [if_pos h12, if_pos h12]
    by_cases q : b = 0
    · rw [if_pos q, if_pos q, br]
    · rw [if_neg q, if_neg q, nz b q, p_bs]
  rw [if_neg h12, if_neg h12]
  by_cases h13 : s = 13
  · rw [if_pos h13, if_pos h13]
    by_cases q : b = 0
    · rw [if_pos q, if_pos q, br]
    · rw [if_neg q, if_neg q, nz b q, p_bs]
  rw [if_neg h13, if_neg h13]
  rfl
theorem jn_ok {s : Int32} {a b v : Int64} (h : jn s a b = some v) : v ≠ -1000000000000000 := by
  have lim : ∀ x v, jn_lim x = some v → v ≠ -1000000000000000 := fun x v e q => by
    subst q
    unfold jn_lim at e
    by_cases c : 1000000000 < x ∨ x < -1000000000
    · rw [if_pos c] at e; cases e
    · rw [if_neg c] at e; cases e; exact c (.inr (by decide))
  have bit : ∀ (c : Prop) [Decidable c] (v : Int64), some (if c then (1 : Int64) else 0) = some v → v ≠ -1000000000000000 := fun c _ v e => by
    by_cases q : c
    · rw [if_pos q] at e; cases e; decide
    · rw [if_neg q] at e; cases e; decide
  unfold jn at h
  split at h
  · exact bit _ _ h
  split at h
  · exact bit _ _ h
  split at h
  · exact bit _ _ h
  split at h
  · exact lim _ _ h
  split at h
  · exact lim _ _ h
  split at h
  · exact lim _ _ h
  split at h
  · split at h
    · cases h
    · exact lim _ _ h
  split at h
  · split at h
    · cases h
    · exact lim _ _ h
  cases h
/-- the values that wait -/
def stk (J : v_J) (rs : Nat) : List Int64 → Prop
  | [] => True
  | x :: t => J rs t.length = x ∧ stk J rs t
theorem stk_up {J : v_J} {rs : Nat} (j : Nat) (x : Int64) : ∀ {st : List Int64}, st.length ≤ j → stk J rs st → stk (v_up J rs j x) rs st
  | [], _, _ => trivial
  | y :: t, h, q => by
    have hl : t.length + 1 ≤ j := h
    exact ⟨by rw [v_up_ne _ _ (by omega)]; exact q.1, stk_up j x (by omega) q.2⟩
theorem stk_push {J : v_J} {rs : Nat} {st : List Int64} (x : Int64) (h : stk J rs st) : stk (v_up J rs st.length x) rs (x :: st) := ⟨v_up_at _ _ _ _, stk_up _ _ (Nat.le_refl _) h⟩
/-- the run from a place that may be below 0 -/
def rkA (code : Nat → Int32) (m : Nat) (vals : Nat → Int32) (f : Nat) (a : Int32) (st : List Int64) : Option Int64 := if a < 0 then none else rk code m vals f a.toNatClampNeg st
theorem c_reckon {S : v_S} {F : v_F} {I : v_I} (J : v_J) {r0 rv rs x ac m p : Nat} (hx : S[x]? = some (8, 9)) (ha : F x 8 = some ac) (hc : S[ac]? = some (20, m)) (hm : m ≤ 436) (hp : p < 1000) : wp (h_X7_reckon S I J F r0 rv rs x (nI p)) (fun r => r.1 = brk (rk (I ac) m (I rv) m p [])) := by
  unfold h_X7_reckon
  rw [p_obA (kd := 8) hx, p_bs, ha, p_bs, wp_bind]
  have hlen : p_len S 20 ac = some (nI m) := by
    unfold p_len; rw [hc]; simp; rfl
  refine wp_lp (fun i s => s.2.2.1 = nI i ∧ ∃ st : List Int64, s.2.1 = nI st.length ∧ st.length ≤ 32 ∧ stk s.2.2.2 rs st ∧ rkA (I ac) m (I rv) (m - i) s.1 st = rk (I ac) m (I rv) m p []) m (by omega) ⟨rfl, [], rfl, by simp, trivial, ?_⟩ ?_
  · unfold rkA
    rw [if_neg (nI_pos (by omega)), nI_clamp (by omega)]; rfl
  rintro i ⟨a, top, run, J'⟩ hi ⟨e1, st, e2, e3, e4, e5⟩
  dsimp only at e1 e2 e4 e5
  subst e1 e2
  rw [← e5]
  generalize hE : rkA (I ac) m (I rv) (m - i) a st = E
  generalize hQ : (fun (q : Nat × (Int32 × Int32 × Int32 × v_J)) => wp (if q.1 = 0 then some (-1000000000000000, q.2.2.2.2) else if q.1 = 1 then some (-1000000000000000, q.2.2.2.2) else if q.1 = 2 then (p_in 32 (q.2.2.1 - 1)).bind fun j => some (q.2.2.2.2 rs j, q.2.2.2.2) else if q.1 = 3 then some (-1000000000000000, q.2.2.2.2) else if q.1 = 4 then some (-1000000000000000, q.2.2.2.2) else some (-1000000000000000, q.2.2.2.2)) (fun r => r.1 = brk E)) = Q
  generalize hP : (fun (t : Int32 × Int32 × Int32 × v_J) => i < m ∧ t.2.2.1 = nI (i + 1) ∧ ∃ st : List Int64, t.2.1 = nI st.length ∧ st.length ≤ 32 ∧ stk t.2.2.2 rs st ∧ rkA (I ac) m (I rv) (m - (i + 1)) t.1 st = E) = P
  have bad : ∀ (c : Nat) (u : Int32 × Int32 × Int32 × v_J), c ≠ 2 → E = none → wp (some (Sum.inr (c, u)) : Option ((Int32 × Int32 × Int32 × v_J) ⊕ (Nat × (Int32 × Int32 × Int32 × v_J)))) (v_K P Q) := by
    intro c u hc hu
    rw [wp_some, ← hQ]
    simp only [v_K, hc, if_false, hu]
    by_cases q0 : c = 0
    · rw [if_pos q0, wp_some]; rfl
    rw [if_neg q0]
    by_cases q1 : c = 1
    · rw [if_pos q1, wp_some]; rfl
    rw [if_neg q1]
    by_cases q3 : c = 3
    · rw [if_pos q3, wp_some]; rfl
    rw [if_neg q3]
    by_cases q4 : c = 4
    · rw [if_pos q4, wp_some]; rfl
    rw [if_neg q4, wp_some]; rfl
  have nxt : ∀ (a' top' : Int32) (J2 : v_J) (st' : List Int64), i < m → top' = nI st'.length → st'.length ≤ 32 → stk J2 rs st' → rkA (I ac) m (I rv) (m - (i + 1)) a' st' = E → wp (h_X7_reckon_J14_301 r0 rv rs S I F ac J2 a' top' (nI i)) (v_K P Q) := by
    intro a' top' J2 st' q1 q2 q3 q4 q5
    unfold h_X7_reckon_J14_301
    rw [p_le, wp_some, ← hP]
    exact ⟨q1, nI_1 i, st', q2, q3, q4, q5⟩
  unfold h_X7_reckon_B14
  dsimp only
  rw [hlen, p_bs]
  by_cases him : i < m
  · obtain ⟨f, hf⟩ : ∃ f, m - i = f + 1 := ⟨m - i - 1, by omega⟩
    have hf' : m - (i + 1) = f := by omega
    rw [hf] at hE
    rw [hf'] at nxt
    rw [if_neg (nI_ge him (by omega))]
    by_cases a0 : a < 0
    · rw [if_pos a0]
      exact bad 0 _ (by omega) (by rw [← hE]; unfold rkA; rw [if_pos a0])
    obtain ⟨k, hk, rfl⟩ := nI_of a0
    unfold rkA at hE
    rw [if_neg a0, nI_clamp hk] at hE
    rw [if_neg a0, p_bs]
    by_cases hkm : m ≤ k
    · rw [if_pos (nI_le hkm (by omega))]
      exact bad 0 _ (by omega) (by rw [← hE]; simp only [rk]; rw [if_pos hkm])
    rw [if_neg (nI_ge (by omega) (by omega)), if_neg (nI_pos (by omega))]
    by_cases h32 : st.length < 32
    · rw [if_pos (show nI st.length < 32 from i_lt (b := 32) rfl rfl h32 (by omega)), p_ixA hc, p_in_nI (by omega) (by omega), p_bs, p_le, p_bs, p_le, p_le, nI_1 k]
      rw [show ((4 : Int32) &&& 31) = 4 by decide]
      simp only [rk] at hE
      rw [if_neg hkm, if_neg (by omega)] at hE
      generalize hcc : I ac k &&& 15 = cs at hE
      generalize hww : I ac k >>> 4 = cw at hE
      have nx : ∀ a' st', rkA (I ac) m (I rv) f (nI a') st' = rk (I ac) m (I rv) f a' st' ∨ 2 ^ 31 ≤ a' := fun a' st' => by
        by_cases q : a' < 2 ^ 31
        · left; unfold rkA; rw [if_neg (nI_pos q), nI_clamp q]
        · right; omega
      have nx1 : ∀ st', rkA (I ac) m (I rv) f (nI (k + 1)) st' = rk (I ac) m (I rv) f (k + 1) st' := fun st' => (nx (k + 1) st').resolve_right (by omega)
      by_cases c1 : cs = 1
      · rw [if_pos c1, p_in_nI h32 (by omega), p_bs, p_le, p_le, nI_1]
        rw [if_pos c1] at hE
        exact nxt _ _ _ (cw.toInt64 :: st) him rfl (by simp; omega) (stk_push _ e4) (by rw [nx1]; exact hE)
      rw [if_neg c1] at hE ⊢
      by_cases c2 : cs = 2
      · rw [if_pos c2] at hE ⊢
        have push : ∀ z : Int64, z = (if (0 : Int32) ≤ cw ∧ cw < (36 : Int32) then (I rv cw.toNatClampNeg).toInt64 else 0) → wp (h_X7_reckon_J14_127 r0 rv rs S I F ac J' (nI (k + 1)) (nI st.length) (nI i) z (nI st.length)) (v_K P Q) := by
          intro z hz
          unfold h_X7_reckon_J14_127
          rw [p_in_nI h32 (by omega), p_bs, p_le, p_le, nI_1]
          exact nxt _ _ _ (z :: st) him rfl (by simp; omega) (stk_push _ e4) (by rw [nx1, hz]; exact hE)
        by_cases w0 : cw < 0
        · rw [if_pos w0]
          unfold h_X7_reckon_J14_126
          exact push 0 (by rw [if_neg (fun q => absurd w0 (Int32.not_lt.mpr q.1))])
        rw [if_neg w0]
        by_cases w36 : 36 ≤ cw
        · rw [if_pos w36]
          unfold h_X7_reckon_J14_126
          exact push 0 (by rw [if_neg (fun q => absurd q.2 (Int32.not_lt.mpr w36))])
        rw [if_neg w36]
        have wl : cw < 36 := Int32.not_le.mp w36
        have hpi : p_in 36 cw = some cw.toNatClampNeg := by
          obtain ⟨z, hz, rfl⟩ := nI_of w0
          have := (i_ltI (b := 36) rfl rfl hz (by omega)).mp wl
          rw [p_in_nI this (by omega), nI_clamp hz]
        rw [hpi, p_bs]
        exact push _ (by rw [if_pos ⟨Int32.not_lt.mp w0, wl⟩])
      rw [if_neg c2] at hE ⊢
      cases st with
      | nil =>
        rw [if_neg (show ¬ (1 : Int32) ≤ nI ([] : List Int64).length by decide)]
        exact bad 1 _ (by omega) hE.symm
      | cons x t =>
        have hl : (x :: t).length = t.length + 1 := rfl
        have h32' : t.length < 32 := by omega
        dsimp only at hE
        rw [hl] at *
        rw [if_pos (show (1 : Int32) ≤ nI (t.length + 1) from i_le (a := 1) rfl rfl (by omega) (by omega)), nI_pred, p_in_nI h32' (by omega), p_bs]
        by_cases s0 : cs = 0
        · rw [if_pos s0] at hE ⊢
          rw [wp_some, ← hQ, ← hE]
          simp only [v_K, if_false, if_true, nI_pred, p_in_nI h32' (show 32 < 2 ^ 31 by omega), p_bs]
          simp only [show ¬ (2 = 0) by decide, show ¬ (2 = 1) by decide, if_false, wp_some]
          exact e4.1
        rw [if_neg s0] at hE ⊢
        by_cases s3 : cs = 3
        · rw [if_pos s3] at hE ⊢
          rw [p_bs, p_le]
          exact nxt _ _ _ ((1 - x) :: t) him rfl e3 (by rw [← e4.1]; exact stk_push _ e4.2) (by rw [nx1]; exact hE)
        rw [if_neg s3] at hE ⊢
        have jump : (cs = 4 ∨ cs = 5) → wp (h_X7_reckon_J14_200 r0 rv rs S I F ac J' (nI (k + 1)) (nI (t.length + 1)) (nI i) cs cw) (v_K P Q) := by
          intro hcs
          rw [if_pos hcs] at hE
          unfold h_X7_reckon_J14_200
          rw [nI_pred, p_in_nI h32' (by omega), p_bs, e4.1]
          have go : ∀ z : Int32, z.toInt64 = (if cs = 5 then 1 else 0) → wp (h_X7_reckon_J14_220 r0 rv rs S I F ac J' (nI (k + 1)) (nI (t.length + 1)) (nI i) cw z x) (v_K P Q) := by
            intro z hz
            unfold h_X7_reckon_J14_220
            simp only [cmp_eq, hz]
            by_cases q : x = (if cs = 5 then 1 else 0)
            · rw [if_pos q] at hE ⊢
              exact nxt _ _ _ (x :: t) him rfl e3 e4 hE
            · rw [if_neg q] at hE ⊢
              rw [p_le, show nI (t.length + 1) + -1 = nI t.length by rw [nI_succ, Int32.add_assoc, show (1 : Int32) + -1 = 0 by decide, Int32.add_zero]]
              exact nxt _ _ _ t him rfl (by omega) e4.2 (by rw [nx1]; exact hE)
          by_cases q5 : cs = 5
          · rw [if_pos q5]; exact go 1 (by rw [if_pos q5]; decide)
          · rw [if_neg q5]; exact go 0 (by rw [if_neg q5]; decide)
        by_cases s4 : cs = 4
        · rw [if_pos s4]; exact jump (.inl s4)
        rw [if_neg s4]
        by_cases s5 : cs = 5
        · rw [if_pos s5]; exact jump (.inr s5)
        rw [if_neg s5]
        rw [if_neg (fun q => q.elim s4 s5)] at hE
        cases t with
        | nil =>
          rw [if_neg (show ¬ (2 : Int32) ≤ nI (([] : List Int64).length + 1) by decide)]
          exact bad 3 _ (by omega) hE.symm
        | cons y u =>
          dsimp only at hE
          have hl2 : (y :: u).length = u.length + 1 := rfl
          simp only [List.length_cons] at h32 h32' e3 e4 ⊢
          rw [if_pos (show (2 : Int32) ≤ nI (u.length + 1 + 1) from i_le (a := 2) rfl rfl (by omega) (by omega)), p_le, show nI (u.length + 1 + 1) + -1 = nI (u.length + 1) by rw [nI_succ, Int32.add_assoc, show (1 : Int32) + -1 = 0 by decide, Int32.add_zero], nI_pred, p_in_nI (by omega) (by omega), p_bs, p_in_nI (by omega) (by omega), p_bs, e4.2.1, show J' rs (u.length + 1) = x from e4.1, join_c, p_bs]
          simp only [p_bs, p_le, v_up_at, cmp_eq]
          cases hj : jn cs y x with
          | none =>
            rw [hj] at hE
            rw [if_pos (show brk none = -1000000000000000 from rfl)]
            exact bad 4 _ (by omega) hE.symm
          | some z =>
            rw [hj, p_bs] at hE
            rw [if_neg (show ¬ brk (some z) = -1000000000000000 from jn_ok hj)]
            exact nxt _ _ _ (z :: u) him rfl (by simp; omega) (stk_push _ e4.2.2) (by rw [nx1]; exact hE)
    · rw [if_neg (show ¬ nI st.length < 32 from i_nlt (b := 32) rfl rfl (by omega) (by omega))]
      refine bad 0 _ (by omega) ?_
      rw [← hE]; simp only [rk]; rw [if_neg hkm, if_pos (by omega)]
  · have : i = m := by omega
    subst this
    rw [if_pos (Int32.le_refl _)]
    refine bad 5 _ (by omega) ?_
    rw [← hE, Nat.sub_self]
    unfold rkA
    split
    · rfl
    · rfl
end sp60
