noncomputable section sp65
/-! what is reckoned is never taken for BROKEN -/
def okA (x : Int64) : Prop := -4294967296 ≤ x ∧ x ≤ 4294967297
theorem okA_32 (x : Int32) : okA x.toInt64 := by
  have h1 := Int32.le_toInt x
  have h2 : x.toInt ≤ 2147483647 := Int32.toInt_le x
  constructor
  · rw [Int64.le_iff_toInt_le]; simp; omega
  · rw [Int64.le_iff_toInt_le]; simp; omega
theorem okA_not {x : Int64} (h : okA x) : okA (1 - x) := by
  obtain ⟨h1, h2⟩ := h
  rw [Int64.le_iff_toInt_le] at h1 h2
  have e1 : (-4294967296 : Int64).toInt = -4294967296 := by decide
  have e2 : (4294967297 : Int64).toInt = 4294967297 := by decide
  rw [e1] at h1; rw [e2] at h2
  have e3 : (1 - x).toInt = 1 - x.toInt := by
    rw [Int64.toInt_sub, show (1 : Int64).toInt = 1 by decide]
    apply Int.bmod_eq_of_le <;> omega
  constructor
  · rw [Int64.le_iff_toInt_le, e1, e3]; omega
  · rw [Int64.le_iff_toInt_le, e2, e3]; omega
theorem okA_lim {z x : Int64} (h : jn_lim z = some x) : okA x := by
  have e := jn_lim_s h
  subst e
  unfold jn_lim at h
  split at h
  · cases h
  · rename_i q
    have q1 : ¬ 1000000000 < z := fun e => q (.inl e)
    have q2 : ¬ z < -1000000000 := fun e => q (.inr e)
    rw [Int64.lt_iff_toInt_lt, show (1000000000 : Int64).toInt = 1000000000 by decide] at q1
    rw [Int64.lt_iff_toInt_lt, show (-1000000000 : Int64).toInt = -1000000000 by decide] at q2
    constructor
    · rw [Int64.le_iff_toInt_le, show (-4294967296 : Int64).toInt = -4294967296 by decide]; omega
    · rw [Int64.le_iff_toInt_le, show (4294967297 : Int64).toInt = 4294967297 by decide]; omega
theorem okA_01 (c : Prop) [Decidable c] : okA (if c then 1 else 0) := by
  split
  · exact ⟨by decide, by decide⟩
  · exact ⟨by decide, by decide⟩
theorem okA_jn {s : Int32} {a b x : Int64} (h : jn s a b = some x) : okA x := by
  unfold jn at h
  split at h
  · cases h; exact okA_01 _
  split at h
  · cases h; exact okA_01 _
  split at h
  · cases h; exact okA_01 _
  split at h
  · exact okA_lim h
  split at h
  · exact okA_lim h
  split at h
  · exact okA_lim h
  split at h
  · split at h
    · cases h
    · exact okA_lim h
  split at h
  · split at h
    · cases h
    · exact okA_lim h
  · cases h
theorem rk_A {code : Nat → Int32} {m : Nat} {vals : Nat → Int32} : ∀ (f a : Nat) (st : List Int64) (x : Int64), (∀ y ∈ st, okA y) → rk code m vals f a st = some x → okA x := by
  intro f
  induction f with
  | zero => intro a st x _ h; unfold rk at h; cases h
  | succ f ih =>
    intro a st x hst h
    unfold rk at h
    split at h
    · cases h
    split at h
    · cases h
    split at h
    · exact ih _ _ _ (fun y hy => by
        cases hy with
        | head => exact okA_32 _
        | tail _ q => exact hst y q) h
    split at h
    · refine ih _ _ _ (fun y hy => ?_) h
      cases hy with
      | head => split
                · exact okA_32 _
                · exact ⟨by decide, by decide⟩
      | tail _ q => exact hst y q
    cases st with
    | nil => cases h
    | cons u t =>
      dsimp only at h
      split at h
      · cases h; exact hst _ (List.Mem.head _)
      split at h
      · refine ih _ _ _ (fun y hy => ?_) h
        cases hy with
        | head => exact okA_not (hst _ (List.Mem.head _))
        | tail _ q => exact hst y (List.Mem.tail _ q)
      split at h
      · generalize (if code a &&& 15 = 5 then (1 : Int64) else 0) = k15 at h
        split at h
        · split at h
          · cases h
          · exact ih _ _ _ hst h
        · exact ih _ _ _ (fun y hy => hst y (List.Mem.tail _ hy)) h
      cases t with
      | nil => cases h
      | cons w t =>
        dsimp only at h
        cases hj : jn (code a &&& 15) w u with
        | none => rw [hj] at h; cases h
        | some z =>
          rw [hj, p_bs] at h
          refine ih _ _ _ (fun y hy => ?_) h
          cases hy with
          | head => exact okA_jn hj
          | tail _ q => exact hst y (List.Mem.tail _ (List.Mem.tail _ q))
theorem okA_ne {x : Int64} (h : okA x) : x ≠ -1000000000000000 := by
  rintro rfl
  exact absurd h.1 (by decide)
theorem brk_eq {code : Nat → Int32} {m : Nat} {vals : Nat → Int32} {f a : Nat} {o : Option Int64} (h : rk code m vals f a [] = o) : (brk o = -1000000000000000 ↔ o = none) ∧ (∀ x, o = some x → brk o = x) := by
  cases o with
  | none => exact ⟨⟨fun _ => rfl, fun _ => rfl⟩, fun x e => by cases e⟩
  | some x =>
    have := okA_ne (rk_A f a [] x (fun y hy => by cases hy) h)
    exact ⟨⟨fun e => absurd e this, fun e => by cases e⟩, fun y e => by cases e; rfl⟩
/-- no SUM stands there -/
theorem c_reckN {S : v_S} {F : v_F} {I : v_I} (J : v_J) {r0 rv rs x ac m : Nat} (hx : S[x]? = some (8, 9)) (ha : F x 8 = some ac) (hc : S[ac]? = some (20, m)) (hm : m ≤ 436) : wp (h_X7_reckon S I J F r0 rv rs x (-1)) (fun r => r.1 = -1000000000000000) := by
  unfold h_X7_reckon
  have hlen : p_len S 20 ac = some (nI m) := by
    unfold p_len; rw [hc]; simp; rfl
  rw [p_obA (kd := 8) hx, p_bs, ha, p_bs]
  obtain ⟨q, hq, e⟩ : ∃ q, v_loop (h_X7_reckon_B14 r0 rv rs S I F ac) FU (-1, 0, 0, J) = some q ∧ (q.1 = 5 ∨ q.1 = 0) := by
    have : ∃ q, h_X7_reckon_B14 r0 rv rs S I F ac (-1, 0, 0, J) = some (.inr q) ∧ (q.1 = 5 ∨ q.1 = 0) := by
      unfold h_X7_reckon_B14
      dsimp only
      rw [hlen, p_bs]
      by_cases h : nI m ≤ 0
      · rw [if_pos h]; exact ⟨_, rfl, .inl rfl⟩
      · rw [if_neg h, if_pos (by decide)]; exact ⟨_, rfl, .inr rfl⟩
    obtain ⟨q, h1, h2⟩ := this
    refine ⟨q, ?_, h2⟩
    obtain ⟨n, hn⟩ : ∃ n, FU = n + 1 := ⟨99999, FU_eq⟩
    rw [hn]
    simp only [v_loop, h1]
  rw [hq, p_bs]
  rcases e with e | e
  · rw [if_neg (by omega), if_neg (by omega), if_neg (by omega), if_neg (by omega), if_neg (by omega)]
    exact wp_some.mpr rfl
  · rw [if_pos e]
    exact wp_some.mpr rfl
/-- what stands there is reckoned -/
theorem c_reck {S : v_S} {F : v_F} {I : v_I} (J : v_J) {r0 rv rs x ac m : Nat} {a : Int32} {o : Option Den} (hx : S[x]? = some (8, 9)) (ha : F x 8 = some ac) (hc : S[ac]? = some (20, m)) (hm : m ≤ 436) (hd : cd_R (I ac) m a o) :
    wp (h_X7_reckon S I J F r0 rv rs x a) (fun r => (r.1 = -1000000000000000 ↔ (o.bind fun d => d (I rv)) = none) ∧ ∀ y, (o.bind fun d => d (I rv)) = some y → r.1 = y) := by
  cases o with
  | none =>
    unfold cd_R at hd
    subst hd
    exact wp_mono (c_reckN J hx ha hc hm) fun r hr => ⟨⟨fun _ => rfl, fun _ => hr⟩, fun y e => by cases e⟩
  | some d =>
    obtain ⟨p, hp, rfl, hv⟩ := hd
    refine wp_mono (c_reckon J hx ha hc hm hp) fun r hr => ?_
    have e := brk_eq (hv (I rv))
    rw [hr, p_bs, hv (I rv)]
    exact e
theorem sp_told_snoc (vals : Nat → Int32) (kind w : Int32) (L : List Cls) (c : Cls) : sp_told vals kind w (L ++ [c]) = sp_one vals kind (sp_told vals kind w L) c := by
  unfold sp_told
  rw [List.foldl_append]
  rfl
/-- the class tells what the LAW tells -/
theorem c_told {S : v_S} {F : v_F} {I : v_I} (J : v_J) {x ak af as at' ai ac cn m : Nat} {D : List Cls} (hX : tx_D S I F x ak af as at' ai ac cn m D) (kind w : Int32) : wp (h_X1_told S I J F (some x) kind w) (fun r => r.1 = sp_told (I 16) kind w D) := by
  obtain ⟨s1, s2, s3, s4, s5, s6, s7, f3, f4, f5, f6, f7, f8, l1, l2, l3, n1, n2, hD⟩ := hX
  have key : ∀ (i : Nat) (J : v_J) (fu : Nat), i ≤ D.length → i < fu → wp (v_loop (h_X1_told_B14 S I F (some x) kind w) fu (nI i - 1, J)) (fun q => (if q.1 = 0 then (p_maxL 0 (p_minL q.2.2.2 9)).toInt32 else w) = sp_told (I 16) kind w (D.take i)) := by
    intro i
    induction i with
    | zero =>
      intro J fu _ hf
      obtain ⟨fu, rfl⟩ : ∃ k, fu = k + 1 := ⟨fu - 1, by omega⟩
      have e : h_X1_told_B14 S I F (some x) kind w (nI 0 - 1, J) = some (.inr (1, (nI 0 - 1, J, 0))) := by
        unfold h_X1_told_B14
        rw [if_pos (show nI 0 - 1 < 0 by decide)]
      simp only [v_loop, e]
      exact wp_some.mpr rfl
    | succ i ih =>
      intro J fu hi hf
      obtain ⟨fu, rfl⟩ : ∃ k, fu = k + 1 := ⟨fu - 1, by omega⟩
      obtain ⟨c, hc⟩ : ∃ c, D[i]? = some c := ⟨D[i], List.getElem?_eq_getElem (by omega)⟩
      obtain ⟨d1, d2, d3, d4, d5⟩ := hD i c hc
      have htk : D.take (i + 1) = D.take i ++ [c] := by
        rw [List.take_succ, hc]; rfl
      rw [htk, sp_told_snoc]
      generalize hV : sp_told (I 16) kind w (D.take i) = V
      -- the body
      have body : wp (h_X1_told_B14 S I F (some x) kind w (nI (i + 1) - 1, J)) (fun y => match y with
          | .inl s => s.1 = nI i - 1 ∧ sp_one (I 16) kind V c = V
          | .inr q => (if q.1 = 0 then (p_maxL 0 (p_minL q.2.2.2 9)).toInt32 else w) = sp_one (I 16) kind V c) := by
        have j110 : ∀ J', sp_one (I 16) kind V c = V → wp (h_X1_told_J14_110 S I F (some x) kind w J' (nI i)) (fun y => match y with
          | .inl s => s.1 = nI i - 1 ∧ sp_one (I 16) kind V c = V
          | .inr q => (if q.1 = 0 then (p_maxL 0 (p_minL q.2.2.2 9)).toInt32 else w) = sp_one (I 16) kind V c) := by
          intro J' e
          unfold h_X1_told_J14_110
          rw [p_le]
          refine wp_some.mpr ⟨?_, e⟩
          rw [Int32.sub_eq_add_neg]
        have j61 : ∀ J', c.1 = kind → d_holds (I 16) c.2.2.2.1 = true → wp (h_X1_told_J14_61 S I F (some x) kind w J' (nI i)) (fun y => match y with
          | .inl s => s.1 = nI i - 1 ∧ sp_one (I 16) kind V c = V
          | .inr q => (if q.1 = 0 then (p_maxL 0 (p_minL q.2.2.2 9)).toInt32 else w) = sp_one (I 16) kind V c) := by
          intro J' h1 h2
          unfold h_X1_told_J14_61 h_X1_told_J14_85
          by_cases k2 : kind = 2
          · rw [if_pos k2]
            simp only [cmp_eq]
            rw [if_neg (by decide)]
            refine wp_some.mpr ?_
            dsimp only
            unfold sp_one
            rw [if_pos rfl, if_pos ⟨h1, h2⟩, if_pos k2]
            decide
          · rw [if_neg k2, p_bs, p_obA (kd := 8) s1, p_bs, f4, p_bs, p_ixA s3, p_in_nI (by omega) (by omega), p_bs]
            refine wp_seq (c_reck J' s1 f8 s7 l3 d2) fun r hr => ?_
            simp only [cmp_eq]
            have so : sp_one (I 16) kind V c = match (c.2.1.bind fun d => d (I 16)) with | none => V | some y => d_clip y := by
              unfold sp_one
              rw [if_pos ⟨h1, h2⟩, if_neg k2]
              cases c.2.1 with
              | none => rfl
              | some d =>
                rw [p_bs]
                dsimp only
                cases d (I 16) <;> rfl
            cases hv : (c.2.1.bind fun d => d (I 16)) with
            | none =>
              rw [hv] at hr so
              rw [if_pos (hr.1.mpr rfl)]
              exact j110 _ so
            | some y =>
              rw [hv] at hr so
              rw [if_neg (fun e => by have := hr.1.mp e; cases this)]
              refine wp_some.mpr ?_
              dsimp only
              rw [if_pos rfl, hr.2 y rfl, so]
              rfl
        unfold h_X1_told_B14
        rw [nI_pred]
        dsimp only
        rw [if_neg (nI_pos (by omega)), p_bs, p_obA (kd := 8) s1, p_bs, f3, p_bs, p_ixA s2, p_in_nI (by omega) (by omega), p_bs, d1]
        by_cases hk : c.1 = kind
        · rw [if_pos hk, f6, p_bs, p_ixA s5, p_in_nI (by omega) (by omega), p_bs]
          cases ht : c.2.2.2.1 with
          | none =>
            rw [ht] at d4
            unfold cd_R at d4
            rw [if_pos d4]
            exact j61 _ hk (by rw [ht]; rfl)
          | some d =>
            rw [ht] at d4
            obtain ⟨p, hp, e, _⟩ := id d4
            rw [if_neg (by rw [e]; exact fun q => absurd (show nI p < 0 by rw [q]; decide) (nI_pos (by omega))), p_bs, p_ixA s5, p_in_nI (by omega) (by omega), p_bs]
            refine wp_seq (c_reck J s1 f8 s7 l3 d4) fun r hr => ?_
            rw [p_bs] at hr
            simp only [cmp_eq]
            by_cases h1 : r.1 = 1
            · rw [if_pos h1]
              refine j61 _ hk ?_
              rw [ht]
              unfold d_holds
              cases hv : d (I 16) with
              | none =>
                rw [hv] at hr
                have := hr.1.mpr rfl
                rw [h1] at this
                exact absurd this (by decide)
              | some y =>
                rw [hv] at hr
                have := hr.2 y rfl
                rw [h1] at this
                subst this
                simp [hv]
            · rw [if_neg h1]
              refine j110 _ ?_
              unfold sp_one
              rw [if_neg]
              rintro ⟨_, q⟩
              rw [ht] at q
              unfold d_holds at q
              have q := of_decide_eq_true q
              exact h1 (hr.2 1 q)
        · rw [if_neg hk]
          refine j110 _ ?_
          unfold sp_one
          rw [if_neg (fun q => hk q.1)]
      obtain ⟨y, ey, hy⟩ := body
      cases y with
      | inr q =>
        simp only [v_loop, ey]
        exact wp_some.mpr hy
      | inl s =>
        obtain ⟨s1', J2⟩ := s
        obtain ⟨e1, e2⟩ := hy
        dsimp only at e1
        subst e1
        simp only [v_loop, ey]
        rw [e2, ← hV]
        exact ih J2 fu (by omega) (by omega)
  unfold h_X1_told p_nul
  dsimp only
  rw [p_obA (kd := 8) s1, p_bs, p_le, n1]
  refine wp_seq (key D.length J FU (Nat.le_refl _) (by rw [FU_eq]; omega)) fun q hq => ?_
  rw [List.take_length] at hq
  by_cases h0 : q.1 = 0
  · rw [if_pos h0] at hq ⊢; exact wp_some.mpr hq
  · rw [if_neg h0] at hq ⊢; exact wp_some.mpr hq
end sp65
