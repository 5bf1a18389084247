noncomputable section sp98m
/-! ORDERS, plainly -/
/-- what the words of ORDERS stand for -/
def ov (n : Nat) (k : Nat → Int32) (dn lt : Int32) : Nat → Int32 := fun i =>
  if i = 4 then pcI (k 0) else if i = 6 then k 17 else if i = 9 then dn else if i = 10 then lt
  else if 12 ≤ i ∧ i < 20 then (if i - 12 < n then k (1 + (i - 12)) else -1)
  else if 20 ≤ i ∧ i < 28 then (if i - 20 < n then k (9 + (i - 20)) else -1)
  else if 28 ≤ i ∧ i < 36 then (if i - 28 < n then (if bt (k 0) (i - 28) = true then 1 else 0) else -1) else 0
def ovA (u w : Nat → Int32) : Prop := u 4 = w 4 ∧ u 6 = w 6 ∧ u 9 = w 9 ∧ u 10 = w 10 ∧ ∀ i, 12 ≤ i → i < 36 → u i = w i
def d_ov (d : Den) : Prop := ∀ u w, ovA u w → d u = d w
theorem ov_12 (n : Nat) (k : Nat → Int32) (dn lt : Int32) {h : Nat} (hh : h < 8) : ov n k dn lt (12 + h) = if h < n then k (1 + h) else -1 := by
  unfold ov
  rw [if_neg (by omega), if_neg (by omega), if_neg (by omega), if_neg (by omega), if_pos (by omega), show 12 + h - 12 = h by omega]
theorem ov_20 (n : Nat) (k : Nat → Int32) (dn lt : Int32) {h : Nat} (hh : h < 8) : ov n k dn lt (20 + h) = if h < n then k (9 + h) else -1 := by
  unfold ov
  rw [if_neg (by omega), if_neg (by omega), if_neg (by omega), if_neg (by omega), if_neg (by omega), if_pos (by omega), show 20 + h - 20 = h by omega]
theorem ov_28 (n : Nat) (k : Nat → Int32) (dn lt : Int32) {h : Nat} (hh : h < 8) : ov n k dn lt (28 + h) = if h < n then (if bt (k 0) h = true then 1 else 0) else -1 := by
  unfold ov
  rw [if_neg (by omega), if_neg (by omega), if_neg (by omega), if_neg (by omega), if_neg (by omega), if_neg (by omega), if_pos (by omega), show 28 + h - 28 = h by omega]
theorem wi_ord_c (x : Int32) : wi_ord x = 4 ∨ wi_ord x = 6 ∨ wi_ord x = 9 ∨ wi_ord x = 10 := by
  unfold wi_ord
  split
  · exact .inl rfl
  split
  · exact .inr (.inl rfl)
  split
  · exact .inr (.inr (.inl rfl))
  · exact .inr (.inr (.inr rfl))
theorem wi_one_c (x : Int32) : wi_one x = 12 ∨ wi_one x = 20 ∨ wi_one x = 28 := by
  unfold wi_one
  split
  · exact .inl rfl
  split
  · exact .inr (.inl rfl)
  · exact .inr (.inr rfl)
theorem leaf_ov (c v : Nat → Int32) : al d_ov (sp_leaf c v true) := by
  intro p n r h u w a
  unfold sp_leaf at h
  simp only [if_true, true_and] at h
  split at h
  · split at h
    · cases h
    · cases h; rfl
  split at h
  · split at h
    · cases h
    split at h
    · split at h
      · rename_i q
        cases h
        obtain ⟨t, ht, e⟩ := i_le_of (m := 7) (n := 7) rfl (by omega) q.2.1 q.2.2
        show some (u _).toInt64 = some (w _).toInt64
        rw [e, nI_clamp (by omega), a.2.2.2.2 _ (by rcases wi_one_c (c p) with z | z | z <;> rw [z] <;> omega) (by rcases wi_one_c (c p) with z | z | z <;> rw [z] <;> omega)]
      · cases h
    · cases h
      show some (u (wi_ord (c p))).toInt64 = some (w (wi_ord (c p))).toInt64
      rcases wi_ord_c (c p) with z | z | z | z <;> rw [z]
      · rw [a.1]
      · rw [a.2.1]
      · rw [a.2.2.1]
      · rw [a.2.2.2.1]
  · cases h
/-! SUMS are ints -/
def w32 (x : Int64) : Prop := -2147483648 ≤ x.toInt ∧ x.toInt ≤ 2147483647
def d32 (d : Den) : Prop := ∀ vals x, d vals = some x → w32 x
theorem w32_i (y : Int32) : w32 y.toInt64 := by
  unfold w32
  rw [Int32.toInt_toInt64]
  have h1 := Int32.le_toInt y
  have h2 := Int32.toInt_lt y
  omega
theorem w32_e {x : Int64} (h : w32 x) : x.toInt32.toInt64 = x := by
  apply Int64.toInt_inj.mp
  rw [Int32.toInt_toInt64, Int64.toInt_toInt32]
  unfold w32 at h
  rw [Int.bmod_eq_of_le (by omega) (by omega)]
theorem jl32 {z x : Int64} (h : jn_lim z = some x) : w32 x := by
  unfold jn_lim at h
  split at h
  · cases h
  · rename_i q
    cases h
    have q1 : ¬ (1000000000 : Int64) < z := fun e => q (.inl e)
    have q2 : ¬ z < (-1000000000 : Int64) := fun e => q (.inr e)
    rw [Int64.lt_iff_toInt_lt] at q1 q2
    have e1 : (1000000000 : Int64).toInt = 1000000000 := by decide
    have e2 : (-1000000000 : Int64).toInt = -1000000000 := by decide
    rw [e1] at q1
    rw [e2] at q2
    unfold w32
    omega
theorem dj32 {s : Int32} (hs : s = 9 ∨ s = 10 ∨ s = 11 ∨ s = 12 ∨ s = 13) (d e : Den) : d32 (d_join s d e) := by
  intro vals x h
  unfold d_join at h
  cases h1 : d vals with
  | none => rw [h1] at h; cases h
  | some a =>
    rw [h1, p_bs] at h
    cases h2 : e vals with
    | none => rw [h2] at h; cases h
    | some b =>
      rw [h2, p_bs] at h
      rcases hs with rfl | rfl | rfl | rfl | rfl
      · rw [jn_9] at h; exact jl32 h
      · rw [jn_10] at h; exact jl32 h
      · rw [jn_11] at h; exact jl32 h
      · rw [jn_12] at h
        split at h
        · cases h
        · exact jl32 h
      · rw [jn_13] at h
        split at h
        · cases h
        · exact jl32 h
theorem al_sumJ {P : Den → Prop} {c v : Nat → Int32} {o : Bool} (hs : alO P op_sum) (ht : alO P op_trm) (hl : al P (sp_leaf c v o)) : ∀ r, al P (sp_sum c v o r)
  | 0 => al_chn hs (al_chn ht (al_part hl alS_none))
  | r + 1 => al_chn hs (al_chn ht (al_part hl (alS_some (al_sumJ hs ht hl r))))
theorem leaf_32 (c v : Nat → Int32) : al d32 (sp_leaf c v true) := by
  intro p n r h vals x hx
  unfold sp_leaf at h
  simp only [if_true, true_and] at h
  split at h
  · split at h
    · cases h
    · cases h; cases hx; exact w32_i _
  split at h
  · split at h
    · cases h
    split at h
    · split at h
      · cases h; cases hx; exact w32_i _
      · cases h
    · cases h; cases hx; exact w32_i _
  · cases h
theorem al_32 (c v : Nat → Int32) (r : Nat) : al d32 (sp_sum c v true r) := by
  refine al_sumJ (fun x g hg d e _ _ => ?_) (fun x g hg d e _ _ => ?_) (leaf_32 c v) r
  · unfold op_sum at hg
    split at hg
    · cases hg; exact dj32 (by decide) d e
    split at hg
    · cases hg; exact dj32 (by decide) d e
    · cases hg
  · unfold op_trm at hg
    split at hg
    · cases hg; exact dj32 (by decide) d e
    split at hg
    · cases hg; exact dj32 (by decide) d e
    split at hg
    · cases hg; exact dj32 (by decide) d e
    · cases hg
/-! how CLAUSES of ORDERS are made -/
def wfO (x : Cls) : Prop := (∀ d, (x.2.1 = some d ∨ x.2.2.1 = some d) → d_ov d ∧ d32 d) ∧ (∀ d, x.2.2.2.1 = some d → d_ov d) ∧ (∃ t : Nat, 1 ≤ t ∧ t ≤ 20 ∧ x.2.2.2.2 = nI t)
  ∧ (((x.1 = 0 ∨ x.1 = 1) ∧ (∃ d, x.2.1 = some d) ∧ x.2.2.1 = none) ∨ (x.1 = 2 ∧ (∃ d, x.2.1 = some d) ∧ ∃ d, x.2.2.1 = some d) ∨ (x.1 = 3 ∧ x.2.1 = none ∧ x.2.2.1 = none))
theorem agr_ov : alJ d_ov := agr_J ovA
theorem wfO_if {c v : Nat → Int32} {p n : Nat} {k : Int32} {a b : Option Den} {t : Int32} {r : Nat × Nat × Cls} (h : sp_if c v true p n k a b t = .inr r) (hd : ∀ d, (a = some d ∨ b = some d) → d_ov d ∧ d32 d) (ht : ∃ t' : Nat, 1 ≤ t' ∧ t' ≤ 20 ∧ t = nI t')
    (hk : ((k = 0 ∨ k = 1) ∧ (∃ d, a = some d) ∧ b = none) ∨ (k = 2 ∧ (∃ d, a = some d) ∧ ∃ d, b = some d) ∨ (k = 3 ∧ a = none ∧ b = none)) : wfO r.2.2 := by
  unfold sp_if at h
  split at h
  · cases h2 : sp_test c v true 8 (p + 1) n with
    | inl e => rw [h2] at h; cases h
    | inr q =>
      rw [h2] at h
      cases h
      refine ⟨hd, fun d e => ?_, ht, hk⟩
      cases e
      exact al_test agr_ov (leaf_ov c v) 8 _ _ _ h2
  · cases h
    exact ⟨hd, (fun d e => by cases e), ht, hk⟩
theorem wfO_times {c v : Nat → Int32} {p n : Nat} {k : Int32} {a b : Option Den} {r : Nat × Nat × Cls} (h : sp_times c v p n k a b = .inr r) (hd : ∀ d, (a = some d ∨ b = some d) → d_ov d ∧ d32 d)
    (hk : ((k = 0 ∨ k = 1) ∧ (∃ d, a = some d) ∧ b = none) ∨ (k = 2 ∧ (∃ d, a = some d) ∧ ∃ d, b = some d) ∨ (k = 3 ∧ a = none ∧ b = none)) : wfO r.2.2 := by
  unfold sp_times at h
  split at h
  · split at h
    · rename_i q
      obtain ⟨t, ht, e⟩ := i_le_of (m := 20) (n := 20) rfl (by omega) (Int32.le_trans (by decide) q.2.1) q.2.2
      refine wfO_if h hd ⟨t, ?_, ht, e⟩ hk
      have := q.2.1
      rw [e] at this
      exact (i_leI (a := 1) rfl rfl (by omega) (by omega)).mp this
    · cases h
  · exact wfO_if h hd ⟨1, by omega, by omega, rfl⟩ hk
theorem wfO_ord1 {c v : Nat → Int32} {p n : Nat} {r : Nat × Nat × Cls} (h : sp_ord1 c v p n = .inr r) : wfO r.2.2 := by
  have S1 : ∀ p n q, sp_sum c v true 8 p n = .inr q → d_ov q.2.2 ∧ d32 q.2.2 := fun p n q hq => ⟨al_sum agr_ov (leaf_ov c v) 8 _ _ _ hq, al_32 c v 8 _ _ _ hq⟩
  unfold sp_ord1 at h
  split at h
  · cases h2 : sp_sum c v true 8 (p + 1) n with
    | inl e => rw [h2] at h; cases h
    | inr q =>
      rw [h2] at h
      dsimp only at h
      split at h
      · cases h3 : sp_sum c v true 8 (q.1 + 1) q.2.1 with
        | inl e => rw [h3] at h; cases h
        | inr u =>
          rw [h3] at h
          refine wfO_times h (fun d e => ?_) (.inr (.inl ⟨rfl, ⟨_, rfl⟩, ⟨_, rfl⟩⟩))
          rcases e with e | e
          · cases e; exact S1 _ _ _ h2
          · cases e; exact S1 _ _ _ h3
      · cases h
  split at h
  · rename_i hc
    cases h2 : sp_sum c v true 8 (p + 1) n with
    | inl e => rw [h2] at h; cases h
    | inr q =>
      rw [h2] at h
      refine wfO_times h (fun d e => ?_) (.inl ⟨?_, ⟨_, rfl⟩, rfl⟩)
      · rcases e with e | e
        · cases e; exact S1 _ _ _ h2
        · cases e
      · rcases hc with e | e <;> rw [e] <;> decide
  split at h
  · exact wfO_times h (fun d e => by rcases e with e | e <;> cases e) (.inr (.inr ⟨rfl, rfl, rfl⟩))
  · cases h
theorem wfO_cll {c v : Nat → Int32} {z : Nat} : ∀ (f p n : Nat) (D0 D : List Cls), (∀ x ∈ D0, wfO x) → sp_cll c v true z f p n D0 = .inr D → ∀ x ∈ D, wfO x
  | 0, p, n, D0, D, h0, h => by
    unfold sp_cll at h
    split at h
    · cases h
    · split at h
      · cases h
      · cases h; exact h0
  | f + 1, p, n, D0, D, h0, h => by
    unfold sp_cll at h
    split at h
    · cases h2 : sp_cls c v true (p + 1) n with
      | inl e => rw [h2] at h; cases h
      | inr r =>
        rw [h2] at h
        refine wfO_cll f r.1 r.2.1 (D0 ++ [r.2.2]) D (fun x hx => ?_) h
        rcases List.mem_append.mp hx with q | q
        · exact h0 x q
        · simp at q
          subst q
          exact wfO_ord1 h2
    · split at h
      · cases h
      · cases h; exact h0
theorem wfO_text {c v : Nat → Int32} {z : Nat} {D : List Cls} (h : sp_text c v true z = .inr D) : ∀ x ∈ D, wfO x := by
  unfold sp_text at h
  cases h2 : sp_cls c v true 0 0 with
  | inl e => rw [h2] at h; cases h
  | inr r =>
    rw [h2] at h
    refine wfO_cll 11 r.1 r.2.1 [r.2.2] D (fun x hx => ?_) h
    simp at hx
    subst hx
    exact wfO_ord1 h2
/-! they are run -/
abbrev OS : Type := (Nat → Int32) × Int32 × Int32
def sm (vals : Nat → Int32) (o : Option Den) : Option Int64 := match o with
  | none => some 0
  | some d => d vals
def can (n : Nat) (k : Nat → Int32) (kind p q : Int32) : Bool :=
  if kind = 3 then decide (k 17 < 999)
  else decide (kind = 2 → 0 ≤ q ∧ q ≤ 9) && decide (0 ≤ p ∧ p < nI n) && decide (kind = 1 → bt (k 0) p.toNatClampNeg = false) && decide (kind = 2 → k (1 + p.toNatClampNeg) ≠ q)
def pf (L : Option (List Cls)) (n : Nat) (k : Nat → Int32) (kind p q : Int32) : Nat → Int32 :=
  if kind = 3 then mn L n 0 k else if kind = 0 then kup (kup k 0 (k 0 &&& (((1 : Int32) <<< (p &&& 31)) ^^^ -1))) (9 + p.toNatClampNeg) 0
  else if kind = 1 then kup k 0 (k 0 ||| ((1 : Int32) <<< (p &&& 31))) else kup k (1 + p.toNatClampNeg) q
def ac1 (L : Option (List Cls)) (n : Nat) (kind : Int32) (s : OS) (a b : Option Int64) : Option OS := match a, b with
  | some x, some y => if can n s.1 kind x.toInt32 y.toInt32 = true then some (pf L n s.1 kind x.toInt32 y.toInt32, s.2.1 + 1, if kind = 3 then pcI (mn L n 0 s.1 0) else s.2.2) else none
  | _, _ => none
def o1 (L : Option (List Cls)) (n : Nat) (x : Cls) (s : OS) : Option OS :=
  if d_holds (ov n s.1 s.2.1 s.2.2) x.2.2.2.1 = true then ac1 L n x.1 s (sm (ov n s.1 s.2.1 s.2.2) x.2.1) (sm (ov n s.1 s.2.1 s.2.2) x.2.2.1) else some s
def oT (L : Option (List Cls)) (n : Nat) (x : Cls) : Nat → OS → Option OS
  | 0, s => some s
  | t + 1, s => (o1 L n x s).bind (oT L n x t)
def oR (L : Option (List Cls)) (n : Nat) : List Cls → Nat → OS → OS ⊕ Nat
  | [], _, s => .inl s
  | x :: D, i, s => match oT L n x (x.2.2.2.2).toNatClampNeg s with
    | none => .inr i
    | some s' => oR L n D (i + 1) s'
theorem pf_kM {L : Option (List Cls)} {n : Nat} {k : Nat → Int32} {kind p q : Int32} (h : kM n k) (hn : n ≤ 8) (hk : kind = 0 ∨ kind = 1 ∨ kind = 2 ∨ kind = 3) (hc : can n k kind p q = true) : kM n (pf L n k kind p q) := by
  have tw := two_le hn
  obtain ⟨o, ho, e0⟩ := id h.1
  by_cases h3 : kind = 3
  · subst h3
    have : k 17 < 999 := of_decide_eq_true hc
    exact kM_min h hn (fun e => by rw [e] at this; exact absurd this (by decide))
  · unfold can at hc
    rw [if_neg h3] at hc
    simp only [Bool.and_eq_true, decide_eq_true_eq] at hc
    obtain ⟨⟨⟨c1, c2⟩, c3⟩, c4⟩ := hc
    obtain ⟨c, hc', rfl⟩ : ∃ c : Nat, c < n ∧ p = nI c := by
      obtain ⟨c, hc'⟩ := nI_of (Int32.not_lt.mpr c2.1)
      refine ⟨c, ?_, hc'.2⟩
      have := c2.2
      rw [hc'.2] at this
      exact (nI_ltI hc'.1 (by omega)).mp this
    unfold pf
    rw [if_neg h3, nI_clamp (by omega)]
    rcases hk with rfl | rfl | rfl | rfl
    · rw [if_pos rfl]; exact kM_shut h hn (by omega) (by omega) e0 0
    · rw [if_neg (by decide), if_pos rfl]; exact kM_open h hn hc'
    · rw [if_neg (by decide), if_neg (by decide)]; exact kM_want h (by omega) (c1 rfl).1
    · exact absurd rfl h3
theorem pf_ge {L : Option (List Cls)} {n : Nat} {k : Nat → Int32} {kind p q : Int32} (hn : n ≤ 8) (hc : can n k kind p q = true) : ∀ z, 18 ≤ z → pf L n k kind p q z = k z := by
  intro z hz
  unfold pf
  by_cases h3 : kind = 3
  · rw [if_pos h3]; exact mn_ge hn hz
  · unfold can at hc
    rw [if_neg h3] at hc
    simp only [Bool.and_eq_true, decide_eq_true_eq] at hc
    obtain ⟨⟨⟨c1, c2⟩, c3⟩, c4⟩ := hc
    obtain ⟨c, hc', rfl⟩ : ∃ c : Nat, c < n ∧ p = nI c := by
      obtain ⟨c, hc'⟩ := nI_of (Int32.not_lt.mpr c2.1)
      refine ⟨c, ?_, hc'.2⟩
      have := c2.2
      rw [hc'.2] at this
      exact (nI_ltI hc'.1 (by omega)).mp this
    rw [if_neg h3, nI_clamp (by omega)]
    split
    · rw [kup_ne _ _ (by omega), kup_ne _ _ (by omega)]
    split
    · rw [kup_ne _ _ (by omega)]
    · rw [kup_ne _ _ (by omega)]
end sp98m
