noncomputable section sp66
def pcI (x : Int32) : Int32 := nI (pc x.toNatClampNeg)
/-- what the words of LAWS stand for, asked of one -/
def env (k : Nat → Int32) (h : Nat) : Nat → Int32 := fun i => if i = 0 then nI h else if i = 1 then k (1 + h) else if i = 2 then k (18 + h) else if i = 3 then pcI (k (26 + h) &&& k 0) else if i = 4 then pcI (k 0) else if i = 5 then k (9 + h) else if i = 6 then k 17 else if i = 7 then k 47 else k 48
theorem nI_and {a b : Nat} (ha : a < 256) (hb : b < 256) : nI a &&& nI b = nI (a &&& b) ∧ (a &&& b) < 256 := by
  refine ⟨?_, Nat.lt_of_le_of_lt Nat.and_le_left ha⟩
  apply Int32.toBitVec_inj.1
  show BitVec.ofNat 32 a &&& BitVec.ofNat 32 b = BitVec.ofNat 32 (a &&& b)
  apply BitVec.eq_of_toNat_eq
  simp only [BitVec.toNat_and, BitVec.toNat_ofNat]
  have h3 : a &&& b < 2 ^ 32 := Nat.lt_of_le_of_lt Nat.and_le_left (by omega)
  rw [Nat.mod_eq_of_lt (show a < 2 ^ 32 by omega), Nat.mod_eq_of_lt (show b < 2 ^ 32 by omega), Nat.mod_eq_of_lt h3]
theorem pcI_nI {o : Nat} (h : o < 256) : pcI (nI o) = nI (pc o) := by unfold pcI; rw [nI_clamp (by omega)]
def kB (k : Nat → Int32) : Prop := (∃ o : Nat, o < 256 ∧ k 0 = nI o) ∧ ∀ h, h < 8 → ∃ w : Nat, w < 256 ∧ k (26 + h) = nI w
theorem kK_B {k : Nat → Int32} (h : kK k) : kB k := by
  obtain ⟨n, tl, k1, k2, k3, k4, k5, k6, k7, k8, k9⟩ := h
  have t := two_le k1
  obtain ⟨o, ho, e⟩ := k3.1
  exact ⟨⟨o, by omega, e⟩, fun h hh => by obtain ⟨w, hw, e⟩ := k4 h hh; exact ⟨w, by omega, e⟩⟩
theorem m_near {I : v_I} {h : Nat} (hk : kB (I 51)) (hh : h < 8) : h_X10_nearOf I (nI h) = some (pcI (I 51 (26 + h) &&& I 51 0)) := by
  obtain ⟨⟨o, ho, e0⟩, hw⟩ := hk
  obtain ⟨w, hw, e1⟩ := hw h hh
  unfold h_X10_nearOf
  rw [show (26 : Int32) = nI 26 from rfl, p_inA (c := 26) (k := h) rfl (by omega) (by omega), p_bs, e0, e1, (nI_and hw ho).1, b_ones (nI_and hw ho).2, p_bs, pcI_nI (nI_and hw ho).2]
theorem m_asked {I : v_I} {h : Nat} (hk : kB (I 51)) (hh : h < 8) : wp (h_X10_setsAsked I (nI h)) (fun I1 => (∀ j, j < 9 → I1 61 j = env (I 51) h (wi_law (nI (8 + j)))) ∧ ∀ a j, a ≠ 61 → I1 a j = I a j) := by
  obtain ⟨o, ho, e0⟩ := id hk.1
  unfold h_X10_setsAsked
  have r51 : ∀ (I1 : v_I) (j : Nat) (x : Int32), v_up I1 61 j x 51 = I1 51 := fun I1 j x => v_up_row I1 61 j x (by decide)
  rw [p_le, show (18 : Int32) = nI 18 from rfl, p_inA (c := 18) (k := h) rfl (by omega) (by omega), p_bs, p_le, m_near (by simp only [r51]; exact hk) hh, p_bs, p_le, p_le, p_le,
    show (1 : Int32) = nI 1 from rfl, p_inA (c := 1) (k := h) rfl (by omega) (by omega), p_bs, p_le, show (9 : Int32) = nI 9 from rfl, p_inA (c := 9) (k := h) rfl (by omega) (by omega), p_bs, p_le]
  simp only [r51]
  rw [e0, b_ones ho, p_bs, p_le, p_le]
  simp only [r51]
  rw [← e0]
  refine wp_some.mpr ⟨fun j hj => ?_, fun a j ha => ?_⟩
  · rcases (show j = 0 ∨ j = 1 ∨ j = 2 ∨ j = 3 ∨ j = 4 ∨ j = 5 ∨ j = 6 ∨ j = 7 ∨ j = 8 by omega) with rfl | rfl | rfl | rfl | rfl | rfl | rfl | rfl | rfl
    · simp [v_up, show wi_law (nI (8 + 0)) = 0 by decide, env]
    · simp [v_up, show wi_law (nI (8 + 1)) = 2 by decide, env]
    · simp [v_up, show wi_law (nI (8 + 2)) = 3 by decide, env]
    · simp [v_up, show wi_law (nI (8 + 3)) = 7 by decide, env]
    · simp [v_up, show wi_law (nI (8 + 4)) = 8 by decide, env]
    · simp [v_up, show wi_law (nI (8 + 5)) = 1 by decide, env]
    · simp [v_up, show wi_law (nI (8 + 6)) = 5 by decide, env]
    · simp [v_up, show wi_law (nI (8 + 7)) = 4 by decide, env]
      rw [e0, pcI_nI ho]
    · simp [v_up, show wi_law (nI (8 + 8)) = 6 by decide, env]
  · simp [v_up, ha]
theorem mo_if {c v : Nat → Int32} {o : Bool} {N p n : Nat} {k : Int32} {a b : Option Den} {t : Int32} {r : Nat × Nat × Cls} (hc : cz c N) (h : sp_if c v o p n k a b t = .inr r) (hp : p ≤ N) : p ≤ r.1 ∧ r.1 ≤ N := by
  unfold sp_if at h
  split at h
  · split at h
    · cases h
    · rename_i q hq
      have := mo_test hc _ _ _ _ hq
      cases h
      exact ⟨by dsimp only; omega, by dsimp only; omega⟩
  · cases h; exact ⟨Nat.le_refl _, hp⟩
theorem mo_law1 {c v : Nat → Int32} {N p n : Nat} {r : Nat × Nat × Cls} (hc : cz c N) (h : sp_law1 c v p n = .inr r) : p < r.1 ∧ r.1 ≤ N := by
  unfold sp_law1 at h
  split at h
  · rename_i q0
    split at h
    · cases h
    · rename_i q hq
      have := mo_sum hc _ _ _ _ hq
      have := mo_if hc h this.2
      omega
  · split at h
    · rename_i q
      have a := cz_lt' hc q (by decide)
      have := mo_if hc h (show p + 1 ≤ N by omega)
      omega
    · cases h
def mcl (z : Int64) : Int64 := if 0 ≤ z then (if z ≤ 9 then z else 9) else 0
theorem mcl_clip (z : Int64) : (mcl z).toInt32 = d_clip z := by
  unfold mcl d_clip p_maxL p_minL
  by_cases h0 : 0 ≤ z
  · rw [if_pos h0]
    by_cases h9 : z ≤ 9
    · rw [if_pos h9, if_neg (Int64.not_lt.mpr h9), if_neg (Int64.not_lt.mpr h0)]
    · rw [if_neg h9, if_pos (Int64.not_le.mp h9), if_neg (by decide)]
  · rw [if_neg h0]
    have h1 := Int64.not_le.mp h0
    rw [if_neg (Int64.not_lt.mpr (Int64.le_trans (Int64.le_of_lt h1) (by decide))), if_pos h1]
def spV (vals : Nat → Int32) (kind was : Int32) (a : Option Den) : Int32 := if kind = 2 then 1 else match a with
  | none => was
  | some d => match d vals with
    | none => was
    | some x => d_clip x
theorem sp_one_V (vals : Nat → Int32) (kind was k : Int32) (a b T : Option Den) (t : Int32) : sp_one vals kind was (k, a, b, T, t) = if k = kind ∧ d_holds vals T = true then spV vals kind was a else was := rfl
/-- a CLAUSE's end: does it hold, what becomes of what is told -/
theorem m_if {I : v_I} {c v : Nat → Int32} {vals : Nat → Int32} {B N : Nat} (E : Ev I c v false vals B N) {p n : Nat} {k : Int32} {a : Option Den} {r : Nat × Nat × Cls} (h : sp_if c v false p n k a none 1 = .inr r) (hp : p ≤ N)
    (head is : Int32) (y z : Int64) (sb kind : Int32) (hk : is = head ↔ k = kind) (hsb : sb = 0 ∨ sb = 1)
    (hV : k = kind → ∀ was : Int32, spV vals kind was a = if sb = 0 then d_clip z else was) :
    wp (h_X10_tells_J66_117 head (gs I (B + p) sb) y is z) (fun x => ∃ y' b', x = .inl (y', gs I (B + (r.1 + 1)) b') ∧ y'.toInt32 = sp_one vals kind y.toInt32 r.2.2) := by
  obtain ⟨h1, h2, h3, h4, h5, h6, h7, h8, h9⟩ := id E
  have hm := mo_if h6 h hp
  have ge : ∀ x y : Int64, (0 ≤ lg_cmp x y) ↔ y ≤ x := fun x y => by
    rw [← Int64.not_lt, ← b_neg x y]; exact ⟨fun a b => absurd b (Int32.not_lt.mpr a), fun a => Int32.not_lt.mp a⟩
  have le : ∀ x y : Int64, (lg_cmp x y ≤ 0) ↔ x ≤ y := fun x y => by
    rw [← Int64.not_lt, ← b_pos x y]; exact ⟨fun a b => absurd b (Int32.not_lt.mpr a), fun a => Int32.not_lt.mp a⟩
  have j206 : ∀ y q b, h_X10_tells_J66_206 head (gs I (B + q) b) y = some (.inl (y, gs I (B + (q + 1)) b)) := by
    intro y q b
    unfold h_X10_tells_J66_206
    rw [p_le, gs_inc]; rfl
  have j151 : ∀ q b z0, h_X10_tells_J66_151 head (gs I (B + q) b) y is z sb z0 = some (.inl ((if is = head ∧ z0 ≠ 0 ∧ b = 0 ∧ sb = 0 then mcl z else y), gs I (B + (q + 1)) b)) := by
    intro q b z0
    unfold h_X10_tells_J66_151 h_X10_tells_J66_204
    simp only [gs_24, j206, ge, le]
    by_cases q1 : is = head
    · rw [if_pos q1]
      by_cases q2 : z0 = 0
      · rw [if_pos q2, if_neg (fun e => e.2.1 q2)]
      · rw [if_neg q2]
        by_cases q3 : b = 0
        · rw [if_pos q3]
          by_cases q4 : sb = 0
          · rw [if_pos q4, if_pos (show is = head ∧ z0 ≠ 0 ∧ b = 0 ∧ sb = 0 from ⟨q1, q2, q3, q4⟩)]
            unfold mcl
            by_cases g0 : 0 ≤ z
            · rw [if_pos g0, if_pos g0]
              split <;> rfl
            · rw [if_neg g0, if_neg g0]
          · rw [if_neg q4, if_neg (fun e => q4 e.2.2.2)]
        · rw [if_neg q3, if_neg (fun e => q3 e.2.2.1)]
    · rw [if_neg q1, if_neg (fun e => q1 e.1)]
  unfold h_X10_tells_J66_117 h_X10_tells_J66_146
  rw [gs_24, p_le, p_le, gs_br, ev_pass E _ (by omega), p_bs]
  -- what a clause makes of it
  have one : ∀ (T : Option Den) (b : Bool), d_holds vals T = b → sp_one vals kind y.toInt32 (k, a, none, T, 1) = (if is = head ∧ b = true ∧ sb = 0 then mcl z else y).toInt32 := by
    intro T b hb
    rw [sp_one_V]
    by_cases q1 : k = kind
    · cases b with
      | true =>
        rw [if_pos ⟨q1, hb⟩, hV q1]
        by_cases q4 : sb = 0
        · rw [if_pos q4, if_pos ⟨hk.mpr q1, rfl, q4⟩, mcl_clip]
        · rw [if_neg q4, if_neg (fun e => q4 e.2.2)]
      | false =>
        rw [if_neg (fun e => by rw [hb] at e; exact absurd e.2 (by decide)), if_neg (fun e => absurd e.2.1 (by decide))]
    · rw [if_neg (fun e => q1 e.1), if_neg (fun e => q1 (hk.mp e.1))]
  unfold sp_if at h
  by_cases q : c p = 4
  · rw [if_pos q] at h ⊢
    dsimp only
    rw [if_neg (by decide)]
    cases ht : sp_test c v false 8 (p + 1) n with
    | inl e => rw [ht] at h; cases h
    | inr u =>
      rw [ht] at h
      cases h
      dsimp only
      refine wp_seq (okE_test E GN_eq 8 GNN (by omega) (by rw [GN_eq]; omega) (p + 1) n u ht 1 0 (.inr rfl) (.inl rfl)) fun s hs => ?_
      obtain ⟨t1, t2, t3⟩ := hs
      have fin : wp (h_X10_tells_J66_151 head s.2 y is z sb s.1) (fun x => ∃ y' b', x = .inl (y', gs I (B + (u.1 + 1)) b') ∧ y'.toInt32 = sp_one vals kind y.toInt32 (k, a, none, some u.2.2, 1)) := by
        rw [t1, j151]
        refine wp_some.mpr ⟨_, _, rfl, ?_⟩
        rw [one (some u.2.2) (decide (u.2.2 vals = some 1)) rfl]
        congr 1
        have : (s.1 ≠ 0 ∧ nb 1 0 (u.2.2 vals) = 0) ↔ u.2.2 vals = some 1 := by
          cases hv : u.2.2 vals with
          | none =>
            rw [nb_n]
            exact ⟨fun e => absurd e.2 (by decide), fun e => by cases e⟩
          | some x =>
            rw [nb_s]
            rcases t3 rfl rfl x hv with ⟨e1, e2⟩ | ⟨e1, e2⟩
            · rw [e1, e2]; exact ⟨fun e => absurd rfl e.1, fun e => by cases e⟩
            · rw [e1, e2]; exact ⟨fun _ => rfl, fun _ => ⟨by decide, rfl⟩⟩
        by_cases w : is = head ∧ sb = 0 ∧ u.2.2 vals = some 1
        · rw [if_pos ⟨w.1, (this.mpr w.2.2).1, (this.mpr w.2.2).2, w.2.1⟩, if_pos ⟨w.1, decide_eq_true w.2.2, w.2.1⟩]
        · rw [if_neg (fun e => w ⟨e.1, e.2.2.2, this.mp ⟨e.2.1, e.2.2.1⟩⟩), if_neg (fun e => w ⟨e.1, e.2.2, of_decide_eq_true e.2.1⟩)]
      by_cases s0 : s.1 = 0
      · rw [if_pos s0]; rw [s0] at fin; exact fin
      · rw [if_neg s0]; rw [t2.resolve_left s0] at fin; exact fin
  · rw [if_neg q] at h ⊢
    cases h
    dsimp only
    rw [if_pos rfl, j151]
    refine wp_some.mpr ⟨_, _, rfl, ?_⟩
    rw [one none true rfl]
    congr 1
    by_cases w : is = head ∧ sb = 0
    · rw [if_pos ⟨w.1, by decide, rfl, w.2⟩, if_pos ⟨w.1, rfl, w.2⟩]
    · rw [if_neg (fun e => w ⟨e.1, e.2.2.2⟩), if_neg (fun e => w ⟨e.1, e.2.2⟩)]
theorem m_clause {I : v_I} {c v : Nat → Int32} {vals : Nat → Int32} {B N : Nat} (E : Ev I c v false vals B N) {p n : Nat} {r : Nat × Nat × Cls} (h : sp_law1 c v p n = .inr r) (kind : Int32) (hk : kind = 0 ∨ kind = 1 ∨ kind = 2) (y : Int64) (b : Int32) :
    wp (h_X10_tells_B66 (kind + 1) (y, gs I (B + p) b)) (fun x => ∃ y' b', x = .inl (y', gs I (B + (r.1 + 1)) b') ∧ y'.toInt32 = sp_one vals kind y.toInt32 r.2.2) := by
  obtain ⟨h1, h2, h3, h4, h5, h6, h7, h8, h9⟩ := id E
  have hm := mo_law1 h6 h
  unfold h_X10_tells_B66
  dsimp only
  rw [if_neg (by rw [gs_22, gs_ne _ _ _ (by omega), h3]; exact nI_ge (by omega) (by omega)), gs_22, ev_code E _ _ (by omega), p_bs, p_le, gs_br, p_le, gs_inc]
  unfold sp_law1 at h
  by_cases q : c p = 1 ∨ c p = 2
  · rw [if_pos q] at h
    rw [if_neg (by rcases q with e | e <;> rw [e] <;> decide)]
    cases hs : sp_sum c v false 8 (p + 1) n with
    | inl e => rw [hs] at h; cases h
    | inr u =>
      rw [hs] at h
      dsimp only at h
      have mu := mo_sum h6 _ _ _ _ hs
      refine wp_seq (okE_sum E 8 GNN (by rw [GN_eq]; omega) (p + 1) n u hs 1 0 (.inr rfl) (.inl rfl)) fun s hs => ?_
      obtain ⟨t1, -, t3⟩ := hs
      rw [t1]
      refine m_if E h mu.2 (kind + 1) (c p) y s.1 _ kind ?_ (nb_bit (.inl rfl)) ?_
      · rcases q with e | e <;> rcases hk with rfl | rfl | rfl <;> rw [e] <;> decide
      · intro hkk was
        unfold spV
        rw [if_neg (by rcases q with e | e <;> rw [e] at hkk <;> rw [← hkk] <;> decide)]
        dsimp only
        cases hv : u.2.2 vals with
        | none => rw [nb_n, if_neg (by decide)]
        | some x => rw [nb_s, if_pos rfl, t3 rfl rfl x hv]
  · rw [if_neg q] at h
    by_cases q3 : c p = 3
    · rw [if_pos q3] at h ⊢
      refine m_if E h (by omega) (kind + 1) (c p) y 1 0 kind ?_ (.inl rfl) ?_
      · rcases hk with rfl | rfl | rfl <;> rw [q3] <;> decide
      · intro hkk was
        unfold spV
        rw [if_pos hkk.symm, if_pos rfl]
        decide
    · rw [if_neg q3] at h; cases h
theorem m_cll {I : v_I} {c v : Nat → Int32} {vals : Nat → Int32} {B N : Nat} (E : Ev I c v false vals B N) (kind : Int32) (hk : kind = 0 ∨ kind = 1 ∨ kind = 2) (w : Int32) : ∀ (f p n : Nat) (D0 D : List Cls) (m : Nat) (y : Int64) (b : Int32), sp_cll c v false N f p n D0 = .inr D → p ≤ N → f + 1 < m → y.toInt32 = sp_told vals kind w D0 →
    wp (v_loop (h_X10_tells_B66 (kind + 1)) m (y, gs I (B + (p + 1)) b)) (fun s => s.1.toInt32 = sp_told vals kind w D ∧ ∃ q b, s.2 = gs I q b) := by
  obtain ⟨h1, h2, h3, h4, h5, h6, h7, h8, h9⟩ := id E
  have stop : ∀ p y b, N ≤ p → p ≤ 1000 → h_X10_tells_B66 (kind + 1) (y, gs I (B + (p + 1)) b) = some (.inr (y, gs I (B + (p + 1)) b)) := by
    intro p y b hp hp2
    unfold h_X10_tells_B66
    dsimp only
    rw [if_pos (by rw [gs_22, gs_ne _ _ _ (by omega), h3]; exact nI_le (by omega) (by omega))]
  intro f
  induction f with
  | zero =>
    intro p n D0 D m y b h hp hm hy
    obtain ⟨m, rfl⟩ : ∃ k, m = k + 1 := ⟨m - 1, by omega⟩
    unfold sp_cll at h
    split at h
    · cases h
    split at h
    · cases h
    · cases h
      simp only [v_loop, stop p y b (by omega) (by omega)]
      exact wp_some.mpr ⟨hy, _, _, rfl⟩
  | succ f ih =>
    intro p n D0 D m y b h hp hm hy
    obtain ⟨m, rfl⟩ : ∃ k, m = k + 1 := ⟨m - 1, by omega⟩
    unfold sp_cll at h
    split at h
    · split at h
      · cases h
      · rename_i r hr
        have hr' : sp_law1 c v (p + 1) n = .inr r := hr
        obtain ⟨x, ex, y', b', rfl, hy'⟩ := m_clause E hr' kind hk y b
        have mr := mo_law1 h6 hr'
        simp only [v_loop, ex]
        refine ih _ _ _ _ m y' b' h mr.2 (by omega) ?_
        rw [sp_told_snoc, ← hy]; exact hy'
    · split at h
      · cases h
      · cases h
        simp only [v_loop, stop p y b (by omega) (by omega)]
        exact wp_some.mpr ⟨hy, _, _, rfl⟩
/-- what the model's reckoning leaves alone -/
def fm (I I' : v_I) : Prop := ∀ a j, a ≠ 61 → ¬ (a = 49 ∧ 22 ≤ j ∧ j ≤ 25) → I' a j = I a j
theorem fm_refl (I : v_I) : fm I I := fun _ _ _ _ => rfl
theorem fm_trans {I I' I'' : v_I} (h : fm I I') (h' : fm I' I'') : fm I I'' := fun a j q q' => (h' a j q q').trans (h a j q q')
theorem fm_51 {I I' : v_I} (h : fm I I') : I' 51 = I 51 := funext fun j => h 51 j (by decide) (by omega)
theorem m_tells {I : v_I} {t h : Nat} {D : List Cls} (hk : kB (I 51)) (hh : h < 8) (ht : t < 6) (hf : I 51 52 = nI t) (hD : tk_D false (I 51) t D) (kind : Int32) (hkd : kind = 0 ∨ kind = 1 ∨ kind = 2) (w : Int32) :
    wp (h_X10_tells I (kind + 1) (nI h) w) (fun r => r.1 = sp_told (env (I 51) h) kind w D ∧ fm I r.2) := by
  obtain ⟨N, hN, hsz, hp⟩ := hD
  unfold h_X10_tells
  rw [if_neg (by rw [hf]; exact fun q => absurd (show nI t < 0 by rw [q]; decide) (nI_pos (by omega)))]
  refine wp_seq (m_asked hk hh) fun I1 h1 => ?_
  obtain ⟨a1, a2⟩ := h1
  have r51 : I1 51 = I 51 := funext fun j => a2 51 j (by decide)
  have m400 : (400 : Int32) * nI t = nI (400 * t) := by
    have : ∀ t : Nat, t < 6 → (400 : Int32) * nI t = nI (400 * t) := by decide
    exact this t ht
  rw [p_le, p_le, v_up_row _ 49 25 _ (by decide), r51, hf, m400]
  rw [v_up_row _ 49 22 _ (by decide), v_up_row _ 49 25 _ (by decide), r51, hf, show (53 : Int32) = nI 53 from rfl, p_inA (c := 53) (k := t) rfl (by omega) (by omega), p_bs, p_le, w_at, hsz]
  generalize hI2 : v_up (v_up (v_up I1 49 25 0) 49 22 (nI (400 * t))) 49 23 (nI (400 * t) + nI N) = I2
  have k51 : I2 51 = I 51 := by
    rw [← hI2, v_up_row _ 49 23 _ (by decide), v_up_row _ 49 22 _ (by decide), v_up_row _ 49 25 _ (by decide), r51]
  have k61 : I2 61 = I1 61 := by
    rw [← hI2, v_up_row _ 49 23 _ (by decide), v_up_row _ 49 22 _ (by decide), v_up_row _ 49 25 _ (by decide)]
  have k22 : I2 49 22 = nI (400 * t) := by rw [← hI2, w_ne _ _ _ _ (by decide), w_at]
  have k23 : I2 49 23 = nI (400 * t + N) := by rw [← hI2, w_at, nI_add]
  have k25 : I2 49 25 = 0 := by rw [← hI2, w_ne _ _ _ _ (by decide), w_ne _ _ _ _ (by decide), w_at]
  have kfm : fm I I2 := by
    intro a j ha hj
    rw [← hI2]
    unfold v_up
    rw [if_neg (by omega), if_neg (by omega), if_neg (by omega)]
    exact a2 a j ha
  have I2g : I2 = gs I2 (400 * t + 0) (I2 49 24) := by
    funext a j
    unfold gs v_up
    by_cases q : a = 49 ∧ j = 24
    · rw [if_pos q, q.1, q.2]
    · rw [if_neg q]
      by_cases q2 : a = 49 ∧ j = 22
      · rw [if_pos q2, q2.1, q2.2]; exact k22
      · rw [if_neg q2]
  have E : Ev I2 (tk_c (I 51) t N) (tk_v (I 51) t N) false (env (I 51) h) (400 * t) N := by
    refine ⟨hN, by omega, k23, k25, fun p q => ?_, fun p q => ?_, fun p q => ?_, fun _ j hj => ?_, fun e => by cases e⟩
    · rw [k51]; unfold tk_c; rw [if_pos q]
    · unfold tk_c; rw [if_neg (by omega)]
    · rw [k51]; unfold tk_v; rw [if_pos q]
    · rw [k61]; exact a1 j hj
  unfold sp_text at hp
  cases h0 : sp_cls (tk_c (I 51) t N) (tk_v (I 51) t N) false 0 0 with
  | inl e => rw [h0] at hp; cases hp
  | inr r0 =>
    rw [h0] at hp
    dsimp only at hp
    have h0' : sp_law1 (tk_c (I 51) t N) (tk_v (I 51) t N) 0 0 = .inr r0 := h0
    have mr := mo_law1 E.2.2.2.2.2.1 h0'
    obtain ⟨x, ex, y', b', rfl, hy'⟩ := m_clause E h0' kind hkd w.toInt64 (I2 49 24)
    have e32 : w.toInt64.toInt32 = w := by simp
    have run : wp (v_loop (h_X10_tells_B66 (kind + 1)) FU (w.toInt64, I2)) (fun s => s.1.toInt32 = sp_told (env (I 51) h) kind w D ∧ ∃ q b, s.2 = gs I2 q b) := by
      obtain ⟨fu, hfu⟩ : ∃ n, FU = n + 1 := ⟨99999, FU_eq⟩
      rw [hfu]
      have I2e : h_X10_tells_B66 (kind + 1) (w.toInt64, I2) = some (.inl (y', gs I2 (400 * t + (r0.1 + 1)) b')) := by
        rw [← ex, ← I2g]
      simp only [v_loop, I2e]
      refine m_cll E kind hkd w 11 r0.1 r0.2.1 [r0.2.2] D fu y' b' hp mr.2 (by have := FU_eq; omega) ?_
      rw [hy', e32]; rfl
    refine wp_seq run fun s hs => ?_
    obtain ⟨s1, q, b, s2⟩ := hs
    refine wp_some.mpr ⟨s1, fm_trans kfm ?_⟩
    dsimp only
    rw [s2]
    intro a j ha hj
    exact gs_ne _ _ _ (by omega)
end sp66
