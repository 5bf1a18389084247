noncomputable section sp98g
/-! TOKENS, plainly -/
def ltr (b : Nat) : Bool := decide (97 ≤ b) && decide (b ≤ 122)
def dgt (b : Nat) : Bool := decide (48 ≤ b) && decide (b ≤ 57)
def wdm : List (List Nat) := [[110, 101, 101, 100, 115], [119, 97, 110, 116, 115], [115, 104, 117, 116, 115], [105, 102], [111, 114], [97, 110, 100], [110, 111, 116], [119, 104, 111], [115, 104, 121], [110, 101, 97, 114], [104, 117, 115, 104], [109, 111, 111, 100], [119, 97, 110, 116], [115, 116, 105, 108, 108], [97, 108, 108], [109, 105, 110, 117, 116, 101], [100, 111, 110, 101], [108, 97, 116, 101, 115, 116], [105, 115], [116, 111, 117, 99, 104], [99, 111, 97, 120], [116, 101, 109, 112, 116], [116, 111], [112, 97, 115, 115], [116, 105, 109, 101, 115]]
def wdc : List (List Nat) := [[110, 101, 101, 100, 115], [119, 97, 110, 116, 115], [115, 104, 117, 116, 115], [116, 111, 117, 99, 104], [99, 111, 97, 120], [116, 101, 109, 112, 116], [112, 97, 115, 115], [105, 102], [116, 111], [116, 105, 109, 101, 115], [111, 114], [97, 110, 100], [110, 111, 116], [119, 104, 111], [119, 97, 110, 116], [115, 104, 121], [110, 101, 97, 114], [97, 108, 108], [115, 116, 105, 108, 108], [109, 105, 110, 117, 116, 101], [104, 117, 115, 104], [109, 111, 111, 100], [100, 111, 110, 101], [108, 97, 116, 101, 115, 116], [105, 115]]
def ofm : List Nat := [0, 6, 12, 18, 21, 24, 28, 32, 36, 40, 45, 50, 55, 60, 66, 70, 77, 82, 89, 92, 98, 103, 109, 112, 117, 123]
def ofc : List Nat := [0, 6, 12, 18, 24, 29, 35, 40, 43, 46, 52, 55, 59, 63, 67, 72, 76, 81, 85, 91, 98, 103, 108, 113, 120, 123]
def wjl : List Nat := [0, 0, 0, 0, 0, 0, 1, 1, 1, 1, 1, 1, 2, 2, 2, 2, 2, 2, 3, 3, 3, 3, 3, 3, 4, 4, 4, 4, 4, 5, 5, 5, 5, 5, 5, 6, 6, 6, 6, 6, 7, 7, 7, 8, 8, 8, 9, 9, 9, 9, 9, 9, 10, 10, 10, 11, 11, 11, 11, 12, 12, 12, 12, 13, 13, 13, 13, 14, 14, 14, 14, 14, 15, 15, 15, 15, 16, 16, 16, 16, 16, 17, 17, 17, 17, 18, 18, 18, 18, 18, 18, 19, 19, 19, 19, 19, 19, 19, 20, 20, 20, 20, 20, 21, 21, 21, 21, 21, 22, 22, 22, 22, 22, 23, 23, 23, 23, 23, 23, 23, 24, 24, 24, 25]
def wol : List Nat := [0, 0, 0, 0, 0, 0, 6, 6, 6, 6, 6, 6, 12, 12, 12, 12, 12, 12, 18, 18, 18, 18, 18, 18, 24, 24, 24, 24, 24, 29, 29, 29, 29, 29, 29, 35, 35, 35, 35, 35, 40, 40, 40, 43, 43, 43, 46, 46, 46, 46, 46, 46, 52, 52, 52, 55, 55, 55, 55, 59, 59, 59, 59, 63, 63, 63, 63, 67, 67, 67, 67, 67, 72, 72, 72, 72, 76, 76, 76, 76, 76, 81, 81, 81, 81, 85, 85, 85, 85, 85, 85, 91, 91, 91, 91, 91, 91, 91, 98, 98, 98, 98, 98, 103, 103, 103, 103, 103, 108, 108, 108, 108, 108, 113, 113, 113, 113, 113, 113, 113, 120, 120, 120, 123]
def wM (j : Nat) : List Nat := wdm.getD j []
def wC (j : Nat) : List Nat := wdc.getD j []
def oM (j : Nat) : Nat := ofm.getD j 0
def oC (j : Nat) : Nat := ofc.getD j 0
def wJ (i : Nat) : Nat := wjl.getD i 0
def wO (i : Nat) : Nat := wol.getD i 0
def mi (s : List Nat) : Nat := if s ∈ wdm then wdm.idxOf s + 1 else 0
def ct (s : List Nat) : Int32 := if s ∈ wdc then nI (256 + wdc.idxOf s) else -2
theorem ct_in : ∀ s ∈ wdm, ct s = cxt (mi s) := by decide +kernel
theorem ct_sub : ∀ s ∈ wdc, s ∈ wdm := by decide +kernel
theorem mi_in : ∀ s ∈ wdm, mi s ≤ 25 := by decide +kernel
theorem ct_mi (s : List Nat) : ct s = cxt (mi s) := by
  by_cases h : s ∈ wdm
  · exact ct_in s h
  · have h' : s ∉ wdc := fun q => h (ct_sub s q)
    unfold ct mi
    rw [if_neg h, if_neg h']
    rfl
theorem mi_le (s : List Nat) : mi s ≤ 25 := by
  by_cases h : s ∈ wdm
  · exact mi_in s h
  · unfold mi
    rw [if_neg h]
    omega
theorem mi_at : ∀ j, j < 25 → mi (wM j) = j + 1 := by decide +kernel
theorem ct_at : ∀ j, j < 25 → ct (wC j) = nI (256 + j) := by decide +kernel
theorem mi_no {s : List Nat} (h : ∀ j, j < 25 → wM j ≠ s) : mi s = 0 := by
  unfold mi
  rw [if_neg]
  intro q
  obtain ⟨j, hj, e⟩ := List.mem_iff_getElem.mp q
  have hj' : j < 25 := hj
  refine h j hj' ?_
  unfold wM
  rw [List.getD_eq_getElem?_getD, List.getElem?_eq_getElem hj, e]
  rfl
theorem ct_no {s : List Nat} (h : ∀ j, j < 25 → wC j ≠ s) : ct s = -2 := by
  unfold ct
  rw [if_neg]
  intro q
  obtain ⟨j, hj, e⟩ := List.mem_iff_getElem.mp q
  have hj' : j < 25 := hj
  refine h j hj' ?_
  unfold wC
  rw [List.getD_eq_getElem?_getD, List.getElem?_eq_getElem hj, e]
  rfl
theorem oM_s : ∀ j, j < 25 → oM (j + 1) = oM j + (wM j).length + 1 ∧ oM j + (wM j).length < 123 ∧ 0 < (wM j).length := by decide +kernel
theorem oM_e : oM 25 = 123 := by decide +kernel
theorem oM_l : ∀ j, j < 25 → ∀ i, i < (wM j).length → w_row0.getD (oM j + i) 0 = nI ((wM j).getD i 0) ∧ w_row0.getD (oM j + i) 0 ≠ 32 ∧ (wM j).getD i 0 < 256 := by decide +kernel
theorem oM_b : ∀ j, j < 25 → w_row0.getD (oM j + (wM j).length) 0 = 32 := by decide +kernel
theorem wJ_0 : wJ 0 = 0 ∧ wO 0 = 0 ∧ wJ 123 = 25 := by decide +kernel
theorem wJ_n : ∀ i, i < 123 → v_wordsT.getD i 0 ≠ 32 → (wJ (i + 1) = wJ i ∧ wO (i + 1) = wO i) := by decide +kernel
theorem wJ_b : ∀ i, i < 123 → v_wordsT.getD i 0 = 32 → (wJ (i + 1) = wJ i + 1 ∧ wO (i + 1) = i + 1 ∧ wJ i < 25 ∧ wO i + (wC (wJ i)).length = i) := by decide +kernel
theorem wJ_l : ∀ i, i < 123 → v_wordsT.getD i 0 = 32 → ∀ t, t < (wC (wJ i)).length → v_wordsT.getD (wO i + t) 0 = nI ((wC (wJ i)).getD t 0) ∧ (wC (wJ i)).getD t 0 < 256 := by decide +kernel
/-- signs -/
def sgn (b : Nat) : Int32 := (nI b).toInt8.toInt32
theorem bt_1 : ∀ b, b < 256 → h_X10_isSmall (sgn b) = some (bI (ltr b)) := by decide +kernel
theorem bt_2 : ∀ b, b < 256 → h_X10_isDigit (sgn b) = some (bI (dgt b)) := by decide +kernel
theorem bt_3 : ∀ b, b < 256 → h_X6_isLetter (nI b) = some (bI (ltr b)) := by decide +kernel
theorem bt_4 : ∀ b, b < 256 → h_X6_isDigit (nI b) = some (bI (dgt b)) := by decide +kernel
theorem bt_5 : ∀ b, b < 256 → (sgn b = 32 ↔ b = 32) := by decide +kernel
theorem bt_6 : ∀ b, b < 256 → (nI b = 32 ↔ b = 32) := by decide +kernel
theorem bt_7 : ∀ b, b < 256 → (100 : Int32) + (sgn b &&& 255) = nI (100 + b) := by decide +kernel
theorem bt_8 : ∀ b, b < 256 → b < 128 → sgn b = nI b := by decide +kernel
theorem ltr_iff {b : Nat} : ltr b = true ↔ 97 ≤ b ∧ b ≤ 122 := by unfold ltr; simp
theorem dgt_iff {b : Nat} : dgt b = true ↔ 48 ≤ b ∧ b ≤ 57 := by unfold dgt; simp
/-- a word on the tape -/
def wx (b : Nat → Nat) (k e : Nat) : List Nat := (List.range (e - k)).map fun i => b (k + i)
theorem wx_eq {b : Nat → Nat} {k e : Nat} {w : List Nat} : w = wx b k e ↔ w.length = e - k ∧ ∀ i, i < w.length → w.getD i 0 = b (k + i) := by
  constructor
  · intro h
    subst h
    have hl : (wx b k e).length = e - k := by unfold wx; simp
    refine ⟨hl, fun i hi => ?_⟩
    rw [hl] at hi
    unfold wx
    rw [List.getD_eq_getElem?_getD, List.getElem?_map, List.getElem?_range hi]
    rfl
  · intro ⟨h1, h2⟩
    apply List.ext_getElem?
    intro i
    unfold wx
    rw [List.getElem?_map]
    by_cases hi : i < w.length
    · have := h2 i hi
      rw [List.getD_eq_getElem?_getD, List.getElem?_eq_getElem hi] at this
      rw [List.getElem?_range (by omega), List.getElem?_eq_getElem hi]
      have e : w[i] = b (k + i) := this
      rw [e]
      rfl
    · rw [List.getElem?_eq_none (by omega), List.getElem?_eq_none (by rw [List.length_range]; omega)]
      rfl
/-! how far it goes on -/
def re (P : Nat → Bool) (z : Nat) : Nat → Nat → Nat
  | 0, k => k
  | f + 1, k => if k < z ∧ P k = true then re P z f (k + 1) else k
theorem re_ge (P : Nat → Bool) (z : Nat) : ∀ f k, k ≤ re P z f k
  | 0, k => Nat.le_refl _
  | f + 1, k => by
    unfold re
    by_cases h : k < z ∧ P k = true
    · rw [if_pos h]; have := re_ge P z f (k + 1); omega
    · rw [if_neg h]; exact Nat.le_refl _
theorem re_le (P : Nat → Bool) (z : Nat) : ∀ f k, k ≤ z → re P z f k ≤ z
  | 0, k, hk => hk
  | f + 1, k, hk => by
    unfold re
    by_cases h : k < z ∧ P k = true
    · rw [if_pos h]; exact re_le P z f (k + 1) h.1
    · rw [if_neg h]; exact hk
theorem re_all (P : Nat → Bool) (z : Nat) : ∀ f k i, k ≤ i → i < re P z f k → P i = true
  | 0, k, i, h1, h2 => by unfold re at h2; omega
  | f + 1, k, i, h1, h2 => by
    unfold re at h2
    by_cases h : k < z ∧ P k = true
    · rw [if_pos h] at h2
      by_cases q : i = k
      · rw [q]; exact h.2
      · exact re_all P z f (k + 1) i (by omega) h2
    · rw [if_neg h] at h2; omega
theorem re_loop {P : Nat → Bool} {z : Nat} {body : Int32 → Option (Int32 ⊕ Int32)} (h1 : ∀ i, i < z → P i = true → body (nI i) = some (.inl (nI (i + 1)))) (h2 : ∀ i, i < z → P i = false → body (nI i) = some (.inr (nI i))) (h3 : body (nI z) = some (.inr (nI z))) : ∀ f k m, k ≤ z → z ≤ k + f → f < m → v_loop body m (nI k) = some (nI (re P z f k)) := by
  intro f
  induction f with
  | zero =>
    intro k m hk hf hm
    obtain ⟨m, rfl⟩ : ∃ q, m = q + 1 := ⟨m - 1, by omega⟩
    have : k = z := by omega
    subst this
    simp only [v_loop, h3]
    rfl
  | succ f ih =>
    intro k m hk hf hm
    obtain ⟨m, rfl⟩ : ∃ q, m = q + 1 := ⟨m - 1, by omega⟩
    unfold re
    by_cases q : k < z
    · cases hP : P k with
      | true =>
        rw [if_pos ⟨q, rfl⟩]
        simp only [v_loop, h1 k q hP]
        exact ih (k + 1) m (by omega) (by omega) (by omega)
      | false =>
        rw [if_neg (fun w => by cases w.2)]
        simp only [v_loop, h2 k q hP]
    · have : k = z := by omega
      subst this
      rw [if_neg (fun w => q w.1)]
      simp only [v_loop, h3]
/-! numbers -/
def nv (b : Nat → Nat) : Nat → Nat → Nat → Nat
  | 0, _, a => a
  | f + 1, k, a => nv b f (k + 1) (if 1000000 < a then a else 10 * a + b k - 48)
def cv (b : Nat → Nat) : Nat → Nat → Nat → Nat
  | 0, _, a => a
  | f + 1, k, a => if 1000 < a then a else cv b f (k + 1) (a * 10 + b k - 48)
theorem nv_big {b : Nat → Nat} : ∀ f k a, (∀ i, k ≤ i → i < k + f → 48 ≤ b i) → 1000 < a → 1000 < nv b f k a
  | 0, _, _, _, h => h
  | f + 1, k, a, hb, h => by
    unfold nv
    refine nv_big f (k + 1) _ (fun i h1 h2 => hb i (by omega) (by omega)) ?_
    have := hb k (by omega) (by omega)
    by_cases q : 1000000 < a
    · rw [if_pos q]; exact h
    · rw [if_neg q]; omega
theorem nv_cv {b : Nat → Nat} : ∀ f k a, (∀ i, k ≤ i → i < k + f → 48 ≤ b i) → (cv b f k a ≤ 1000 ∧ nv b f k a = cv b f k a) ∨ (1000 < cv b f k a ∧ 1000 < nv b f k a)
  | 0, _, a, _ => by
    unfold nv cv
    by_cases q : a ≤ 1000
    · exact .inl ⟨q, rfl⟩
    · exact .inr ⟨by omega, by omega⟩
  | f + 1, k, a, hb => by
    have h0 := hb k (by omega) (by omega)
    unfold nv cv
    by_cases q : 1000 < a
    · rw [if_pos q]
      refine .inr ⟨q, nv_big f (k + 1) _ (fun i h1 h2 => hb i (by omega) (by omega)) ?_⟩
      by_cases q2 : 1000000 < a
      · rw [if_pos q2]; exact q
      · rw [if_neg q2]; omega
    · rw [if_neg q, if_neg (by omega), show 10 * a + b k - 48 = a * 10 + b k - 48 by omega]
      exact nv_cv f (k + 1) _ (fun i h1 h2 => hb i (by omega) (by omega))
theorem nv_le {b : Nat → Nat} : ∀ f k a, (∀ i, k ≤ i → i < k + f → b i ≤ 57) → a ≤ 20000000 → nv b f k a ≤ 20000000
  | 0, _, _, _, h => h
  | f + 1, k, a, hb, h => by
    unfold nv
    refine nv_le f (k + 1) _ (fun i h1 h2 => hb i (by omega) (by omega)) ?_
    have := hb k (by omega) (by omega)
    by_cases q : 1000000 < a
    · rw [if_pos q]; exact h
    · rw [if_neg q]; omega
theorem cv_le {b : Nat → Nat} : ∀ f k a, (∀ i, k ≤ i → i < k + f → b i ≤ 57) → a ≤ 20000 → cv b f k a ≤ 20000
  | 0, _, _, _, h => h
  | f + 1, k, a, hb, h => by
    unfold cv
    have := hb k (by omega) (by omega)
    by_cases q : 1000 < a
    · rw [if_pos q]; exact h
    · rw [if_neg q]
      exact cv_le f (k + 1) _ (fun i h1 h2 => hb i (by omega) (by omega)) (by omega)
/-! all TOKENS: from where to where -/
def te (b : Nat → Nat) (z k : Nat) : Nat := if ltr (b k) = true then re (fun i => ltr (b i)) z 400 (k + 1) else if dgt (b k) = true then re (fun i => dgt (b i)) z 400 (k + 1) else k + 1
def tz (b : Nat → Nat) (z : Nat) : Nat → Nat → List (Nat × Nat)
  | 0, _ => []
  | f + 1, k => if z ≤ k then [] else if b k = 32 then tz b z f (k + 1) else (k, te b z k) :: tz b z f (te b z k)
theorem te_gt (b : Nat → Nat) (z k : Nat) : k + 1 ≤ te b z k := by
  unfold te
  split
  · exact re_ge _ _ _ _
  · split
    · exact re_ge _ _ _ _
    · exact Nat.le_refl _
theorem te_le {b : Nat → Nat} {z k : Nat} (h : k < z) : te b z k ≤ z := by
  unfold te
  split
  · exact re_le _ _ _ _ h
  · split
    · exact re_le _ _ _ _ h
    · exact h
theorem tz_len (b : Nat → Nat) (z : Nat) : ∀ f k, k ≤ z → (tz b z f k).length + k ≤ z
  | 0, k, h => by unfold tz; simp; exact h
  | f + 1, k, h => by
    unfold tz
    by_cases q : z ≤ k
    · rw [if_pos q]; simp; exact h
    · rw [if_neg q]
      by_cases q2 : b k = 32
      · rw [if_pos q2]; have := tz_len b z f (k + 1) (by omega); omega
      · rw [if_neg q2]
        have := tz_len b z f (te b z k) (te_le (by omega))
        have := te_gt b z k
        simp; omega
theorem tz_in (b : Nat → Nat) (z : Nat) : ∀ f k x, x ∈ tz b z f k → x.1 < z ∧ x.2 = te b z x.1 ∧ b x.1 ≠ 32
  | 0, k, x, h => by unfold tz at h; cases h
  | f + 1, k, x, h => by
    unfold tz at h
    by_cases q : z ≤ k
    · rw [if_pos q] at h; cases h
    · rw [if_neg q] at h
      by_cases q2 : b k = 32
      · rw [if_pos q2] at h; exact tz_in b z f (k + 1) x h
      · rw [if_neg q2] at h
        rcases List.mem_cons.mp h with rfl | h
        · exact ⟨by dsimp only; omega, rfl, q2⟩
        · exact tz_in b z f _ x h
/-- what a TOKEN is to the model, to the class -/
def tc (b : Nat → Nat) (x : Nat × Nat) : Int32 := if ltr (b x.1) = true then nI (mi (wx b x.1 x.2)) else if dgt (b x.1) = true then 50 else nI (100 + b x.1)
def tv (b : Nat → Nat) (x : Nat × Nat) : Int32 := if ltr (b x.1) = true then 0 else if dgt (b x.1) = true then nI (nv b (x.2 - x.1) x.1 0) else 0
def tx (b : Nat → Nat) (x : Nat × Nat) : Int32 := if ltr (b x.1) = true then ct (wx b x.1 x.2) else if dgt (b x.1) = true then (if 1000 < cv b (x.2 - x.1) x.1 0 then -2 else nI (1024 + cv b (x.2 - x.1) x.1 0)) else nI (b x.1)
theorem te_dg {b : Nat → Nat} {z k : Nat} (h1 : ¬ ltr (b k) = true) (h2 : dgt (b k) = true) : ∀ i, k ≤ i → i < te b z k → 48 ≤ b i ∧ b i ≤ 57 := by
  intro i a1 a2
  unfold te at a2
  rw [if_neg h1, if_pos h2] at a2
  by_cases q : i = k
  · rw [q]; exact dgt_iff.mp h2
  · exact dgt_iff.mp (re_all (fun i => dgt (b i)) z 400 (k + 1) i (by omega) a2)
theorem te_lt {b : Nat → Nat} {z k : Nat} (h1 : ltr (b k) = true) : ∀ i, k ≤ i → i < te b z k → 97 ≤ b i ∧ b i ≤ 122 := by
  intro i a1 a2
  unfold te at a2
  rw [if_pos h1] at a2
  by_cases q : i = k
  · rw [q]; exact ltr_iff.mp h1
  · exact ltr_iff.mp (re_all (fun i => ltr (b i)) z 400 (k + 1) i (by omega) a2)
theorem tk_all {b : Nat → Nat} {z : Nat} {x : Nat × Nat} (hb : b x.1 < 256) (h2 : x.2 = te b z x.1) : tkr (tx b x) (tc b x) (tv b x) := by
  unfold tx tc tv
  by_cases q1 : ltr (b x.1) = true
  · rw [if_pos q1, if_pos q1, if_pos q1]
    exact .inl ⟨mi (wx b x.1 x.2), .inl (mi_le _), rfl, ct_mi _⟩
  · rw [if_neg q1, if_neg q1, if_neg q1]
    by_cases q2 : dgt (b x.1) = true
    · rw [if_pos q2, if_pos q2, if_pos q2]
      have hd : ∀ i, x.1 ≤ i → i < x.1 + (x.2 - x.1) → 48 ≤ b i ∧ b i ≤ 57 := fun i a1 a2 => te_dg (z := z) q1 q2 i a1 (by rw [← h2]; omega)
      have hn := nv_le (x.2 - x.1) x.1 0 (fun i a1 a2 => (hd i a1 a2).2) (by omega)
      refine .inr ⟨rfl, _, by omega, rfl, ?_⟩
      rcases nv_cv (x.2 - x.1) x.1 0 (fun i a1 a2 => (hd i a1 a2).1) with ⟨a1, a2⟩ | ⟨a1, a2⟩
      · rw [if_neg (by omega), if_pos (by omega), a2]
      · rw [if_pos a1, if_neg (by omega)]
    · rw [if_neg q2, if_neg q2, if_neg q2]
      refine .inl ⟨100 + b x.1, .inr ⟨by omega, by omega⟩, rfl, ?_⟩
      unfold cxt
      rw [if_neg (by omega), if_neg (by omega), show 100 + b x.1 - 100 = b x.1 by omega]
end sp98g
