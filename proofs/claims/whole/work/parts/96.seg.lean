noncomputable section sp96
/-! steps that come to a value -/
def seg (C : Nat → Int32) (a b h : Nat) (d : Den) : Prop := ∀ (m : Nat) (vals : Nat → Int32) (f : Nat) (st : List Int64), b ≤ m → st.length + h ≤ 31 → m ≤ f + a →
  (d vals = none → rk C m vals f a st = none) ∧ (∀ x, d vals = some x → ∃ f', m ≤ f' + b ∧ rk C m vals f a st = rk C m vals f' b (x :: st))
theorem rk_s (code : Nat → Int32) (m : Nat) (vals : Nat → Int32) (f a : Nat) (st : List Int64) : rk code m vals (f + 1) a st =
    if m ≤ a then none else if 32 ≤ st.length then none else
    if code a &&& 15 = 1 then rk code m vals f (a + 1) ((code a >>> 4).toInt64 :: st)
    else if code a &&& 15 = 2 then rk code m vals f (a + 1) ((if (0 : Int32) ≤ code a >>> 4 ∧ code a >>> 4 < (36 : Int32) then (vals (code a >>> 4).toNatClampNeg).toInt64 else 0) :: st)
    else match st with
      | [] => none
      | x :: t =>
        if code a &&& 15 = 0 then some x
        else if code a &&& 15 = 3 then rk code m vals f (a + 1) ((1 - x) :: t)
        else if code a &&& 15 = 4 ∨ code a &&& 15 = 5 then
          (if x = (if code a &&& 15 = 5 then 1 else 0) then (if code a >>> 4 < (0 : Int32) then none else rk code m vals f (code a >>> 4).toNatClampNeg (x :: t)) else rk code m vals f (a + 1) t)
        else match t with
          | [] => none
          | y :: u => (jn (code a &&& 15) y x).bind fun z => rk code m vals f (a + 1) (z :: u) := by rfl
theorem rk_1 {C : Nat → Int32} {m : Nat} {vals : Nat → Int32} {f a : Nat} {st : List Int64} (h1 : a < m) (h2 : st.length < 32) (h3 : C a &&& 15 = 1) : rk C m vals (f + 1) a st = rk C m vals f (a + 1) ((C a >>> 4).toInt64 :: st) := by
  rw [rk_s, if_neg (by omega), if_neg (by omega), if_pos h3]
theorem rk_2 {C : Nat → Int32} {m : Nat} {vals : Nat → Int32} {f a w : Nat} {st : List Int64} (h1 : a < m) (h2 : st.length < 32) (h3 : C a &&& 15 = 2) (h4 : C a >>> 4 = nI w) (h5 : w < 36) : rk C m vals (f + 1) a st = rk C m vals f (a + 1) ((vals w).toInt64 :: st) := by
  rw [rk_s, if_neg (by omega), if_neg (by omega), if_neg (by rw [h3]; decide), if_pos h3, h4, if_pos ⟨nI_le (a := 0) (by omega) (by omega), nI_lt (b := 36) (by omega) (by omega)⟩, nI_clamp (by omega)]
theorem rk_0 {C : Nat → Int32} {m : Nat} {vals : Nat → Int32} {f a : Nat} {x : Int64} {st : List Int64} (h1 : a < m) (h2 : st.length < 31) (h3 : C a &&& 15 = 0) : rk C m vals (f + 1) a (x :: st) = some x := by
  rw [rk_s, if_neg (by omega), if_neg (by simp; omega), if_neg (by rw [h3]; decide), if_neg (by rw [h3]; decide)]
  dsimp only
  rw [if_pos h3]
theorem rk_3 {C : Nat → Int32} {m : Nat} {vals : Nat → Int32} {f a : Nat} {x : Int64} {st : List Int64} (h1 : a < m) (h2 : st.length < 31) (h3 : C a &&& 15 = 3) : rk C m vals (f + 1) a (x :: st) = rk C m vals f (a + 1) ((1 - x) :: st) := by
  rw [rk_s, if_neg (by omega), if_neg (by simp; omega), if_neg (by rw [h3]; decide), if_neg (by rw [h3]; decide)]
  dsimp only
  rw [if_neg (by rw [h3]; decide), if_pos h3]
theorem rk_4 {C : Nat → Int32} {m : Nat} {vals : Nat → Int32} {f a e : Nat} {x : Int64} {st : List Int64} (h1 : a < m) (h2 : st.length < 31) (h3 : C a &&& 15 = 4) (h4 : C a >>> 4 = nI e) (h5 : e < 2 ^ 31) : rk C m vals (f + 1) a (x :: st) = if x = 0 then rk C m vals f e (x :: st) else rk C m vals f (a + 1) st := by
  rw [rk_s, if_neg (by omega), if_neg (by simp; omega), if_neg (by rw [h3]; decide), if_neg (by rw [h3]; decide)]
  dsimp only
  rw [if_neg (by rw [h3]; decide), if_neg (by rw [h3]; decide), if_pos (.inl h3), h4, h3, if_neg (show ¬ (4 : Int32) = 5 by decide), if_neg (show ¬ nI e < 0 from nI_pos h5), nI_clamp h5]
theorem rk_5 {C : Nat → Int32} {m : Nat} {vals : Nat → Int32} {f a e : Nat} {x : Int64} {st : List Int64} (h1 : a < m) (h2 : st.length < 31) (h3 : C a &&& 15 = 5) (h4 : C a >>> 4 = nI e) (h5 : e < 2 ^ 31) : rk C m vals (f + 1) a (x :: st) = if x = 1 then rk C m vals f e (x :: st) else rk C m vals f (a + 1) st := by
  rw [rk_s, if_neg (by omega), if_neg (by simp; omega), if_neg (by rw [h3]; decide), if_neg (by rw [h3]; decide)]
  dsimp only
  rw [if_neg (by rw [h3]; decide), if_neg (by rw [h3]; decide), if_pos (.inr h3), h4, h3, if_pos (show (5 : Int32) = 5 by decide), if_neg (show ¬ nI e < 0 from nI_pos h5), nI_clamp h5]
theorem rk_j {C : Nat → Int32} {m : Nat} {vals : Nat → Int32} {f a : Nat} {x y : Int64} {st : List Int64} {s : Nat} (h1 : a < m) (h2 : st.length < 30) (h3 : C a &&& 15 = nI s) (hs : 6 ≤ s ∧ s ≤ 13) : rk C m vals (f + 1) a (x :: y :: st) = (jn (nI s) y x).bind fun z => rk C m vals f (a + 1) (z :: st) := by
  have ne : ∀ k : Nat, k < 6 → ¬ C a &&& 15 = nI k := fun k hk q => absurd ((nI_eq (by omega) (by omega)).mp (h3.symm.trans q)) (by omega)
  rw [rk_s, if_neg (by omega), if_neg (by simp; omega), if_neg (show ¬ C a &&& 15 = 1 from ne 1 (by omega)), if_neg (show ¬ C a &&& 15 = 2 from ne 2 (by omega))]
  dsimp only
  rw [if_neg (show ¬ C a &&& 15 = 0 from ne 0 (by omega)), if_neg (show ¬ C a &&& 15 = 3 from ne 3 (by omega)), if_neg (show ¬ (C a &&& 15 = 4 ∨ C a &&& 15 = 5) from fun q => q.elim (ne 4 (by omega)) (ne 5 (by omega))), h3]
theorem rk_congr {C C' : Nat → Int32} {m : Nat} {vals : Nat → Int32} : True := True.intro
theorem seg_num {C : Nat → Int32} {a : Nat} {w : Int32} (h1 : C a &&& 15 = 1) (h2 : C a >>> 4 = w) : seg C a (a + 1) 1 (d_num w) := by
  intro m vals f st hb hs hf
  obtain ⟨f, rfl⟩ : ∃ k, f = k + 1 := ⟨f - 1, by omega⟩
  refine ⟨(fun h => by cases h), fun x h => ⟨f, by omega, ?_⟩⟩
  cases h
  rw [rk_1 (by omega) (by omega) h1, h2]
theorem seg_word {C : Nat → Int32} {a w : Nat} (h1 : C a &&& 15 = 2) (h2 : C a >>> 4 = nI w) (h3 : w < 36) : seg C a (a + 1) 1 (d_word w) := by
  intro m vals f st hb hs hf
  obtain ⟨f, rfl⟩ : ∃ k, f = k + 1 := ⟨f - 1, by omega⟩
  refine ⟨(fun h => by cases h), fun x h => ⟨f, by omega, ?_⟩⟩
  cases h
  rw [rk_2 (by omega) (by omega) h1 h2 h3]
theorem seg_mono {C : Nat → Int32} {a b h h' : Nat} {d : Den} (s : seg C a b h d) (q : h ≤ h') : seg C a b h' d := fun m vals f st hb hs hf => s m vals f st hb (by omega) hf
theorem seg_join {C : Nat → Int32} {a b e h h' s : Nat} {d1 d2 : Den} (s1 : seg C a b h d1) (s2 : seg C b e h' d2) (hh : 1 ≤ h') (hbe : b ≤ e) (h3 : C e &&& 15 = nI s) (hs : 6 ≤ s ∧ s ≤ 13) : seg C a (e + 1) (max h (h' + 1)) (d_join (nI s) d1 d2) := by
  intro m vals f st hm hl hf
  obtain ⟨n1, x1⟩ := s1 m vals f st (by omega) (by omega) hf
  have hd : d_join (nI s) d1 d2 vals = (d1 vals).bind fun x => (d2 vals).bind fun y => jn (nI s) x y := rfl
  rw [hd]
  cases e1 : d1 vals with
  | none =>
    refine ⟨fun _ => n1 e1, fun x h => ?_⟩
    cases h
  | some x =>
    obtain ⟨f1, hf1, e2⟩ := x1 x e1
    obtain ⟨n2, x2⟩ := s2 m vals f1 (x :: st) (by omega) (by simp; omega) hf1
    rw [e2, p_bs]
    cases e3 : d2 vals with
    | none =>
      refine ⟨fun _ => n2 e3, fun x h => ?_⟩
      cases h
    | some y =>
      obtain ⟨f2, hf2, e4⟩ := x2 y e3
      obtain ⟨f2, rfl⟩ : ∃ k, f2 = k + 1 := ⟨f2 - 1, by omega⟩
      rw [e4, p_bs, rk_j (by omega) (by omega) h3 hs]
      cases e5 : jn (nI s) x y with
      | none =>
        refine ⟨fun _ => rfl, fun x h => ?_⟩
        cases h
      | some u =>
        refine ⟨fun h => (by cases h), fun x h => ⟨f2, by omega, ?_⟩⟩
        cases h
        rw [p_bs]
theorem seg_not {C : Nat → Int32} {a b h : Nat} {d : Den} (s1 : seg C a b h d) (hh : 1 ≤ h) (h3 : C b &&& 15 = 3) : seg C a (b + 1) h (d_not d) := by
  intro m vals f st hm hl hf
  obtain ⟨n1, x1⟩ := s1 m vals f st (by omega) (by omega) hf
  have hd : d_not d vals = (d vals).bind fun x => some (1 - x) := rfl
  rw [hd]
  cases e1 : d vals with
  | none =>
    refine ⟨fun _ => n1 e1, fun x h => ?_⟩
    cases h
  | some x =>
    obtain ⟨f1, hf1, e2⟩ := x1 x e1
    obtain ⟨f1, rfl⟩ : ∃ k, f1 = k + 1 := ⟨f1 - 1, by omega⟩
    refine ⟨fun h => (by cases h), fun y h => ⟨f1, by omega, ?_⟩⟩
    cases h
    rw [e2, rk_3 (by omega) (by omega) h3]
theorem seg_and {C : Nat → Int32} {a b e h : Nat} {d1 d2 : Den} (s1 : seg C a b h d1) (s2 : seg C (b + 1) e h d2) (hh : 1 ≤ h) (hbe : b + 1 ≤ e) (he : e < 2 ^ 31) (h3 : C b &&& 15 = 4) (h4 : C b >>> 4 = nI e) : seg C a e h (d_and d1 d2) := by
  intro m vals f st hm hl hf
  obtain ⟨n1, x1⟩ := s1 m vals f st (by omega) (by omega) hf
  have hd : d_and d1 d2 vals = (d1 vals).bind fun x => if x = 0 then some x else d2 vals := rfl
  rw [hd]
  cases e1 : d1 vals with
  | none =>
    refine ⟨fun _ => n1 e1, fun x h => ?_⟩
    cases h
  | some x =>
    obtain ⟨f1, hf1, e2⟩ := x1 x e1
    obtain ⟨f1, rfl⟩ : ∃ k, f1 = k + 1 := ⟨f1 - 1, by omega⟩
    rw [e2, p_bs, rk_4 (by omega) (by omega) h3 h4 he]
    by_cases q : x = 0
    · rw [if_pos q, if_pos q]
      refine ⟨fun h => (by cases h), fun y h => ⟨f1, by omega, ?_⟩⟩
      cases h
      rfl
    · rw [if_neg q, if_neg q]
      exact s2 m vals f1 st (by omega) (by omega) (by omega)
theorem seg_or {C : Nat → Int32} {a b e h : Nat} {d1 d2 : Den} (s1 : seg C a b h d1) (s2 : seg C (b + 1) e h d2) (hh : 1 ≤ h) (hbe : b + 1 ≤ e) (he : e < 2 ^ 31) (h3 : C b &&& 15 = 5) (h4 : C b >>> 4 = nI e) : seg C a e h (d_or d1 d2) := by
  intro m vals f st hm hl hf
  obtain ⟨n1, x1⟩ := s1 m vals f st (by omega) (by omega) hf
  have hd : d_or d1 d2 vals = (d1 vals).bind fun x => if x = 1 then some x else d2 vals := rfl
  rw [hd]
  cases e1 : d1 vals with
  | none =>
    refine ⟨fun _ => n1 e1, fun x h => ?_⟩
    cases h
  | some x =>
    obtain ⟨f1, hf1, e2⟩ := x1 x e1
    obtain ⟨f1, rfl⟩ : ∃ k, f1 = k + 1 := ⟨f1 - 1, by omega⟩
    rw [e2, p_bs, rk_5 (by omega) (by omega) h3 h4 he]
    by_cases q : x = 1
    · rw [if_pos q, if_pos q]
      refine ⟨fun h => (by cases h), fun y h => ⟨f1, by omega, ?_⟩⟩
      cases h
      rfl
    · rw [if_neg q, if_neg q]
      exact s2 m vals f1 st (by omega) (by omega) (by omega)
/-- it comes to it, its end behind it -/
theorem seg_end {C : Nat → Int32} {a b h m : Nat} {d : Den} (s : seg C a b h d) (hh : h ≤ 30) (hb : b < m) (h3 : C b &&& 15 = 0) (vals : Nat → Int32) : rk C m vals m a [] = d vals := by
  obtain ⟨n1, x1⟩ := s m vals m [] (by omega) (by simp; omega) (by omega)
  cases e1 : d vals with
  | none => exact n1 e1
  | some x =>
    obtain ⟨f1, hf1, e2⟩ := x1 x e1
    obtain ⟨f1, rfl⟩ : ∃ k, f1 = k + 1 := ⟨f1 - 1, by omega⟩
    rw [e2, rk_0 hb (by simp) h3]
/-! the class's TOKENS and the model's -/
def cxw : List Nat := [0, 0, 1, 2, 7, 10, 11, 12, 13, 15, 16, 20, 21, 14, 18, 17, 19, 22, 23, 24, 3, 4, 5, 8, 6, 9]
def cxt (a : Nat) : Int32 := if a = 0 then -2 else if a ≤ 25 then nI (256 + cxw.getD a 0) else nI (a - 100)
abbrev cxv (a : Nat) : Prop := a ≤ 25 ∨ (100 ≤ a ∧ a < 356)
def tkr (x c v : Int32) : Prop := (∃ a, cxv a ∧ c = nI a ∧ x = cxt a) ∨ (c = 50 ∧ ∃ n : Nat, n < 2 ^ 31 ∧ v = nI n ∧ x = if n ≤ 1000 then nI (1024 + n) else -2)
theorem tk_eq {x c v : Int32} (h : tkr x c v) {w m : Nat} (hw : ∀ a, a < 356 → cxv a → (cxt a = nI w ↔ nI a = nI m)) (h1 : w < 1024) (h2 : m ≠ 50) (h3 : m < 1000) : x = nI w ↔ c = nI m := by
  rcases h with ⟨a, ha, rfl, rfl⟩ | ⟨rfl, n, hn, rfl, rfl⟩
  · exact hw a (by unfold cxv at ha; omega) ha
  · have e1 : (50 : Int32) = nI m ↔ 50 = m := i_eqI (a := 50) rfl rfl (by omega) (by omega)
    by_cases q : n ≤ 1000
    · rw [if_pos q, i_eqI rfl rfl (by omega) (by omega), e1]; omega
    · rw [if_neg q, e1]
      refine ⟨fun z => absurd z (fun z => ?_), fun z => absurd z.symm h2⟩
      have : (-2 : Int32) < 0 := by decide
      rw [z] at this
      exact nI_pos (by omega) this
theorem tk_or {x c v : Int32} (h : tkr x c v) : x = 266 ↔ c = 5 := tk_eq h (w := 266) (m := 5) (by decide +kernel) (by decide) (by decide) (by decide)
theorem tk_and {x c v : Int32} (h : tkr x c v) : x = 267 ↔ c = 6 := tk_eq h (w := 267) (m := 6) (by decide +kernel) (by decide) (by decide) (by decide)
theorem tk_not {x c v : Int32} (h : tkr x c v) : x = 268 ↔ c = 7 := tk_eq h (w := 268) (m := 7) (by decide +kernel) (by decide) (by decide) (by decide)
theorem tk_if {x c v : Int32} (h : tkr x c v) : x = 263 ↔ c = 4 := tk_eq h (w := 263) (m := 4) (by decide +kernel) (by decide) (by decide) (by decide)
theorem tk_to {x c v : Int32} (h : tkr x c v) : x = 264 ↔ c = 23 := tk_eq h (w := 264) (m := 23) (by decide +kernel) (by decide) (by decide) (by decide)
theorem tk_tim {x c v : Int32} (h : tkr x c v) : x = 265 ↔ c = 25 := tk_eq h (w := 265) (m := 25) (by decide +kernel) (by decide) (by decide) (by decide)
theorem tk_40 {x c v : Int32} (h : tkr x c v) : x = 40 ↔ c = 140 := tk_eq h (w := 40) (m := 140) (by decide +kernel) (by decide) (by decide) (by decide)
theorem tk_41 {x c v : Int32} (h : tkr x c v) : x = 41 ↔ c = 141 := tk_eq h (w := 41) (m := 141) (by decide +kernel) (by decide) (by decide) (by decide)
theorem tk_91 {x c v : Int32} (h : tkr x c v) : x = 91 ↔ c = 191 := tk_eq h (w := 91) (m := 191) (by decide +kernel) (by decide) (by decide) (by decide)
theorem tk_93 {x c v : Int32} (h : tkr x c v) : x = 93 ↔ c = 193 := tk_eq h (w := 93) (m := 193) (by decide +kernel) (by decide) (by decide) (by decide)
theorem tk_59 {x c v : Int32} (h : tkr x c v) : x = 59 ↔ c = 159 := tk_eq h (w := 59) (m := 159) (by decide +kernel) (by decide) (by decide) (by decide)
theorem tk_60 {x c v : Int32} (h : tkr x c v) : x = 60 ↔ c = 160 := tk_eq h (w := 60) (m := 160) (by decide +kernel) (by decide) (by decide) (by decide)
theorem tk_61 {x c v : Int32} (h : tkr x c v) : x = 61 ↔ c = 161 := tk_eq h (w := 61) (m := 161) (by decide +kernel) (by decide) (by decide) (by decide)
theorem tk_62 {x c v : Int32} (h : tkr x c v) : x = 62 ↔ c = 162 := tk_eq h (w := 62) (m := 162) (by decide +kernel) (by decide) (by decide) (by decide)
theorem tk_43 {x c v : Int32} (h : tkr x c v) : x = 43 ↔ c = 143 := tk_eq h (w := 43) (m := 143) (by decide +kernel) (by decide) (by decide) (by decide)
theorem tk_45 {x c v : Int32} (h : tkr x c v) : x = 45 ↔ c = 145 := tk_eq h (w := 45) (m := 145) (by decide +kernel) (by decide) (by decide) (by decide)
theorem tk_42 {x c v : Int32} (h : tkr x c v) : x = 42 ↔ c = 142 := tk_eq h (w := 42) (m := 142) (by decide +kernel) (by decide) (by decide) (by decide)
theorem tk_47 {x c v : Int32} (h : tkr x c v) : x = 47 ↔ c = 147 := tk_eq h (w := 47) (m := 147) (by decide +kernel) (by decide) (by decide) (by decide)
theorem tk_37 {x c v : Int32} (h : tkr x c v) : x = 37 ↔ c = 137 := tk_eq h (w := 37) (m := 137) (by decide +kernel) (by decide) (by decide) (by decide)
/-- a NUMBER at hand -/
theorem tk_num {S : v_S} {I : v_I} {c v : Int32} (h : tkr (I 30 5) c v) {m : Nat} (hm : m ≤ 1000) : h_X6_numberAtHand S I (nI m) = some (if c = 50 ∧ v ≤ nI m then v else -1) := by
  unfold h_X6_numberAtHand
  rcases h with ⟨a, ha, rfl, hx⟩ | ⟨rfl, n, hn, rfl, hx⟩
  · have k : ∀ a, a < 356 → cxv a → (cxt a < 1024 ∧ nI a ≠ 50) := by decide +kernel
    obtain ⟨k1, k2⟩ := k a (by unfold cxv at ha; omega) ha
    rw [hx, if_pos k1, if_neg (fun q => k2 q.1)]
  · rw [hx]
    by_cases q : n ≤ 1000
    · rw [if_pos q, if_neg (show ¬ nI (1024 + n) < 1024 from i_nlt (a := 1024 + n) (b := 1024) rfl rfl (by omega) (by omega))]
      have e : (1024 : Int32) + nI m = nI (1024 + m) := (nI_add 1024 m)
      rw [e]
      by_cases q2 : n ≤ m
      · rw [if_neg (nI_nlt (by omega) (by omega)), if_pos ⟨rfl, nI_le q2 (by omega)⟩]
        have : nI (1024 + n) - (1024 : Int32) = nI (1024 + n - 1024) := nI_sub (b := 1024) (by omega)
        rw [this, show 1024 + n - 1024 = n by omega]
      · rw [if_pos (nI_lt (by omega) (by omega)), if_neg (fun w => absurd w.2 (nI_ge (by omega) (by omega)))]
    · rw [if_neg q, if_pos (by decide), if_neg (fun w => absurd w.2 (nI_ge (by omega) (by omega)))]
end sp96
