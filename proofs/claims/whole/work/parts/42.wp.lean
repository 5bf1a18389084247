/-! what a text comes to: it ends, and what it gives holds Q -/
def wp {α : Type} (o : Option α) (Q : α → Prop) : Prop := ∃ r, o = some r ∧ Q r
theorem wp_some {α : Type} {x : α} {Q : α → Prop} : wp (some x) Q ↔ Q x := ⟨fun ⟨_, h, q⟩ => by cases h; exact q, fun q => ⟨x, rfl, q⟩⟩
theorem wp_none {α : Type} {Q : α → Prop} : wp (none : Option α) Q ↔ False := ⟨fun ⟨_, h, _⟩ => (by cases h), fun h => False.elim h⟩
theorem wp_bind {α β : Type} {o : Option α} {f : α → Option β} {Q : β → Prop} : wp (o.bind f) Q ↔ wp o (fun r => wp (f r) Q) := by
  constructor
  · intro ⟨r, h, q⟩
    cases o with
    | none => cases h
    | some x => exact ⟨x, rfl, r, h, q⟩
  · intro ⟨x, h, r, hr, q⟩
    subst h
    exact ⟨r, hr, q⟩
theorem wp_let {α β : Type} {x : α} {f : α → Option β} {Q : β → Prop} : wp (p_let x f) Q ↔ wp (f x) Q := Iff.rfl
theorem wp_ite {α : Type} {c : Prop} [Decidable c] {a b : Option α} {Q : α → Prop} : wp (if c then a else b) Q ↔ (c → wp a Q) ∧ (¬ c → wp b Q) := by
  by_cases h : c
  · simp [h]
  · simp [h]
theorem wp_mono {α : Type} {o : Option α} {Q Q' : α → Prop} (h : wp o Q) (hq : ∀ r, Q r → Q' r) : wp o Q' := let ⟨r, e, q⟩ := h; ⟨r, e, hq r q⟩
theorem wp_of {α : Type} {o : Option α} {r : α} {Q : α → Prop} (h : o = some r) (q : Q r) : wp o Q := ⟨r, h, q⟩
theorem wp_seq {α β : Type} {o : Option α} {f : α → Option β} {P : α → Prop} {Q : β → Prop} (h : wp o P) (hf : ∀ r, P r → wp (f r) Q) : wp (o.bind f) Q := wp_bind.mpr (wp_mono h hf)
theorem wp_pos {α : Type} {c : Prop} [Decidable c] {a b : Option α} {Q : α → Prop} (hc : c) (h : wp a Q) : wp (if c then a else b) Q := by rw [if_pos hc]; exact h
theorem wp_neg {α : Type} {c : Prop} [Decidable c] {a b : Option α} {Q : α → Prop} (hc : ¬ c) (h : wp b Q) : wp (if c then a else b) Q := by rw [if_neg hc]; exact h
theorem wp_in {n k : Nat} {i : Int32} {Q : Nat → Prop} (hi : i = nI k) (hk : k < n) (hn : n < 2 ^ 31) (h : Q k) : wp (p_in n i) Q := by
  subst hi
  exact ⟨k, p_in_nI hk hn, h⟩
theorem wp_loop {α β : Type} {body : α → Option (α ⊕ β)} (Inv : Nat → α → Prop) (m : Nat) {Q : β → Prop} {s0 : α} (hm : m < 100000) (h0 : Inv 0 s0)
    (hs : ∀ i s, i ≤ m → Inv i s → wp (body s) (fun x => match x with | .inl t => i < m ∧ Inv (i + 1) t | .inr r => Q r)) : wp (v_loop body FU s0) Q := by
  have key : ∀ (n i : Nat) (s : α), i ≤ m → Inv i s → m < n + i → wp (v_loop body n s) Q := by
    intro n
    induction n with
    | zero => intro i s h1 _ h2; omega
    | succ n ih =>
      intro i s h1 hi h2
      obtain ⟨x, e, hx⟩ := hs i s h1 hi
      cases x with
      | inl t =>
        obtain ⟨r, er, q⟩ := ih (i + 1) t (by have := hx.1; omega) hx.2 (by omega)
        refine ⟨r, ?_, q⟩
        simp only [v_loop, e]
        exact er
      | inr r =>
        refine ⟨r, ?_, hx⟩
        simp only [v_loop, e]
  exact key FU 0 s0 (Nat.zero_le _) h0 (by rw [FU_eq]; omega)
theorem i_lt {x y : Int32} {a b : Nat} (hx : x = nI a) (hy : y = nI b) (h : a < b) (hb : b < 2 ^ 31) : x < y := by subst hx; subst hy; exact nI_lt h hb
theorem i_le {x y : Int32} {a b : Nat} (hx : x = nI a) (hy : y = nI b) (h : a ≤ b) (hb : b < 2 ^ 31) : x ≤ y := by subst hx; subst hy; exact nI_le h hb
theorem i_nlt {x y : Int32} {a b : Nat} (hx : x = nI a) (hy : y = nI b) (h : b ≤ a) (ha : a < 2 ^ 31) : ¬ x < y := by subst hx; subst hy; exact nI_nlt h ha
theorem i_nle {x y : Int32} {a b : Nat} (hx : x = nI a) (hy : y = nI b) (h : b < a) (ha : a < 2 ^ 31) : ¬ x ≤ y := by subst hx; subst hy; exact nI_ge h ha
theorem i_ltI {x y : Int32} {a b : Nat} (hx : x = nI a) (hy : y = nI b) (ha : a < 2 ^ 31) (hb : b < 2 ^ 31) : x < y ↔ a < b := by subst hx; subst hy; exact nI_ltI ha hb
theorem i_leI {x y : Int32} {a b : Nat} (hx : x = nI a) (hy : y = nI b) (ha : a < 2 ^ 31) (hb : b < 2 ^ 31) : x ≤ y ↔ a ≤ b := by subst hx; subst hy; exact nI_leI ha hb
theorem i_eqI {x y : Int32} {a b : Nat} (hx : x = nI a) (hy : y = nI b) (ha : a < 2 ^ 31) (hb : b < 2 ^ 31) : x = y ↔ a = b := by subst hx; subst hy; exact nI_eq ha hb
theorem i_le_of {x : Int32} {m : Int32} {n : Nat} (hm : m = nI n) (hn : n < 2 ^ 31) (h0 : 0 ≤ x) (h1 : x ≤ m) : ∃ k : Nat, k ≤ n ∧ x = nI k := by
  subst hm
  exact nI_of2 (nI_toInt hn) (fun q => absurd q (Int32.not_lt.mpr h0)) h1
theorem b_ite0 {c : Prop} [Decidable c] : ((if c then (1 : Int32) else 0) = 0) ↔ ¬ c := by
  by_cases h : c
  · simp [h]
  · simp [h]
theorem b_ite1 {c : Prop} [Decidable c] : ((if c then (1 : Int32) else 0) = 1) ↔ c := by
  by_cases h : c
  · simp [h]
  · simp [h]
theorem w_at {α : Type} (f : Nat → Nat → α) (k i : Nat) (x : α) : v_up f k i x k i = x := by simp [v_up]
theorem w_row {α : Type} (f : Nat → Nat → α) (k i : Nat) (x : α) {a : Nat} (h : a ≠ k) : v_up f k i x a = f a := by
  funext j; simp [v_up, h]
theorem w_ne {α : Type} (f : Nat → Nat → α) (k i : Nat) (x : α) {j : Nat} (h : j ≠ i) : v_up f k i x k j = f k j := by simp [v_up, h]
theorem b_has (S : v_S) (I : v_I) (p : Int32) : h_X0_has S I p.toInt64 = some (if 0 ≤ p ∧ p < I 1 0 ∧ p < 8 then 1 else 0) := by
  unfold h_X0_has
  have e0 : (p.toInt64 < 0) ↔ p < 0 := b_64lt p 0
  have e8 : (p.toInt64 < 8) ↔ p < 8 := b_64lt p 8
  have ge : ∀ x y : Int64, (0 ≤ lg_cmp x y) ↔ ¬ x < y := fun x y => by
    rw [← b_neg x y]; exact ⟨fun a b => absurd b (Int32.not_lt.mpr a), fun a => Int32.not_lt.mp a⟩
  simp only [b_neg, ge, e0, e8, b_64lt]
  by_cases h1 : p < 0
  · rw [if_pos h1, if_neg (fun q => absurd h1 (Int32.not_lt.mpr q.1))]
  · rw [if_neg h1]
    by_cases h2 : p < I 1 0
    · rw [if_neg (by simpa using h2)]
      by_cases h3 : p < 8
      · rw [if_neg (by simpa using h3), if_pos ⟨Int32.not_lt.mp h1, h2, h3⟩]
      · rw [if_pos h3, if_neg (fun q => h3 q.2.2)]
    · rw [if_pos h2, if_neg (fun q => h2 q.2.1)]
