noncomputable section sp88
/-! who is watched by some -/
def wbp (W : Nat → Nat) (s : Nat) : Nat → Nat
  | 0 => 0
  | h + 1 => wbp W s h ||| (if s.testBit h then W h else 0)
theorem wbp_bit (W : Nat → Nat) (s : Nat) : ∀ H a, (wbp W s H).testBit a = true ↔ ∃ h, h < H ∧ s.testBit h = true ∧ (W h).testBit a = true
  | 0, a => by simp [wbp]
  | H + 1, a => by
    unfold wbp
    rw [Nat.testBit_or, Bool.or_eq_true, wbp_bit W s H a]
    constructor
    · rintro (⟨h, h1, h2⟩ | q)
      · exact ⟨h, by omega, h2⟩
      · by_cases e : s.testBit H = true
        · rw [if_pos e] at q; exact ⟨H, by omega, e, q⟩
        · rw [if_neg e] at q; simp at q
    · rintro ⟨h, h1, h2, h3⟩
      by_cases e : h = H
      · subst e; right; rw [if_pos h2]; exact h3
      · exact .inl ⟨h, by omega, h2, h3⟩
theorem wbp_lt {W : Nat → Nat} {s n : Nat} : ∀ H, (∀ h, h < H → W h < 2 ^ n) → wbp W s H < 2 ^ n
  | 0, _ => Nat.two_pow_pos n
  | H + 1, hW => by
    unfold wbp
    refine Nat.or_lt_two_pow (wbp_lt H fun h hh => hW h (by omega)) ?_
    split
    · exact hW H (by omega)
    · exact Nat.two_pow_pos n
theorem tb_lt {a n z : Nat} (h : a < 2 ^ n) (hz : a.testBit z = true) : z < n := by
  by_cases e : z < n
  · exact e
  · rw [Nat.testBit_lt_two_pow (Nat.lt_of_lt_of_le h (Nat.pow_le_pow_right (by omega) (by omega)))] at hz
    cases hz
theorem pc_grow {a b z : Nat} (h1 : b.testBit z = true) (h2 : a.testBit z = false) (hz : z < 8) : pc a + 1 ≤ pc (a ||| b) := by
  have bit : ∀ i, a / 2 ^ i % 2 ≤ (a ||| b) / 2 ^ i % 2 := by
    intro i
    have l1 : a / 2 ^ i % 2 < 2 := Nat.mod_lt _ (by omega)
    by_cases e : a.testBit i = true
    · have : (a ||| b).testBit i = true := by rw [Nat.testBit_or, e]; rfl
      rw [Nat.testBit_eq_decide_div_mod_eq, decide_eq_true_iff] at this
      omega
    · rw [Nat.testBit_eq_decide_div_mod_eq, decide_eq_true_iff] at e
      omega
  have s1 : (a ||| b) / 2 ^ z % 2 = 1 := by
    have : (a ||| b).testBit z = true := by rw [Nat.testBit_or, h1, Bool.or_true]
    rwa [Nat.testBit_eq_decide_div_mod_eq, decide_eq_true_iff] at this
  have s0 : a / 2 ^ z % 2 = 0 := by
    have l1 : a / 2 ^ z % 2 < 2 := Nat.mod_lt _ (by omega)
    have : ¬ a.testBit z = true := by rw [h2]; decide
    rw [Nat.testBit_eq_decide_div_mod_eq, decide_eq_true_iff] at this
    omega
  have b0 := bit 0
  have b1 := bit 1
  have b2 := bit 2
  have b3 := bit 3
  have b4 := bit 4
  have b5 := bit 5
  have b6 := bit 6
  have b7 := bit 7
  unfold pc
  simp only [Nat.pow_zero, Nat.div_one, Nat.reducePow, Nat.pow_one] at b0 b1 b2 b3 b4 b5 b6 b7
  have e0 : z = 0 → a % 2 = 0 ∧ (a ||| b) % 2 = 1 := fun e => by subst e; simp only [Nat.pow_zero, Nat.div_one] at s0 s1; exact ⟨s0, s1⟩
  have e1 : z = 1 → a / 2 % 2 = 0 ∧ (a ||| b) / 2 % 2 = 1 := fun e => by subst e; exact ⟨s0, s1⟩
  have e2 : z = 2 → a / 4 % 2 = 0 ∧ (a ||| b) / 4 % 2 = 1 := fun e => by subst e; exact ⟨s0, s1⟩
  have e3 : z = 3 → a / 8 % 2 = 0 ∧ (a ||| b) / 8 % 2 = 1 := fun e => by subst e; exact ⟨s0, s1⟩
  have e4 : z = 4 → a / 16 % 2 = 0 ∧ (a ||| b) / 16 % 2 = 1 := fun e => by subst e; exact ⟨s0, s1⟩
  have e5 : z = 5 → a / 32 % 2 = 0 ∧ (a ||| b) / 32 % 2 = 1 := fun e => by subst e; exact ⟨s0, s1⟩
  have e6 : z = 6 → a / 64 % 2 = 0 ∧ (a ||| b) / 64 % 2 = 1 := fun e => by subst e; exact ⟨s0, s1⟩
  have e7 : z = 7 → a / 128 % 2 = 0 ∧ (a ||| b) / 128 % 2 = 1 := fun e => by subst e; exact ⟨s0, s1⟩
  clear s0 s1 bit h1 h2
  generalize (a ||| b) % 2 = y0 at *
  generalize (a ||| b) / 2 % 2 = y1 at *
  generalize (a ||| b) / 4 % 2 = y2 at *
  generalize (a ||| b) / 8 % 2 = y3 at *
  generalize (a ||| b) / 16 % 2 = y4 at *
  generalize (a ||| b) / 32 % 2 = y5 at *
  generalize (a ||| b) / 64 % 2 = y6 at *
  generalize (a ||| b) / 128 % 2 = y7 at *
  generalize a % 2 = x0 at *
  generalize a / 2 % 2 = x1 at *
  generalize a / 4 % 2 = x2 at *
  generalize a / 8 % 2 = x3 at *
  generalize a / 16 % 2 = x4 at *
  generalize a / 32 % 2 = x5 at *
  generalize a / 64 % 2 = x6 at *
  generalize a / 128 % 2 = x7 at *
  rcases (show z = 0 ∨ z = 1 ∨ z = 2 ∨ z = 3 ∨ z = 4 ∨ z = 5 ∨ z = 6 ∨ z = 7 by omega) with e | e | e | e | e | e | e | e
  · have := e0 e; omega
  · have := e1 e; omega
  · have := e2 e; omega
  · have := e3 e; omega
  · have := e4 e; omega
  · have := e5 e; omega
  · have := e6 e; omega
  · have := e7 e; omega
theorem pc_n {a n : Nat} (hn : n ≤ 8) (h : a < 2 ^ n) : pc a ≤ n := by
  have : ∀ n : Nat, n < 9 → ∀ a : Nat, a < 256 → a < 2 ^ n → pc a ≤ n := by decide +kernel
  exact this n (by omega) a (Nat.lt_of_lt_of_le h (two_le hn)) h
/-! layers: those from whom it is so far -/
def ly (W : Nat → Nat) (t : Nat) : Nat → Nat × Nat
  | 0 => (2 ^ t, 2 ^ t)
  | i + 1 => (wbp W (ly W t i).1 8 &&& ((ly W t i).2 ^^^ 255), (ly W t i).2 ||| (wbp W (ly W t i).1 8 &&& ((ly W t i).2 ^^^ 255)))
def iL (W : Nat → Nat) (t i a : Nat) : Prop := (ly W t i).1.testBit a = true
theorem ly_lt {W : Nat → Nat} {t n : Nat} (hn : n ≤ 8) (hW : ∀ h, h < 8 → W h < 2 ^ n) (ht : t < n) : ∀ i, (ly W t i).1 < 2 ^ n ∧ (ly W t i).2 < 2 ^ n
  | 0 => ⟨Nat.pow_lt_pow_right (by omega) ht, Nat.pow_lt_pow_right (by omega) ht⟩
  | i + 1 => by
    have ih := ly_lt hn hW ht i
    have h1 : wbp W (ly W t i).1 8 &&& ((ly W t i).2 ^^^ 255) < 2 ^ n := Nat.lt_of_le_of_lt Nat.and_le_left (wbp_lt 8 hW)
    exact ⟨h1, Nat.or_lt_two_pow ih.2 h1⟩
theorem x255 {f a : Nat} (ha : a < 8) : (f ^^^ 255).testBit a = !f.testBit a := by
  have e2 : (255 : Nat).testBit a = true := by
    rw [show (255 : Nat) = 2 ^ 8 - 1 by decide, Nat.testBit_two_pow_sub_one]; simp; omega
  rw [Nat.testBit_xor, e2, Bool.xor_true]
theorem ly_f {W : Nat → Nat} {t : Nat} : ∀ i a, (ly W t i).2.testBit a = true ↔ ∃ j, j ≤ i ∧ iL W t j a
  | 0, a => ⟨fun h => ⟨0, Nat.le_refl _, h⟩, fun ⟨j, hj, h⟩ => by rw [show j = 0 by omega] at h; exact h⟩
  | i + 1, a => by
    show ((ly W t i).2 ||| (ly W t (i + 1)).1).testBit a = true ↔ _
    rw [Nat.testBit_or, Bool.or_eq_true, ly_f i a]
    constructor
    · rintro (⟨j, h1, h2⟩ | q)
      · exact ⟨j, by omega, h2⟩
      · exact ⟨i + 1, Nat.le_refl _, q⟩
    · rintro ⟨j, h1, h2⟩
      by_cases e : j = i + 1
      · subst e; exact .inr h2
      · exact .inl ⟨j, by omega, h2⟩
theorem ly_3 {W : Nat → Nat} {t i a : Nat} (h : iL W t (i + 1) a) : ∃ b, b < 8 ∧ iL W t i b ∧ (W b).testBit a = true := by
  have : (wbp W (ly W t i).1 8 &&& ((ly W t i).2 ^^^ 255)).testBit a = true := h
  rw [Nat.testBit_and, Bool.and_eq_true] at this
  exact (wbp_bit W _ 8 a).mp this.1
theorem ly_n {W : Nat → Nat} {t n i a : Nat} (hn : n ≤ 8) (hW : ∀ h, h < 8 → W h < 2 ^ n) (ht : t < n) (h : iL W t i a) : a < n := tb_lt (ly_lt hn hW ht i).1 h
theorem ly_4 {W : Nat → Nat} {t n i a b : Nat} (hn : n ≤ 8) (hW : ∀ h, h < 8 → W h < 2 ^ n) (h : iL W t i b) (hb : b < 8) (hw : (W b).testBit a = true) : ∃ j, j ≤ i + 1 ∧ iL W t j a := by
  have ha : a < n := tb_lt (hW b hb) hw
  by_cases e : (ly W t i).2.testBit a = true
  · obtain ⟨j, h1, h2⟩ := (ly_f i a).mp e
    exact ⟨j, by omega, h2⟩
  · refine ⟨i + 1, Nat.le_refl _, ?_⟩
    show (wbp W (ly W t i).1 8 &&& ((ly W t i).2 ^^^ 255)).testBit a = true
    rw [Nat.testBit_and, x255 (by omega), Bool.and_eq_true]
    exact ⟨(wbp_bit W _ 8 a).mpr ⟨b, hb, h, hw⟩, by simpa using e⟩
theorem ly_2' {W : Nat → Nat} {t n i j a : Nat} (hn : n ≤ 8) (hW : ∀ h, h < 8 → W h < 2 ^ n) (ht : t < n) (hi : iL W t i a) (hj : iL W t j a) (h : i < j) : False := by
  have ha := ly_n hn hW ht hi
  obtain ⟨j, rfl⟩ : ∃ z, j = z + 1 := ⟨j - 1, by omega⟩
  have : (wbp W (ly W t j).1 8 &&& ((ly W t j).2 ^^^ 255)).testBit a = true := hj
  rw [Nat.testBit_and, x255 (by omega), Bool.and_eq_true] at this
  have f : (ly W t j).2.testBit a = true := (ly_f j a).mpr ⟨i, by omega, hi⟩
  rw [f] at this
  exact absurd this.2 (by decide)
theorem ly_2 {W : Nat → Nat} {t n i j a : Nat} (hn : n ≤ 8) (hW : ∀ h, h < 8 → W h < 2 ^ n) (ht : t < n) (hi : iL W t i a) (hj : iL W t j a) : i = j := by
  rcases Nat.lt_trichotomy i j with q | q | q
  · exact (ly_2' hn hW ht hi hj q).elim
  · exact q
  · exact (ly_2' hn hW ht hj hi q).elim
theorem ly_pc {W : Nat → Nat} {t n : Nat} (hn : n ≤ 8) (hW : ∀ h, h < 8 → W h < 2 ^ n) (ht : t < n) : ∀ i a, iL W t i a → i + 1 ≤ pc (ly W t i).2
  | 0, a, h => by
    have : ∀ t : Nat, t < 8 → 1 ≤ pc (2 ^ t) := by decide
    exact this t (by omega)
  | i + 1, a, h => by
    obtain ⟨b, hb, h1, _⟩ := ly_3 h
    have ih := ly_pc hn hW ht i b h1
    have ha := ly_n hn hW ht h
    have : (ly W t i).2.testBit a = false := by
      by_cases e : (ly W t i).2.testBit a = true
      · obtain ⟨j, hj, h2⟩ := (ly_f i a).mp e
        exact (ly_2' hn hW ht h2 h (by omega)).elim
      · simpa using e
    have g := pc_grow (a := (ly W t i).2) (b := (ly W t (i + 1)).1) h this (by omega)
    show i + 1 + 1 ≤ pc ((ly W t i).2 ||| (ly W t (i + 1)).1)
    omega
theorem ly_5 {W : Nat → Nat} {t n i a : Nat} (hn : n ≤ 8) (hW : ∀ h, h < 8 → W h < 2 ^ n) (ht : t < n) (h : iL W t i a) : i < n := by
  have h1 := ly_pc hn hW ht i a h
  have h2 := pc_n hn (ly_lt hn hW ht i).2
  omega
theorem ly_0 {W : Nat → Nat} {t a : Nat} : iL W t 0 a ↔ a = t := by
  show (2 ^ t).testBit a = true ↔ a = t
  rw [Nat.testBit_two_pow]
  exact ⟨fun h => (of_decide_eq_true h).symm, fun h => decide_eq_true h.symm⟩
/-- the lowest that watches one and is one nearer -/
def nxc (W : Nat → Nat) (t d x h : Nat) : Prop := iL W t d h ∧ (W h).testBit x = true
theorem nxc_ex {W : Nat → Nat} {t n d x : Nat} (hn : n ≤ 8) (hW : ∀ h, h < 8 → W h < 2 ^ n) (ht : t < n) (h : iL W t (d + 1) x) : ∃ y, y < n ∧ nxc W t d x y ∧ ∀ z, z < y → ¬ nxc W t d x z := by
  obtain ⟨b, hb, h1, h2⟩ := ly_3 h
  have key : ∀ m, (∃ z, z < m ∧ nxc W t d x z) → ∃ y, nxc W t d x y ∧ ∀ z, z < y → ¬ nxc W t d x z := by
    intro m
    induction m with
    | zero => rintro ⟨z, hz, _⟩; omega
    | succ m ih =>
      rintro ⟨z, hz, q⟩
      by_cases e : ∃ z, z < m ∧ nxc W t d x z
      · exact ih e
      · have : z = m := by
          by_cases e2 : z < m
          · exact absurd ⟨z, e2, q⟩ e
          · omega
        subst this
        exact ⟨z, q, fun y hy qy => e ⟨y, hy, qy⟩⟩
  obtain ⟨y, q1, q2⟩ := key (b + 1) ⟨b, by omega, h1, h2⟩
  exact ⟨y, ly_n hn hW ht q1.1, q1, q2⟩
/-! chains -/
def pth (W : Nat → Nat) : Nat → Nat → Nat → Prop
  | 0, x, h => x = h
  | j + 1, x, h => ∃ b, b < 8 ∧ pth W j b h ∧ (W b).testBit x = true
def Rt (W : Nat → Nat) (x h : Nat) : Prop := ∃ j, pth W j x h
def sr (W : Nat → Nat) (h : Nat) : Nat → Nat
  | 0 => 2 ^ h
  | i + 1 => sr W h i ||| wbp W (sr W h i) 8
theorem pth_lt {W : Nat → Nat} {n : Nat} (hW : ∀ h, h < 8 → W h < 2 ^ n) {j x h : Nat} (hh : h < n) (q : pth W j x h) : x < n := by
  cases j with
  | zero => exact q ▸ hh
  | succ j => obtain ⟨b, hb, _, h2⟩ := q; exact tb_lt (hW b hb) h2
theorem sr_lt {W : Nat → Nat} {n h : Nat} (hW : ∀ h, h < 8 → W h < 2 ^ n) (hh : h < n) : ∀ i, sr W h i < 2 ^ n
  | 0 => Nat.pow_lt_pow_right (by omega) hh
  | i + 1 => Nat.or_lt_two_pow (sr_lt hW hh i) (wbp_lt 8 hW)
theorem sr_bit {W : Nat → Nat} {h : Nat} : ∀ i x, (sr W h i).testBit x = true ↔ ∃ j, j ≤ i ∧ pth W j x h
  | 0, x => by
    show (2 ^ h).testBit x = true ↔ _
    rw [Nat.testBit_two_pow]
    exact ⟨fun q => ⟨0, Nat.le_refl _, (of_decide_eq_true q).symm⟩, fun ⟨j, hj, q⟩ => by rw [show j = 0 by omega] at q; exact decide_eq_true (Eq.symm q)⟩
  | i + 1, x => by
    show (sr W h i ||| wbp W (sr W h i) 8).testBit x = true ↔ _
    rw [Nat.testBit_or, Bool.or_eq_true, sr_bit i x, wbp_bit]
    constructor
    · rintro (⟨j, h1, h2⟩ | ⟨b, hb, h1, h2⟩)
      · exact ⟨j, by omega, h2⟩
      · obtain ⟨j, hj, q⟩ := (sr_bit i b).mp h1
        exact ⟨j + 1, by omega, b, hb, q, h2⟩
    · rintro ⟨j, h1, h2⟩
      cases j with
      | zero => exact .inl ⟨0, by omega, h2⟩
      | succ j =>
        obtain ⟨b, hb, q, h3⟩ := h2
        exact .inr ⟨b, hb, (sr_bit i b).mpr ⟨j, by omega, q⟩, h3⟩
theorem sr_pc {W : Nat → Nat} {h : Nat} (hW : ∀ h, h < 8 → W h < 256) (hh : h < 8) : ∀ i, (∃ j, j < i ∧ sr W h (j + 1) = sr W h j) ∨ i + 1 ≤ pc (sr W h i)
  | 0 => by
    have : ∀ t : Nat, t < 8 → 1 ≤ pc (2 ^ t) := by decide
    exact .inr (this h hh)
  | i + 1 => by
    rcases sr_pc hW hh i with ⟨j, h1, h2⟩ | q
    · exact .inl ⟨j, by omega, h2⟩
    · by_cases e : sr W h (i + 1) = sr W h i
      · exact .inl ⟨i, by omega, e⟩
      · right
        have : ∃ z, (wbp W (sr W h i) 8).testBit z = true ∧ (sr W h i).testBit z = false := by
          refine Classical.byContradiction fun hne => e ?_
          apply Nat.eq_of_testBit_eq
          intro z
          show (sr W h i ||| wbp W (sr W h i) 8).testBit z = _
          rw [Nat.testBit_or]
          cases e1 : (sr W h i).testBit z with
          | true => rfl
          | false =>
            cases e2 : (wbp W (sr W h i) 8).testBit z with
            | false => rfl
            | true => exact absurd ⟨z, e2, e1⟩ hne
        obtain ⟨z, z1, z2⟩ := this
        have := pc_grow z1 z2 (tb_lt (wbp_lt 8 (n := 8) hW) z1)
        show i + 1 + 1 ≤ pc (sr W h i ||| wbp W (sr W h i) 8)
        omega
theorem sr_8 {W : Nat → Nat} {h : Nat} (hW : ∀ h, h < 8 → W h < 256) (hh : h < 8) (x : Nat) : (sr W h 8).testBit x = true ↔ Rt W x h := by
  have st : ∃ j, j < 8 ∧ sr W h (j + 1) = sr W h j := by
    rcases sr_pc hW hh 8 with q | q
    · exact q
    · have := pc_n (n := 8) (by omega) (sr_lt (n := 8) hW hh 8)
      omega
  obtain ⟨j, hj, e⟩ := st
  have const : ∀ m, sr W h (j + m) = sr W h j := by
    intro m
    induction m with
    | zero => rfl
    | succ m ih =>
      show sr W h (j + m) ||| wbp W (sr W h (j + m)) 8 = _
      rw [ih]; exact e
  refine ⟨fun q => ?_, fun ⟨i, q⟩ => ?_⟩
  · obtain ⟨i, _, q2⟩ := (sr_bit 8 x).mp q
    exact ⟨i, q2⟩
  · have : (sr W h (j + i)).testBit x = true := (sr_bit (j + i) x).mpr ⟨i, by omega, q⟩
    rw [const i] at this
    have e8 := const (8 - j)
    rw [show j + (8 - j) = 8 by omega] at e8
    rw [e8]; exact this
/-- forwards -/
def pfw (W : Nat → Nat) (n : Nat) : Nat → Nat → Nat → Prop
  | 0, h, y => h = y
  | j + 1, h, y => ∃ a, pfw W n j h a ∧ y < n ∧ (W y).testBit a = true
theorem pfw_cons {W : Nat → Nat} {n : Nat} {x b : Nat} (hb : b < n) (hw : (W b).testBit x = true) : ∀ j y, pfw W n j b y → pfw W n (j + 1) x y
  | 0, y, q => ⟨x, rfl, q ▸ hb, q ▸ hw⟩
  | j + 1, y, ⟨a, q1, q2, q3⟩ => ⟨a, pfw_cons hb hw j a q1, q2, q3⟩
theorem pth_snoc {W : Nat → Nat} {y : Nat} (hy : y < 8) : ∀ j x a, pth W j x a → (W y).testBit a = true → pth W (j + 1) x y
  | 0, x, a, q, hw => ⟨y, hy, rfl, q ▸ hw⟩
  | j + 1, x, a, ⟨b, hb, q1, q2⟩, hw => ⟨b, hb, pth_snoc hy j b a q1 hw, q2⟩
theorem pth_fw {W : Nat → Nat} {n : Nat} (hW : ∀ h, h < 8 → W h < 2 ^ n) {h : Nat} (hh : h < n) : ∀ j x, pth W j x h → pfw W n j x h
  | 0, x, q => q
  | j + 1, x, ⟨b, hb, q1, q2⟩ => pfw_cons (pth_lt hW hh q1) q2 j h (pth_fw hW hh j b q1)
theorem fw_pth {W : Nat → Nat} {n : Nat} (hn : n ≤ 8) : ∀ j x h, pfw W n j x h → pth W j x h
  | 0, x, h, q => q
  | j + 1, x, h, ⟨a, q1, q2, q3⟩ => pth_snoc (by omega) j x a (fw_pth hn j x a q1) q3
def fwb (W : Nat → Nat) (n s : Nat) : Nat := nx (fun k => decide (W k &&& s ≠ 0)) n
def rf (W : Nat → Nat) (n h : Nat) : Nat → Nat
  | 0 => 2 ^ h
  | i + 1 => rf W n h i ||| fwb W n (rf W n h i)
theorem and_ne {a b : Nat} : (a &&& b ≠ 0) ↔ ∃ z, a.testBit z = true ∧ b.testBit z = true := by
  constructor
  · intro h
    refine Classical.byContradiction fun hne => h ?_
    apply Nat.eq_of_testBit_eq
    intro z
    rw [Nat.testBit_and, Nat.zero_testBit]
    cases e1 : a.testBit z with
    | false => rfl
    | true =>
      cases e2 : b.testBit z with
      | false => rfl
      | true => exact absurd ⟨z, e1, e2⟩ hne
  · rintro ⟨z, h1, h2⟩ h
    have : (a &&& b).testBit z = true := by rw [Nat.testBit_and, h1, h2]; rfl
    rw [h, Nat.zero_testBit] at this
    cases this
theorem fwb_bit {W : Nat → Nat} {n s y : Nat} : (fwb W n s).testBit y = true ↔ y < n ∧ ∃ a, s.testBit a = true ∧ (W y).testBit a = true := by
  unfold fwb
  rw [nx_bit, Bool.and_eq_true, decide_eq_true_iff, decide_eq_true_iff, and_ne]
  exact ⟨fun ⟨h1, z, h2, h3⟩ => ⟨h1, z, h3, h2⟩, fun ⟨h1, z, h2, h3⟩ => ⟨h1, z, h3, h2⟩⟩
theorem rf_bit {W : Nat → Nat} {n h : Nat} : ∀ i y, (rf W n h i).testBit y = true ↔ ∃ j, j ≤ i ∧ pfw W n j h y
  | 0, y => by
    show (2 ^ h).testBit y = true ↔ _
    rw [Nat.testBit_two_pow]
    exact ⟨fun q => ⟨0, Nat.le_refl _, (of_decide_eq_true q : h = y)⟩, fun ⟨j, hj, q⟩ => by rw [show j = 0 by omega] at q; exact decide_eq_true (q : h = y)⟩
  | i + 1, y => by
    show (rf W n h i ||| fwb W n (rf W n h i)).testBit y = true ↔ _
    rw [Nat.testBit_or, Bool.or_eq_true, rf_bit i y, fwb_bit]
    constructor
    · rintro (⟨j, h1, h2⟩ | ⟨hy, a, h1, h2⟩)
      · exact ⟨j, by omega, h2⟩
      · obtain ⟨j, hj, q⟩ := (rf_bit i a).mp h1
        exact ⟨j + 1, by omega, a, q, hy, h2⟩
    · rintro ⟨j, h1, h2⟩
      cases j with
      | zero => exact .inl ⟨0, by omega, h2⟩
      | succ j =>
        obtain ⟨a, q, hy, h3⟩ := h2
        exact .inr ⟨hy, a, (rf_bit i a).mpr ⟨j, by omega, q⟩, h3⟩
theorem rf_lt {W : Nat → Nat} {n h : Nat} (hh : h < n) : ∀ i, rf W n h i < 2 ^ n
  | 0 => Nat.pow_lt_pow_right (by omega) hh
  | i + 1 => Nat.or_lt_two_pow (rf_lt hh i) (nx_lt _ n)
theorem rf_grow {W : Nat → Nat} {n h i : Nat} (hn : n ≤ 8) (e : rf W n h (i + 1) ≠ rf W n h i) : pc (rf W n h i) + 1 ≤ pc (rf W n h (i + 1)) := by
  have : ∃ z, (fwb W n (rf W n h i)).testBit z = true ∧ (rf W n h i).testBit z = false := by
    refine Classical.byContradiction fun hne => e ?_
    apply Nat.eq_of_testBit_eq
    intro z
    show (rf W n h i ||| fwb W n (rf W n h i)).testBit z = _
    rw [Nat.testBit_or]
    cases e1 : (rf W n h i).testBit z with
    | true => rfl
    | false =>
      cases e2 : (fwb W n (rf W n h i)).testBit z with
      | false => rfl
      | true => exact absurd ⟨z, e2, e1⟩ hne
  obtain ⟨z, z1, z2⟩ := this
  exact pc_grow z1 z2 (by have := tb_lt (nx_lt _ n) z1; omega)
theorem rf_st {W : Nat → Nat} {n h i : Nat} (hn : n ≤ 8) (hW : ∀ h, h < 8 → W h < 2 ^ n) (e : rf W n h (i + 1) = rf W n h i) {y : Nat} (hy : y < n) : (rf W n h i).testBit y = true ↔ Rt W h y := by
  have const : ∀ m, rf W n h (i + m) = rf W n h i := by
    intro m
    induction m with
    | zero => rfl
    | succ m ih =>
      show rf W n h (i + m) ||| fwb W n (rf W n h (i + m)) = _
      rw [ih]; exact e
  refine ⟨fun q => ?_, fun ⟨j, q⟩ => ?_⟩
  · obtain ⟨j, _, q2⟩ := (rf_bit i y).mp q
    exact ⟨j, fw_pth hn j h y q2⟩
  · have : (rf W n h (i + j)).testBit y = true := (rf_bit (i + j) y).mpr ⟨j, by omega, pth_fw hW hy j h q⟩
    rw [const j] at this
    exact this
end sp88
