noncomputable section sp67
/-! what all SUMS, TESTS of a TEXT have -/
def al (P : Den → Prop) (item : Nat → Nat → PR) : Prop := ∀ p n r, item p n = .inr r → P r.2.2
def alS (P : Den → Prop) (sub : Option (Nat → Nat → PR)) : Prop := ∀ g, sub = some g → al P g
def alO (P : Den → Prop) (op : Int32 → Option (Den → Den → Den)) : Prop := ∀ x g, op x = some g → ∀ d e, P d → P e → P (g d e)
theorem al_chl {P : Den → Prop} {c : Nat → Int32} {op : Int32 → Option (Den → Den → Den)} {item : Nat → Nat → PR} (ho : alO P op) (hi : al P item) : ∀ (f p n : Nat) (d : Den) (r : Nat × Nat × Den), P d → sp_chl c op item f p n d = .inr r → P r.2.2 := by
  intro f
  induction f with
  | zero => intro p n d r hd h; unfold sp_chl at h; cases h; exact hd
  | succ f ih =>
    intro p n d r hd h
    unfold sp_chl at h
    split at h
    · cases h; exact hd
    · rename_i g hg
      split at h
      · cases h
      · rename_i q hq
        exact ih _ _ _ _ (ho _ g hg _ _ hd (hi _ _ _ hq)) h
theorem al_chn {P : Den → Prop} {c : Nat → Int32} {op : Int32 → Option (Den → Den → Den)} {item : Nat → Nat → PR} (ho : alO P op) (hi : al P item) : al P (sp_chn c op item) := by
  intro p n r h
  unfold sp_chn at h
  split at h
  · cases h
  · rename_i q hq
    exact al_chl ho hi _ _ _ _ _ (hi _ _ _ hq) h
theorem al_brk {P : Den → Prop} {c : Nat → Int32} {cl : Int32} {sub : Option (Nat → Nat → PR)} (hs : alS P sub) : al P (sp_brk c cl sub) := by
  intro p n r h
  unfold sp_brk at h
  split at h
  · cases h
  · rename_i g
    split at h
    · cases h
    · rename_i q hq
      split at h
      · cases h; exact (hs g rfl _ _ q hq : P q.2.2)
      · cases h
def alJ (P : Den → Prop) : Prop := (∀ s d e, P d → P e → P (d_join s d e)) ∧ (∀ d e, P d → P e → P (d_and d e)) ∧ (∀ d e, P d → P e → P (d_or d e)) ∧ ∀ d, P d → P (d_not d)
theorem alO_sum {P : Den → Prop} (h : alJ P) : alO P op_sum := by
  intro x g hg d e hd he
  unfold op_sum at hg
  split at hg
  · cases hg; exact h.1 _ _ _ hd he
  split at hg
  · cases hg; exact h.1 _ _ _ hd he
  · cases hg
theorem alO_trm {P : Den → Prop} (h : alJ P) : alO P op_trm := by
  intro x g hg d e hd he
  unfold op_trm at hg
  split at hg
  · cases hg; exact h.1 _ _ _ hd he
  split at hg
  · cases hg; exact h.1 _ _ _ hd he
  split at hg
  · cases hg; exact h.1 _ _ _ hd he
  · cases hg
theorem alO_cmp {P : Den → Prop} (h : alJ P) : alO P op_cmp := by
  intro x g hg d e hd he
  unfold op_cmp at hg
  split at hg
  · cases hg; exact h.1 _ _ _ hd he
  split at hg
  · cases hg; exact h.1 _ _ _ hd he
  split at hg
  · cases hg; exact h.1 _ _ _ hd he
  · cases hg
theorem alO_or {P : Den → Prop} (h : alJ P) : alO P op_or := by
  intro x g hg d e hd he
  unfold op_or at hg
  split at hg
  · cases hg; exact h.2.2.1 _ _ hd he
  · cases hg
theorem alO_and {P : Den → Prop} (h : alJ P) : alO P op_and := by
  intro x g hg d e hd he
  unfold op_and at hg
  split at hg
  · cases hg; exact h.2.1 _ _ hd he
  · cases hg
theorem alS_none {P : Den → Prop} : alS P none := fun _ h => by cases h
theorem alS_some {P : Den → Prop} {g : Nat → Nat → PR} (h : al P g) : alS P (some g) := fun _ e => by cases e; exact h
theorem al_part {P : Den → Prop} {c v : Nat → Int32} {o : Bool} {sub : Option (Nat → Nat → PR)} (hl : al P (sp_leaf c v o)) (hs : alS P sub) : al P (sp_part c v o sub) := by
  intro p n r h
  unfold sp_part at h
  split at h
  · exact al_brk hs _ _ _ h
  · exact hl _ _ _ h
theorem al_sum {P : Den → Prop} {c v : Nat → Int32} {o : Bool} (hj : alJ P) (hl : al P (sp_leaf c v o)) : ∀ r, al P (sp_sum c v o r)
  | 0 => al_chn (alO_sum hj) (al_chn (alO_trm hj) (al_part hl alS_none))
  | r + 1 => al_chn (alO_sum hj) (al_chn (alO_trm hj) (al_part hl (alS_some (al_sum hj hl r))))
theorem al_comp {P : Den → Prop} {c : Nat → Int32} {sm : Nat → Nat → PR} (hj : alJ P) (hs : al P sm) : al P (sp_comp c sm) := by
  intro p n r h
  unfold sp_comp at h
  split at h
  · cases h
  · rename_i q hq
    split at h
    · cases h
    · rename_i g hg
      split at h
      · cases h
      · rename_i u hu
        cases h
        exact alO_cmp hj _ g hg _ _ (hs _ _ _ hq) (hs _ _ _ hu)
theorem al_plain {P : Den → Prop} {c : Nat → Int32} {sm : Nat → Nat → PR} {sub : Option (Nat → Nat → PR)} (hj : alJ P) (hm : al P sm) (hs : alS P sub) : al P (sp_plain c sm sub) := by
  intro p n r h
  unfold sp_plain at h
  split at h
  · cases h
  · rename_i q hq
    have : P q.2.2 := by
      unfold sp_pos at hq
      split at hq
      · exact al_brk hs _ _ _ hq
      · exact al_comp hj hm _ _ _ hq
    cases h
    dsimp only
    split
    · exact hj.2.2.2 _ this
    · exact this
theorem al_test {P : Den → Prop} {c v : Nat → Int32} {o : Bool} (hj : alJ P) (hl : al P (sp_leaf c v o)) : ∀ r, al P (sp_test c v o r)
  | 0 => al_chn (alO_or hj) (al_chn (alO_and hj) (al_plain hj (al_sum hj hl 0) alS_none))
  | r + 1 => al_chn (alO_or hj) (al_chn (alO_and hj) (al_plain hj (al_sum hj hl (r + 1)) (alS_some (al_test hj hl r))))
def alC (P : Den → Prop) (c : Cls) : Prop := ∀ d, (c.2.1 = some d ∨ c.2.2.2.1 = some d) → P d
theorem alC_if {P : Den → Prop} {c v : Nat → Int32} {o : Bool} {p n : Nat} {k : Int32} {a b : Option Den} {t : Int32} {r : Nat × Nat × Cls} (hj : alJ P) (hl : al P (sp_leaf c v o)) (ha : ∀ d, a = some d → P d) (h : sp_if c v o p n k a b t = .inr r) : alC P r.2.2 := by
  unfold sp_if at h
  split at h
  · split at h
    · cases h
    · rename_i q hq
      cases h
      rintro d (e | e)
      · exact ha d e
      · cases e; exact al_test hj hl _ _ _ _ hq
  · cases h
    rintro d (e | e)
    · exact ha d e
    · cases e
theorem alC_law1 {P : Den → Prop} {c v : Nat → Int32} {p n : Nat} {r : Nat × Nat × Cls} (hj : alJ P) (hl : al P (sp_leaf c v false)) (h : sp_law1 c v p n = .inr r) : alC P r.2.2 := by
  unfold sp_law1 at h
  split at h
  · split at h
    · cases h
    · rename_i q hq
      exact alC_if hj hl (fun d e => by cases e; exact al_sum hj hl _ _ _ _ hq) h
  · split at h
    · exact alC_if hj hl (fun d e => by cases e) h
    · cases h
theorem alC_cll {P : Den → Prop} {c v : Nat → Int32} {z : Nat} (hj : alJ P) (hl : al P (sp_leaf c v false)) : ∀ (f p n : Nat) (D0 D : List Cls), (∀ x ∈ D0, alC P x) → sp_cll c v false z f p n D0 = .inr D → ∀ x ∈ D, alC P x := by
  intro f
  induction f with
  | zero =>
    intro p n D0 D h0 h
    unfold sp_cll at h
    split at h
    · cases h
    split at h
    · cases h
    · cases h; exact h0
  | succ f ih =>
    intro p n D0 D h0 h
    unfold sp_cll at h
    split at h
    · split at h
      · cases h
      · rename_i r hr
        refine ih _ _ _ _ (fun x hx => ?_) h
        rcases List.mem_append.mp hx with q | q
        · exact h0 x q
        · rw [List.mem_singleton.mp q]; exact alC_law1 hj hl hr
    · split at h
      · cases h
      · cases h; exact h0
theorem alC_text {P : Den → Prop} {c v : Nat → Int32} {z : Nat} {D : List Cls} (hj : alJ P) (hl : al P (sp_leaf c v false)) (h : sp_text c v false z = .inr D) : ∀ x ∈ D, alC P x := by
  unfold sp_text at h
  split at h
  · cases h
  · rename_i r hr
    refine alC_cll hj hl _ _ _ _ _ (fun x hx => ?_) h
    rw [List.mem_singleton.mp hx]; exact alC_law1 hj hl hr
/-- a LAW goes by the nine words alone -/
def d_nine (d : Den) : Prop := ∀ u w : Nat → Int32, (∀ i, i < 9 → u i = w i) → d u = d w
theorem agr_J (A : (Nat → Int32) → (Nat → Int32) → Prop) : alJ (fun d => ∀ u w, A u w → d u = d w) := by
  refine ⟨fun s d e hd he u w h => ?_, fun d e hd he u w h => ?_, fun d e hd he u w h => ?_, fun d hd u w h => ?_⟩
  · unfold d_join; rw [hd u w h, he u w h]
  · unfold d_and; rw [hd u w h, he u w h]
  · unfold d_or; rw [hd u w h, he u w h]
  · unfold d_not; rw [hd u w h]
theorem wi_law_lt (x : Int32) : wi_law x < 9 := by
  unfold wi_law
  split
  · omega
  split
  · omega
  split
  · omega
  split
  · omega
  split
  · omega
  split
  · omega
  split
  · omega
  split
  · omega
  · omega
theorem leaf_nine (c v : Nat → Int32) : al d_nine (sp_leaf c v false) := by
  intro p n r h u w e
  unfold sp_leaf at h
  simp only [Bool.false_eq_true, if_false, false_and] at h
  by_cases q : c p = 50 ∧ v p ≤ 1000
  · rw [if_pos q] at h
    split at h
    · cases h
    · cases h; rfl
  · rw [if_neg q] at h
    split at h
    · split at h
      · cases h
      · cases h
        show some (u (wi_law (c p))).toInt64 = some (w (wi_law (c p))).toInt64
        rw [e _ (wi_law_lt _)]
    · cases h
theorem tk_nine {k : Nat → Int32} {t : Nat} {D : List Cls} (h : tk_D false k t D) : ∀ x ∈ D, alC d_nine x := by
  obtain ⟨n, _, _, h⟩ := h
  exact alC_text (agr_J fun u w => ∀ i, i < 9 → u i = w i) (leaf_nine _ _) h
theorem told_agr {D : List Cls} {u w : Nat → Int32} (kind : Int32) (h : ∀ x ∈ D, ∀ d, (x.2.1 = some d ∨ x.2.2.2.1 = some d) → d u = d w) : ∀ z, sp_told u kind z D = sp_told w kind z D := by
  induction D with
  | nil => intro z; rfl
  | cons x D ih =>
    intro z
    have e : sp_one u kind z x = sp_one w kind z x := by
      have hx := h x (List.Mem.head _)
      have e1 : d_holds u x.2.2.2.1 = d_holds w x.2.2.2.1 := by
        cases ht : x.2.2.2.1 with
        | none => rfl
        | some d => unfold d_holds; dsimp only; rw [hx d (.inr ht)]
      unfold sp_one
      rw [e1]
      cases hs : x.2.1 with
      | none => rfl
      | some d => dsimp only; rw [hx d (.inl hs)]
    show (D.foldl (sp_one u kind) (sp_one u kind z x)) = D.foldl (sp_one w kind) (sp_one w kind z x)
    rw [e]
    exact ih (fun y hy => h y (List.Mem.tail _ hy)) _
theorem told_nine {D : List Cls} {u w : Nat → Int32} (kind z : Int32) (h : ∀ x ∈ D, alC d_nine x) (e : ∀ i, i < 9 → u i = w i) : sp_told u kind z D = sp_told w kind z D := told_agr kind (fun x hx d hd => h x hx d hd u w e) z
theorem told_2 {D : List Cls} {u : Nat → Int32} : ∀ z, (z = 0 ∨ z = 1) → sp_told u 2 z D = 0 ∨ sp_told u 2 z D = 1 := by
  induction D with
  | nil => intro z h; exact h
  | cons x D ih =>
    intro z h
    refine ih (sp_one u 2 z x) ?_
    unfold sp_one
    split
    · exact .inr rfl
    · exact h
/-! a MINUTE, plainly -/
def tl (L : Option (List Cls)) (k : Nat → Int32) (h : Nat) (kind w : Int32) : Int32 := match L with
  | none => w
  | some D => sp_told (env k h) kind w D
def bt (x : Int32) (h : Nat) : Bool := x.toNatClampNeg.testBit h
def opn (L : Option (List Cls)) (k : Nat → Int32) (h : Nat) : Bool := if bt (k 0) h then decide (tl L k h 2 0 = 0) else decide (¬ env k h 3 < tl L k h 0 (k (1 + h)))
def nx (f : Nat → Bool) : Nat → Nat
  | 0 => 0
  | h + 1 => nx f h ||| (if f h then 2 ^ h else 0)
theorem nx_bit (f : Nat → Bool) : ∀ n i, (nx f n).testBit i = (decide (i < n) && f i) := by
  intro n
  induction n with
  | zero => intro i; simp [nx]
  | succ n ih =>
    intro i
    unfold nx
    rw [Nat.testBit_or, ih]
    by_cases e : i = n
    · subst e
      cases hf : f i with
      | false => simp
      | true => simp [Nat.testBit_two_pow_self]
    · have : (if f n then 2 ^ n else 0).testBit i = false := by
        split
        · rw [Nat.testBit_two_pow_of_ne (fun q => e q.symm)]
        · simp
      rw [this, Bool.or_false]
      congr 1
      by_cases q : i < n
      · simp [q, Nat.lt_succ_of_lt q]
      · simp [q]; omega
theorem nx_lt (f : Nat → Bool) (n : Nat) : nx f n < 2 ^ n := by
  apply Nat.lt_pow_two_of_testBit
  intro i hi
  rw [nx_bit]
  simp; omega
theorem nx_eq {f g : Nat → Bool} {n : Nat} (h : ∀ i, i < n → f i = g i) : nx f n = nx g n := by
  apply Nat.eq_of_testBit_eq
  intro i
  rw [nx_bit, nx_bit]
  by_cases q : i < n
  · rw [h i q]
  · simp [q]
def st99 (x : Int32) : Int32 := if x + 1 ≤ 99 then x + 1 else 99
/-- all that is kept, a MINUTE on; some are held SHUT -/
def mn (L : Option (List Cls)) (n : Nat) (held : Nat) (k : Nat → Int32) : Nat → Int32 := fun i =>
  if i = 0 then nI (nx (fun h => opn L k h && !held.testBit h) n)
  else if 1 ≤ i ∧ i ≤ n then tl L k (i - 1) 1 (k i)
  else if 9 ≤ i ∧ i < 9 + n then st99 (k i)
  else if i = 17 then k 17 + 1
  else k i
theorem mn_ge {L : Option (List Cls)} {n held : Nat} {k : Nat → Int32} {i : Nat} (hn : n ≤ 8) (h : 18 ≤ i) : mn L n held k i = k i := by
  unfold mn
  rw [if_neg (by omega), if_neg (by omega), if_neg (by omega), if_neg (by omega)]
theorem mn_0 (L : Option (List Cls)) (n held : Nat) (k : Nat → Int32) : mn L n held k 0 = nI (nx (fun h => opn L k h && !held.testBit h) n) := by unfold mn; rw [if_pos rfl]
theorem mn_w (L : Option (List Cls)) {n : Nat} (held : Nat) (k : Nat → Int32) {h : Nat} (hn : n ≤ 8) (hh : h < 8) : mn L n held k (1 + h) = if h < n then tl L k h 1 (k (1 + h)) else k (1 + h) := by
  unfold mn
  rw [if_neg (show ¬ 1 + h = 0 by omega)]
  by_cases q : h < n
  · rw [if_pos (show 1 ≤ 1 + h ∧ 1 + h ≤ n by omega), if_pos q, show 1 + h - 1 = h by omega]
  · rw [if_neg (show ¬ (1 ≤ 1 + h ∧ 1 + h ≤ n) by omega), if_neg (show ¬ (9 ≤ 1 + h ∧ 1 + h < 9 + n) by omega), if_neg (show ¬ 1 + h = 17 by omega), if_neg q]
theorem mn_s (L : Option (List Cls)) {n : Nat} (held : Nat) (k : Nat → Int32) {h : Nat} (hn : n ≤ 8) (hh : h < 8) : mn L n held k (9 + h) = if h < n then st99 (k (9 + h)) else k (9 + h) := by
  unfold mn
  rw [if_neg (show ¬ 9 + h = 0 by omega), if_neg (show ¬ (1 ≤ 9 + h ∧ 9 + h ≤ n) by omega)]
  by_cases q : h < n
  · rw [if_pos (show 9 ≤ 9 + h ∧ 9 + h < 9 + n by omega), if_pos q]
  · rw [if_neg (show ¬ (9 ≤ 9 + h ∧ 9 + h < 9 + n) by omega), if_neg (show ¬ 9 + h = 17 by omega), if_neg q]
theorem mn_17 (L : Option (List Cls)) {n : Nat} (held : Nat) (k : Nat → Int32) (hn : n ≤ 8) : mn L n held k 17 = k 17 + 1 := by
  unfold mn
  rw [if_neg (by omega), if_neg (by omega), if_neg (by omega), if_pos rfl]
theorem nI_not {a b : Nat} (ha : a < 256) (hb : b < 256) : nI a &&& (nI b ^^^ -1) = nI (a &&& (b ^^^ 255)) := by
  apply Int32.toBitVec_inj.1
  show BitVec.ofNat 32 a &&& (BitVec.ofNat 32 b ^^^ BitVec.ofNat 32 4294967295) = BitVec.ofNat 32 (a &&& (b ^^^ 255))
  apply BitVec.eq_of_toNat_eq
  simp only [BitVec.toNat_and, BitVec.toNat_xor, BitVec.toNat_ofNat]
  have h3 : a &&& (b ^^^ 255) < 2 ^ 32 := Nat.lt_of_le_of_lt Nat.and_le_left (by omega)
  rw [Nat.mod_eq_of_lt (show a < 2 ^ 32 by omega), Nat.mod_eq_of_lt (show b < 2 ^ 32 by omega), Nat.mod_eq_of_lt h3, Nat.mod_eq_of_lt (show 4294967295 < 2 ^ 32 by omega)]
  apply Nat.eq_of_testBit_eq
  intro i
  simp only [Nat.testBit_and, Nat.testBit_xor]
  by_cases h8 : i < 8
  · have e1 : (4294967295 : Nat).testBit i = true := by
      rw [show (4294967295 : Nat) = 2 ^ 32 - 1 by decide, Nat.testBit_two_pow_sub_one]; simp; omega
    have e2 : (255 : Nat).testBit i = true := by
      rw [show (255 : Nat) = 2 ^ 8 - 1 by decide, Nat.testBit_two_pow_sub_one]; simp; omega
    rw [e1, e2]
  · have : a.testBit i = false := by
      apply Nat.testBit_lt_two_pow
      exact Nat.lt_of_lt_of_le ha (show 2 ^ 8 ≤ 2 ^ i from Nat.pow_le_pow_right (by omega) (by omega))
    rw [this]; simp
theorem bt_nI {o h : Nat} (ho : o < 256) : bt (nI o) h = o.testBit h := by unfold bt; rw [nI_clamp (by omega)]
theorem bit_tb (o h : Nat) : (nI (o / 2 ^ h % 2) = 1) ↔ o.testBit h = true := by
  rw [Nat.testBit_eq_decide_div_mod_eq]
  have : o / 2 ^ h % 2 < 2 := Nat.mod_lt _ (by omega)
  rw [decide_eq_true_iff]
  rcases (show o / 2 ^ h % 2 = 0 ∨ o / 2 ^ h % 2 = 1 by omega) with e | e
  · rw [e]; exact ⟨fun q => absurd q (by decide), fun q => by omega⟩
  · rw [e]; exact ⟨fun _ => rfl, fun _ => rfl⟩
/-- without the held: both ways -/
theorem nx_held (f : Nat → Bool) {n b : Nat} (hn : n ≤ 8) (hb : b < 256) : nI (nx f n) &&& (nI b ^^^ -1) = nI (nx (fun h => f h && !b.testBit h) n) := by
  have h1 : nx f n < 256 := Nat.lt_of_lt_of_le (nx_lt f n) (two_le hn)
  rw [nI_not h1 hb]
  congr 1
  apply Nat.eq_of_testBit_eq
  intro i
  rw [Nat.testBit_and, nx_bit, nx_bit, Nat.testBit_xor]
  by_cases q : i < n
  · have e2 : (255 : Nat).testBit i = true := by
      rw [show (255 : Nat) = 2 ^ 8 - 1 by decide, Nat.testBit_two_pow_sub_one]; simp; omega
    simp [q, e2]
  · simp [q]
end sp67
