noncomputable section sp61
/-! how far reading comes -/
def mo (N : Nat) (item : Nat → Nat → PR) : Prop := ∀ p n r, item p n = .inr r → p < r.1 ∧ r.1 ≤ N
def moS (N : Nat) (sub : Option (Nat → Nat → PR)) : Prop := ∀ g, sub = some g → mo N g
def cz (c : Nat → Int32) (N : Nat) : Prop := ∀ p, N ≤ p → c p = 0
theorem cz_lt {c : Nat → Int32} {N p : Nat} (h : cz c N) (q : c p ≠ 0) : p < N := by
  by_cases e : p < N
  · exact e
  · exact absurd (h p (by omega)) q
theorem cz_lt' {c : Nat → Int32} {N p : Nat} {x : Int32} (h : cz c N) (q : c p = x) (hx : x ≠ 0) : p < N := cz_lt h (by rw [q]; exact hx)
theorem mo_chl {c : Nat → Int32} {op : Int32 → Option (Den → Den → Den)} {item : Nat → Nat → PR} {N : Nat} (hi : mo N item) : ∀ (f p n : Nat) (d : Den) (r : Nat × Nat × Den), sp_chl c op item f p n d = .inr r → p ≤ N → p ≤ r.1 ∧ r.1 ≤ N := by
  intro f
  induction f with
  | zero => intro p n d r h hp; unfold sp_chl at h; cases h; exact ⟨Nat.le_refl _, hp⟩
  | succ f ih =>
    intro p n d r h hp
    unfold sp_chl at h
    split at h
    · cases h; exact ⟨Nat.le_refl _, hp⟩
    · split at h
      · cases h
      · rename_i q hq
        have := hi _ _ _ hq
        have := ih _ _ _ _ h this.2
        omega
theorem mo_chn {c : Nat → Int32} {op : Int32 → Option (Den → Den → Den)} {item : Nat → Nat → PR} {N : Nat} (hi : mo N item) : mo N (sp_chn c op item) := by
  intro p n r h
  unfold sp_chn at h
  split at h
  · cases h
  · rename_i q hq
    have a := hi _ _ _ hq
    have := mo_chl hi _ _ _ _ _ h a.2
    omega
theorem mo_leaf {c v : Nat → Int32} {o : Bool} {N : Nat} (hc : cz c N) : mo N (sp_leaf c v o) := by
  intro p n r h
  unfold sp_leaf at h
  by_cases q : c p = 50 ∧ v p ≤ 1000
  · rw [if_pos q] at h
    have := cz_lt' hc q.1 (by decide)
    split at h
    · cases h
    · cases h; exact ⟨Nat.lt_succ_self _, this⟩
  · rw [if_neg q] at h
    by_cases q : (if o then (13 : Int32) else 8) ≤ c p ∧ c p ≤ (if o then 19 else 16)
    · rw [if_pos q] at h
      have hp : p < N := cz_lt hc (by
        intro e
        have := q.1
        rw [e] at this
        cases o <;> exact absurd this (by decide))
      by_cases q1 : n = 50
      · rw [if_pos q1] at h; cases h
      · rw [if_neg q1] at h
        by_cases q2 : o = true ∧ (c p = 13 ∨ c p = 14 ∨ c p = 19)
        · rw [if_pos q2] at h
          by_cases q2 : c (p + 1) = 50 ∧ 0 ≤ v (p + 1) ∧ v (p + 1) ≤ 7
          · rw [if_pos q2] at h
            have := cz_lt' hc q2.1 (by decide)
            cases h
            exact ⟨by dsimp only; omega, by dsimp only; omega⟩
          · rw [if_neg q2] at h; cases h
        · rw [if_neg q2] at h; cases h; exact ⟨Nat.lt_succ_self _, hp⟩
    · rw [if_neg q] at h; cases h
theorem mo_brk {c : Nat → Int32} {cl : Int32} {sub : Option (Nat → Nat → PR)} {N : Nat} (hc : cz c N) (hl : cl ≠ 0) (hs : moS N sub) : mo N (sp_brk c cl sub) := by
  intro p n r h
  unfold sp_brk at h
  split at h
  · cases h
  · rename_i g
    split at h
    · cases h
    · rename_i q hq
      have := hs g rfl _ _ _ hq
      split at h
      · rename_i e
        have := cz_lt' hc e hl
        cases h
        exact ⟨by dsimp only; omega, by dsimp only; omega⟩
      · cases h
theorem mo_part {c v : Nat → Int32} {o : Bool} {sub : Option (Nat → Nat → PR)} {N : Nat} (hc : cz c N) (hs : moS N sub) : mo N (sp_part c v o sub) := by
  intro p n r h
  unfold sp_part at h
  split at h
  · exact mo_brk hc (by decide) hs _ _ _ h
  · exact mo_leaf hc _ _ _ h
theorem mo_term {c v : Nat → Int32} {o : Bool} {sub : Option (Nat → Nat → PR)} {N : Nat} (hc : cz c N) (hs : moS N sub) : mo N (sp_term c v o sub) := mo_chn (mo_part hc hs)
theorem moS_none {N : Nat} : moS N none := fun _ h => by cases h
theorem moS_some {N : Nat} {g : Nat → Nat → PR} (h : mo N g) : moS N (some g) := fun _ e => by cases e; exact h
theorem mo_sum {c v : Nat → Int32} {o : Bool} {N : Nat} (hc : cz c N) : ∀ r, mo N (sp_sum c v o r)
  | 0 => mo_chn (mo_term hc moS_none)
  | r + 1 => mo_chn (mo_term hc (moS_some (mo_sum hc r)))
theorem mo_comp {c : Nat → Int32} {sm : Nat → Nat → PR} {N : Nat} (hs : mo N sm) : mo N (sp_comp c sm) := by
  intro p n r h
  unfold sp_comp at h
  split at h
  · cases h
  · rename_i q hq
    have := hs _ _ _ hq
    split at h
    · cases h
    · split at h
      · cases h
      · rename_i g _ u hu
        have := hs _ _ _ hu
        cases h
        exact ⟨by dsimp only; omega, by dsimp only; omega⟩
theorem mo_pos {c : Nat → Int32} {sm : Nat → Nat → PR} {sub : Option (Nat → Nat → PR)} {N : Nat} (hc : cz c N) (hm : mo N sm) (hs : moS N sub) : mo N (sp_pos c sm sub) := by
  intro p n r h
  unfold sp_pos at h
  split at h
  · exact mo_brk hc (by decide) hs _ _ _ h
  · exact mo_comp hm _ _ _ h
theorem mo_nots (c : Nat → Int32) : ∀ (f p : Nat) (b : Bool), p ≤ (sp_nots c f p b).1
  | 0, _, _ => Nat.le_refl _
  | f + 1, p, b => by
    unfold sp_nots
    split
    · exact Nat.le_trans (Nat.le_succ p) (mo_nots c f (p + 1) (!b))
    · exact Nat.le_refl _
theorem mo_plain {c : Nat → Int32} {sm : Nat → Nat → PR} {sub : Option (Nat → Nat → PR)} {N : Nat} (hc : cz c N) (hm : mo N sm) (hs : moS N sub) : mo N (sp_plain c sm sub) := by
  intro p n r h
  unfold sp_plain at h
  split at h
  · cases h
  · rename_i q hq
    have := mo_pos hc hm hs _ _ _ hq
    have := mo_nots c 400 p false
    cases h
    exact ⟨by dsimp only; omega, by dsimp only; omega⟩
theorem mo_both {c : Nat → Int32} {sm : Nat → Nat → PR} {sub : Option (Nat → Nat → PR)} {N : Nat} (hc : cz c N) (hm : mo N sm) (hs : moS N sub) : mo N (sp_both c sm sub) := mo_chn (mo_plain hc hm hs)
theorem mo_test {c v : Nat → Int32} {o : Bool} {N : Nat} (hc : cz c N) : ∀ r, mo N (sp_test c v o r)
  | 0 => mo_chn (mo_both hc (mo_sum hc 0) moS_none)
  | r + 1 => mo_chn (mo_both hc (mo_sum hc (r + 1)) (moS_some (mo_test hc r)))
/-! where the model's reckoning stands: how far, broken or not -/
def gs (I : v_I) (q : Nat) (b : Int32) : v_I := v_up (v_up I 49 22 (nI q)) 49 24 b
theorem gs_ne (I : v_I) (q : Nat) (b : Int32) {a j : Nat} (h : a ≠ 49 ∨ (j ≠ 22 ∧ j ≠ 24)) : gs I q b a j = I a j := by
  unfold gs
  rw [v_up_ne, v_up_ne]
  · rintro ⟨rfl, rfl⟩; omega
  · rintro ⟨rfl, rfl⟩; omega
theorem gs_row (I : v_I) (q : Nat) (b : Int32) {a : Nat} (h : a ≠ 49) : gs I q b a = I a := funext fun _ => gs_ne I q b (.inl h)
theorem gs_22 (I : v_I) (q : Nat) (b : Int32) : gs I q b 49 22 = nI q := by
  unfold gs
  rw [w_ne _ _ _ _ (by decide), w_at]
theorem gs_24 (I : v_I) (q : Nat) (b : Int32) : gs I q b 49 24 = b := v_up_at _ _ _ _
theorem gs_go (I : v_I) (q q' : Nat) (b : Int32) : v_up (gs I q b) 49 22 (nI q') = gs I q' b := by
  funext a j
  unfold gs v_up
  by_cases h : a = 49 ∧ j = 22
  · obtain ⟨rfl, rfl⟩ := h; simp
  · by_cases h2 : a = 49 ∧ j = 24
    · obtain ⟨rfl, rfl⟩ := h2; simp
    · simp [h, h2]
theorem gs_br (I : v_I) (q : Nat) (b b' : Int32) : v_up (gs I q b) 49 24 b' = gs I q b' := by
  funext a j
  unfold gs v_up
  by_cases h2 : a = 49 ∧ j = 24
  · obtain ⟨rfl, rfl⟩ := h2; simp
  · simp [h2]
theorem gs_inc (I : v_I) (q : Nat) (b : Int32) : v_up (gs I q b) 49 22 (gs I q b 49 22 + 1) = gs I (q + 1) b := by
  rw [gs_22, ← nI_succ, gs_go]
theorem gs_gs (I : v_I) (q q' : Nat) (b b' : Int32) : gs (gs I q b) q' b' = gs I q' b' := by
  show v_up (v_up (gs I q b) 49 22 (nI q')) 49 24 b' = _
  rw [gs_go, gs_br]
/-- all that the model's reckoning goes by -/
def Ev (I : v_I) (c v : Nat → Int32) (o : Bool) (vals : Nat → Int32) (B N : Nat) : Prop :=
  N ≤ 400 ∧ B ≤ 2400 ∧ I 49 23 = nI (B + N) ∧ I 49 25 = (if o then 1 else 0) ∧ (∀ p, p < N → c p = I 51 (60 + B + p)) ∧ cz c N ∧ (∀ p, p < N → v p = I 51 (2860 + B + p))
  ∧ (o = false → ∀ j, j < 9 → I 61 j = vals (wi_law (nI (8 + j))))
  ∧ (o = true → ∀ q b, (∀ x, (x = 15 ∨ x = 16 ∨ x = 17 ∨ x = 18) → h_X10_orderValue (gs I q b) x 0 = some (vals (wi_ord x))) ∧ ∀ x k, (x = 13 ∨ x = 14 ∨ x = 19) → k < 8 → h_X10_orderValue (gs I q b) x (nI k) = some (vals (wi_one x + k)))
theorem ev_code {I : v_I} {c v : Nat → Int32} {o : Bool} {vals : Nat → Int32} {B N : Nat} (E : Ev I c v o vals B N) (q : Nat) (b : Int32) {p : Nat} (hp : p ≤ 1000) : h_X10_codeAt (gs I q b) (nI (B + p)) = some (c p) := by
  obtain ⟨h1, h2, h3, h4, h5, h6, h7, h8, h9⟩ := E
  unfold h_X10_codeAt
  rw [gs_ne _ _ _ (by omega), gs_row _ _ _ (by omega), h3]
  by_cases h : p < N
  · rw [if_neg (show ¬ nI (B + N) ≤ nI (B + p) from nI_ge (by omega) (by omega)), show (60 : Int32) = nI 60 from rfl, p_inA (c := 60) (k := B + p) rfl (by omega) (by omega), p_bs, h5 p h, Nat.add_assoc]
  · rw [if_pos (nI_le (by omega) (by omega)), h6 p (by omega)]
theorem ev_pass {I : v_I} {c v : Nat → Int32} {o : Bool} {vals : Nat → Int32} {B N : Nat} (E : Ev I c v o vals B N) (b : Int32) {p : Nat} (hp : p ≤ 1000) (x : Int32) : h_X10_passes0 (gs I (B + p) b) x = some (if c p = x then (1, gs I (B + (p + 1)) b) else (0, gs I (B + p) b)) := by
  unfold h_X10_passes0 h_X10_passes0_J17
  rw [gs_22, ev_code E _ _ hp, p_bs]
  by_cases h : c p = x
  · rw [if_pos h, if_pos h, if_neg (by decide), p_le]
    rw [← nI_succ, gs_go]
    rfl
  · rw [if_neg h, if_neg h, if_pos rfl]
    rfl
def nb (live b : Int32) (o : Option Int64) : Int32 := if live = 1 ∧ b = 0 ∧ o = none then 1 else b
theorem nb_bit {live b : Int32} {o : Option Int64} (h : b = 0 ∨ b = 1) : nb live b o = 0 ∨ nb live b o = 1 := by
  unfold nb
  split
  · exact .inr rfl
  · exact h
theorem nb_0 (b : Int32) (o : Option Int64) : nb 0 b o = b := by unfold nb; rw [if_neg (fun h => absurd h.1 (by decide))]
theorem nb_1 (live : Int32) (o : Option Int64) : nb live 1 o = 1 := by unfold nb; split <;> rfl
theorem nb_s (live b : Int32) (x : Int64) : nb live b (some x) = b := by unfold nb; rw [if_neg (fun h => by cases h.2.2)]
theorem nb_n : nb 1 0 none = 1 := rfl
theorem m_bounded (I : v_I) (q : Nat) (b live : Int32) (z : Int64) (hl : live = 0 ∨ live = 1) (hb : b = 0 ∨ b = 1) : h_X10_bounded (gs I q b) z live = some (if nb live b (jn_lim z) = 0 then z else 0, gs I q (nb live b (jn_lim z))) := by
  have j25 : ∀ b, h_X10_bounded_J25 (gs I q b) z = some (if b = 0 then z else 0, gs I q b) := by
    intro b
    unfold h_X10_bounded_J25
    rw [gs_24]
    split <;> rfl
  have j20 : h_X10_bounded_J20 (gs I q b) z = some (0, gs I q 1) := by
    unfold h_X10_bounded_J20
    rw [p_le, gs_br, j25]; rfl
  unfold h_X10_bounded
  have ge : (0 ≤ lg_cmp z (-1000000000)) ↔ ¬ z < -1000000000 := by
    rw [← b_neg]; exact ⟨fun a b => absurd b (Int32.not_lt.mpr a), fun a => Int32.not_lt.mp a⟩
  simp only [b_pos, ge, j25, j20]
  rcases hl with rfl | rfl
  · rw [if_pos rfl, nb_0]
  · rw [if_neg (by decide)]
    by_cases h1 : 1000000000 < z
    · have e : jn_lim z = none := by unfold jn_lim; rw [if_pos (.inl h1)]
      rw [if_pos h1, e]
      rcases hb with rfl | rfl <;> rfl
    · rw [if_neg h1]
      by_cases h2 : z < -1000000000
      · have e : jn_lim z = none := by unfold jn_lim; rw [if_pos (.inr h2)]
        rw [if_neg (fun h => h h2), e]
        rcases hb with rfl | rfl <;> rfl
      · have e : jn_lim z = some z := by unfold jn_lim; rw [if_neg (fun h => h.elim h1 h2)]
        rw [if_pos h2, e, nb_s]
end sp61
