noncomputable section sp44
/-- a Moment lies as the beginning of a row -/
def rM (I : v_I) (m w s : Nat) (k : Nat → Int32) : Prop := I m 0 = k 0 ∧ I m 1 = k 17 ∧ (∀ h, h < 8 → I w h = k (1 + h)) ∧ (∀ h, h < 8 → I s h = k (9 + h))
/-- a Chamber lies as a row of all that is kept -/
def rC (I : v_I) (c m w s sh wa sm so : Nat) (k : Nat → Int32) : Prop :=
  rM I m w s k ∧ I c 0 = k 49 ∧ (∀ h, h < 8 → I sh h = k (18 + h)) ∧ (∀ h, h < 8 → I wa h = k (26 + h))
  ∧ I c 4 = k 46 ∧ I c 5 = k 47 ∧ I c 6 = k 48 ∧ I c 7 = k 50 ∧ (∀ i, i < 6 → I sm i = k (34 + 2 * i)) ∧ (∀ i, i < 6 → I so i = k (35 + 2 * i)) ∧ I c 10 = k 51 ∧ I c 12 = k 52
def kM (n : Nat) (k : Nat → Int32) : Prop := (∃ o : Nat, o < 2 ^ n ∧ k 0 = nI o) ∧ (∃ mi : Nat, mi ≤ 999 ∧ k 17 = nI mi) ∧ ∀ h, h < 8 → 0 ≤ k (1 + h)
def kK (k : Nat → Int32) : Prop := ∃ n tl : Nat, n ≤ 8 ∧ k 49 = nI n ∧ kM n k ∧ (∀ h, h < 8 → ∃ w : Nat, w < 2 ^ n ∧ k (26 + h) = nI w) ∧ (∃ sm : Nat, sm ≤ 6 ∧ k 50 = nI sm)
  ∧ (∀ i, i < 6 → ∃ q : Nat, q ≤ 60 ∧ k (34 + 2 * i) = nI q) ∧ tl ≤ 6 ∧ k 51 = nI tl ∧ (k 52 = -1 ∨ ∃ f : Nat, f < tl ∧ k 52 = nI f)
/-- a Text lies as the TOKENS of a LAW tell -/
def rX (S : v_S) (I : v_I) (F : v_F) (own : Nat → Nat) (x : Nat) (k : Nat → Int32) (t : Nat) : Prop :=
  ∃ (D : List Cls) (ak af as at' ai ac cn m : Nat), tk_D false k t D ∧ tx_D S I F x ak af as at' ai ac cn m D ∧ (I x 2 = 0 → cl_still D)
    ∧ own x = 1 ∧ own ak = 1 ∧ own af = 1 ∧ own as = 1 ∧ own at' = 1 ∧ own ai = 1 ∧ own ac = 1
def rL (S : v_S) (I : v_I) (F : v_F) (own : Nat → Nat) (la : Nat) (k : Nat → Int32) : Prop := ∀ t n : Nat, n ≤ 6 → k 51 = nI n → t < n → ∃ x, F la t = some x ∧ rX S I F own x k t
/-- the ring of what can be undone -/
def rP (S : v_S) (I : v_I) (F : v_F) (own : Nat → Nat) : Prop := ∃ n nx : Nat, n ≤ 16 ∧ nx < 16 ∧ I 11 0 = nI n ∧ I 49 32 = nI n ∧ I 11 1 = nI nx
  ∧ (∀ q, q < 16 → F 13 q = none ∨ ∃ m w s, F 13 q = some m ∧ p_Mo S F m w s ∧ w ≠ s ∧ own m = 2 + q ∧ own w = 2 + q ∧ own s = 2 + q)
  ∧ ∀ j, j < n → I 12 ((nx + 16 - n + j) % 16) = I 63 (19 * j + 18) ∧ (∃ m w s, F 13 ((nx + 16 - n + j) % 16) = some m ∧ F m 2 = some w ∧ F m 3 = some s ∧ rM I m w s (fun i => I 63 (19 * j + i)))
      ∧ (∀ u, u ≤ 8 → I 51 49 = nI u → kM u (fun i => I 63 (19 * j + i))) ∧ (I 63 (19 * j + 18) = 0 ∨ I 63 (19 * j + 18) = 1 ∨ I 63 (19 * j + 18) = 2 ∨ I 63 (19 * j + 18) = 3)
/-- a Chamber's cells -/
def p_Ch (S : v_S) (F : v_F) (c m w s sh wa sm so la : Nat) : Prop := S[c]? = some (0, 13) ∧ p_Mo S F m w s ∧ S[sh]? = some (20, 8) ∧ S[wa]? = some (20, 8) ∧ S[sm]? = some (20, 6) ∧ S[so]? = some (20, 6) ∧ S[la]? = some (24, 6)
  ∧ F c 1 = some m ∧ F c 2 = some sh ∧ F c 3 = some wa ∧ F c 8 = some sm ∧ F c 9 = some so ∧ F c 11 = some la
  ∧ w ≠ s ∧ w ≠ sh ∧ w ≠ wa ∧ s ≠ sh ∧ s ≠ wa ∧ sh ≠ wa ∧ sm ≠ so
/-- laws, or none -/
def lOK (S : v_S) (F : v_F) (la : Nat) : Prop := ∀ t, t < 6 → F la t = none ∨ ∃ x : Nat, F la t = some x ∧ S[x]? = some (8, 9)
def rG1 (S : v_S) (I : v_I) (F : v_F) (own : Nat → Nat) (j : Nat) (k : Nat → Int32) : Prop := ∃ c m w s sh wa sm so la : Nat, F 10 j = some c ∧ p_Ch S F c m w s sh wa sm so la
  ∧ own c = 20 + j ∧ own m = 20 + j ∧ own w = 20 + j ∧ own s = 20 + j ∧ own sh = 20 + j ∧ own wa = 20 + j ∧ own sm = 20 + j ∧ own so = 20 + j ∧ own la = 20 + j
  ∧ rC I c m w s sh wa sm so k ∧ kK k ∧ rL S I F own la k ∧ lOK S F la
def rG (S : v_S) (I : v_I) (F : v_F) (own : Nat → Nat) : Prop := (∀ j, j < 2 → (I 53 j = 0 ∧ F 10 j = none) ∨ (I 53 j = 1 ∧ rG1 S I F own j (fun i => I 52 (5660 * j + i)))) ∧ lOK S F 9
def rT (I : v_I) : Prop := (∃ n : Nat, n ≤ 400 ∧ I 0 8 = nI n ∧ I 49 13 = nI n) ∧ ∀ i, i < 400 → ∃ b : Nat, b < 256 ∧ I 29 i = nI b ∧ I 56 i = (nI b).toInt8.toInt32
def rO (I : v_I) : Prop := I 0 14 = I 49 0 ∧ I 48 0 = I 50 1 ∧ I 48 1 = I 50 2 ∧ I 48 2 = I 50 3 ∧ I 48 3 = I 50 5 ∧ I 48 4 = I 50 6 ∧ I 0 15 = I 49 6 ∧ I 0 16 = I 49 14 ∧ I 0 17 = I 49 38
def rD (I : v_I) : Prop := (∃ n : Nat, n ≤ 8 ∧ I 0 6 = nI n ∧ ((n = 0 ∧ I 49 46 = -1) ∨ (0 < n ∧ I 49 46 = nI n))) ∧ rM I 26 27 28 (I 71)
def w_row0 : List Int32 := [110, 101, 101, 100, 115, 32, 119, 97, 110, 116, 115, 32, 115, 104, 117, 116, 115, 32, 105, 102, 32, 111, 114, 32, 97, 110, 100, 32, 110, 111, 116, 32, 119, 104, 111, 32, 115, 104, 121, 32, 110, 101, 97, 114, 32, 104, 117, 115, 104, 32, 109, 111, 111, 100, 32, 119, 97, 110, 116, 32, 115, 116, 105, 108, 108, 32, 97, 108, 108, 32, 109, 105, 110, 117, 116, 101, 32, 100, 111, 110, 101, 32, 108, 97, 116, 101, 115, 116, 32, 105, 115, 32, 116, 111, 117, 99, 104, 32, 99, 111, 97, 120, 32, 116, 101, 109, 112, 116, 32, 116, 111, 32, 112, 97, 115, 115, 32, 116, 105, 109, 101, 115, 32]
def rW (I : v_I) : Prop := ∀ i, i < 123 → I 55 i = w_row0.getD i 0
def rN (S : v_S) (own : Nat → Nat) : Prop := ∀ a, own a ≠ 0 → 72 ≤ a ∧ a < S.length
/-- what holds between the calls -/
def R (S : v_S) (I : v_I) (_J : v_J) (F : v_F) : Prop := p_SS S ∧ p_FF F ∧ rC I 1 2 3 4 5 6 7 8 (I 51) ∧ kK (I 51) ∧ rT I ∧ rO I ∧ rD I ∧ rW I
  ∧ ∃ own, rN S own ∧ rL S I F own 9 (I 51) ∧ rP S I F own ∧ rG S I F own
/-- what nobody is told: rows that are written before they are read -/
def scr (a j : Nat) : Prop := (14 ≤ a ∧ a ≤ 25) ∨ (30 ≤ a ∧ a ≤ 47) ∨ a = 54 ∨ (57 ≤ a ∧ a ≤ 62) ∨ (64 ≤ a ∧ a ≤ 70) ∨ (a = 49 ∧ j ≠ 0 ∧ j ≠ 6 ∧ j ≠ 13 ∧ j ≠ 14 ∧ j ≠ 32 ∧ j ≠ 38 ∧ j ≠ 46)
def fr (I I' : v_I) : Prop := ∀ a j, ¬ scr a j → I' a j = I a j
theorem fr_refl (I : v_I) : fr I I := fun _ _ _ => rfl
theorem fr_trans {I I' I'' : v_I} (h : fr I I') (h' : fr I' I'') : fr I I'' := fun a j q => (h' a j q).trans (h a j q)
theorem fr_up {I I' : v_I} {a j : Nat} {x : Int32} (h : fr I I') (q : scr a j) : fr I (v_up I' a j x) := fun b i n => by
  rw [v_up_ne]
  · exact h b i n
  · rintro ⟨rfl, rfl⟩; exact n q
theorem fr_row {I I' : v_I} (h : fr I I') {a : Nat} (q : ∀ j, ¬ scr a j) : I' a = I a := funext fun j => h a j (q j)
theorem tx_fr {S : v_S} {I I' : v_I} {F : v_F} {x ak af as at' ai ac cn m : Nat} {D : List Cls} (hx : I' x = I x) (h1 : I' ak = I ak) (h2 : I' af = I af) (h3 : I' as = I as) (h4 : I' at' = I at') (h5 : I' ai = I ai) (h6 : I' ac = I ac) (h : tx_D S I F x ak af as at' ai ac cn m D) : tx_D S I' F x ak af as at' ai ac cn m D := by
  unfold tx_D
  rw [hx, h1, h2, h3, h4, h5, h6]
  exact h
theorem rX_fr {S : v_S} {I I' : v_I} {F : v_F} {own : Nat → Nat} {x : Nat} {k : Nat → Int32} {t : Nat} (he : ∀ a, own a = 1 → I' a = I a) (h : rX S I F own x k t) : rX S I' F own x k t := by
  obtain ⟨D, ak, af, as, at', ai, ac, cn, m, h1, h2, h3, o1, o2, o3, o4, o5, o6, o7⟩ := h
  refine ⟨D, ak, af, as, at', ai, ac, cn, m, h1, tx_fr (he _ o1) (he _ o2) (he _ o3) (he _ o4) (he _ o5) (he _ o6) (he _ o7) h2, ?_, o1, o2, o3, o4, o5, o6, o7⟩
  rw [he _ o1]
  exact h3
theorem rL_fr {S : v_S} {I I' : v_I} {F : v_F} {own : Nat → Nat} {la : Nat} {k : Nat → Int32} (he : ∀ a, own a = 1 → I' a = I a) (h : rL S I F own la k) : rL S I' F own la k := fun t n hn hk ht => by
  obtain ⟨x, e, hx⟩ := h t n hn hk ht
  exact ⟨x, e, rX_fr he hx⟩
theorem rM_fr {I I' : v_I} {m w s : Nat} {k : Nat → Int32} (h1 : I' m = I m) (h2 : I' w = I w) (h3 : I' s = I s) (h : rM I m w s k) : rM I' m w s k := by
  unfold rM
  rw [h1, h2, h3]
  exact h
theorem scr_big {a : Nat} (h : 72 ≤ a) (j : Nat) : ¬ scr a j := by unfold scr; omega
theorem rP_fr {S : v_S} {I I' : v_I} {F : v_F} {own : Nat → Nat} (hN : rN S own) (he : ∀ a, 72 ≤ a → I' a = I a) (h11 : I' 11 = I 11) (h32 : I' 49 32 = I 49 32) (h12 : I' 12 = I 12) (h63 : I' 63 = I 63) (h51 : I' 51 49 = I 51 49) (h : rP S I F own) : rP S I' F own := by
  obtain ⟨n, nx, hn, hx, e1, e2, e3, h4, h5⟩ := h
  refine ⟨n, nx, hn, hx, by rw [h11]; exact e1, by rw [h32]; exact e2, by rw [h11]; exact e3, h4, fun j hj => ?_⟩
  obtain ⟨a1, ⟨m, w, s, b1, b2, b3, b4⟩, a2, a3⟩ := h5 j hj
  rw [h12, h63, h51]
  refine ⟨a1, ⟨m, w, s, b1, b2, b3, ?_⟩, a2, a3⟩
  rcases h4 ((nx + 16 - n + j) % 16) (Nat.mod_lt _ (by omega)) with q | ⟨m', w', s', c1, c2, c3, o1, o2, o3⟩
  · rw [q] at b1; cases b1
  · rw [c1] at b1; cases b1
    have := c2.2.2.2.1; rw [this] at b2; cases b2
    have := c2.2.2.2.2; rw [this] at b3; cases b3
    exact rM_fr (he _ (hN _ (by omega)).1) (he _ (hN _ (by omega)).1) (he _ (hN _ (by omega)).1) b4
theorem rC_fr {I I' : v_I} {c m w s sh wa sm so : Nat} {k : Nat → Int32} (h1 : I' c = I c) (h2 : I' m = I m) (h3 : I' w = I w) (h4 : I' s = I s) (h5 : I' sh = I sh) (h6 : I' wa = I wa) (h7 : I' sm = I sm) (h8 : I' so = I so) (h : rC I c m w s sh wa sm so k) : rC I' c m w s sh wa sm so k := by
  unfold rC rM
  rw [h1, h2, h3, h4, h5, h6, h7, h8]
  exact h
theorem rG1_fr {S : v_S} {I I' : v_I} {F : v_F} {own : Nat → Nat} {j : Nat} {k : Nat → Int32} (he : ∀ a, (own a = 1 ∨ own a = 20 + j) → I' a = I a) (h : rG1 S I F own j k) : rG1 S I' F own j k := by
  obtain ⟨c, m, w, s, sh, wa, sm, so, la, h1, h2, o1, o2, o3, o4, o5, o6, o7, o8, o9, h3, h4, h5, h6⟩ := h
  exact ⟨c, m, w, s, sh, wa, sm, so, la, h1, h2, o1, o2, o3, o4, o5, o6, o7, o8, o9, rC_fr (he _ (.inr o1)) (he _ (.inr o2)) (he _ (.inr o3)) (he _ (.inr o4)) (he _ (.inr o5)) (he _ (.inr o6)) (he _ (.inr o7)) (he _ (.inr o8)) h3, h4, rL_fr (fun a q => he a (.inl q)) h5, h6⟩
theorem rG_fr {S : v_S} {I I' : v_I} {F : v_F} {own : Nat → Nat} (hN : rN S own) (he : ∀ a, 72 ≤ a → I' a = I a) (h52 : I' 52 = I 52) (h53 : I' 53 = I 53) (h : rG S I F own) : rG S I' F own := ⟨fun j hj => by
  rw [h52, h53]
  rcases h.1 j hj with q | ⟨q, g⟩
  · exact .inl q
  · exact .inr ⟨q, rG1_fr (fun a o => he a (hN a (by omega)).1) g⟩, h.2⟩
theorem R_fr {S : v_S} {I I' : v_I} {J J' : v_J} {F : v_F} (e : fr I I') (h : R S I J F) : R S I' J' F := by
  obtain ⟨hS, hF, hC, hK, hT, hO, hD, hW, own, hN, hL, hP, hG⟩ := h
  have e51 : I' 51 = I 51 := fr_row e (fun j => by unfold scr; omega)
  have eb : ∀ a, 72 ≤ a → I' a = I a := fun a h => fr_row e (scr_big h)
  have es : ∀ a, a < 14 → I' a = I a := fun a h => fr_row e (fun j => by unfold scr; omega)
  have e26 : I' 26 = I 26 := fr_row e (fun j => by unfold scr; omega)
  have e27 : I' 27 = I 27 := fr_row e (fun j => by unfold scr; omega)
  have e28 : I' 28 = I 28 := fr_row e (fun j => by unfold scr; omega)
  have e29 : I' 29 = I 29 := fr_row e (fun j => by unfold scr; omega)
  have e48 : I' 48 = I 48 := fr_row e (fun j => by unfold scr; omega)
  have e50 : I' 50 = I 50 := fr_row e (fun j => by unfold scr; omega)
  have e52 : I' 52 = I 52 := fr_row e (fun j => by unfold scr; omega)
  have e53 : I' 53 = I 53 := fr_row e (fun j => by unfold scr; omega)
  have e55 : I' 55 = I 55 := fr_row e (fun j => by unfold scr; omega)
  have e56 : I' 56 = I 56 := fr_row e (fun j => by unfold scr; omega)
  have e63 : I' 63 = I 63 := fr_row e (fun j => by unfold scr; omega)
  have e71 : I' 71 = I 71 := fr_row e (fun j => by unfold scr; omega)
  have f0 : I' 49 0 = I 49 0 := e 49 0 (by unfold scr; omega)
  have f6 : I' 49 6 = I 49 6 := e 49 6 (by unfold scr; omega)
  have f13 : I' 49 13 = I 49 13 := e 49 13 (by unfold scr; omega)
  have f14 : I' 49 14 = I 49 14 := e 49 14 (by unfold scr; omega)
  have f32 : I' 49 32 = I 49 32 := e 49 32 (by unfold scr; omega)
  have f38 : I' 49 38 = I 49 38 := e 49 38 (by unfold scr; omega)
  have f46 : I' 49 46 = I 49 46 := e 49 46 (by unfold scr; omega)
  refine ⟨hS, hF, ?_, by rw [e51]; exact hK, ?_, ?_, ?_, ?_, own, hN, ?_, ?_, rG_fr hN eb e52 e53 hG⟩
  · rw [e51]; exact rC_fr (es _ (by omega)) (es _ (by omega)) (es _ (by omega)) (es _ (by omega)) (es _ (by omega)) (es _ (by omega)) (es _ (by omega)) (es _ (by omega)) hC
  · unfold rT; rw [es 0 (by omega), f13, e29, e56]; exact hT
  · unfold rO; rw [es 0 (by omega), f0, e48, e50, f6, f14, f38]; exact hO
  · unfold rD rM; rw [es 0 (by omega), f46, e26, e27, e28, e71]; exact hD
  · unfold rW; rw [e55]; exact hW
  · rw [e51]; exact rL_fr (fun a q => eb a (hN a (by omega)).1) hL
  · exact rP_fr hN eb (es _ (by omega)) f32 (es _ (by omega)) e63 (by rw [e51]) hP
end sp44
