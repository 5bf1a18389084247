noncomputable section sp98b
variable {c v : Nat → Int32} {pl : Nat → Nat} {o : Bool} {z : Nat} {S : v_S} {F : v_F}
theorem Rok_mono {f : Option (Int32 × v_I)} {I : v_I} {p dp s h h' : Nat} {x : PR} (k : Rok pl z f I p dp s h x) (q : h ≤ h') : Rok pl z f I p dp s h' x := ⟨k.1, fun r hr => by
  obtain ⟨a, I', s', b1, b2, b3, b4, b5, b6, b7⟩ := k.2 r hr
  exact ⟨a, I', s', b1, b2, b3, b4, b5, Sg_mono b6 q, b7⟩⟩
theorem okC_mono {dp h h' : Nat} {f : v_I → Option (Int32 × v_I)} {item : Nat → Nat → PR} (k : okC c v pl o z dp h f item) (q : h ≤ h') : okC c v pl o z dp h' f item := fun I p n s B D hp hn hs => Rok_mono (k I p n s B D hp hn hs) q
/-- a FAULT here -/
theorem Rok_flt {I : v_I} {p n dp s h : Nat} (B : Cb I c v pl o z) (D : Cd I p n dp s) (hp : p ≤ z) (hs : s ≤ 436) : Rok pl z ((h_X6_faultHere S I F).bind fun r => (p_bl r.1).bind fun _ => some (r.1, r.2)) I p dp s h (.inl p) := by
  obtain ⟨I', e1, e2, e3⟩ := c_flt (S := S) (F := F) B D hp hs
  refine ⟨fun e h => ?_, (fun r h => by cases h)⟩
  cases h
  refine ⟨hp, I', ?_, e2, e3⟩
  rw [e1, p_bs]
  rfl
/-! brackets -/
def sbC (c v : Nat → Int32) (pl : Nat → Nat) (o : Bool) (z dp h : Nat) (f : v_I → Option (Int32 × v_I)) (sub : Option (Nat → Nat → PR)) : Prop := (sub = none ∧ dp = 8) ∨ ∃ g, sub = some g ∧ dp < 8 ∧ okC c v pl o z (dp + 1) h f g
theorem c_brk {dp h t : Nat} {sub : Option (Nat → Nat → PR)} {b cl : Int32} (rc : Nat → Int32 → v_S → v_I → v_F → Option (Int32 × v_I)) (hm : moS z sub) (hb : (b = 0 ∧ t = 4 ∧ cl = 193) ∨ (b = 1 ∧ t = 0 ∧ cl = 141)) (hs : sbC c v pl o z dp h (fun I => rc t 0 S I F) sub)
    {I : v_I} {p n s : Nat} (B : Cb I c v pl o z) (D : Cd I p n dp s) (hp : p < z) (hn : n ≤ 50) (hsp : s ≤ p + 35) : Rok pl z (h_X6_readBrackets rc S I F b) I p dp s h (sp_brk c cl sub p n) := by
  have hz := B.1
  rcases hs with ⟨rfl, rfl⟩ | ⟨g, rfl, hdp, hg⟩
  · unfold h_X6_readBrackets
    rw [if_neg (by rw [D.2.2.2.1]; decide)]
    exact Rok_flt B D (by omega) (by omega)
  · have e0 : h_X6_readBrackets rc S I F b = (rc t 0 S (nxt (v_up I 30 8 (nI (dp + 1))) p) F).bind fun r => if r.1 = 0 then some (0, r.2) else h_X6_readBrackets_J51 rc S F r.2 b := by
      have B1 : Cb (v_up I 30 8 (nI (dp + 1))) c v pl o z := Cb_f (Cf_up (Cf_refl s I) _ (by omega)) B
      unfold h_X6_readBrackets
      rw [if_pos (by rw [D.2.2.2.1]; exact i_lt rfl (b := 8) rfl hdp (by omega)), p_le, D.2.2.2.1, ← nI_succ, c_next B1 (Cd_8 D _) hp, p_bs]
      rcases hb with ⟨rfl, rfl, rfl⟩ | ⟨rfl, rfl, rfl⟩
      · rw [if_pos rfl]
      · rw [if_neg (by decide)]
    rw [e0]
    have f1 : Cf s I (v_up I 30 8 (nI (dp + 1))) := Cf_up (Cf_refl s I) _ (by omega)
    have f2 := Cf_trans f1 (Cf_next s _ p) (Nat.le_refl _)
    have D2 := Cd_next (Cd_8 D (dp + 1))
    have r2 : (nxt (v_up I 30 8 (nI (dp + 1))) p) 31 2 = I 31 2 := by rw [nxt_row _ _ (by decide), w_row _ _ _ _ (by decide)]
    generalize nxt (v_up I 30 8 (nI (dp + 1))) p = A at f2 D2 r2
    obtain ⟨i1, i2⟩ := hg A (p + 1) n s (Cb_f f2 B) D2 (by omega) hn (by omega)
    unfold sp_brk
    dsimp only
    cases h2 : g (p + 1) n with
    | inl e =>
      obtain ⟨he, J, e1, e2, e3⟩ := i1 e h2
      refine ⟨fun e' h => ?_, (fun r h => by cases h)⟩
      cases h
      refine ⟨he, J, ?_, Cf_trans f2 e2 (Nat.le_refl _), e3⟩
      dsimp only at e1
      rw [e1, p_bs]; dsimp only
      rw [if_pos rfl]
    | inr r =>
      obtain ⟨hn', J, s', e1, e2, e3, e4, e5, e6, e7⟩ := i2 r h2
      have hr := hm g rfl _ _ _ h2
      dsimp only at e1
      rw [e1, p_bs]; dsimp only
      rw [if_neg (by decide)]
      have f3 : Cf s I (v_up J 30 8 (nI dp)) := Cf_up (Cf_trans f2 e2 (Nat.le_refl _)) _ (by omega)
      have D3 := Cd_8 e3 dp
      have B3 := Cb_f f3 B
      have r3 : v_up J 30 8 (nI dp) 37 = J 37 := w_row _ _ _ _ (by decide)
      have r4 : v_up J 30 8 (nI dp) 31 = J 31 := w_row _ _ _ _ (by decide)
      have j51 : h_X6_readBrackets_J51 rc S F J b = if c r.1 = cl then some (1, nxt (v_up J 30 8 (nI dp)) r.1) else (h_X6_faultHere S (v_up J 30 8 (nI dp)) F).bind fun r_16 => if r_16.1 = (0 : Int32) then some ((0 : Int32), r_16.2) else some ((1 : Int32), r_16.2) := by
        have T := B3.2.2.1 r.1 hr.2
        unfold h_X6_readBrackets_J51 h_X6_readBrackets_J73
        rw [p_le, e3.2.2.2.1, nI_pred]
        rcases hb with ⟨rfl, rfl, rfl⟩ | ⟨rfl, rfl, rfl⟩
        · rw [if_pos rfl, c_take B3 D3 (tk_93 T) (by decide), p_bs]
          by_cases q : c r.1 = 193
          · rw [if_pos q, if_pos q]; dsimp only; rw [if_neg (by decide)]
          · rw [if_neg q, if_neg q]; dsimp only; rw [if_pos rfl]
        · rw [if_neg (by decide), c_take B3 D3 (tk_41 T) (by decide), p_bs]
          by_cases q : c r.1 = 141
          · rw [if_pos q, if_pos q]; dsimp only; rw [if_neg (by decide)]
          · rw [if_neg q, if_neg q]; dsimp only; rw [if_pos rfl]
      rw [j51]
      generalize v_up J 30 8 (nI dp) = K at f3 D3 B3 r3 r4
      by_cases q : c r.1 = cl
      · rw [if_pos q, if_pos q]
        refine ⟨(fun e h => by cases h), fun u h => ?_⟩
        cases h
        refine ⟨hn', nxt K r.1, s', rfl, Cf_trans f3 (Cf_next s K r.1) (Nat.le_refl _), Cd_next D3, e4, by dsimp only; omega, ?_, fun w => ?_⟩
        · rw [nxt_row _ _ (by decide), r3]; exact e6
        · rw [nxt_row _ _ (by decide), r4] at w
          have := e7 w
          rw [r2] at this
          exact this
      · rw [if_neg q, if_neg q]
        obtain ⟨L, l1, l2, l3⟩ := c_flt (S := S) (F := F) B3 D3 hr.2 (by omega)
        refine ⟨fun e' h => ?_, (fun r h => by cases h)⟩
        cases h
        refine ⟨hr.2, L, ?_, Cf_trans f3 l2 e4, l3.1, ?_⟩
        · rw [l1, p_bs]; dsimp only; rw [if_pos rfl]
        · obtain ⟨s2, m1, m2, m3⟩ := l3.2
          exact ⟨s2, by omega, m2, m3⟩
/-! a PART -/
theorem cr_orb {x : Int32} (h : x = 0 ∨ x = 1) : x ||| 0 = x ∧ x ||| 1 = 1 := by
  rcases h with rfl | rfl <;> decide
/-- a step is added behind a TOKEN -/
theorem c_new {I : v_I} {p n dp s : Nat} (hS : p_SS S) (hF : p_FF F) (B : Cb I c v pl o z) (D : Cd I p n dp s) (hp : p < z) : h_X6_nextToken S (v_up I 30 7 (I 30 7 + 1)) F = some (nxt (v_up I 30 7 (nI (n + 1))) p) ∧ Cf s I (nxt (v_up I 30 7 (nI (n + 1))) p) ∧ Cd (nxt (v_up I 30 7 (nI (n + 1))) p) (p + 1) (n + 1) dp s ∧ nxt (v_up I 30 7 (nI (n + 1))) p 31 2 = I 31 2 ∧ nxt (v_up I 30 7 (nI (n + 1))) p 30 6 = I 30 6 := by
  have f1 : Cf s I (v_up I 30 7 (nI (n + 1))) := Cf_up (Cf_refl s I) _ (by omega)
  have f2 := Cf_trans f1 (Cf_next s _ p) (Nat.le_refl _)
  refine ⟨?_, f2, Cd_next (Cd_7 D (n + 1)), by rw [nxt_row _ _ (by decide), w_row _ _ _ _ (by decide)], f2 30 6 (by omega) (by omega) (by omega)⟩
  rw [D.2.2.1, ← nI_succ]
  exact c_next (Cb_f f1 B) (Cd_7 D _) hp
theorem c_81n {I : v_I} {p n dp s m : Nat} (hS : p_SS S) (hF : p_FF F) (rc : Nat → Int32 → v_S → v_I → v_F → Option (Int32 × v_I)) (B : Cb I c v pl o z) (D : Cd I p n dp s) (hp : p < z) (hn : n ≤ 50) (hsp : s ≤ p + 35) (hm : m ≤ 1000) (y2 : Int32) :
    Rok pl z (h_X6_readPart_J81 rc S F I (nI m) y2) I p dp s 1 (if n = 50 then .inl p else .inr (p + 1, n + 1, d_num (nI m))) := by
  have hz := B.1
  unfold h_X6_readPart_J81
  by_cases q : n = 50
  · rw [if_pos q, if_neg (by rw [D.2.2.1, q]; decide)]
    exact Rok_flt B D (by omega) (by omega)
  · rw [if_neg q, if_pos (by rw [D.2.2.1]; exact i_lt rfl (b := 50) rfl (by omega) (by omega)), p_le]
    obtain ⟨a1, a2, a3, a4, a5⟩ := c_new (S := S) (F := F) hS hF B D hp
    rw [a1, p_bs]
    generalize nxt (v_up I 30 7 (nI (n + 1))) p = A at a2 a3 a4 a5
    rw [if_neg (nI_ne m (by omega))]
    have c1 := cr_step (S := S) (F := F) hS hF a3.2.2.2.2.1 (by omega) 1 m
    rw [show nI 1 = (1 : Int32) from rfl] at c1
    rw [c1, p_bs]
    refine ⟨(fun e h => by cases h), fun u h => ?_⟩
    cases h
    have pkk := pk_ok m (by omega) 1 (by omega)
    refine ⟨by dsimp only; omega, ast A s 1 m, s + 1, rfl, Cf_trans a2 (Cf_step A s 1 m) (Nat.le_refl _), Cd_step a3 1 m, by omega, by dsimp only; omega, Sg_num (by rw [st_at]; exact pkk.1) (by rw [st_at]; exact pkk.2), fun w => ?_⟩
    rw [st_2, a4] at w
    exact ⟨w, st_num _⟩
theorem c_81w {I : v_I} {p n dp s w : Nat} (hS : p_SS S) (hF : p_FF F) (rc : Nat → Int32 → v_S → v_I → v_F → Option (Int32 × v_I)) (B : Cb I c v pl o z) (D : Cd I p n dp s) (hp : p < z) (hn : n ≤ 50) (hsp : s ≤ p + 35) (hw : w < 36) {y2 : Int32} (hy : y2 = nI w) (ho : o = false ∨ h_X6_firstOf y2 = some (-1)) :
    Rok pl z (h_X6_readPart_J81 rc S F I (-1) y2) I p dp s 1 (if n = 50 then .inl p else .inr (p + 1, n + 1, d_word w)) := by
  have hz := B.1
  unfold h_X6_readPart_J81
  by_cases q : n = 50
  · rw [if_pos q, if_neg (by rw [D.2.2.1, q]; decide)]
    exact Rok_flt B D (by omega) (by omega)
  · rw [if_neg q, if_pos (by rw [D.2.2.1]; exact i_lt rfl (b := 50) rfl (by omega) (by omega)), p_le]
    obtain ⟨a1, a2, a3, a4, a5⟩ := c_new (S := S) (F := F) hS hF B D hp
    rw [a1, p_bs]
    generalize nxt (v_up I 30 7 (nI (n + 1))) p = A at a2 a3 a4 a5
    rw [if_pos rfl]
    have e0 : (if A 30 6 = (0 : Int32) then h_X6_readPart_J150 rc S F A y2 else (h_X6_firstOf y2).bind fun r_23 => if r_23 = (-1 : Int32) then h_X6_readPart_J150 rc S F A y2 else (h_X6_firstOf y2).bind fun r_26 => (h_X6_readOne S A F r_26).bind fun r_28 => (p_bl r_28.1).bind fun _ => some (r_28.1, r_28.2)) = h_X6_readPart_J150 rc S F A y2 := by
      rcases ho with rfl | ho
      · rw [if_pos (by rw [a5, B.2.2.2.2.2]; rfl)]
      · rw [ho, p_bs, if_pos rfl]
        by_cases q : A 30 6 = 0
        · rw [if_pos q]
        · rw [if_neg q]
    rw [e0]
    unfold h_X6_readPart_J150 h_X6_readPart_J179 h_X6_readPart_J184
    subst hy
    have c1 := cr_step (S := S) (F := F) hS hF a3.2.2.2.2.1 (by omega) 2 w
    rw [show nI 2 = (2 : Int32) from rfl] at c1
    rw [c1, p_bs]
    dsimp only
    have g1 := Cf_trans a2 (Cf_step A s 2 w) (Nat.le_refl _)
    have g2 := Cd_step a3 2 w
    have g3 := st_at A s 2 w
    have g4 := st_2 A s 2 w
    rw [a4] at g4
    generalize ast A s 2 w = K at g1 g2 g3 g4
    have hbit : I 31 2 = 0 ∨ I 31 2 = 1 := D.2.2.2.2.2.2
    have pkk := pk_ok w (by omega) 2 (by omega)
    have fin : ∀ x : Int32, (x = 0 ∨ x = 1) → (x = 0 → I 31 2 = 0 ∧ d_still (d_word w)) → Rok pl z ((p_bl x).bind fun _ => p_let (v_up K 31 2 x) fun I_20 => some ((1 : Int32), I_20)) I p dp s 1 (.inr (p + 1, n + 1, d_word w)) := by
      intro x hx hq
      have : p_bl x = some () := by unfold p_bl; rw [if_pos hx]
      rw [this, p_bs, p_le]
      refine ⟨(fun e h => by cases h), fun u h => ?_⟩
      cases h
      refine ⟨by dsimp only; omega, _, s + 1, rfl, Cf_up g1 _ (by omega), ?_, by omega, by dsimp only; omega, ?_, fun w => ?_⟩
      · obtain ⟨d1, d2, d3, d4, d5, d6, d7⟩ := g2
        refine ⟨by simp [v_up, d1], by simp [v_up, d2], by simp [v_up, d3], by simp [v_up, d4], by simp [v_up, d5], by simp [v_up, d6], ?_⟩
        rw [v_up_at]; exact hx
      · rw [w_row _ _ _ _ (by decide)]
        exact Sg_word (by rw [g3]; exact pkk.1) (by rw [g3]; exact pkk.2) hw
      · rw [v_up_at] at w
        exact hq w
    rw [g4]
    by_cases q5 : nI w = 5
    · rw [if_pos q5, (cr_orb hbit).2]
      exact fin 1 (.inr rfl) (fun h => absurd h (by decide))
    · rw [if_neg q5]
      by_cases q6 : nI w = 6
      · rw [if_pos q6, (cr_orb hbit).2]
        exact fin 1 (.inr rfl) (fun h => absurd h (by decide))
      · rw [if_neg q6, (cr_orb hbit).1]
        exact fin _ hbit (fun h => ⟨h, st_word (fun e => q5 (by rw [e]; rfl)) (fun e => q6 (by rw [e]; rfl))⟩)
theorem c_81o {I : v_I} {p n dp s w : Nat} (hS : p_SS S) (hF : p_FF F) (rc : Nat → Int32 → v_S → v_I → v_F → Option (Int32 × v_I)) (B : Cb I c v pl true z) (D : Cd I p n dp s) (hp : p < z) (hn : n ≤ 50) (hsp : s ≤ p + 35) (hw : 7 ≤ w ∧ w ≤ 28) {y2 : Int32} (ho : h_X6_firstOf y2 = some (nI w)) :
    Rok pl z (h_X6_readPart_J81 rc S F I (-1) y2) I p dp s 1 (if n = 50 then .inl p else if c (p + 1) = 50 ∧ 0 ≤ v (p + 1) ∧ v (p + 1) ≤ 7 then .inr (p + 2, n + 1, d_word (w + (v (p + 1)).toNatClampNeg)) else .inl (p + 1)) := by
  have hz := B.1
  unfold h_X6_readPart_J81
  by_cases q : n = 50
  · rw [if_pos q, if_neg (by rw [D.2.2.1, q]; decide)]
    exact Rok_flt B D (by omega) (by omega)
  · rw [if_neg q, if_pos (by rw [D.2.2.1]; exact i_lt rfl (b := 50) rfl (by omega) (by omega)), p_le]
    obtain ⟨a1, a2, a3, a4, a5⟩ := c_new (S := S) (F := F) hS hF B D hp
    rw [a1, p_bs]
    generalize nxt (v_up I 30 7 (nI (n + 1))) p = A at a2 a3 a4 a5
    have BA := Cb_f a2 B
    rw [if_pos rfl, if_neg (by rw [a5, B.2.2.2.2.2]; decide), ho, p_bs, if_neg (nI_ne w (by omega)), p_bs]
    have T := BA.2.2.1 (p + 1) (by omega)
    rw [← a3.2.1] at T
    have N := tk_num (S := S) T (m := 7) (by omega)
    rw [show nI 7 = (7 : Int32) from rfl] at N
    unfold h_X6_readOne
    rw [N, p_bs]
    by_cases qq : c (p + 1) = 50 ∧ v (p + 1) ≤ 7
    · obtain ⟨x, hx, hv⟩ : ∃ x : Nat, x ≤ 7 ∧ v (p + 1) = nI x := by
        rcases T with ⟨a, ha, hc, _⟩ | ⟨_, m, hm, hv, _⟩
        · have k : ∀ a, a < 356 → cxv a → nI a ≠ 50 := by decide +kernel
          exact absurd (hc.symm.trans qq.1) (k a (by unfold cxv at ha; omega) ha)
        · refine ⟨m, ?_, hv⟩
          have := qq.2
          rw [hv] at this
          exact (nI_leI (b := 7) (by omega) (by omega)).mp this
      have hlt : p + 1 < z := cz_lt' BA.2.2.2.1 qq.1 (by decide)
      have q7 : nI x ≤ 7 := by rw [← hv]; exact qq.2
      rw [if_pos qq, hv, if_neg (nI_ne x (by omega)), if_pos (show c (p + 1) = 50 ∧ 0 ≤ nI x ∧ nI x ≤ 7 from ⟨qq.1, nI_pos' (by omega), q7⟩), nI_add]
      have c1 := cr_step (S := S) (F := F) hS hF a3.2.2.2.2.1 (by omega) 2 (w + x)
      rw [show nI 2 = (2 : Int32) from rfl] at c1
      rw [c1, p_bs]
      dsimp only
      have g1 := Cf_trans a2 (Cf_step A s 2 (w + x)) (Nat.le_refl _)
      have g2 := Cd_step a3 2 (w + x)
      have g3 := st_at A s 2 (w + x)
      have g4 := st_2 A s 2 (w + x)
      rw [a4] at g4
      generalize ast A s 2 (w + x) = K at g1 g2 g3 g4
      rw [c_next (Cb_f g1 B) g2 hlt, p_bs, p_bs]
      have pkk := pk_ok (w + x) (by omega) 2 (by omega)
      refine ⟨(fun e h => by cases h), fun u h => ?_⟩
      cases h
      refine ⟨by dsimp only; omega, nxt K (p + 1), s + 1, rfl, Cf_trans g1 (Cf_next s K (p + 1)) (Nat.le_refl _), Cd_next g2, by omega, by dsimp only; omega, ?_, fun w' => ?_⟩
      · dsimp only
        rw [nxt_row _ _ (by decide), nI_clamp (by omega)]
        exact Sg_word (by rw [g3]; exact pkk.1) (by rw [g3]; exact pkk.2) (by omega)
      · rw [nxt_row _ _ (by decide), g4] at w'
        dsimp only
        rw [nI_clamp (by omega)]
        exact ⟨w', st_word (by omega) (by omega)⟩
    · rw [if_neg qq, if_neg (show ¬ (c (p + 1) = 50 ∧ 0 ≤ v (p + 1) ∧ v (p + 1) ≤ 7) from fun w => qq ⟨w.1, w.2.2⟩), if_pos rfl]
      obtain ⟨I', e1, e2, e3⟩ := c_flt (S := S) (F := F) BA a3 (by omega) (by omega)
      refine ⟨fun e h => ?_, (fun r h => by cases h)⟩
      cases h
      refine ⟨by omega, I', ?_, Cf_trans a2 e2 (Nat.le_refl _), e3⟩
      rw [e1, p_bs]
      rfl
theorem isOW_some (x : Int32) : ∃ r, h_X6_isOrderWord x = some r := by
  have : ∃ r, h_X6_firstOf x = some r := by
    unfold h_X6_firstOf
    by_cases h1 : x = 1
    · exact ⟨_, if_pos h1⟩
    · rw [if_neg h1]
      by_cases h2 : x = 5
      · exact ⟨_, if_pos h2⟩
      · rw [if_neg h2]
        by_cases h3 : x = 11
        · exact ⟨_, if_pos h3⟩
        · exact ⟨_, if_neg h3⟩
  obtain ⟨r, hr⟩ := this
  unfold h_X6_isOrderWord
  rw [hr]
  by_cases h1 : x = 6
  · exact ⟨_, if_pos h1⟩
  · rw [if_neg h1]
    by_cases h2 : x = 9
    · exact ⟨_, if_pos h2⟩
    · rw [if_neg h2]
      by_cases h3 : x = 10
      · exact ⟨_, if_pos h3⟩
      · rw [if_neg h3]
        by_cases h4 : x = 4
        · exact ⟨_, if_pos h4⟩
        · rw [if_neg h4, p_bs]
          by_cases h5 : r = -1
          · exact ⟨_, if_pos h5⟩
          · exact ⟨_, if_neg h5⟩
theorem cx_law : ∀ a, a < 356 → cxv a → (((cxt a < 269 ∨ 277 < cxt a) ∧ ¬ ((8 : Int32) ≤ nI a ∧ nI a ≤ 16)) ∨ (¬ cxt a < 269 ∧ ¬ 277 < cxt a ∧ ((8 : Int32) ≤ nI a ∧ nI a ≤ 16) ∧ cxt a - 269 = nI (wi_law (nI a)) ∧ wi_law (nI a) < 36)) := by decide +kernel
theorem cx_ord1 : ∀ a, a < 356 → cxv a → ((h_X6_isOrderWord (cxt a - 269) = some 0 ∧ ¬ ((13 : Int32) ≤ nI a ∧ nI a ≤ 19)) ∨ (h_X6_isOrderWord (cxt a - 269) = some 1 ∧ ((13 : Int32) ≤ nI a ∧ nI a ≤ 19))) := by decide +kernel
theorem cx_ord2 : ∀ a, a < 20 → 13 ≤ a → (((nI a = 13 ∨ nI a = 14 ∨ nI a = 19) ∧ h_X6_firstOf (cxt a - 269) = some (nI (wi_one (nI a))) ∧ 7 ≤ wi_one (nI a) ∧ wi_one (nI a) ≤ 28) ∨ (¬ (nI a = 13 ∨ nI a = 14 ∨ nI a = 19) ∧ h_X6_firstOf (cxt a - 269) = some (-1) ∧ cxt a - 269 = nI (wi_ord (nI a)) ∧ wi_ord (nI a) < 36)) := by decide +kernel
theorem cx_ord3 : ∀ a, a < 356 → ((13 : Int32) ≤ nI a ∧ nI a ≤ 19) → 13 ≤ a ∧ a < 20 := by decide +kernel
theorem cx_50 : ∀ a, a < 356 → cxv a → nI a ≠ 50 := by decide +kernel
theorem c_leaf {I : v_I} {p n dp s : Nat} (hS : p_SS S) (hF : p_FF F) (rc : Nat → Int32 → v_S → v_I → v_F → Option (Int32 × v_I)) (B : Cb I c v pl o z) (D : Cd I p n dp s) (hp : p ≤ z) (hn : n ≤ 50) (hsp : s ≤ p + 35) (h91 : c p ≠ 191) : Rok pl z (h_X6_readPart rc S I F) I p dp s 1 (sp_leaf c v o p n) := by
  have hz := B.1
  have T := B.2.2.1 p hp
  have n91 : ¬ I 38 p = 91 := fun q => h91 ((tk_91 T).mp q)
  have T' := T
  rw [← D.2.1] at T'
  have N := tk_num (S := S) T' (m := 1000) (by omega)
  rw [show nI 1000 = (1000 : Int32) from rfl] at N
  have h6 := B.2.2.2.2.2
  unfold h_X6_readPart h_X6_readPart_J70
  rw [N, p_bs, p_le, D.2.1, if_neg n91, h6]
  unfold sp_leaf
  have bad : ∀ y, Rok pl z (h_X6_readPart_J71 rc S F I (-1) y 0) I p dp s 1 (.inl p) := by
    intro y
    unfold h_X6_readPart_J71 h_X6_readPart_J90
    rw [if_pos rfl, if_pos rfl]
    exact Rok_flt B D hp (by omega)
  rcases T with ⟨a, ha, hc, hx⟩ | ⟨hc, m, hm, hv, hx⟩
  · have ha' : a < 356 := by unfold cxv at ha; omega
    have h50 : ¬ (c p = 50 ∧ v p ≤ 1000) := fun q => cx_50 a ha' ha (hc.symm.trans q.1)
    rw [if_neg h50, if_neg h50, hx]
    cases o with
    | false =>
      rw [if_pos (show bI false = 0 from rfl)]
      have K := cx_law a ha' ha
      rw [← hc] at K
      rcases K with ⟨k1, k2⟩ | ⟨k1, k2, k3, k4, k5⟩
      · rw [if_neg (show ¬ ((if false = true then (13 : Int32) else 8) ≤ c p ∧ c p ≤ (if false = true then (19 : Int32) else 16)) from k2)]
        by_cases q : cxt a < 269
        · rw [if_pos q]; exact bad _
        · rw [if_neg q, if_pos (k1.resolve_left q)]; exact bad _
      · have hlt : p < z := cz_lt B.2.2.2.1 (fun e => by
          have := k3.1
          rw [e] at this
          exact absurd this (by decide))
        rw [if_neg k1, if_neg k2, if_pos (show ((if false = true then (13 : Int32) else 8) ≤ c p ∧ c p ≤ (if false = true then (19 : Int32) else 16)) from k3)]
        have e : h_X6_readPart_J71 rc S F I (-1) (cxt a - 269) 1 = h_X6_readPart_J81 rc S F I (-1) (cxt a - 269) := by
          unfold h_X6_readPart_J71
          rw [if_pos rfl, if_neg (by decide)]
        rw [e]
        have := c_81w hS hF rc B D hlt hn hsp k5 k4 (.inl rfl)
        simpa using this
    | true =>
      rw [if_neg (show ¬ bI true = 0 by decide)]
      have K := cx_ord1 a ha' ha
      rcases K with ⟨k1, k2⟩ | ⟨k1, k2⟩
      · rw [← hc] at k2
        rw [if_neg (show ¬ ((if true = true then (13 : Int32) else 8) ≤ c p ∧ c p ≤ (if true = true then (19 : Int32) else 16)) from k2), k1, p_bs]
        exact bad _
      · have k3 := cx_ord2 a (cx_ord3 a ha' k2).2 (cx_ord3 a ha' k2).1
        rw [← hc] at k2 k3
        have hlt : p < z := cz_lt B.2.2.2.1 (fun e => by
          have := k2.1
          rw [e] at this
          exact absurd this (by decide))
        rw [if_pos (show ((if true = true then (13 : Int32) else 8) ≤ c p ∧ c p ≤ (if true = true then (19 : Int32) else 16)) from k2), k1, p_bs]
        have e : h_X6_readPart_J71 rc S F I (-1) (cxt a - 269) 1 = h_X6_readPart_J81 rc S F I (-1) (cxt a - 269) := by
          unfold h_X6_readPart_J71
          rw [if_pos rfl, if_neg (by decide)]
        rw [e]
        rcases k3 with ⟨k4, k5, k6⟩ | ⟨k4, k5, k6, k7⟩
        · have := c_81o hS hF rc B D hlt hn hsp k6 k5
          rw [if_pos (show true = true ∧ (c p = 13 ∨ c p = 14 ∨ c p = 19) from ⟨rfl, k4⟩)]
          exact this
        · have := c_81w hS hF rc B D hlt hn hsp k7 k6 (.inr k5)
          rw [if_neg (show ¬ (true = true ∧ (c p = 13 ∨ c p = 14 ∨ c p = 19)) from fun q => k4 q.2)]
          simpa using this
  · by_cases qm : m ≤ 1000
    · have h50 : c p = 50 ∧ v p ≤ 1000 := ⟨hc, by rw [hv]; exact nI_le (b := 1000) qm (by omega)⟩
      have hlt : p < z := cz_lt' B.2.2.2.1 hc (by decide)
      rw [if_pos h50, if_pos h50]
      have e : ∀ y2 z0, h_X6_readPart_J71 rc S F I (v p) y2 z0 = h_X6_readPart_J81 rc S F I (v p) y2 := by
        intro y2 z0
        unfold h_X6_readPart_J71
        rw [if_neg (by rw [hv]; exact nI_ne m (by omega))]
      have G := fun y2 => c_81n hS hF rc B D hlt hn hsp qm y2
      rw [← hv] at G
      obtain ⟨r, hr⟩ := isOW_some (I 38 p - 269)
      simp only [e, hr, p_bs, ite_self]
      exact G _
    · rw [if_neg qm] at hx
      have h50 : ¬ (c p = 50 ∧ v p ≤ 1000) := fun q => by
        have := q.2
        rw [hv] at this
        exact absurd this (nI_ge (a := 1000) (by omega) (by omega))
      have kb : ¬ ((if o then (13 : Int32) else 8) ≤ c p ∧ c p ≤ (if o then 19 else 16)) := by
        rw [hc]; cases o <;> decide
      rw [if_neg h50, if_neg h50, if_neg kb, hx]
      cases o with
      | false =>
        rw [if_pos (show bI false = 0 from rfl), if_pos (by decide)]
        exact bad _
      | true =>
        rw [if_neg (show ¬ bI true = 0 by decide), show h_X6_isOrderWord (-2 - 269) = some 0 by decide, p_bs]
        exact bad _
theorem cr_part {dp h : Nat} {sub : Option (Nat → Nat → PR)} (hS : p_SS S) (hF : p_FF F) (rc : Nat → Int32 → v_S → v_I → v_F → Option (Int32 × v_I)) (hh : 1 ≤ h) (hbr : ∀ I p n s, Cb I c v pl o z → Cd I p n dp s → p < z → n ≤ 50 → s ≤ p + 35 → Rok pl z (rc 7 0 S I F) I p dp s h (sp_brk c 193 sub p n)) : okC c v pl o z dp h (fun I => h_X6_readPart rc S I F) (sp_part c v o sub) := by
  intro I p n s B D hp hn hsp
  unfold sp_part
  by_cases q : c p = 191
  · rw [if_pos q]
    have hlt := cz_lt' B.2.2.2.1 q (by decide)
    have K := hbr I p n s B D hlt hn hsp
    dsimp only
    unfold h_X6_readPart
    rw [if_pos (by rw [D.2.1]; exact (tk_91 (B.2.2.1 p hp)).mpr q)]
    refine ⟨fun e h => ?_, fun r h => ?_⟩
    · obtain ⟨a, I', b1, b2⟩ := K.1 e h
      exact ⟨a, I', by rw [b1, p_bs]; rfl, b2⟩
    · obtain ⟨a, I', s', b1, b2⟩ := K.2 r h
      exact ⟨a, I', s', by rw [b1, p_bs]; rfl, b2⟩
  · rw [if_neg q]
    exact Rok_mono (c_leaf hS hF rc B D hp hn hsp q) hh
end sp98b
