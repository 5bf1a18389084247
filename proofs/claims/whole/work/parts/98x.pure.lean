noncomputable section sp98x
/-! both constructors, out of nothing -/
def z_9 : Option (v_S × v_I × v_F) := f_X9_init [(9, v_n 9)] (fun _ _ => 0) (fun _ _ => none) 0
def z_q : v_S × v_I × v_F := match z_9 with | some r => r | none => ([], fun _ _ => 0, fun _ _ => none)
theorem z_9s : z_9.isSome = true := by decide +kernel
theorem z_9e : f_X9_init [(9, v_n 9)] (fun _ _ => 0) (fun _ _ => none) 0 = some z_q := by
  have h := z_9s
  show z_9 = some z_q
  unfold z_q
  cases e : z_9 with
  | none => rw [e] at h; cases h
  | some r => rfl
theorem z_len : z_q.1.length = 49 := by decide +kernel
def z_0 : Option (v_S × v_I × v_F) := f_X10_init (z_q.1 ++ [(10, v_n 10)]) z_q.2.1 z_q.2.2 49
def z_r : v_S × v_I × v_F := match z_0 with | some r => r | none => ([], fun _ _ => 0, fun _ _ => none)
theorem z_0s : z_0.isSome = true := by decide +kernel
theorem z_0e : f_X10_init (z_q.1 ++ [(10, v_n 10)]) z_q.2.1 z_q.2.2 49 = some z_r := by
  have h := z_0s
  show z_0 = some z_r
  unfold z_r
  cases e : z_0 with
  | none => rw [e] at h; cases h
  | some r => rfl
theorem z_S : z_r.1 = p_S0 := by decide +kernel
theorem z_F : ∀ q ∈ p_FT, z_r.2.2 q.1 q.2.1 = some q.2.2 := by decide +kernel
theorem z_51 : ∀ i, i < 53 → z_r.2.1 51 i = (if i = 46 then 1 else if i = 52 then -1 else 0) := by decide +kernel
theorem z_ch : ∀ i, i < 13 → z_r.2.1 1 i = (if i = 4 then 1 else if i = 12 then -1 else 0) := by decide +kernel
theorem z_lo : ∀ a, a < 7 → ∀ i, i < 8 → z_r.2.1 (2 + a) i = 0 := by decide +kernel
theorem z_29 : ∀ i, i < 400 → z_r.2.1 29 i = 0 ∧ z_r.2.1 56 i = 0 := by decide +kernel
theorem z_55 : ∀ i, i < 123 → z_r.2.1 55 i = w_row0.getD i 0 := by decide +kernel
theorem z_48 : ∀ i, i < 7 → z_r.2.1 48 i = 0 ∧ z_r.2.1 50 i = 0 := by decide +kernel
theorem z_11 : z_r.2.1 11 0 = 0 ∧ z_r.2.1 11 1 = 0 ∧ z_r.2.1 49 32 = 0 ∧ z_r.2.1 0 8 = 0 ∧ z_r.2.1 49 13 = 0 ∧ z_r.2.1 0 6 = 0 ∧ z_r.2.1 49 46 = -1 := by decide +kernel
theorem z_0c : z_r.2.1 0 14 = z_r.2.1 49 0 ∧ z_r.2.1 0 15 = z_r.2.1 49 6 ∧ z_r.2.1 0 16 = z_r.2.1 49 14 ∧ z_r.2.1 0 17 = z_r.2.1 49 38 := by decide +kernel
theorem z_26 : ∀ i, i < 18 → z_r.2.1 71 i = 0 ∧ z_r.2.1 26 i = 0 ∧ z_r.2.1 27 i = 0 ∧ z_r.2.1 28 i = 0 := by decide +kernel
theorem z_53 : ∀ i, i < 2 → z_r.2.1 53 i = 0 ∧ z_r.2.2 10 i = none := by decide +kernel
theorem z_13 : ∀ i, i < 16 → z_r.2.2 13 i = none := by decide +kernel
theorem z_la : ∀ i, i < 6 → z_r.2.2 9 i = none := by decide +kernel
theorem z_n0 : nI 0 = 0 := by decide +kernel
theorem z_gen {S : v_S} {I : v_I} {F : v_F} (J : v_J) (y_S : S = p_S0) (y_F : ∀ q ∈ p_FT, F q.1 q.2.1 = some q.2.2) (y_51 : ∀ i, i < 53 → I 51 i = (if i = 46 then 1 else if i = 52 then -1 else 0)) (y_ch : ∀ i, i < 13 → I 1 i = (if i = 4 then 1 else if i = 12 then -1 else 0)) (y_lo : ∀ a, a < 7 → ∀ i, i < 8 → I (2 + a) i = 0) (y_29 : ∀ i, i < 400 → I 29 i = 0 ∧ I 56 i = 0) (y_55 : ∀ i, i < 123 → I 55 i = w_row0.getD i 0) (y_48 : ∀ i, i < 7 → I 48 i = 0 ∧ I 50 i = 0) (y_11 : I 11 0 = 0 ∧ I 11 1 = 0 ∧ I 49 32 = 0 ∧ I 0 8 = 0 ∧ I 49 13 = 0 ∧ I 0 6 = 0 ∧ I 49 46 = -1) (y_0c : I 0 14 = I 49 0 ∧ I 0 15 = I 49 6 ∧ I 0 16 = I 49 14 ∧ I 0 17 = I 49 38) (y_26 : ∀ i, i < 18 → I 71 i = 0 ∧ I 26 i = 0 ∧ I 27 i = 0 ∧ I 28 i = 0) (y_53 : ∀ i, i < 2 → I 53 i = 0 ∧ F 10 i = none) (y_13 : ∀ i, i < 16 → F 13 i = none) (y_la : ∀ i, i < 6 → F 9 i = none) : R S I J F := by
  have k0 : ∀ i, i < 53 → i ≠ 46 → i ≠ 52 → I 51 i = 0 := fun i h h1 h2 => by rw [y_51 i h, if_neg h1, if_neg h2]
  have c0 : ∀ i, i < 13 → i ≠ 4 → i ≠ 12 → I 1 i = 0 := fun i h h1 h2 => by rw [y_ch i h, if_neg h1, if_neg h2]
  have k46 : I 51 46 = 1 := y_51 46 (by omega)
  have k52 : I 51 52 = -1 := y_51 52 (by omega)
  have c4 : I 1 4 = 1 := y_ch 4 (by omega)
  have c12 : I 1 12 = -1 := y_ch 12 (by omega)
  have z0 : ∀ {x : Int32}, x = 0 → x = nI 0 := fun e => e.trans z_n0.symm
  have eq0 : ∀ {x y : Int32}, x = 0 → y = 0 → x = y := fun a b => a.trans b.symm
  have hl : ∀ a i, a < 7 → i < 8 → I (2 + a) i = 0 := fun a i h1 h2 => y_lo a h1 i h2
  refine ⟨by rw [y_S]; exact fun k q h => h, y_F, ?_, ?_, ?_, ?_, ?_, y_55, fun _ => 0, ?_, ?_, ?_, ?_⟩
  · refine ⟨⟨eq0 (hl 0 0 (by omega) (by omega)) (k0 0 (by omega) (by omega) (by omega)), eq0 (hl 0 1 (by omega) (by omega)) (k0 17 (by omega) (by omega) (by omega)), fun h hh => eq0 (hl 1 h (by omega) hh) (k0 _ (by omega) (by omega) (by omega)), fun h hh => eq0 (hl 2 h (by omega) hh) (k0 _ (by omega) (by omega) (by omega))⟩, ?_, fun h hh => eq0 (hl 3 h (by omega) hh) (k0 _ (by omega) (by omega) (by omega)), fun h hh => eq0 (hl 4 h (by omega) hh) (k0 _ (by omega) (by omega) (by omega)), c4.trans k46.symm, ?_, ?_, ?_, fun i hi => eq0 (hl 5 i (by omega) (by omega)) (k0 _ (by omega) (by omega) (by omega)), fun i hi => eq0 (hl 6 i (by omega) (by omega)) (k0 _ (by omega) (by omega) (by omega)), ?_, c12.trans k52.symm⟩
    · exact eq0 (c0 0 (by omega) (by omega) (by omega)) (k0 49 (by omega) (by omega) (by omega))
    · exact eq0 (c0 5 (by omega) (by omega) (by omega)) (k0 47 (by omega) (by omega) (by omega))
    · exact eq0 (c0 6 (by omega) (by omega) (by omega)) (k0 48 (by omega) (by omega) (by omega))
    · exact eq0 (c0 7 (by omega) (by omega) (by omega)) (k0 50 (by omega) (by omega) (by omega))
    · exact eq0 (c0 10 (by omega) (by omega) (by omega)) (k0 51 (by omega) (by omega) (by omega))
  · refine ⟨0, 0, by omega, z0 (k0 49 (by omega) (by omega) (by omega)), ⟨⟨0, by omega, z0 (k0 0 (by omega) (by omega) (by omega))⟩, ⟨0, by omega, z0 (k0 17 (by omega) (by omega) (by omega))⟩, fun h hh => ?_⟩, fun h hh => ⟨0, by omega, z0 (k0 _ (by omega) (by omega) (by omega))⟩, ⟨0, by omega, z0 (k0 50 (by omega) (by omega) (by omega))⟩, fun i hi => ⟨0, by omega, z0 (k0 _ (by omega) (by omega) (by omega))⟩, by omega, z0 (k0 51 (by omega) (by omega) (by omega)), .inl k52⟩
    rw [k0 (1 + h) (by omega) (by omega) (by omega)]
    decide
  · refine ⟨⟨0, by omega, z0 y_11.2.2.2.1, z0 y_11.2.2.2.2.1⟩, fun i hi => ⟨0, by omega, z0 (y_29 i hi).1, ?_⟩⟩
    rw [(y_29 i hi).2, z_n0]
    decide +kernel
  · exact ⟨y_0c.1, eq0 (y_48 0 (by omega)).1 (y_48 1 (by omega)).2, eq0 (y_48 1 (by omega)).1 (y_48 2 (by omega)).2, eq0 (y_48 2 (by omega)).1 (y_48 3 (by omega)).2, eq0 (y_48 3 (by omega)).1 (y_48 5 (by omega)).2, eq0 (y_48 4 (by omega)).1 (y_48 6 (by omega)).2, y_0c.2.1, y_0c.2.2.1, y_0c.2.2.2⟩
  · refine ⟨⟨0, by omega, z0 y_11.2.2.2.2.2.1, .inl ⟨rfl, y_11.2.2.2.2.2.2⟩⟩, ?_⟩
    exact ⟨eq0 (y_26 0 (by omega)).2.1 (y_26 0 (by omega)).1, eq0 (y_26 1 (by omega)).2.1 (y_26 17 (by omega)).1, fun h hh => eq0 (y_26 h (by omega)).2.2.1 (y_26 (1 + h) (by omega)).1, fun h hh => eq0 (y_26 h (by omega)).2.2.2 (y_26 (9 + h) (by omega)).1⟩
  · exact fun a h => absurd rfl h
  · intro t n hn hk ht
    exfalso
    have e : nI n = nI 0 := hk.symm.trans (z0 (k0 51 (by omega) (by omega) (by omega)))
    have := (nI_eq (by omega) (by omega)).mp e
    omega
  · exact ⟨0, 0, by omega, by omega, z0 y_11.1, z0 y_11.2.2.1, z0 y_11.2.1, fun q hq => .inl (y_13 q hq), fun j hj => absurd hj (by omega)⟩
  · exact ⟨fun j hj => .inl (y_53 j hj), fun t ht => .inl (y_la t ht)⟩
theorem z_R (J : v_J) : R z_r.1 z_r.2.1 J z_r.2.2 := z_gen J z_S z_F z_51 z_ch z_lo z_29 z_55 z_48 z_11 z_0c z_26 z_53 z_13 z_la
theorem R_all {S : v_S} {I : v_I} {J : v_J} {F : v_F} (h : R S I J F) : p_SS S ∧ op_all R S I J F :=
  ⟨h.1, ok_0 h, ok_1 h, ok_2 h, ok_3 h, ok_4 h, ok_5 h, ok_6 h, ok_7 h, ok_8 h, ok_9 h, ok_10 h, ok_11 h, ok_12 h, ok_13 h, ok_14 h, ok_15 h, ok_16 h, ok_17 h, ok_18 h, ok_19 h, ok_20 h, ok_21 h, ok_22 h, ok_23 h, ok_24 h, ok_25 h, ok_26 h, ok_27 h, ok_28 h, ok_29 h, ok_30 h, ok_31 h, ok_32 h, ok_33 h, ok_34 h, ok_35 h, ok_36 h, ok_37 h, ok_38 h, ok_39 h, ok_40 h⟩
/-- whatever is drawn, both agree -/
theorem law_pure {L : Nat} {xs : Nat → Int32} (hL : L ≤ 3072) : f_L_law L xs [] (fun _ _ => 0) (fun _ _ => 0) (fun _ _ => none) = some 1 := by
  unfold f_L_law
  rw [p_le, show (([] : v_S) ++ [(9, v_n 9)]) = [(9, v_n 9)] from rfl, show ([] : v_S).length = 0 from rfl, z_9e, p_bs, p_le, z_len, z_0e, p_bs]
  obtain ⟨q, hq⟩ := law_loop (P := R) (fun S I J F h => R_all h) (L := L) (xs := xs) hL 513 0 z_r.1 z_r.2.1 (fun _ _ => 0) z_r.2.2 (z_R _) (by omega) (by omega)
  have e : nI (6 * 0) = (0 : Int32) := z_n0
  rw [e] at hq
  rw [hq, p_bs]
theorem whole_start {p : Program} {e : Env} {s : State} {m : MethodId} {below : List Frame} {meth : Method} {c : Code} (l : Launch) (_ : l.flags = flags0) {b L : Nat} {xs : Nat → Int32} (hL : L ≤ 3072) (C0 : lw_At p s m meth c b L xs) : W p l e room_1 s m #[Value.ref b] below meth c s.heap [] 0 0 (lw_Z below #[Value.ref b] s) (entryFrame m ([Value.ref b] : List Value).toArray 4) :=
  whole_open l (law_pure hL) C0
end sp98x
