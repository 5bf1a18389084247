noncomputable section sp76
/-! draws -/
def nd (s : Int32) : Int32 := (((s.toInt64 * (1103 : Int64)) + (12345 : Int64)) - ((s.toInt64 * (1103 : Int64)) + (12345 : Int64)) / (1000003 : Int64) * (1000003 : Int64)).toInt32
def rm (s n : Int32) : Int32 := s - s / n * n
theorem rem64 (x : Int64) (h0 : 0 ≤ x.toInt) (h1 : x.toInt < 2 ^ 62) : ∃ b : Nat, b < 1000003 ∧ (x - x / (1000003 : Int64) * (1000003 : Int64)).toInt32 = nI b := by
  obtain ⟨a, ha⟩ : ∃ a : Nat, x.toInt = a := ⟨x.toInt.toNat, by omega⟩
  have e3 : (1000003 : Int64).toInt = 1000003 := by decide
  have hd : (x / 1000003).toInt = ((a / 1000003 : Nat) : Int) := by
    rw [Int64.toInt_div, e3, ha]
    rw [show ((a : Int).tdiv 1000003) = ((a / 1000003 : Nat) : Int) from rfl]
    apply Int.bmod_eq_of_le <;> omega
  have hm : (x / 1000003 * 1000003).toInt = ((a / 1000003 * 1000003 : Nat) : Int) := by
    rw [Int64.toInt_mul, hd, e3]
    have : a / 1000003 * 1000003 ≤ a := Nat.div_mul_le_self a 1000003
    rw [show ((a / 1000003 : Nat) : Int) * 1000003 = ((a / 1000003 * 1000003 : Nat) : Int) by rw [Int.natCast_mul]; rfl]
    apply Int.bmod_eq_of_le <;> omega
  have hs : (x - x / 1000003 * 1000003).toInt = ((a % 1000003 : Nat) : Int) := by
    rw [Int64.toInt_sub, hm, ha]
    have : a % 1000003 = a - a / 1000003 * 1000003 := by
      have := Nat.div_add_mod a 1000003; omega
    have : a / 1000003 * 1000003 ≤ a := Nat.div_mul_le_self a 1000003
    rw [show ((a : Int) - ((a / 1000003 * 1000003 : Nat) : Int)) = ((a % 1000003 : Nat) : Int) by omega]
    have : a % 1000003 < 1000003 := Nat.mod_lt _ (by omega)
    apply Int.bmod_eq_of_le <;> omega
  refine ⟨a % 1000003, Nat.mod_lt _ (by omega), ?_⟩
  have hl : a % 1000003 < 1000003 := Nat.mod_lt _ (by omega)
  rw [← Int32.toInt_inj, nI_toInt (by omega)]
  rw [Int64.toInt_toInt32, hs]
  apply Int.bmod_eq_of_le <;> omega
theorem nd_ok {a : Nat} (ha : a ≤ 1000003) : ∃ b : Nat, b < 1000003 ∧ nd (nI a) = nI b := by
  unfold nd
  have e : (nI a).toInt64.toInt = a := by rw [Int32.toInt_toInt64, nI_toInt (by omega)]
  have e1 : ((nI a).toInt64 * 1103 + 12345).toInt = (a : Int) * 1103 + 12345 := by
    have m : ((nI a).toInt64 * 1103).toInt = (a : Int) * 1103 := by
      rw [Int64.toInt_mul, e, show (1103 : Int64).toInt = 1103 by decide]
      apply Int.bmod_eq_of_le <;> omega
    rw [Int64.toInt_add, m, show (12345 : Int64).toInt = 12345 by decide]
    apply Int.bmod_eq_of_le <;> omega
  exact rem64 _ (by rw [e1]; omega) (by rw [e1]; omega)
theorem rm_ok {b n : Nat} (hb : b < 2 ^ 31) (hn : 0 < n) (hn2 : n < 2 ^ 31) : ∃ c : Nat, c < n ∧ rm (nI b) (nI n) = nI c := by
  unfold rm
  have e1 := nI_toInt hb
  have e2 := nI_toInt hn2
  have hdl : b / n ≤ b := Nat.div_le_self b n
  have hml : b / n * n ≤ b := Nat.div_mul_le_self b n
  have hmod : b % n < n := Nat.mod_lt _ hn
  have hq : b % n + b / n * n = b := by rw [Nat.mul_comm (b / n) n]; exact Nat.mod_add_div b n
  have ht : ((b : Int).tdiv n) = ((b / n : Nat) : Int) := rfl
  generalize b / n = q at *
  generalize b % n = r at *
  have hmc : ((q : Nat) : Int) * (n : Int) = ((q * n : Nat) : Int) := by rw [Int.natCast_mul]
  generalize q * n = p at *
  have hd : (nI b / nI n).toInt = (q : Int) := by
    rw [Int32.toInt_div, e1, e2, ht]
    apply Int.bmod_eq_of_le <;> omega
  have hm : (nI b / nI n * nI n).toInt = (p : Int) := by
    rw [Int32.toInt_mul, hd, e2, hmc]
    apply Int.bmod_eq_of_le <;> omega
  have hs : (nI b - nI b / nI n * nI n).toInt = (r : Int) := by
    rw [Int32.toInt_sub, hm, e1]
    rw [show ((b : Int) - (p : Int)) = (r : Int) by omega]
    apply Int.bmod_eq_of_le <;> omega
  refine ⟨r, hmod, ?_⟩
  rw [← Int32.toInt_inj, hs, nI_toInt (by omega)]
/-- what was drawn is done -/
def act (n : Int32) (s : Int32) (k : Nat → Int32) : Nat → Int32 :=
  if rm (nd (nd (nd s))) 4 = 0 then kup (kup k 0 (k 0 &&& (((1 : Int32) <<< (rm (nd s) n &&& 31)) ^^^ -1))) (9 + (rm (nd s) n).toNatClampNeg) 0
  else if rm (nd (nd (nd s))) 4 = 1 then kup k 0 (k 0 ||| ((1 : Int32) <<< (rm (nd s) n &&& 31)))
  else if rm (nd (nd (nd s))) 4 = 2 then kup k (1 + (rm (nd s) n).toNatClampNeg) (rm (nd (nd s)) 10)
  else k
theorem act_ok {n : Nat} {s : Int32} {k : Nat → Int32} {c : Nat} (hc : c < 8) (e : rm (nd s) (nI n) = nI c) (hB : kB k) : kB (act (nI n) s k) ∧ ∀ z, 18 ≤ z → act (nI n) s k z = k z := by
  obtain ⟨⟨o, ho, e0⟩, hw⟩ := hB
  have ge : ∀ z, 18 ≤ z → act (nI n) s k z = k z := by
    intro z hz
    unfold act
    rw [e, nI_clamp (by omega)]
    split
    · rw [kup_ne _ _ (by omega), kup_ne _ _ (by omega)]
    split
    · rw [kup_ne _ _ (by omega)]
    split
    · rw [kup_ne _ _ (by omega)]
    · rfl
  refine ⟨⟨?_, fun h hh => by rw [ge _ (by omega)]; exact hw h hh⟩, ge⟩
  unfold act
  rw [e, nI_clamp (by omega), e0, b_clr c o hc ho, b_set c o hc ho]
  split
  · rw [kup_ne _ _ (by omega), kup_at]; exact ⟨_, Nat.lt_of_le_of_lt Nat.and_le_left ho, rfl⟩
  split
  · rw [kup_at]; exact ⟨_, Nat.or_lt_two_pow (n := 8) ho (Nat.pow_lt_pow_right (by omega) hc), rfl⟩
  split
  · rw [kup_ne _ _ (by omega)]; exact ⟨o, ho, e0⟩
  · exact ⟨o, ho, e0⟩
/-- the councils, one by one -/
def cs (L : Option (List Cls)) (n : Nat) (s : Int32) (k : Nat → Int32) : Nat → Int32 × (Nat → Int32)
  | 0 => (s, k)
  | i + 1 => (nd (nd (nd (cs L n s k i).1)), mn L n 0 (act (nI n) (cs L n s k i).1 (cs L n s k i).2))
theorem cs_ok {L : Option (List Cls)} {n a : Nat} {k : Nat → Int32} (hn : n ≤ 8) (hn0 : 0 < n) (ha : a ≤ 1000000) (hB : kB k) : ∀ i, (∃ b : Nat, b ≤ 1000003 ∧ (cs L n (nI a) k i).1 = nI b) ∧ kB (cs L n (nI a) k i).2 ∧ ∀ z, 18 ≤ z → (cs L n (nI a) k i).2 z = k z
  | 0 => ⟨⟨a, by omega, rfl⟩, hB, fun _ _ => rfl⟩
  | i + 1 => by
    obtain ⟨⟨b, hb, eb⟩, hB', hg⟩ := cs_ok (L := L) hn hn0 ha hB i
    obtain ⟨b1, hb1, e1⟩ := nd_ok hb
    obtain ⟨b2, hb2, e2⟩ := nd_ok (show b1 ≤ 1000003 by omega)
    obtain ⟨b3, hb3, e3⟩ := nd_ok (show b2 ≤ 1000003 by omega)
    obtain ⟨c, hc, ec⟩ := rm_ok (show b1 < 2 ^ 31 by omega) hn0 (show n < 2 ^ 31 by omega)
    have ac := act_ok (n := n) (s := (cs L n (nI a) k i).1) (show c < 8 by omega) (by rw [eb, e1]; exact ec) hB'
    refine ⟨⟨b3, by omega, ?_⟩, ?_, fun z hz => ?_⟩
    · show nd (nd (nd (cs L n (nI a) k i).1)) = nI b3
      rw [eb, e1, e2, e3]
    · refine ⟨?_, fun h hh => ?_⟩
      · obtain ⟨u, hu, eu⟩ := mn_lt (L := L) (n := n) (hd := 0) (k := act (nI n) (cs L n (nI a) k i).1 (cs L n (nI a) k i).2)
        exact ⟨u, Nat.lt_of_lt_of_le hu (two_le hn), eu⟩
      · show ∃ w, w < 256 ∧ mn L n 0 _ (26 + h) = nI w
        rw [mn_ge hn (by omega)]; exact ac.1.2 h hh
    · show mn L n 0 _ z = k z
      rw [mn_ge hn hz, ac.2 z hz, hg z hz]
def stp (L : Option (List Cls)) (n : Nat) (s : Int32) (k : Nat → Int32) (N i : Nat) : Prop := N ≤ i ∨ 999 ≤ (cs L n s k i).2 17
theorem c_act {S : v_S} {I : v_I} {F : v_F} {m w s c : Nat} {k : Nat → Int32} (hB : mB m w s) (hM : rM I m w s k) (hc : c < 8) :
    (∃ x I1, h_X3_shutOne S I F m w s (nI c) = some (x, I1) ∧ rM I1 m w s (kup (kup k 0 (k 0 &&& (((1 : Int32) <<< (nI c &&& 31)) ^^^ -1))) (9 + c) 0) ∧ ∀ a, a ≠ m → a ≠ w → a ≠ s → I1 a = I a)
    ∧ (∃ I1, h_X3_openOne S I m w s (nI c) = some I1 ∧ rM I1 m w s (kup k 0 (k 0 ||| ((1 : Int32) <<< (nI c &&& 31)))) ∧ ∀ a, a ≠ m → a ≠ w → a ≠ s → I1 a = I a)
    ∧ ∀ y, ∃ x I1, h_X3_changeWant S I F m w s (nI c) y = some (x, I1) ∧ rM I1 m w s (kup k (1 + c) y) ∧ ∀ a, a ≠ m → a ≠ w → a ≠ s → I1 a = I a := by
  obtain ⟨b1, b2, b3, _⟩ := hB
  obtain ⟨q1, q2, q3, q4⟩ := hM
  have lt8 : nI c < (8 : Int32) := i_lt (b := 8) rfl rfl hc (by omega)
  refine ⟨?_, ?_, fun y => ?_⟩
  · have j13 : ∀ z, ∃ x I1, h_X3_shutOne_J13 m w s S F I (nI c) z = some (x, I1) ∧ rM I1 m w s (kup (kup k 0 (k 0 &&& (((1 : Int32) <<< (nI c &&& 31)) ^^^ -1))) (9 + c) 0) ∧ ∀ a, a ≠ m → a ≠ w → a ≠ s → I1 a = I a := by
      intro z
      unfold h_X3_shutOne_J13
      rw [p_le, if_neg (nI_pos (show c < 2 ^ 31 by omega)), if_neg (show ¬ (8 : Int32) ≤ nI c from i_nle (a := 8) rfl rfl (by omega) (by omega)), p_in_nI hc (show 8 < 2 ^ 31 by omega), p_bs, p_le]
      refine ⟨_, _, rfl, ⟨?_, ?_, fun h hh => ?_, fun h hh => ?_⟩, fun a a1 a2 a3 => ?_⟩
      · rw [v_up_row _ s _ _ b2, w_at, kup_ne _ _ (by omega), kup_at, q1]
      · rw [v_up_row _ s _ _ b2, w_ne _ _ _ _ (by omega), kup_ne _ _ (by omega), kup_ne _ _ (by omega), q2]
      · rw [v_up_row _ s _ _ b3, v_up_row _ m _ _ (fun e => b1 e.symm), kup_ne _ _ (by omega), kup_ne _ _ (by omega), q3 h hh]
      · by_cases e : h = c
        · subst e; rw [w_at, kup_at]
        · rw [w_ne _ _ _ _ e, v_up_row _ m _ _ (fun e => b2 e.symm), kup_ne _ _ (by omega), kup_ne _ _ (by omega), q4 h hh]
      · rw [v_up_row _ s _ _ a3, v_up_row _ m _ _ a1]
    unfold h_X3_shutOne h_X3_isOpen
    by_cases e : I m 0 >>> (nI c &&& 31) &&& 1 = 1
    · rw [if_pos e, p_bs, if_neg (by decide)]; exact j13 1
    · rw [if_neg e, p_bs, if_pos rfl]; exact j13 0
  · unfold h_X3_openOne
    rw [p_le]
    refine ⟨_, rfl, ⟨?_, ?_, fun h hh => ?_, fun h hh => ?_⟩, fun a a1 a2 a3 => ?_⟩
    · rw [w_at, kup_at, q1]
    · rw [w_ne _ _ _ _ (by omega), kup_ne _ _ (by omega), q2]
    · rw [v_up_row _ m _ _ (fun e => b1 e.symm), kup_ne _ _ (by omega), q3 h hh]
    · rw [v_up_row _ m _ _ (fun e => b2 e.symm), kup_ne _ _ (by omega), q4 h hh]
    · rw [v_up_row _ m _ _ a1]
  · unfold h_X3_changeWant
    rw [if_neg (nI_pos (show c < 2 ^ 31 by omega)), if_pos lt8, p_in_nI hc (by omega), p_bs, p_le, p_bs, p_le]
    refine ⟨_, _, rfl, ⟨?_, ?_, fun h hh => ?_, fun h hh => ?_⟩, fun a a1 a2 a3 => ?_⟩
    · rw [v_up_row _ w _ _ b1, kup_ne _ _ (by omega), q1]
    · rw [v_up_row _ w _ _ b1, kup_ne _ _ (by omega), q2]
    · by_cases e : h = c
      · subst e; rw [w_at, kup_at]
      · rw [w_ne _ _ _ _ e, kup_ne _ _ (by omega), q3 h hh]
    · rw [v_up_row _ w _ _ (fun e => b3 e.symm), kup_ne _ _ (by omega), q4 h hh]
    · rw [v_up_row _ w _ _ a2]
end sp76
