noncomputable section sp43
/-! the language, plainly: what a SUM or TEST comes to -/
abbrev Den : Type := (Nat → Int32) → Option Int64
def jn_lim (x : Int64) : Option Int64 := if 1000000000 < x ∨ x < -1000000000 then none else some x
def jn (s : Int32) (a b : Int64) : Option Int64 :=
  if s = 6 then some (if a < b then 1 else 0)
  else if s = 7 then some (if b < a then 1 else 0)
  else if s = 8 then some (if a = b then 1 else 0)
  else if s = 9 then jn_lim (a + b)
  else if s = 10 then jn_lim (a - b)
  else if s = 11 then jn_lim (a * b)
  else if s = 12 then (if b = 0 then none else jn_lim (a / b))
  else if s = 13 then (if b = 0 then none else jn_lim (a - a / b * b))
  else none
def d_num (x : Int32) : Den := fun _ => some x.toInt64
def d_word (w : Nat) : Den := fun vals => some (vals w).toInt64
def d_join (s : Int32) (a b : Den) : Den := fun vals => (a vals).bind fun x => (b vals).bind fun y => jn s x y
def d_and (a b : Den) : Den := fun vals => (a vals).bind fun x => if x = 0 then some x else b vals
def d_or (a b : Den) : Den := fun vals => (a vals).bind fun x => if x = 1 then some x else b vals
def d_not (a : Den) : Den := fun vals => (a vals).bind fun x => some (1 - x)
/-- the steps of a SUM, a TEST, run -/
def rk (code : Nat → Int32) (m : Nat) (vals : Nat → Int32) : Nat → Nat → List Int64 → Option Int64
  | 0, _, _ => none
  | f + 1, a, st =>
    if m ≤ a then none else if 32 ≤ st.length then none else
    if code a &&& 15 = 1 then rk code m vals f (a + 1) ((code a >>> 4).toInt64 :: st)
    else if code a &&& 15 = 2 then rk code m vals f (a + 1) ((if (0 : Int32) ≤ code a >>> 4 ∧ code a >>> 4 < (36 : Int32) then (vals (code a >>> 4).toNatClampNeg).toInt64 else 0) :: st)
    else match st with
      | [] => none
      | x :: t =>
        if code a &&& 15 = 0 then some x
        else if code a &&& 15 = 3 then rk code m vals f (a + 1) ((1 - x) :: t)
        else if code a &&& 15 = 4 ∨ code a &&& 15 = 5 then
          (if x = (if code a &&& 15 = 5 then 1 else 0) then (if code a >>> 4 < (0 : Int32) then none else rk code m vals f (code a >>> 4).toNatClampNeg (x :: t)) else rk code m vals f (a + 1) t)
        else match t with
          | [] => none
          | y :: u => (jn (code a &&& 15) y x).bind fun z => rk code m vals f (a + 1) (z :: u)
/-- a CLAUSE: its kind, its SUMS, its TEST, how often -/
abbrev Cls : Type := Int32 × Option Den × Option Den × Option Den × Int32
def d_holds (vals : Nat → Int32) (t : Option Den) : Bool := match t with
  | none => true
  | some d => decide (d vals = some 1)
def d_clip (x : Int64) : Int32 := (p_maxL 0 (p_minL x 9)).toInt32
def sp_one (vals : Nat → Int32) (kind : Int32) (was : Int32) (c : Cls) : Int32 :=
  if c.1 = kind ∧ d_holds vals c.2.2.2.1 = true then
    (if kind = 2 then 1 else match c.2.1 with
      | none => was
      | some d => match d vals with
        | none => was
        | some x => d_clip x)
  else was
/-- what a LAW tells: the last CLAUSE of a kind that HOLDS -/
def sp_told (vals : Nat → Int32) (kind without : Int32) (D : List Cls) : Int32 := D.foldl (sp_one vals kind) without
/-! reading: the fault's TOKEN, or how far, how many PARTS, what it comes to -/
abbrev PR : Type := Nat ⊕ (Nat × Nat × Den)
def op_or (x : Int32) : Option (Den → Den → Den) := if x = 5 then some d_or else none
def op_and (x : Int32) : Option (Den → Den → Den) := if x = 6 then some d_and else none
def op_sum (x : Int32) : Option (Den → Den → Den) := if x = 143 then some (d_join 9) else if x = 145 then some (d_join 10) else none
def op_trm (x : Int32) : Option (Den → Den → Den) := if x = 142 then some (d_join 11) else if x = 147 then some (d_join 12) else if x = 137 then some (d_join 13) else none
def op_cmp (x : Int32) : Option (Den → Den → Den) := if x = 160 then some (d_join 6) else if x = 162 then some (d_join 7) else if x = 161 then some (d_join 8) else none
def sp_chl (c : Nat → Int32) (op : Int32 → Option (Den → Den → Den)) (item : Nat → Nat → PR) : Nat → Nat → Nat → Den → PR
  | 0, p, n, d => .inr (p, n, d)
  | f + 1, p, n, d => match op (c p) with
    | none => .inr (p, n, d)
    | some g => match item (p + 1) n with
      | .inl e => .inl e
      | .inr r => sp_chl c op item f r.1 r.2.1 (g d r.2.2)
def sp_chn (c : Nat → Int32) (op : Int32 → Option (Den → Den → Den)) (item : Nat → Nat → PR) (p n : Nat) : PR := match item p n with
  | .inl e => .inl e
  | .inr r => sp_chl c op item 400 r.1 r.2.1 r.2.2
/-- where a word's value stands -/
def wi_law (x : Int32) : Nat := if x = 8 then 0 else if x = 9 then 2 else if x = 10 then 3 else if x = 11 then 7 else if x = 12 then 8 else if x = 13 then 1 else if x = 14 then 5 else if x = 15 then 4 else 6
def wi_ord (x : Int32) : Nat := if x = 15 then 4 else if x = 16 then 6 else if x = 17 then 9 else 10
def wi_one (x : Int32) : Nat := if x = 13 then 12 else if x = 14 then 20 else 28
def sp_leaf (c v : Nat → Int32) (o : Bool) (p n : Nat) : PR :=
  if c p = 50 ∧ v p ≤ 1000 then (if n = 50 then .inl p else .inr (p + 1, n + 1, d_num (v p)))
  else if (if o then 13 else 8) ≤ c p ∧ c p ≤ (if o then 19 else 16) then
    (if n = 50 then .inl p
     else if o = true ∧ (c p = 13 ∨ c p = 14 ∨ c p = 19) then
       (if c (p + 1) = 50 ∧ 0 ≤ v (p + 1) ∧ v (p + 1) ≤ 7 then .inr (p + 2, n + 1, d_word (wi_one (c p) + (v (p + 1)).toNatClampNeg)) else .inl (p + 1))
     else .inr (p + 1, n + 1, d_word (if o then wi_ord (c p) else wi_law (c p))))
  else .inl p
/-- brackets: nothing deeper may stand if there is no sub -/
def sp_brk (c : Nat → Int32) (cl : Int32) (sub : Option (Nat → Nat → PR)) (p n : Nat) : PR := match sub with
  | none => .inl p
  | some g => match g (p + 1) n with
    | .inl e => .inl e
    | .inr r => if c r.1 = cl then .inr (r.1 + 1, r.2.1, r.2.2) else .inl r.1
def sp_part (c v : Nat → Int32) (o : Bool) (sub : Option (Nat → Nat → PR)) (p n : Nat) : PR :=
  if c p = 191 then sp_brk c 193 sub p n else sp_leaf c v o p n
def sp_term (c v : Nat → Int32) (o : Bool) (sub : Option (Nat → Nat → PR)) : Nat → Nat → PR := sp_chn c op_trm (sp_part c v o sub)
def sp_sum (c v : Nat → Int32) (o : Bool) : Nat → Nat → Nat → PR
  | 0 => sp_chn c op_sum (sp_term c v o none)
  | r + 1 => sp_chn c op_sum (sp_term c v o (some (sp_sum c v o r)))
def sp_nots (c : Nat → Int32) : Nat → Nat → Bool → Nat × Bool
  | 0, p, b => (p, b)
  | f + 1, p, b => if c p = 7 then sp_nots c f (p + 1) (!b) else (p, b)
def sp_comp (c : Nat → Int32) (sm : Nat → Nat → PR) (p n : Nat) : PR := match sm p n with
  | .inl e => .inl e
  | .inr r => match op_cmp (c r.1) with
    | none => .inl r.1
    | some g => match sm (r.1 + 1) r.2.1 with
      | .inl e => .inl e
      | .inr q => .inr (q.1, q.2.1, g r.2.2 q.2.2)
def sp_pos (c : Nat → Int32) (sm : Nat → Nat → PR) (sub : Option (Nat → Nat → PR)) (p n : Nat) : PR :=
  if c p = 140 then sp_brk c 141 sub p n else sp_comp c sm p n
def sp_plain (c : Nat → Int32) (sm : Nat → Nat → PR) (sub : Option (Nat → Nat → PR)) (p n : Nat) : PR :=
  match sp_pos c sm sub (sp_nots c 400 p false).1 n with
  | .inl e => .inl e
  | .inr r => .inr (r.1, r.2.1, if (sp_nots c 400 p false).2 = true then d_not r.2.2 else r.2.2)
def sp_both (c : Nat → Int32) (sm : Nat → Nat → PR) (sub : Option (Nat → Nat → PR)) : Nat → Nat → PR := sp_chn c op_and (sp_plain c sm sub)
def sp_test (c v : Nat → Int32) (o : Bool) : Nat → Nat → Nat → PR
  | 0 => sp_chn c op_or (sp_both c (sp_sum c v o 0) none)
  | r + 1 => sp_chn c op_or (sp_both c (sp_sum c v o (r + 1)) (some (sp_test c v o r)))
/-- a CLAUSE is read: the fault, or how far, how many PARTS -/
abbrev CR : Type := Nat ⊕ (Nat × Nat × Cls)
def sp_if (c v : Nat → Int32) (o : Bool) (p n : Nat) (k : Int32) (a b : Option Den) (t : Int32) : CR :=
  if c p = 4 then (match sp_test c v o 8 (p + 1) n with
    | .inl e => .inl e
    | .inr r => .inr (r.1, r.2.1, (k, a, b, some r.2.2, t)))
  else .inr (p, n, (k, a, b, none, t))
def sp_law1 (c v : Nat → Int32) (p n : Nat) : CR :=
  if c p = 1 ∨ c p = 2 then (match sp_sum c v false 8 (p + 1) n with
    | .inl e => .inl e
    | .inr r => sp_if c v false r.1 r.2.1 (c p - 1) (some r.2.2) none 1)
  else if c p = 3 then sp_if c v false (p + 1) n 2 none none 1
  else .inl p
def sp_times (c v : Nat → Int32) (p n : Nat) (k : Int32) (a b : Option Den) : CR :=
  if c p = 25 then (if c (p + 1) = 50 ∧ 1 ≤ v (p + 1) ∧ v (p + 1) ≤ 20 then sp_if c v true (p + 2) n k a b (v (p + 1)) else .inl (p + 1))
  else sp_if c v true p n k a b 1
def sp_ord1 (c v : Nat → Int32) (p n : Nat) : CR :=
  if c p = 22 then (match sp_sum c v true 8 (p + 1) n with
    | .inl e => .inl e
    | .inr r => if c r.1 = 23 then (match sp_sum c v true 8 (r.1 + 1) r.2.1 with
        | .inl e => .inl e
        | .inr q => sp_times c v q.1 q.2.1 2 (some r.2.2) (some q.2.2))
      else .inl r.1)
  else if c p = 20 ∨ c p = 21 then (match sp_sum c v true 8 (p + 1) n with
    | .inl e => .inl e
    | .inr r => sp_times c v r.1 r.2.1 (c p - 20) (some r.2.2) none)
  else if c p = 24 then sp_times c v (p + 1) n 3 none none
  else .inl p
def sp_cls (c v : Nat → Int32) (o : Bool) (p n : Nat) : CR := if o then sp_ord1 c v p n else sp_law1 c v p n
/-- the CLAUSES from a place on, those so far ahead of them; so many more may stand -/
def sp_cll (c v : Nat → Int32) (o : Bool) (z : Nat) : Nat → Nat → Nat → List Cls → Nat ⊕ List Cls
  | 0, p, _, D => if c p = 159 then .inl (p + 1) else if p < z then .inl p else .inr D
  | f + 1, p, n, D => if c p = 159 then (match sp_cls c v o (p + 1) n with
      | .inl e => .inl e
      | .inr r => sp_cll c v o z f r.1 r.2.1 (D ++ [r.2.2]))
    else if p < z then .inl p else .inr D
def sp_text (c v : Nat → Int32) (o : Bool) (z : Nat) : Nat ⊕ List Cls := match sp_cls c v o 0 0 with
  | .inl e => .inl e
  | .inr r => sp_cll c v o z 11 r.1 r.2.1 [r.2.2]
/-- the TOKENS of a LAW as they are kept -/
def tk_c (k : Nat → Int32) (t n : Nat) : Nat → Int32 := fun i => if i < n then k (60 + 400 * t + i) else 0
def tk_v (k : Nat → Int32) (t n : Nat) : Nat → Int32 := fun i => if i < n then k (2860 + 400 * t + i) else 0
def tk_D (o : Bool) (k : Nat → Int32) (t : Nat) (D : List Cls) : Prop := ∃ n : Nat, n ≤ 400 ∧ k (53 + t) = nI n ∧ sp_text (tk_c k t n) (tk_v k t n) o n = .inr D
/-- steps that come to it -/
def cd_R (code : Nat → Int32) (m : Nat) (a : Int32) (o : Option Den) : Prop := match o with
  | none => a = -1
  | some d => ∃ p : Nat, p < 1000 ∧ a = nI p ∧ ∀ vals, rk code m vals m p [] = d vals
/-- a Text lies there: its rows, its code, so many CLAUSES -/
def tx_D (S : v_S) (I : v_I) (F : v_F) (x ak af as at' ai ac : Nat) (cn m : Nat) (D : List Cls) : Prop :=
  S[x]? = some (8, 9) ∧ S[ak]? = some (20, cn) ∧ S[af]? = some (20, cn) ∧ S[as]? = some (20, cn) ∧ S[at']? = some (20, cn) ∧ S[ai]? = some (20, cn) ∧ S[ac]? = some (20, m)
  ∧ F x 3 = some ak ∧ F x 4 = some af ∧ F x 5 = some as ∧ F x 6 = some at' ∧ F x 7 = some ai ∧ F x 8 = some ac
  ∧ D.length ≤ cn ∧ cn ≤ 12 ∧ m ≤ 436 ∧ I x 0 = nI D.length ∧ (I x 2 = 0 ∨ I x 2 = 1)
  ∧ (∀ (i : Nat) (c : Cls), D[i]? = some c → I ak i = c.1 ∧ cd_R (I ac) m (I af i) c.2.1 ∧ cd_R (I ac) m (I as i) c.2.2.1 ∧ cd_R (I ac) m (I at' i) c.2.2.2.1 ∧ I ai i = c.2.2.2.2)
/-- it doesn't ask how late it is, nor how long it is still -/
def d_still (d : Den) : Prop := ∀ u w : Nat → Int32, (∀ i, i ≠ 5 → i ≠ 6 → u i = w i) → d u = d w
def cl_still (D : List Cls) : Prop := ∀ c ∈ D, (∀ d, c.2.1 = some d → d_still d) ∧ (∀ d, c.2.2.2.1 = some d → d_still d)
end sp43
