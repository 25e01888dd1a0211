/-! The abstract machine: ints are Int, references are places in the world, one state for the class, the reference and the law. -/
abbrev AV : Type := Int ⊕ (Nat ⊕ Int)
abbrev St : Type := Nat → Int → Int
abbrev Ou : Type := Option Int ⊕ Nat
abbrev Fr : Type := Nat × List AV × List AV × St
abbrev OpT : Type := (Int → Int) → Int → Nat → List Int → Nat → Nat → List AV → List AV → St → Option Fr
def am_R (z : Int) : Prop := -2147483648 ≤ z ∧ z ≤ 2147483647
def am_Rb (z : Int) : Bool := decide (-2147483648 ≤ z) && decide (z ≤ 2147483647)
theorem am_Rb_iff {z : Int} : am_Rb z = true ↔ am_R z := by simp [am_Rb, am_R]
def am_u1 (f : Int → Int) (j v : Int) : Int → Int := fun i => if i = j then v else f i
def am_up (σ : St) (k : Nat) (j v : Int) : St := fun k' => if k' = k then am_u1 (σ k) j v else σ k'
theorem am_u1_s {f : Int → Int} {j v : Int} : am_u1 f j v j = v := if_pos rfl
theorem am_u1_n {f : Int → Int} {j v i : Int} (h : i ≠ j) : am_u1 f j v i = f i := if_neg h
theorem am_up_s {σ : St} {k : Nat} {j v : Int} : am_up σ k j v k = am_u1 (σ k) j v := if_pos rfl
theorem am_up_n {σ : St} {k k' : Nat} {j v : Int} (h : k' ≠ k) : am_up σ k j v k' = σ k' := if_neg h
/-- a value that takes one place -/
def am_one (v : AV) : Bool := match v with
  | .inr (.inr _) => false
  | _ => true
/-- no caught exception -/
def am_nx27 (v : AV) : Bool := match v with
  | .inr (.inl k) => decide (k ≠ 27)
  | _ => true
-- one step: constants, locals, arithmetic, stack
def am_oK (len : Nat) : OpT := fun _ x _ _ _ pc L S σ => some (pc + len, L, .inl x :: S, σ)
def am_oIL (len : Nat) : OpT := fun _ _ k _ _ pc L S σ => match L[k]? with
  | some (.inl z) => some (pc + len, L, .inl z :: S, σ)
  | _ => none
def am_oAL (len : Nat) : OpT := fun _ _ k _ _ pc L S σ => match L[k]? with
  | some (.inr (.inl r)) => some (pc + len, L, .inr (.inl r) :: S, σ)
  | _ => none
def am_oIS (len : Nat) : OpT := fun _ _ k _ _ pc L S σ => match S with
  | .inl z :: S' => if k < L.length then some (pc + len, L.set k (.inl z), S', σ) else none
  | _ => none
def am_oAS (len : Nat) : OpT := fun _ _ k _ _ pc L S σ => match S with
  | .inr (.inl r) :: S' => if k < L.length then some (pc + len, L.set k (.inr (.inl r)), S', σ) else none
  | _ => none
def am_oInc : OpT := fun _ x k _ _ pc L S σ => match L[k]? with
  | some (.inl z) => if am_Rb (z + x) = true then some (pc + 3, L.set k (.inl (z + x)), S, σ) else none
  | _ => none
def am_oAdd : OpT := fun _ _ _ _ _ pc L S σ => match S with
  | .inl y :: .inl x :: S' => if am_Rb (x + y) = true then some (pc + 1, L, .inl (x + y) :: S', σ) else none
  | _ => none
def am_oSub : OpT := fun _ _ _ _ _ pc L S σ => match S with
  | .inl y :: .inl x :: S' => if am_Rb (x - y) = true then some (pc + 1, L, .inl (x - y) :: S', σ) else none
  | _ => none
def am_oMul : OpT := fun _ _ _ _ _ pc L S σ => match S with
  | .inl y :: .inl x :: S' => if am_Rb (x * y) = true then some (pc + 1, L, .inl (x * y) :: S', σ) else none
  | _ => none
def am_oAnd : OpT := fun _ _ _ _ _ pc L S σ => match S with
  | .inl y :: .inl x :: S' => if y = 31 then some (pc + 1, L, .inl (x % 32) :: S', σ) else none
  | _ => none
def am_oDup : OpT := fun _ _ _ _ _ pc L S σ => match S with
  | v :: S' => if am_one v = true then some (pc + 1, L, v :: v :: S', σ) else none
  | _ => none
def am_oPop : OpT := fun _ _ _ _ _ pc L S σ => match S with
  | v :: S' => if am_one v = true then some (pc + 1, L, S', σ) else none
  | _ => none
def am_oIf (t : Int → Bool) : OpT := fun _ _ k _ _ pc L S σ => match S with
  | .inl z :: S' => some (if t z = true then k else pc + 3, L, S', σ)
  | _ => none
def am_oCmp (t : Int → Int → Bool) : OpT := fun _ _ k _ _ pc L S σ => match S with
  | .inl y :: .inl x :: S' => some (if t x y = true then k else pc + 3, L, S', σ)
  | _ => none
def am_oGo : OpT := fun _ _ k _ _ _ L S σ => some (k, L, S, σ)
/-- ts: the targets: the default's, then those of lo = x, lo + 1 .. -/
def am_oSw : OpT := fun _ x _ ts _ _ L S σ => match S with
  | .inl z :: S' => if z < x ∨ x + (ts.length - 1 : Int) ≤ z then some ((ts.getD 0 0).toNat, L, S', σ) else some ((ts.getD ((z - x).toNat + 1) 0).toNat, L, S', σ)
  | _ => none
-- fields and arrays
def am_oGet : OpT := fun _ _ k _ mid pc L S σ => match S with
  | .inr (.inl o) :: S' => if o = am_ob mid then some (pc + 3, L, (if am_fl o k < 30 then .inr (.inl (am_fl o k)) else .inl (σ (am_fl o k) 0)) :: S', σ) else none
  | _ => none
def am_oPut : OpT := fun _ _ k _ mid pc L S σ => match S with
  | .inl z :: .inr (.inl o) :: S' => if o = am_ob mid ∧ 30 ≤ am_fl o k then some (pc + 3, L, S', am_up σ (am_fl o k) 0 z) else none
  | _ => none
def am_oIald : OpT := fun sc _ _ _ mid pc L S σ => match S with
  | .inl i :: .inr (.inl j) :: S' => if am_at j = 0 ∧ 0 ≤ i ∧ i < am_ln j then some (pc + 1, L, .inl (σ j i) :: S', σ)
      else if j = 28 ∧ mid = am_law ∧ 0 ≤ i ∧ i < sc (-1) then some (pc + 1, L, .inl (sc i) :: S', σ) else none
  | _ => none
def am_oIast : OpT := fun _ _ _ _ _ pc L S σ => match S with
  | .inl v :: .inl i :: .inr (.inl j) :: S' => if am_at j = 0 ∧ 0 ≤ i ∧ i < am_ln j then some (pc + 1, L, S', am_up σ j i v) else none
  | _ => none
def am_oBald : OpT := fun _ _ _ _ _ pc L S σ => match S with
  | .inl i :: .inr (.inl j) :: S' => if am_at j = 1 ∧ 0 ≤ i ∧ i < am_ln j then some (pc + 1, L, .inl (σ j i) :: S', σ) else none
  | _ => none
def am_oBast : OpT := fun _ _ _ _ _ pc L S σ => match S with
  | .inl v :: .inl i :: .inr (.inl j) :: S' => if am_at j = 1 ∧ 0 ≤ i ∧ i < am_ln j ∧ (v = 0 ∨ v = 1) then some (pc + 1, L, S', am_up σ j i v) else none
  | _ => none
def am_oLald : OpT := fun _ _ _ _ _ pc L S σ => match S with
  | .inl i :: .inr (.inl j) :: S' => if am_at j = 2 ∧ 0 ≤ i ∧ i < am_ln j then some (pc + 1, L, .inr (.inr (σ j i)) :: S', σ) else none
  | _ => none
def am_oLast : OpT := fun _ _ _ _ _ pc L S σ => match S with
  | .inr (.inr v) :: .inl i :: .inr (.inl j) :: S' => if am_at j = 2 ∧ 0 ≤ i ∧ i < am_ln j then some (pc + 1, L, S', am_up σ j i v) else none
  | _ => none
def am_oLen : OpT := fun sc _ _ _ mid pc L S σ => match S with
  | .inr (.inl j) :: S' => if am_at j < 3 then some (pc + 1, L, .inl (am_ln j) :: S', σ) else if j = 28 ∧ mid = am_law then some (pc + 1, L, .inl (sc (-1)) :: S', σ) else none
  | _ => none
def am_oI2l : OpT := fun _ _ _ _ _ pc L S σ => match S with
  | .inl z :: S' => some (pc + 1, L, .inr (.inr z) :: S', σ)
  | _ => none
def am_oLcmp : OpT := fun _ _ _ _ _ pc L S σ => match S with
  | .inr (.inr y) :: .inr (.inr x) :: S' => some (pc + 1, L, .inl (if y < x then 1 else if x = y then 0 else -1) :: S', σ)
  | _ => none
def am_oMin : OpT := fun _ _ _ _ _ pc L S σ => match S with
  | .inl y :: .inl x :: S' => if S'.length ≤ 4 then some (pc + 3, L, .inl (if y < x then y else x) :: S', σ) else none
  | _ => none
def am_ops : List OpT := [am_oK 1, am_oK 2, am_oK 3, am_oIL 1, am_oIL 2, am_oAL 1, am_oAL 2, am_oIS 1, am_oIS 2, am_oAS 1, am_oAS 2, am_oInc, am_oAdd, am_oSub, am_oMul, am_oAnd, am_oDup, am_oPop,
  am_oIf (fun z => decide (z = 0)), am_oIf (fun z => decide (z ≠ 0)), am_oIf (fun z => decide (z < 0)), am_oIf (fun z => decide (0 ≤ z)), am_oIf (fun z => decide (0 < z)), am_oIf (fun z => decide (z ≤ 0)),
  am_oCmp (fun x y => decide (x = y)), am_oCmp (fun x y => decide (x ≠ y)), am_oCmp (fun x y => decide (x < y)), am_oCmp (fun x y => decide (y ≤ x)), am_oCmp (fun x y => decide (y < x)), am_oCmp (fun x y => decide (x ≤ y)),
  am_oGo, am_oSw, am_oGet, am_oPut, am_oIald, am_oIast, am_oBald, am_oBast, am_oLald, am_oLast, am_oLen, am_oI2l, am_oLcmp, am_oMin]
def am_nx (sc : Int → Int) (op : Nat) (x : Int) (k : Nat) (ts : List Int) (mid pc : Nat) (L S : List AV) (σ : St) : Option Fr := match am_ops[op]? with
  | some f => f sc x k ts mid pc L S σ
  | none => none
def am_lk (pc : Nat) : List (Nat × En) → Option En
  | [] => none
  | q :: r => if q.1 = pc then some q.2 else am_lk pc r
/-- an answer on the stack -/
def am_rv (v : Option Int) : List AV := match v with
  | none => []
  | some z => [.inl z]
/-- the row of a table that takes E at pc -/
def am_hd1 (pc E : Nat) : List (Nat × Nat × Nat × Nat) → Option Nat
  | [] => none
  | q :: r => if q.1 ≤ pc ∧ pc < q.2.1 ∧ am_ce q.2.2.2 = E then some q.2.2.1 else am_hd1 pc E r
def am_hd (mid pc E : Nat) : Option Nat := am_hd1 pc E (am_tb mid)
/-- is it the object at place o -/
def am_isR (v : Option AV) (o : Nat) : Bool := match v with
  | some (.inr (.inl q)) => decide (q = o)
  | _ => false
/-- may the call be made: arguments on the stack, the receiver -/
def am_cal (op k : Nat) (S : List AV) : Bool := decide (am_na k ≤ S.length) && (S.take (am_na k)).all am_one && decide (S.length ≤ am_na k + 4) && (decide (op ≠ 50) || am_isR S[am_na k - 1]? (am_ob k))
/-- t more exceptions were made -/
def am_pl (t : Nat) (r : Option (Ou × St × Nat)) : Option (Ou × St × Nat) := match r with
  | some (o, σ, t2) => some (o, σ, t2 + t)
  | none => none
theorem am_pl_some {t : Nat} {r : Option (Ou × St × Nat)} {o : Ou} {σ : St} {u : Nat} (h : am_pl t r = some (o, σ, u)) : ∃ t2, r = some (o, σ, t2) ∧ u = t2 + t := by
  cases r with
  | none => cases h
  | some q =>
    obtain ⟨o1, σ1, t1⟩ := q
    cases h
    exact ⟨t1, rfl, rfl⟩
/-- a method's locals at its entry -/
def am_ent (c : Nat) (as : List AV) : List AV := as ++ List.replicate (am_nl c - as.length) (.inr (.inr 0))
/-- one more step of a run: rc is the run with less fuel -/
def am_stp2 (sc : Int → Int) (rc : Nat → Nat → List AV → List AV → St → Option (Ou × St × Nat)) (mid pc : Nat) (L S : List AV) (σ : St) : Option (Ou × St × Nat) := match am_lk pc (am_code mid) with
  | none => none
  | some (op, x, k, ts) =>
    if op < 50 then match am_nx sc op x k ts mid pc L S σ with
      | some (pc', L', S', σ') => rc mid pc' L' S' σ'
      | none => none
    else if op < 60 then
      if am_cal op k S = true then match rc k 0 (am_ent k (S.take (am_na k)).reverse) [] σ with
        | some (.inl v, σ', t1) => am_pl t1 (rc mid (pc + 3) L (am_rv v ++ S.drop (am_na k)) σ')
        | some (.inr E, σ', t1) => match am_hd mid pc E with
          | none => if am_tb mid = [] then some (.inr E, σ', t1) else none
          | some h => if L.all am_nx27 = true then am_pl t1 (rc mid h L [.inr (.inl 27)] σ') else none
        | none => none
      else none
    else if op = 60 then match S with
      | [.inl z] => some (.inl (some z), σ, 0)
      | _ => none
    else if op = 61 then match S with
      | [.inl z] => if z = 0 ∨ z = 1 then some (.inl (some z), σ, 0) else none
      | _ => none
    else if op = 62 then match S with
      | [] => some (.inl none, σ, 0)
      | _ => none
    else if op = 63 then match S with
      | [] => some (.inr k, σ, 1)
      | _ => none
    else none
/-- the run, by fuel: the answer or what was thrown, the state, how many exceptions were made -/
def am_ex (sc : Int → Int) : Nat → Nat → Nat → List AV → List AV → St → Option (Ou × St × Nat)
  | 0 => fun _ _ _ _ _ => none
  | n + 1 => am_stp2 sc (am_ex sc n)
theorem am_ex_s {sc : Int → Int} {n mid pc : Nat} {L S : List AV} {σ : St} : am_ex sc (n + 1) mid pc L S σ = am_stp2 sc (am_ex sc n) mid pc L S σ := rfl
