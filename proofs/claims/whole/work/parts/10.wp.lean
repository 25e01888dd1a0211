/-! runs by what they owe: fuel is forgotten -/
theorem am_pl_i {t : Nat} {r : Option (Ou × St × Nat)} {o : Ou} {σ : St} {u : Nat} (h : r = some (o, σ, u)) : am_pl t r = some (o, σ, u + t) := by rw [h]; rfl
theorem am_mono1 {sc : Int → Int} : ∀ (n mid pc : Nat) (L S : List AV) (σ : St) (r : Ou × St × Nat), am_ex sc n mid pc L S σ = some r → am_ex sc (n + 1) mid pc L S σ = some r := by
  intro n
  induction n with
  | zero => intro mid pc L S σ r h; cases h
  | succ n ih =>
    intro mid pc L S σ r h
    rw [am_ex_s] at h
    rw [am_ex_s]
    unfold am_stp2 at h ⊢
    cases hlk : am_lk pc (am_code mid) with
    | none => rw [hlk] at h; cases h
    | some en =>
      obtain ⟨op, x, k, ts⟩ := en
      rw [hlk] at h
      dsimp only at h ⊢
      by_cases h50 : op < 50
      · rw [if_pos h50] at h ⊢
        cases hnx : am_nx sc op x k ts mid pc L S σ with
        | none => rw [hnx] at h; cases h
        | some fr =>
          obtain ⟨pc', L', S', σ'⟩ := fr
          rw [hnx] at h
          exact ih _ _ _ _ _ _ h
      · rw [if_neg h50] at h ⊢
        by_cases h60 : op < 60
        · rw [if_pos h60] at h ⊢
          by_cases hcal : am_cal op k S = true
          · rw [if_pos hcal] at h ⊢
            cases hcr : am_ex sc n k 0 (am_ent k (S.take (am_na k)).reverse) [] σ with
            | none => rw [hcr] at h; cases h
            | some res =>
              obtain ⟨o1, σ1, t1⟩ := res
              rw [hcr] at h
              rw [ih _ _ _ _ _ _ hcr]
              cases o1 with
              | inl v =>
                obtain ⟨o, σ2, t⟩ := r
                obtain ⟨t2, hr2, rfl⟩ := am_pl_some h
                exact am_pl_i (ih _ _ _ _ _ _ hr2)
              | inr E =>
                dsimp only at h ⊢
                cases hh : am_hd mid pc E with
                | none => rw [hh] at h; exact h
                | some q =>
                  rw [hh] at h
                  dsimp only at h ⊢
                  by_cases h27 : L.all am_nx27 = true
                  · rw [if_pos h27] at h ⊢
                    obtain ⟨o, σ2, t⟩ := r
                    obtain ⟨t2, hr2, rfl⟩ := am_pl_some h
                    exact am_pl_i (ih _ _ _ _ _ _ hr2)
                  · rw [if_neg h27] at h
                    cases h
          · rw [if_neg hcal] at h
            cases h
        · rw [if_neg h60] at h ⊢
          exact h
theorem am_mono {sc : Int → Int} {n n2 mid pc : Nat} {L S : List AV} {σ : St} {r : Ou × St × Nat} (hn : n ≤ n2) (h : am_ex sc n mid pc L S σ = some r) : am_ex sc n2 mid pc L S σ = some r := by
  induction hn with
  | refl => exact h
  | step _ ih => exact am_mono1 _ _ _ _ _ _ _ ih
def am_wp (sc : Int → Int) (mid pc : Nat) (L S : List AV) (σ : St) (Q : Ou → St → Nat → Prop) : Prop := ∃ (n : Nat) (o : Ou) (σ' : St) (t : Nat), am_ex sc n mid pc L S σ = some (o, σ', t) ∧ Q o σ' t
/-- one step that is no call -/
def am_st (sc : Int → Int) (mid pc : Nat) (L S : List AV) (σ : St) : Option Fr := match am_lk pc (am_code mid) with
  | some (op, x, k, ts) => if op < 50 then am_nx sc op x k ts mid pc L S σ else none
  | none => none
section AMW
variable {sc : Int → Int} {mid pc : Nat} {L S : List AV} {σ : St} {Q : Ou → St → Nat → Prop}
theorem am_wn {pc' : Nat} {L' S' : List AV} {σ' : St} (h : am_st sc mid pc L S σ = some (pc', L', S', σ')) (k : am_wp sc mid pc' L' S' σ' Q) : am_wp sc mid pc L S σ Q := by
  obtain ⟨n, o, σ2, t, h1, h2⟩ := k
  refine ⟨n + 1, o, σ2, t, ?_, h2⟩
  rw [am_ex_s]
  unfold am_stp2
  unfold am_st at h
  cases hlk : am_lk pc (am_code mid) with
  | none => rw [hlk] at h; cases h
  | some en =>
    obtain ⟨op, x, k, ts⟩ := en
    rw [hlk] at h
    dsimp only at h ⊢
    by_cases h50 : op < 50
    · rw [if_pos h50] at h ⊢
      rw [h]
      exact h1
    · rw [if_neg h50] at h
      cases h
theorem am_wm {Q' : Ou → St → Nat → Prop} (h : am_wp sc mid pc L S σ Q) (hq : ∀ o σ' t, Q o σ' t → Q' o σ' t) : am_wp sc mid pc L S σ Q' := by
  obtain ⟨n, o, σ2, t, h1, h2⟩ := h
  exact ⟨n, o, σ2, t, h1, hq o σ2 t h2⟩
/-- what is owed behind a call -/
def am_bk (sc : Int → Int) (mid pc : Nat) (L rest : List AV) (Q : Ou → St → Nat → Prop) : Ou → St → Nat → Prop := fun o σ' t1 => match o with
  | .inl v => am_wp sc mid (pc + 3) L (am_rv v ++ rest) σ' (fun o2 σ2 t2 => Q o2 σ2 (t2 + t1))
  | .inr E => match am_hd mid pc E with
    | none => am_tb mid = [] ∧ Q (.inr E) σ' t1
    | some h => L.all am_nx27 = true ∧ am_wp sc mid h L [.inr (.inl 27)] σ' (fun o2 σ2 t2 => Q o2 σ2 (t2 + t1))
/-- a call: what the callee owes -/
theorem am_wc {op : Nat} {x : Int} {c : Nat} {ts : List Int} (hlk : am_lk pc (am_code mid) = some (op, x, c, ts)) (h50 : ¬ op < 50) (h60 : op < 60) (hcal : am_cal op c S = true)
    (k : am_wp sc c 0 (am_ent c (S.take (am_na c)).reverse) [] σ (am_bk sc mid pc L (S.drop (am_na c)) Q)) : am_wp sc mid pc L S σ Q := by
  obtain ⟨n, o1, σ1, t1, h1, h2⟩ := k
  cases o1 with
  | inl v =>
    obtain ⟨n2, o, σ2, t2, h3, h4⟩ := h2
    refine ⟨max n n2 + 1, o, σ2, t2 + t1, ?_, h4⟩
    rw [am_ex_s]
    unfold am_stp2
    rw [hlk]
    dsimp only
    rw [if_neg h50, if_pos h60, if_pos hcal, am_mono (Nat.le_max_left n n2) h1]
    exact am_pl_i (am_mono (Nat.le_max_right n n2) h3)
  | inr E =>
    unfold am_bk at h2
    dsimp only at h2
    cases hh : am_hd mid pc E with
    | none =>
      rw [hh] at h2
      refine ⟨n + 1, .inr E, σ1, t1, ?_, h2.2⟩
      rw [am_ex_s]
      unfold am_stp2
      rw [hlk]
      dsimp only
      rw [if_neg h50, if_pos h60, if_pos hcal, h1]
      dsimp only
      rw [hh]
      dsimp only
      rw [if_pos h2.1]
    | some q =>
      rw [hh] at h2
      obtain ⟨h27, n2, o, σ2, t2, h3, h4⟩ := h2
      refine ⟨max n n2 + 1, o, σ2, t2 + t1, ?_, h4⟩
      rw [am_ex_s]
      unfold am_stp2
      rw [hlk]
      dsimp only
      rw [if_neg h50, if_pos h60, if_pos hcal, am_mono (Nat.le_max_left n n2) h1]
      dsimp only
      rw [hh]
      dsimp only
      rw [if_pos h27]
      exact am_pl_i (am_mono (Nat.le_max_right n n2) h3)
theorem am_w60 {x : Int} {k : Nat} {ts : List Int} {z : Int} (hlk : am_lk pc (am_code mid) = some (60, x, k, ts)) (h : Q (.inl (some z)) σ 0) : am_wp sc mid pc L [.inl z] σ Q := by
  refine ⟨1, _, _, _, ?_, h⟩
  rw [am_ex_s]
  unfold am_stp2
  rw [hlk]
  rfl
theorem am_w61 {x : Int} {k : Nat} {ts : List Int} {z : Int} (hlk : am_lk pc (am_code mid) = some (61, x, k, ts)) (hz : z = 0 ∨ z = 1) (h : Q (.inl (some z)) σ 0) : am_wp sc mid pc L [.inl z] σ Q := by
  refine ⟨1, _, _, _, ?_, h⟩
  rw [am_ex_s]
  unfold am_stp2
  rw [hlk]
  show (if z = 0 ∨ z = 1 then _ else _) = _
  rw [if_pos hz]
theorem am_w62 {x : Int} {k : Nat} {ts : List Int} (hlk : am_lk pc (am_code mid) = some (62, x, k, ts)) (h : Q (.inl none) σ 0) : am_wp sc mid pc L [] σ Q := by
  refine ⟨1, _, _, _, ?_, h⟩
  rw [am_ex_s]
  unfold am_stp2
  rw [hlk]
  rfl
theorem am_w63 {x : Int} {k : Nat} {ts : List Int} (hlk : am_lk pc (am_code mid) = some (63, x, k, ts)) (h : Q (.inr k) σ 1) : am_wp sc mid pc L [] σ Q := by
  refine ⟨1, _, _, _, ?_, h⟩
  rw [am_ex_s]
  unfold am_stp2
  rw [hlk]
  rfl
end AMW
