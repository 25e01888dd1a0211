/-! rules of the steps that ask something -/
section AMR
variable {sc : Int → Int} {mid pc : Nat} {L S : List AV} {σ : St} {Q : Ou → St → Nat → Prop} {x : Int} {k : Nat} {ts : List Int}
theorem ar_iald {i : Int} {j : Nat} (hlk : am_lk pc (am_code mid) = some (34, x, k, ts)) (ha : am_at j = 0) (h : 0 ≤ i ∧ i < am_ln j) (kk : am_wp sc mid (pc + 1) L (.inl (σ j i) :: S) σ Q) : am_wp sc mid pc L (.inl i :: .inr (.inl j) :: S) σ Q := by
  refine am_wn ?_ kk
  unfold am_st
  rw [hlk]
  show am_oIald sc x k ts mid pc L (.inl i :: .inr (.inl j) :: S) σ = _
  unfold am_oIald
  dsimp only
  rw [if_pos ⟨ha, h.1, h.2⟩]
theorem ar_iast {i v : Int} {j : Nat} (hlk : am_lk pc (am_code mid) = some (35, x, k, ts)) (ha : am_at j = 0) (h : 0 ≤ i ∧ i < am_ln j) (kk : am_wp sc mid (pc + 1) L S (am_up σ j i v) Q) : am_wp sc mid pc L (.inl v :: .inl i :: .inr (.inl j) :: S) σ Q := by
  refine am_wn ?_ kk
  unfold am_st
  rw [hlk]
  show am_oIast sc x k ts mid pc L (.inl v :: .inl i :: .inr (.inl j) :: S) σ = _
  unfold am_oIast
  dsimp only
  rw [if_pos ⟨ha, h.1, h.2⟩]
theorem ar_bald {i : Int} {j : Nat} (hlk : am_lk pc (am_code mid) = some (36, x, k, ts)) (ha : am_at j = 1) (h : 0 ≤ i ∧ i < am_ln j) (kk : am_wp sc mid (pc + 1) L (.inl (σ j i) :: S) σ Q) : am_wp sc mid pc L (.inl i :: .inr (.inl j) :: S) σ Q := by
  refine am_wn ?_ kk
  unfold am_st
  rw [hlk]
  show am_oBald sc x k ts mid pc L (.inl i :: .inr (.inl j) :: S) σ = _
  unfold am_oBald
  dsimp only
  rw [if_pos ⟨ha, h.1, h.2⟩]
theorem ar_bast {i v : Int} {j : Nat} (hlk : am_lk pc (am_code mid) = some (37, x, k, ts)) (ha : am_at j = 1) (h : 0 ≤ i ∧ i < am_ln j) (hv : v = 0 ∨ v = 1) (kk : am_wp sc mid (pc + 1) L S (am_up σ j i v) Q) : am_wp sc mid pc L (.inl v :: .inl i :: .inr (.inl j) :: S) σ Q := by
  refine am_wn ?_ kk
  unfold am_st
  rw [hlk]
  show am_oBast sc x k ts mid pc L (.inl v :: .inl i :: .inr (.inl j) :: S) σ = _
  unfold am_oBast
  dsimp only
  rw [if_pos ⟨ha, h.1, h.2, hv⟩]
theorem ar_sald {i : Int} (hlk : am_lk pc (am_code am_law) = some (34, x, k, ts)) (h : 0 ≤ i ∧ i < sc (-1)) (kk : am_wp sc am_law (pc + 1) L (.inl (sc i) :: S) σ Q) : am_wp sc am_law pc L (.inl i :: .inr (.inl 28) :: S) σ Q := by
  refine am_wn ?_ kk
  unfold am_st
  rw [hlk]
  show am_oIald sc x k ts am_law pc L (.inl i :: .inr (.inl 28) :: S) σ = _
  unfold am_oIald
  dsimp only
  rw [if_neg (fun h9 => absurd h9.1 (by decide)), if_pos ⟨rfl, rfl, h.1, h.2⟩]
theorem ar_add {y z : Int} (hlk : am_lk pc (am_code mid) = some (12, x, k, ts)) (h : am_R (z + y)) (kk : am_wp sc mid (pc + 1) L (.inl (z + y) :: S) σ Q) : am_wp sc mid pc L (.inl y :: .inl z :: S) σ Q := by
  refine am_wn ?_ kk
  unfold am_st
  rw [hlk]
  show am_oAdd sc x k ts mid pc L (.inl y :: .inl z :: S) σ = _
  unfold am_oAdd
  dsimp only
  rw [if_pos (am_Rb_iff.mpr h)]
theorem ar_sub {y z : Int} (hlk : am_lk pc (am_code mid) = some (13, x, k, ts)) (h : am_R (z - y)) (kk : am_wp sc mid (pc + 1) L (.inl (z - y) :: S) σ Q) : am_wp sc mid pc L (.inl y :: .inl z :: S) σ Q := by
  refine am_wn ?_ kk
  unfold am_st
  rw [hlk]
  show am_oSub sc x k ts mid pc L (.inl y :: .inl z :: S) σ = _
  unfold am_oSub
  dsimp only
  rw [if_pos (am_Rb_iff.mpr h)]
theorem ar_mul {y z : Int} (hlk : am_lk pc (am_code mid) = some (14, x, k, ts)) (h : am_R (z * y)) (kk : am_wp sc mid (pc + 1) L (.inl (z * y) :: S) σ Q) : am_wp sc mid pc L (.inl y :: .inl z :: S) σ Q := by
  refine am_wn ?_ kk
  unfold am_st
  rw [hlk]
  show am_oMul sc x k ts mid pc L (.inl y :: .inl z :: S) σ = _
  unfold am_oMul
  dsimp only
  rw [if_pos (am_Rb_iff.mpr h)]
theorem ar_inc {z : Int} {L' : List AV} (hlk : am_lk pc (am_code mid) = some (11, x, k, ts)) (hL : L[k]? = some (.inl z)) (h : am_R (z + x)) (hL' : L.set k (.inl (z + x)) = L') (kk : am_wp sc mid (pc + 3) L' S σ Q) : am_wp sc mid pc L S σ Q := by
  subst hL'
  refine am_wn ?_ kk
  unfold am_st
  rw [hlk]
  show am_oInc sc x k ts mid pc L S σ = _
  unfold am_oInc
  rw [hL]
  dsimp only
  rw [if_pos (am_Rb_iff.mpr h)]
theorem ar_br {pc1 pc2 : Nat} {L' S' : List AV} {c : Prop} [Decidable c] (h : am_st sc mid pc L S σ = some (if decide c = true then pc1 else pc2, L', S', σ)) (k1 : c → am_wp sc mid pc1 L' S' σ Q) (k2 : ¬ c → am_wp sc mid pc2 L' S' σ Q) : am_wp sc mid pc L S σ Q := by
  by_cases hc : c
  · rw [if_pos (decide_eq_true hc)] at h
    exact am_wn h (k1 hc)
  · rw [if_neg (by simpa using hc)] at h
    exact am_wn h (k2 hc)
theorem ar_sw {z c : Int} {pc' : Nat} (hz : z = c) (h : am_st sc mid pc L (.inl c :: S) σ = some (pc', L, S, σ)) (kk : am_wp sc mid pc' L S σ Q) : am_wp sc mid pc L (.inl z :: S) σ Q := by
  subst hz
  exact am_wn h kk
theorem ar_swd {z : Int} (hlk : am_lk pc (am_code mid) = some (31, x, k, ts)) (h : z < x ∨ x + ((ts.length : Int) - 1) ≤ z) (kk : am_wp sc mid (ts.getD 0 0).toNat L S σ Q) : am_wp sc mid pc L (.inl z :: S) σ Q := by
  refine am_wn ?_ kk
  unfold am_st
  rw [hlk]
  show am_oSw sc x k ts mid pc L (.inl z :: S) σ = _
  unfold am_oSw
  dsimp only
  rw [if_pos h]
theorem ar_len {j : Nat} (hlk : am_lk pc (am_code mid) = some (40, x, k, ts)) (h : am_at j < 3) (kk : am_wp sc mid (pc + 1) L (.inl (am_ln j) :: S) σ Q) : am_wp sc mid pc L (.inr (.inl j) :: S) σ Q := by
  refine am_wn ?_ kk
  unfold am_st
  rw [hlk]
  show am_oLen sc x k ts mid pc L (.inr (.inl j) :: S) σ = _
  unfold am_oLen
  dsimp only
  rw [if_pos h]
theorem ar_last {i v : Int} (hlk : am_lk pc (am_code mid) = some (39, x, k, ts)) (hi : i = 0) (kk : am_wp sc mid (pc + 1) L S (am_up σ 26 0 v) Q) : am_wp sc mid pc L (.inr (.inr v) :: .inl i :: .inr (.inl 26) :: S) σ Q := by
  subst hi
  refine am_wn ?_ kk
  unfold am_st
  rw [hlk]
  rfl
end AMR
