/-! SlidingHeapModel.number -/
theorem b_66_0 {sc : Int → Int} {σ : St} {Q : Ou → St → Nat → Prop} (z1 : Int) (z2 : Int) (z3 : Int) (k : am_wp sc 51 0 [.inr (.inl 1), .inl z1, .inl z2] [] σ (am_bk sc 66 4 [.inr (.inl 1), .inl z1, .inl z2, .inl z3] [.inr (.inl 1)] Q)) : am_wp sc 66 0 [.inr (.inl 1), .inl z1, .inl z2, .inl z3] [] σ Q := by
  refine am_wn rfl ?_
  refine am_wn rfl ?_
  refine am_wn rfl ?_
  refine am_wn rfl ?_
  exact am_wc rfl (by decide) (by decide) rfl k
theorem b_66_7 {sc : Int → Int} {σ : St} {Q : Ou → St → Nat → Prop} (z1 : Int) (z2 : Int) (z3 : Int) (s1 : Int) (k1 : (s1 = 0) → am_wp sc 66 14 [.inr (.inl 1), .inl z1, .inl z2, .inl z3] [.inr (.inl 1)] σ Q) (k2 : ¬ (s1 = 0) → am_wp sc 66 10 [.inr (.inl 1), .inl z1, .inl z2, .inl z3] [.inr (.inl 1)] σ Q) : am_wp sc 66 7 [.inr (.inl 1), .inl z1, .inl z2, .inl z3] [.inl s1, .inr (.inl 1)] σ Q := by
  exact ar_br (c := s1 = 0) rfl k1 k2
theorem b_66_10 {sc : Int → Int} {σ : St} {Q : Ou → St → Nat → Prop} (z1 : Int) (z2 : Int) (z3 : Int) (k : am_wp sc 66 15 [.inr (.inl 1), .inl z1, .inl z2, .inl z3] [.inl 0, .inr (.inl 1)] σ Q) : am_wp sc 66 10 [.inr (.inl 1), .inl z1, .inl z2, .inl z3] [.inr (.inl 1)] σ Q := by
  refine am_wn rfl ?_
  refine am_wn rfl ?_
  exact k
theorem b_66_14 {sc : Int → Int} {σ : St} {Q : Ou → St → Nat → Prop} (z1 : Int) (z2 : Int) (z3 : Int) (k : am_wp sc 66 15 [.inr (.inl 1), .inl z1, .inl z2, .inl z3] [.inl 1, .inr (.inl 1)] σ Q) : am_wp sc 66 14 [.inr (.inl 1), .inl z1, .inl z2, .inl z3] [.inr (.inl 1)] σ Q := by
  refine am_wn rfl ?_
  exact k
theorem b_66_15 {sc : Int → Int} {σ : St} {Q : Ou → St → Nat → Prop} (z1 : Int) (z2 : Int) (z3 : Int) (s1 : Int) (k : am_wp sc 49 0 [.inr (.inl 1), .inl s1] [] σ (am_bk sc 66 15 [.inr (.inl 1), .inl z1, .inl z2, .inl z3] [] Q)) : am_wp sc 66 15 [.inr (.inl 1), .inl z1, .inl z2, .inl z3] [.inl s1, .inr (.inl 1)] σ Q := by
  exact am_wc rfl (by decide) (by decide) rfl k
theorem b_66_18 {sc : Int → Int} {σ : St} {Q : Ou → St → Nat → Prop} (z1 : Int) (z2 : Int) (z3 : Int) (s0 : Int) (k1 : (s0 ≠ 0) → am_wp sc 66 45 [.inr (.inl 1), .inl z1, .inl z2, .inl z3] [] σ Q) (k2 : ¬ (s0 ≠ 0) → am_wp sc 66 21 [.inr (.inl 1), .inl z1, .inl z2, .inl z3] [] σ Q) : am_wp sc 66 18 [.inr (.inl 1), .inl z1, .inl z2, .inl z3] [.inl s0] σ Q := by
  exact ar_br (c := s0 ≠ 0) rfl k1 k2
theorem b_66_21 {sc : Int → Int} {σ : St} {Q : Ou → St → Nat → Prop} (z1 : Int) (z2 : Int) (z3 : Int) (h0 : am_R (10 * z1)) (h1 : am_R ((10 * z1) + z2)) (h2 : 0 ≤ ((10 * z1) + z2) ∧ ((10 * z1) + z2) < 150) (h3 : am_R (10 * z1)) (h4 : am_R ((10 * z1) + z2)) (h5 : 0 ≤ ((10 * z1) + z2) ∧ ((10 * z1) + z2) < 150) (k : am_wp sc 66 45 [.inr (.inl 1), .inl z1, .inl z2, .inl z3] [] (am_up (am_up σ 19 ((10 * z1) + z2) z3) 20 ((10 * z1) + z2) 0) Q) : am_wp sc 66 21 [.inr (.inl 1), .inl z1, .inl z2, .inl z3] [] σ Q := by
  refine am_wn rfl ?_
  refine am_wn rfl ?_
  refine am_wn rfl ?_
  refine am_wn rfl ?_
  refine ar_mul rfl h0 ?_
  refine am_wn rfl ?_
  refine ar_add rfl h1 ?_
  refine am_wn rfl ?_
  refine ar_iast rfl rfl h2 ?_
  refine am_wn rfl ?_
  refine am_wn rfl ?_
  refine am_wn rfl ?_
  refine am_wn rfl ?_
  refine ar_mul rfl h3 ?_
  refine am_wn rfl ?_
  refine ar_add rfl h4 ?_
  refine am_wn rfl ?_
  refine ar_iast rfl rfl h5 ?_
  exact k
theorem b_66_45 {sc : Int → Int} {σ : St} {Q : Ou → St → Nat → Prop} (z1 : Int) (z2 : Int) (z3 : Int) (k : Q (.inl none) σ 0) : am_wp sc 66 45 [.inr (.inl 1), .inl z1, .inl z2, .inl z3] [] σ Q := by
  exact am_w62 rfl k
/-! SlidingHeapModel.refer -/
theorem b_67_0 {sc : Int → Int} {σ : St} {Q : Ou → St → Nat → Prop} (z1 : Int) (z2 : Int) (z3 : Int) (z4 : Int) (k : am_wp sc 51 0 [.inr (.inl 1), .inl z1, .inl z2] [] σ (am_bk sc 67 4 [.inr (.inl 1), .inl z1, .inl z2, .inl z3, .inl z4] [.inr (.inl 1)] Q)) : am_wp sc 67 0 [.inr (.inl 1), .inl z1, .inl z2, .inl z3, .inl z4] [] σ Q := by
  refine am_wn rfl ?_
  refine am_wn rfl ?_
  refine am_wn rfl ?_
  refine am_wn rfl ?_
  exact am_wc rfl (by decide) (by decide) rfl k
theorem b_67_7 {sc : Int → Int} {σ : St} {Q : Ou → St → Nat → Prop} (z1 : Int) (z2 : Int) (z3 : Int) (z4 : Int) (s1 : Int) (k1 : (s1 ≠ 0) → am_wp sc 67 14 [.inr (.inl 1), .inl z1, .inl z2, .inl z3, .inl z4] [.inr (.inl 1)] σ Q) (k2 : ¬ (s1 ≠ 0) → am_wp sc 67 10 [.inr (.inl 1), .inl z1, .inl z2, .inl z3, .inl z4] [.inr (.inl 1)] σ Q) : am_wp sc 67 7 [.inr (.inl 1), .inl z1, .inl z2, .inl z3, .inl z4] [.inl s1, .inr (.inl 1)] σ Q := by
  exact ar_br (c := s1 ≠ 0) rfl k1 k2
theorem b_67_10 {sc : Int → Int} {σ : St} {Q : Ou → St → Nat → Prop} (z1 : Int) (z2 : Int) (z3 : Int) (z4 : Int) (k : am_wp sc 67 31 [.inr (.inl 1), .inl z1, .inl z2, .inl z3, .inl z4] [.inl 1, .inr (.inl 1)] σ Q) : am_wp sc 67 10 [.inr (.inl 1), .inl z1, .inl z2, .inl z3, .inl z4] [.inr (.inl 1)] σ Q := by
  refine am_wn rfl ?_
  refine am_wn rfl ?_
  exact k
theorem b_67_14 {sc : Int → Int} {σ : St} {Q : Ou → St → Nat → Prop} (z1 : Int) (z2 : Int) (z3 : Int) (z4 : Int) (k1 : (z3 = 0) → am_wp sc 67 30 [.inr (.inl 1), .inl z1, .inl z2, .inl z3, .inl z4] [.inr (.inl 1)] σ Q) (k2 : ¬ (z3 = 0) → am_wp sc 67 18 [.inr (.inl 1), .inl z1, .inl z2, .inl z3, .inl z4] [.inr (.inl 1)] σ Q) : am_wp sc 67 14 [.inr (.inl 1), .inl z1, .inl z2, .inl z3, .inl z4] [.inr (.inl 1)] σ Q := by
  refine am_wn rfl ?_
  exact ar_br (c := z3 = 0) rfl k1 k2
theorem b_67_18 {sc : Int → Int} {σ : St} {Q : Ou → St → Nat → Prop} (z1 : Int) (z2 : Int) (z3 : Int) (z4 : Int) (k : am_wp sc 50 0 [.inr (.inl 1), .inl z3] [] σ (am_bk sc 67 20 [.inr (.inl 1), .inl z1, .inl z2, .inl z3, .inl z4] [.inr (.inl 1)] Q)) : am_wp sc 67 18 [.inr (.inl 1), .inl z1, .inl z2, .inl z3, .inl z4] [.inr (.inl 1)] σ Q := by
  refine am_wn rfl ?_
  refine am_wn rfl ?_
  exact am_wc rfl (by decide) (by decide) rfl k
theorem b_67_23 {sc : Int → Int} {σ : St} {Q : Ou → St → Nat → Prop} (z1 : Int) (z2 : Int) (z3 : Int) (z4 : Int) (s1 : Int) (k1 : (s1 ≠ 0) → am_wp sc 67 30 [.inr (.inl 1), .inl z1, .inl z2, .inl z3, .inl z4] [.inr (.inl 1)] σ Q) (k2 : ¬ (s1 ≠ 0) → am_wp sc 67 26 [.inr (.inl 1), .inl z1, .inl z2, .inl z3, .inl z4] [.inr (.inl 1)] σ Q) : am_wp sc 67 23 [.inr (.inl 1), .inl z1, .inl z2, .inl z3, .inl z4] [.inl s1, .inr (.inl 1)] σ Q := by
  exact ar_br (c := s1 ≠ 0) rfl k1 k2
theorem b_67_26 {sc : Int → Int} {σ : St} {Q : Ou → St → Nat → Prop} (z1 : Int) (z2 : Int) (z3 : Int) (z4 : Int) (k : am_wp sc 67 31 [.inr (.inl 1), .inl z1, .inl z2, .inl z3, .inl z4] [.inl 2, .inr (.inl 1)] σ Q) : am_wp sc 67 26 [.inr (.inl 1), .inl z1, .inl z2, .inl z3, .inl z4] [.inr (.inl 1)] σ Q := by
  refine am_wn rfl ?_
  refine am_wn rfl ?_
  exact k
theorem b_67_30 {sc : Int → Int} {σ : St} {Q : Ou → St → Nat → Prop} (z1 : Int) (z2 : Int) (z3 : Int) (z4 : Int) (k : am_wp sc 67 31 [.inr (.inl 1), .inl z1, .inl z2, .inl z3, .inl z4] [.inl 0, .inr (.inl 1)] σ Q) : am_wp sc 67 30 [.inr (.inl 1), .inl z1, .inl z2, .inl z3, .inl z4] [.inr (.inl 1)] σ Q := by
  refine am_wn rfl ?_
  exact k
theorem b_67_31 {sc : Int → Int} {σ : St} {Q : Ou → St → Nat → Prop} (z1 : Int) (z2 : Int) (z3 : Int) (z4 : Int) (s1 : Int) (k : am_wp sc 49 0 [.inr (.inl 1), .inl s1] [] σ (am_bk sc 67 31 [.inr (.inl 1), .inl z1, .inl z2, .inl z3, .inl z4] [] Q)) : am_wp sc 67 31 [.inr (.inl 1), .inl z1, .inl z2, .inl z3, .inl z4] [.inl s1, .inr (.inl 1)] σ Q := by
  exact am_wc rfl (by decide) (by decide) rfl k
theorem b_67_34 {sc : Int → Int} {σ : St} {Q : Ou → St → Nat → Prop} (z1 : Int) (z2 : Int) (z3 : Int) (z4 : Int) (s0 : Int) (k1 : (s0 ≠ 0) → am_wp sc 67 70 [.inr (.inl 1), .inl z1, .inl z2, .inl z3, .inl z4] [] σ Q) (k2 : ¬ (s0 ≠ 0) → am_wp sc 67 37 [.inr (.inl 1), .inl z1, .inl z2, .inl z3, .inl z4] [] σ Q) : am_wp sc 67 34 [.inr (.inl 1), .inl z1, .inl z2, .inl z3, .inl z4] [.inl s0] σ Q := by
  exact ar_br (c := s0 ≠ 0) rfl k1 k2
theorem b_67_37 {sc : Int → Int} {σ : St} {Q : Ou → St → Nat → Prop} (z1 : Int) (z2 : Int) (z3 : Int) (z4 : Int) (h0 : am_R (10 * z1)) (h1 : am_R ((10 * z1) + z2)) (h2 : 0 ≤ ((10 * z1) + z2) ∧ ((10 * z1) + z2) < 150) (h3 : am_R (10 * z1)) (h4 : am_R ((10 * z1) + z2)) (k1 : (z4 = 0) → am_wp sc 67 68 [.inr (.inl 1), .inl z1, .inl z2, .inl z3, .inl z4] [.inl ((10 * z1) + z2), .inr (.inl 20)] (am_up σ 19 ((10 * z1) + z2) z3) Q) (k2 : ¬ (z4 = 0) → am_wp sc 67 64 [.inr (.inl 1), .inl z1, .inl z2, .inl z3, .inl z4] [.inl ((10 * z1) + z2), .inr (.inl 20)] (am_up σ 19 ((10 * z1) + z2) z3) Q) : am_wp sc 67 37 [.inr (.inl 1), .inl z1, .inl z2, .inl z3, .inl z4] [] σ Q := by
  refine am_wn rfl ?_
  refine am_wn rfl ?_
  refine am_wn rfl ?_
  refine am_wn rfl ?_
  refine ar_mul rfl h0 ?_
  refine am_wn rfl ?_
  refine ar_add rfl h1 ?_
  refine am_wn rfl ?_
  refine ar_iast rfl rfl h2 ?_
  refine am_wn rfl ?_
  refine am_wn rfl ?_
  refine am_wn rfl ?_
  refine am_wn rfl ?_
  refine ar_mul rfl h3 ?_
  refine am_wn rfl ?_
  refine ar_add rfl h4 ?_
  refine am_wn rfl ?_
  exact ar_br (c := z4 = 0) rfl k1 k2
theorem b_67_64 {sc : Int → Int} {σ : St} {Q : Ou → St → Nat → Prop} (z1 : Int) (z2 : Int) (z3 : Int) (z4 : Int) (s1 : Int) (k : am_wp sc 67 69 [.inr (.inl 1), .inl z1, .inl z2, .inl z3, .inl z4] [.inl 2, .inl s1, .inr (.inl 20)] σ Q) : am_wp sc 67 64 [.inr (.inl 1), .inl z1, .inl z2, .inl z3, .inl z4] [.inl s1, .inr (.inl 20)] σ Q := by
  refine am_wn rfl ?_
  refine am_wn rfl ?_
  exact k
theorem b_67_68 {sc : Int → Int} {σ : St} {Q : Ou → St → Nat → Prop} (z1 : Int) (z2 : Int) (z3 : Int) (z4 : Int) (s1 : Int) (k : am_wp sc 67 69 [.inr (.inl 1), .inl z1, .inl z2, .inl z3, .inl z4] [.inl 1, .inl s1, .inr (.inl 20)] σ Q) : am_wp sc 67 68 [.inr (.inl 1), .inl z1, .inl z2, .inl z3, .inl z4] [.inl s1, .inr (.inl 20)] σ Q := by
  refine am_wn rfl ?_
  exact k
theorem b_67_69 {sc : Int → Int} {σ : St} {Q : Ou → St → Nat → Prop} (z1 : Int) (z2 : Int) (z3 : Int) (z4 : Int) (s1 : Int) (s2 : Int) (h0 : 0 ≤ s1 ∧ s1 < 150) (k : am_wp sc 67 70 [.inr (.inl 1), .inl z1, .inl z2, .inl z3, .inl z4] [] (am_up σ 20 s1 s2) Q) : am_wp sc 67 69 [.inr (.inl 1), .inl z1, .inl z2, .inl z3, .inl z4] [.inl s2, .inl s1, .inr (.inl 20)] σ Q := by
  refine ar_iast rfl rfl h0 ?_
  exact k
theorem b_67_70 {sc : Int → Int} {σ : St} {Q : Ou → St → Nat → Prop} (z1 : Int) (z2 : Int) (z3 : Int) (z4 : Int) (k : Q (.inl none) σ 0) : am_wp sc 67 70 [.inr (.inl 1), .inl z1, .inl z2, .inl z3, .inl z4] [] σ Q := by
  exact am_w62 rfl k
/-! SlidingHeapModel.get -/
theorem b_68_0 {sc : Int → Int} {σ : St} {Q : Ou → St → Nat → Prop} (z1 : Int) (z2 : Int) (k : am_wp sc 51 0 [.inr (.inl 1), .inl z1, .inl z2] [] σ (am_bk sc 68 4 [.inr (.inl 1), .inl z1, .inl z2] [.inr (.inl 1)] Q)) : am_wp sc 68 0 [.inr (.inl 1), .inl z1, .inl z2] [] σ Q := by
  refine am_wn rfl ?_
  refine am_wn rfl ?_
  refine am_wn rfl ?_
  refine am_wn rfl ?_
  exact am_wc rfl (by decide) (by decide) rfl k
theorem b_68_7 {sc : Int → Int} {σ : St} {Q : Ou → St → Nat → Prop} (z1 : Int) (z2 : Int) (s1 : Int) (k1 : (s1 = 0) → am_wp sc 68 14 [.inr (.inl 1), .inl z1, .inl z2] [.inr (.inl 1)] σ Q) (k2 : ¬ (s1 = 0) → am_wp sc 68 10 [.inr (.inl 1), .inl z1, .inl z2] [.inr (.inl 1)] σ Q) : am_wp sc 68 7 [.inr (.inl 1), .inl z1, .inl z2] [.inl s1, .inr (.inl 1)] σ Q := by
  exact ar_br (c := s1 = 0) rfl k1 k2
theorem b_68_10 {sc : Int → Int} {σ : St} {Q : Ou → St → Nat → Prop} (z1 : Int) (z2 : Int) (k : am_wp sc 68 15 [.inr (.inl 1), .inl z1, .inl z2] [.inl 0, .inr (.inl 1)] σ Q) : am_wp sc 68 10 [.inr (.inl 1), .inl z1, .inl z2] [.inr (.inl 1)] σ Q := by
  refine am_wn rfl ?_
  refine am_wn rfl ?_
  exact k
theorem b_68_14 {sc : Int → Int} {σ : St} {Q : Ou → St → Nat → Prop} (z1 : Int) (z2 : Int) (k : am_wp sc 68 15 [.inr (.inl 1), .inl z1, .inl z2] [.inl 1, .inr (.inl 1)] σ Q) : am_wp sc 68 14 [.inr (.inl 1), .inl z1, .inl z2] [.inr (.inl 1)] σ Q := by
  refine am_wn rfl ?_
  exact k
theorem b_68_15 {sc : Int → Int} {σ : St} {Q : Ou → St → Nat → Prop} (z1 : Int) (z2 : Int) (s1 : Int) (k : am_wp sc 49 0 [.inr (.inl 1), .inl s1] [] σ (am_bk sc 68 15 [.inr (.inl 1), .inl z1, .inl z2] [] Q)) : am_wp sc 68 15 [.inr (.inl 1), .inl z1, .inl z2] [.inl s1, .inr (.inl 1)] σ Q := by
  exact am_wc rfl (by decide) (by decide) rfl k
theorem b_68_18 {sc : Int → Int} {σ : St} {Q : Ou → St → Nat → Prop} (z1 : Int) (z2 : Int) (s0 : Int) (k1 : (s0 = 0) → am_wp sc 68 25 [.inr (.inl 1), .inl z1, .inl z2] [] σ Q) (k2 : ¬ (s0 = 0) → am_wp sc 68 21 [.inr (.inl 1), .inl z1, .inl z2] [] σ Q) : am_wp sc 68 18 [.inr (.inl 1), .inl z1, .inl z2] [.inl s0] σ Q := by
  exact ar_br (c := s0 = 0) rfl k1 k2
theorem b_68_21 {sc : Int → Int} {σ : St} {Q : Ou → St → Nat → Prop} (z1 : Int) (z2 : Int) (k : am_wp sc 68 36 [.inr (.inl 1), .inl z1, .inl z2] [.inl 0] σ Q) : am_wp sc 68 21 [.inr (.inl 1), .inl z1, .inl z2] [] σ Q := by
  refine am_wn rfl ?_
  refine am_wn rfl ?_
  exact k
theorem b_68_25 {sc : Int → Int} {σ : St} {Q : Ou → St → Nat → Prop} (z1 : Int) (z2 : Int) (h0 : am_R (10 * z1)) (h1 : am_R ((10 * z1) + z2)) (h2 : 0 ≤ ((10 * z1) + z2) ∧ ((10 * z1) + z2) < 150) (k : am_wp sc 68 36 [.inr (.inl 1), .inl z1, .inl z2] [.inl (σ 19 ((10 * z1) + z2))] σ Q) : am_wp sc 68 25 [.inr (.inl 1), .inl z1, .inl z2] [] σ Q := by
  refine am_wn rfl ?_
  refine am_wn rfl ?_
  refine am_wn rfl ?_
  refine am_wn rfl ?_
  refine ar_mul rfl h0 ?_
  refine am_wn rfl ?_
  refine ar_add rfl h1 ?_
  refine ar_iald rfl rfl h2 ?_
  exact k
theorem b_68_36 {sc : Int → Int} {σ : St} {Q : Ou → St → Nat → Prop} (z1 : Int) (z2 : Int) (s0 : Int) (k : Q (.inl (some s0)) σ 0) : am_wp sc 68 36 [.inr (.inl 1), .inl z1, .inl z2] [.inl s0] σ Q := by
  exact am_w60 rfl k
/-! SlidingHeapModel.kind -/
theorem b_69_0 {sc : Int → Int} {σ : St} {Q : Ou → St → Nat → Prop} (z1 : Int) (z2 : Int) (k : am_wp sc 51 0 [.inr (.inl 1), .inl z1, .inl z2] [] σ (am_bk sc 69 4 [.inr (.inl 1), .inl z1, .inl z2] [.inr (.inl 1)] Q)) : am_wp sc 69 0 [.inr (.inl 1), .inl z1, .inl z2] [] σ Q := by
  refine am_wn rfl ?_
  refine am_wn rfl ?_
  refine am_wn rfl ?_
  refine am_wn rfl ?_
  exact am_wc rfl (by decide) (by decide) rfl k
theorem b_69_7 {sc : Int → Int} {σ : St} {Q : Ou → St → Nat → Prop} (z1 : Int) (z2 : Int) (s1 : Int) (k1 : (s1 = 0) → am_wp sc 69 14 [.inr (.inl 1), .inl z1, .inl z2] [.inr (.inl 1)] σ Q) (k2 : ¬ (s1 = 0) → am_wp sc 69 10 [.inr (.inl 1), .inl z1, .inl z2] [.inr (.inl 1)] σ Q) : am_wp sc 69 7 [.inr (.inl 1), .inl z1, .inl z2] [.inl s1, .inr (.inl 1)] σ Q := by
  exact ar_br (c := s1 = 0) rfl k1 k2
theorem b_69_10 {sc : Int → Int} {σ : St} {Q : Ou → St → Nat → Prop} (z1 : Int) (z2 : Int) (k : am_wp sc 69 15 [.inr (.inl 1), .inl z1, .inl z2] [.inl 0, .inr (.inl 1)] σ Q) : am_wp sc 69 10 [.inr (.inl 1), .inl z1, .inl z2] [.inr (.inl 1)] σ Q := by
  refine am_wn rfl ?_
  refine am_wn rfl ?_
  exact k
theorem b_69_14 {sc : Int → Int} {σ : St} {Q : Ou → St → Nat → Prop} (z1 : Int) (z2 : Int) (k : am_wp sc 69 15 [.inr (.inl 1), .inl z1, .inl z2] [.inl 1, .inr (.inl 1)] σ Q) : am_wp sc 69 14 [.inr (.inl 1), .inl z1, .inl z2] [.inr (.inl 1)] σ Q := by
  refine am_wn rfl ?_
  exact k
theorem b_69_15 {sc : Int → Int} {σ : St} {Q : Ou → St → Nat → Prop} (z1 : Int) (z2 : Int) (s1 : Int) (k : am_wp sc 49 0 [.inr (.inl 1), .inl s1] [] σ (am_bk sc 69 15 [.inr (.inl 1), .inl z1, .inl z2] [] Q)) : am_wp sc 69 15 [.inr (.inl 1), .inl z1, .inl z2] [.inl s1, .inr (.inl 1)] σ Q := by
  exact am_wc rfl (by decide) (by decide) rfl k
theorem b_69_18 {sc : Int → Int} {σ : St} {Q : Ou → St → Nat → Prop} (z1 : Int) (z2 : Int) (s0 : Int) (k1 : (s0 = 0) → am_wp sc 69 25 [.inr (.inl 1), .inl z1, .inl z2] [] σ Q) (k2 : ¬ (s0 = 0) → am_wp sc 69 21 [.inr (.inl 1), .inl z1, .inl z2] [] σ Q) : am_wp sc 69 18 [.inr (.inl 1), .inl z1, .inl z2] [.inl s0] σ Q := by
  exact ar_br (c := s0 = 0) rfl k1 k2
theorem b_69_21 {sc : Int → Int} {σ : St} {Q : Ou → St → Nat → Prop} (z1 : Int) (z2 : Int) (k : am_wp sc 69 36 [.inr (.inl 1), .inl z1, .inl z2] [.inl 0] σ Q) : am_wp sc 69 21 [.inr (.inl 1), .inl z1, .inl z2] [] σ Q := by
  refine am_wn rfl ?_
  refine am_wn rfl ?_
  exact k
theorem b_69_25 {sc : Int → Int} {σ : St} {Q : Ou → St → Nat → Prop} (z1 : Int) (z2 : Int) (h0 : am_R (10 * z1)) (h1 : am_R ((10 * z1) + z2)) (h2 : 0 ≤ ((10 * z1) + z2) ∧ ((10 * z1) + z2) < 150) (k : am_wp sc 69 36 [.inr (.inl 1), .inl z1, .inl z2] [.inl (σ 20 ((10 * z1) + z2))] σ Q) : am_wp sc 69 25 [.inr (.inl 1), .inl z1, .inl z2] [] σ Q := by
  refine am_wn rfl ?_
  refine am_wn rfl ?_
  refine am_wn rfl ?_
  refine am_wn rfl ?_
  refine ar_mul rfl h0 ?_
  refine am_wn rfl ?_
  refine ar_add rfl h1 ?_
  refine ar_iald rfl rfl h2 ?_
  exact k
theorem b_69_36 {sc : Int → Int} {σ : St} {Q : Ou → St → Nat → Prop} (z1 : Int) (z2 : Int) (s0 : Int) (k : Q (.inl (some s0)) σ 0) : am_wp sc 69 36 [.inr (.inl 1), .inl z1, .inl z2] [.inl s0] σ Q := by
  exact am_w60 rfl k
/-! SlidingHeapModel.push -/
theorem b_70_0 {sc : Int → Int} {σ : St} {Q : Ou → St → Nat → Prop} (z1 : Int) (k : am_wp sc 50 0 [.inr (.inl 1), .inl z1] [] σ (am_bk sc 70 3 [.inr (.inl 1), .inl z1] [.inr (.inl 1)] Q)) : am_wp sc 70 0 [.inr (.inl 1), .inl z1] [] σ Q := by
  refine am_wn rfl ?_
  refine am_wn rfl ?_
  refine am_wn rfl ?_
  exact am_wc rfl (by decide) (by decide) rfl k
theorem b_70_6 {sc : Int → Int} {σ : St} {Q : Ou → St → Nat → Prop} (z1 : Int) (s1 : Int) (k1 : (s1 ≠ 0) → am_wp sc 70 13 [.inr (.inl 1), .inl z1] [.inr (.inl 1)] σ Q) (k2 : ¬ (s1 ≠ 0) → am_wp sc 70 9 [.inr (.inl 1), .inl z1] [.inr (.inl 1)] σ Q) : am_wp sc 70 6 [.inr (.inl 1), .inl z1] [.inl s1, .inr (.inl 1)] σ Q := by
  exact ar_br (c := s1 ≠ 0) rfl k1 k2
theorem b_70_9 {sc : Int → Int} {σ : St} {Q : Ou → St → Nat → Prop} (z1 : Int) (k : am_wp sc 70 27 [.inr (.inl 1), .inl z1] [.inl 1, .inr (.inl 1)] σ Q) : am_wp sc 70 9 [.inr (.inl 1), .inl z1] [.inr (.inl 1)] σ Q := by
  refine am_wn rfl ?_
  refine am_wn rfl ?_
  exact k
theorem b_70_13 {sc : Int → Int} {σ : St} {Q : Ou → St → Nat → Prop} (z1 : Int) (k1 : ((σ 42 0) ≠ 10) → am_wp sc 70 26 [.inr (.inl 1), .inl z1] [.inr (.inl 1)] σ Q) (k2 : ¬ ((σ 42 0) ≠ 10) → am_wp sc 70 22 [.inr (.inl 1), .inl z1] [.inr (.inl 1)] σ Q) : am_wp sc 70 13 [.inr (.inl 1), .inl z1] [.inr (.inl 1)] σ Q := by
  refine am_wn rfl ?_
  refine am_wn rfl ?_
  refine am_wn rfl ?_
  exact ar_br (c := (σ 42 0) ≠ 10) rfl k1 k2
theorem b_70_22 {sc : Int → Int} {σ : St} {Q : Ou → St → Nat → Prop} (z1 : Int) (k : am_wp sc 70 27 [.inr (.inl 1), .inl z1] [.inl 2, .inr (.inl 1)] σ Q) : am_wp sc 70 22 [.inr (.inl 1), .inl z1] [.inr (.inl 1)] σ Q := by
  refine am_wn rfl ?_
  refine am_wn rfl ?_
  exact k
theorem b_70_26 {sc : Int → Int} {σ : St} {Q : Ou → St → Nat → Prop} (z1 : Int) (k : am_wp sc 70 27 [.inr (.inl 1), .inl z1] [.inl 0, .inr (.inl 1)] σ Q) : am_wp sc 70 26 [.inr (.inl 1), .inl z1] [.inr (.inl 1)] σ Q := by
  refine am_wn rfl ?_
  exact k
theorem b_70_27 {sc : Int → Int} {σ : St} {Q : Ou → St → Nat → Prop} (z1 : Int) (s1 : Int) (k : am_wp sc 49 0 [.inr (.inl 1), .inl s1] [] σ (am_bk sc 70 27 [.inr (.inl 1), .inl z1] [] Q)) : am_wp sc 70 27 [.inr (.inl 1), .inl z1] [.inl s1, .inr (.inl 1)] σ Q := by
  exact am_wc rfl (by decide) (by decide) rfl k
theorem b_70_30 {sc : Int → Int} {σ : St} {Q : Ou → St → Nat → Prop} (z1 : Int) (s0 : Int) (k1 : (s0 = 0) → am_wp sc 70 35 [.inr (.inl 1), .inl z1] [] σ Q) (k2 : ¬ (s0 = 0) → am_wp sc 70 33 [.inr (.inl 1), .inl z1] [] σ Q) : am_wp sc 70 30 [.inr (.inl 1), .inl z1] [.inl s0] σ Q := by
  exact ar_br (c := s0 = 0) rfl k1 k2
theorem b_70_33 {sc : Int → Int} {σ : St} {Q : Ou → St → Nat → Prop} (z1 : Int) (k : Q (.inl (some 0)) σ 0) : am_wp sc 70 33 [.inr (.inl 1), .inl z1] [] σ Q := by
  refine am_wn rfl ?_
  exact am_w60 rfl k
theorem b_70_35 {sc : Int → Int} {σ : St} {Q : Ou → St → Nat → Prop} (z1 : Int) (h0 : 0 ≤ (σ 42 0) ∧ (σ 42 0) < 10) (h1 : am_R ((σ 42 0) + 1)) (k : Q (.inl (some ((σ 42 0) + 1))) (am_up (am_up σ 21 (σ 42 0) z1) 42 0 ((σ 42 0) + 1)) 0) : am_wp sc 70 35 [.inr (.inl 1), .inl z1] [] σ Q := by
  refine am_wn rfl ?_
  refine am_wn rfl ?_
  refine am_wn rfl ?_
  refine am_wn rfl ?_
  refine am_wn rfl ?_
  refine ar_iast rfl rfl h0 ?_
  refine am_wn rfl ?_
  refine am_wn rfl ?_
  refine am_wn rfl ?_
  refine am_wn rfl ?_
  refine ar_add rfl h1 ?_
  refine am_wn rfl ?_
  refine am_wn rfl ?_
  refine am_wn rfl ?_
  exact am_w60 rfl k
/-! SlidingHeapModel.pop -/
theorem b_71_0 {sc : Int → Int} {σ : St} {Q : Ou → St → Nat → Prop} (v1 : AV) (k1 : ((σ 42 0) ≤ 0) → am_wp sc 71 22 [.inr (.inl 1), v1] [.inr (.inl 1)] (am_up σ 40 0 0) Q) (k2 : ¬ ((σ 42 0) ≤ 0) → am_wp sc 71 13 [.inr (.inl 1), v1] [.inr (.inl 1)] (am_up σ 40 0 0) Q) : am_wp sc 71 0 [.inr (.inl 1), v1] [] σ Q := by
  refine am_wn rfl ?_
  refine am_wn rfl ?_
  refine am_wn rfl ?_
  refine am_wn rfl ?_
  refine am_wn rfl ?_
  refine am_wn rfl ?_
  exact ar_br (c := (σ 42 0) ≤ 0) rfl k1 k2
theorem b_71_13 {sc : Int → Int} {σ : St} {Q : Ou → St → Nat → Prop} (v1 : AV) (h0 : am_R ((σ 42 0) - 1)) (k : am_wp sc 71 23 [.inr (.inl 1), v1] [.inl ((σ 42 0) - 1), .inr (.inl 1)] σ Q) : am_wp sc 71 13 [.inr (.inl 1), v1] [.inr (.inl 1)] σ Q := by
  refine am_wn rfl ?_
  refine am_wn rfl ?_
  refine am_wn rfl ?_
  refine ar_sub rfl h0 ?_
  refine am_wn rfl ?_
  exact k
theorem b_71_22 {sc : Int → Int} {σ : St} {Q : Ou → St → Nat → Prop} (v1 : AV) (k : am_wp sc 71 23 [.inr (.inl 1), v1] [.inl (-1), .inr (.inl 1)] σ Q) : am_wp sc 71 22 [.inr (.inl 1), v1] [.inr (.inl 1)] σ Q := by
  refine am_wn rfl ?_
  exact k
theorem b_71_23 {sc : Int → Int} {σ : St} {Q : Ou → St → Nat → Prop} (v1 : AV) (s1 : Int) (k1 : (0 ≤ s1) → am_wp sc 71 37 [.inr (.inl 1), v1] [] (am_up σ 42 0 s1) Q) (k2 : ¬ (0 ≤ s1) → am_wp sc 71 33 [.inr (.inl 1), v1] [] (am_up σ 42 0 s1) Q) : am_wp sc 71 23 [.inr (.inl 1), v1] [.inl s1, .inr (.inl 1)] σ Q := by
  refine am_wn rfl ?_
  refine am_wn rfl ?_
  refine am_wn rfl ?_
  exact ar_br (c := 0 ≤ s1) rfl k1 k2
theorem b_71_33 {sc : Int → Int} {σ : St} {Q : Ou → St → Nat → Prop} (v1 : AV) (k : am_wp sc 71 46 [.inr (.inl 1), v1] [.inl (-1)] σ Q) : am_wp sc 71 33 [.inr (.inl 1), v1] [] σ Q := by
  refine am_wn rfl ?_
  refine am_wn rfl ?_
  exact k
theorem b_71_37 {sc : Int → Int} {σ : St} {Q : Ou → St → Nat → Prop} (v1 : AV) (h0 : 0 ≤ (σ 42 0) ∧ (σ 42 0) < 10) (k : am_wp sc 71 46 [.inr (.inl 1), v1] [.inl (σ 21 (σ 42 0))] σ Q) : am_wp sc 71 37 [.inr (.inl 1), v1] [] σ Q := by
  refine am_wn rfl ?_
  refine am_wn rfl ?_
  refine am_wn rfl ?_
  refine am_wn rfl ?_
  refine ar_iald rfl rfl h0 ?_
  exact k
theorem b_71_46 {sc : Int → Int} {σ : St} {Q : Ou → St → Nat → Prop} (v1 : AV) (s0 : Int) (k1 : (0 ≤ (σ 42 0)) → am_wp sc 71 59 [.inr (.inl 1), .inl s0] [.inr (.inl 1)] σ Q) (k2 : ¬ (0 ≤ (σ 42 0)) → am_wp sc 71 55 [.inr (.inl 1), .inl s0] [.inr (.inl 1)] σ Q) : am_wp sc 71 46 [.inr (.inl 1), v1] [.inl s0] σ Q := by
  refine am_wn rfl ?_
  refine am_wn rfl ?_
  refine am_wn rfl ?_
  refine am_wn rfl ?_
  exact ar_br (c := 0 ≤ (σ 42 0)) rfl k1 k2
theorem b_71_55 {sc : Int → Int} {σ : St} {Q : Ou → St → Nat → Prop} (z1 : Int) (k : am_wp sc 71 63 [.inr (.inl 1), .inl z1] [.inl 0, .inr (.inl 1)] σ Q) : am_wp sc 71 55 [.inr (.inl 1), .inl z1] [.inr (.inl 1)] σ Q := by
  refine am_wn rfl ?_
  refine am_wn rfl ?_
  exact k
theorem b_71_59 {sc : Int → Int} {σ : St} {Q : Ou → St → Nat → Prop} (z1 : Int) (k : am_wp sc 71 63 [.inr (.inl 1), .inl z1] [.inl (σ 42 0), .inr (.inl 1)] σ Q) : am_wp sc 71 59 [.inr (.inl 1), .inl z1] [.inr (.inl 1)] σ Q := by
  refine am_wn rfl ?_
  refine am_wn rfl ?_
  exact k
theorem b_71_63 {sc : Int → Int} {σ : St} {Q : Ou → St → Nat → Prop} (z1 : Int) (s1 : Int) (k : Q (.inl (some z1)) (am_up σ 42 0 s1) 0) : am_wp sc 71 63 [.inr (.inl 1), .inl z1] [.inl s1, .inr (.inl 1)] σ Q := by
  refine am_wn rfl ?_
  refine am_wn rfl ?_
  exact am_w60 rfl k
/-! SlidingHeapModel.root -/
theorem b_72_0 {sc : Int → Int} {σ : St} {Q : Ou → St → Nat → Prop} (z1 : Int) (k1 : (z1 < 0) → am_wp sc 72 17 [.inr (.inl 1), .inl z1] [] (am_up σ 40 0 0) Q) (k2 : ¬ (z1 < 0) → am_wp sc 72 9 [.inr (.inl 1), .inl z1] [] (am_up σ 40 0 0) Q) : am_wp sc 72 0 [.inr (.inl 1), .inl z1] [] σ Q := by
  refine am_wn rfl ?_
  refine am_wn rfl ?_
  refine am_wn rfl ?_
  refine am_wn rfl ?_
  exact ar_br (c := z1 < 0) rfl k1 k2
theorem b_72_9 {sc : Int → Int} {σ : St} {Q : Ou → St → Nat → Prop} (z1 : Int) (k1 : (z1 < (σ 42 0)) → am_wp sc 72 21 [.inr (.inl 1), .inl z1] [] σ Q) (k2 : ¬ (z1 < (σ 42 0)) → am_wp sc 72 17 [.inr (.inl 1), .inl z1] [] σ Q) : am_wp sc 72 9 [.inr (.inl 1), .inl z1] [] σ Q := by
  refine am_wn rfl ?_
  refine am_wn rfl ?_
  refine am_wn rfl ?_
  exact ar_br (c := z1 < (σ 42 0)) rfl k1 k2
theorem b_72_17 {sc : Int → Int} {σ : St} {Q : Ou → St → Nat → Prop} (z1 : Int) (k : am_wp sc 72 27 [.inr (.inl 1), .inl z1] [.inl (-1)] σ Q) : am_wp sc 72 17 [.inr (.inl 1), .inl z1] [] σ Q := by
  refine am_wn rfl ?_
  refine am_wn rfl ?_
  exact k
theorem b_72_21 {sc : Int → Int} {σ : St} {Q : Ou → St → Nat → Prop} (z1 : Int) (h0 : 0 ≤ z1 ∧ z1 < 10) (k : am_wp sc 72 27 [.inr (.inl 1), .inl z1] [.inl (σ 21 z1)] σ Q) : am_wp sc 72 21 [.inr (.inl 1), .inl z1] [] σ Q := by
  refine am_wn rfl ?_
  refine am_wn rfl ?_
  refine am_wn rfl ?_
  refine ar_iald rfl rfl h0 ?_
  exact k
theorem b_72_27 {sc : Int → Int} {σ : St} {Q : Ou → St → Nat → Prop} (z1 : Int) (s0 : Int) (k : Q (.inl (some s0)) σ 0) : am_wp sc 72 27 [.inr (.inl 1), .inl z1] [.inl s0] σ Q := by
  exact am_w60 rfl k
/-! SlidingHeapModel.rites -/
theorem b_73_0 {sc : Int → Int} {σ : St} {Q : Ou → St → Nat → Prop} (z1 : Int) (z2 : Int) (k : am_wp sc 50 0 [.inr (.inl 1), .inl z1] [] σ (am_bk sc 73 3 [.inr (.inl 1), .inl z1, .inl z2] [.inr (.inl 1)] Q)) : am_wp sc 73 0 [.inr (.inl 1), .inl z1, .inl z2] [] σ Q := by
  refine am_wn rfl ?_
  refine am_wn rfl ?_
  refine am_wn rfl ?_
  exact am_wc rfl (by decide) (by decide) rfl k
theorem b_73_6 {sc : Int → Int} {σ : St} {Q : Ou → St → Nat → Prop} (z1 : Int) (z2 : Int) (s1 : Int) (k1 : (s1 = 0) → am_wp sc 73 13 [.inr (.inl 1), .inl z1, .inl z2] [.inr (.inl 1)] σ Q) (k2 : ¬ (s1 = 0) → am_wp sc 73 9 [.inr (.inl 1), .inl z1, .inl z2] [.inr (.inl 1)] σ Q) : am_wp sc 73 6 [.inr (.inl 1), .inl z1, .inl z2] [.inl s1, .inr (.inl 1)] σ Q := by
  exact ar_br (c := s1 = 0) rfl k1 k2
theorem b_73_9 {sc : Int → Int} {σ : St} {Q : Ou → St → Nat → Prop} (z1 : Int) (z2 : Int) (k : am_wp sc 73 14 [.inr (.inl 1), .inl z1, .inl z2] [.inl 0, .inr (.inl 1)] σ Q) : am_wp sc 73 9 [.inr (.inl 1), .inl z1, .inl z2] [.inr (.inl 1)] σ Q := by
  refine am_wn rfl ?_
  refine am_wn rfl ?_
  exact k
theorem b_73_13 {sc : Int → Int} {σ : St} {Q : Ou → St → Nat → Prop} (z1 : Int) (z2 : Int) (k : am_wp sc 73 14 [.inr (.inl 1), .inl z1, .inl z2] [.inl 1, .inr (.inl 1)] σ Q) : am_wp sc 73 13 [.inr (.inl 1), .inl z1, .inl z2] [.inr (.inl 1)] σ Q := by
  refine am_wn rfl ?_
  exact k
theorem b_73_14 {sc : Int → Int} {σ : St} {Q : Ou → St → Nat → Prop} (z1 : Int) (z2 : Int) (s1 : Int) (k : am_wp sc 49 0 [.inr (.inl 1), .inl s1] [] σ (am_bk sc 73 14 [.inr (.inl 1), .inl z1, .inl z2] [] Q)) : am_wp sc 73 14 [.inr (.inl 1), .inl z1, .inl z2] [.inl s1, .inr (.inl 1)] σ Q := by
  exact am_wc rfl (by decide) (by decide) rfl k
theorem b_73_17 {sc : Int → Int} {σ : St} {Q : Ou → St → Nat → Prop} (z1 : Int) (z2 : Int) (s0 : Int) (k1 : (s0 ≠ 0) → am_wp sc 73 27 [.inr (.inl 1), .inl z1, .inl z2] [] σ Q) (k2 : ¬ (s0 ≠ 0) → am_wp sc 73 20 [.inr (.inl 1), .inl z1, .inl z2] [] σ Q) : am_wp sc 73 17 [.inr (.inl 1), .inl z1, .inl z2] [.inl s0] σ Q := by
  exact ar_br (c := s0 ≠ 0) rfl k1 k2
theorem b_73_20 {sc : Int → Int} {σ : St} {Q : Ou → St → Nat → Prop} (z1 : Int) (z2 : Int) (h0 : 0 ≤ z1 ∧ z1 < 15) (h1 : z2 = 0 ∨ z2 = 1) (k : am_wp sc 73 27 [.inr (.inl 1), .inl z1, .inl z2] [] (am_up σ 18 z1 z2) Q) : am_wp sc 73 20 [.inr (.inl 1), .inl z1, .inl z2] [] σ Q := by
  refine am_wn rfl ?_
  refine am_wn rfl ?_
  refine am_wn rfl ?_
  refine am_wn rfl ?_
  refine ar_bast rfl rfl h0 h1 ?_
  exact k
theorem b_73_27 {sc : Int → Int} {σ : St} {Q : Ou → St → Nat → Prop} (z1 : Int) (z2 : Int) (k : Q (.inl none) σ 0) : am_wp sc 73 27 [.inr (.inl 1), .inl z1, .inl z2] [] σ Q := by
  exact am_w62 rfl k
/-! SlidingHeapModel.take -/
theorem b_74_0 {sc : Int → Int} {σ : St} {Q : Ou → St → Nat → Prop} (v1 : AV) (v2 : AV) (k1 : ((σ 43 0) ≤ 0) → am_wp sc 74 21 [.inr (.inl 1), v1, v2] [.inr (.inl 1)] σ Q) (k2 : ¬ ((σ 43 0) ≤ 0) → am_wp sc 74 8 [.inr (.inl 1), v1, v2] [.inr (.inl 1)] σ Q) : am_wp sc 74 0 [.inr (.inl 1), v1, v2] [] σ Q := by
  refine am_wn rfl ?_
  refine am_wn rfl ?_
  refine am_wn rfl ?_
  exact ar_br (c := (σ 43 0) ≤ 0) rfl k1 k2
theorem b_74_8 {sc : Int → Int} {σ : St} {Q : Ou → St → Nat → Prop} (v1 : AV) (v2 : AV) (k1 : ((σ 42 0) ≠ 10) → am_wp sc 74 21 [.inr (.inl 1), v1, v2] [.inr (.inl 1)] σ Q) (k2 : ¬ ((σ 42 0) ≠ 10) → am_wp sc 74 17 [.inr (.inl 1), v1, v2] [.inr (.inl 1)] σ Q) : am_wp sc 74 8 [.inr (.inl 1), v1, v2] [.inr (.inl 1)] σ Q := by
  refine am_wn rfl ?_
  refine am_wn rfl ?_
  refine am_wn rfl ?_
  exact ar_br (c := (σ 42 0) ≠ 10) rfl k1 k2
theorem b_74_17 {sc : Int → Int} {σ : St} {Q : Ou → St → Nat → Prop} (v1 : AV) (v2 : AV) (k : am_wp sc 74 22 [.inr (.inl 1), v1, v2] [.inl 1, .inr (.inl 1)] σ Q) : am_wp sc 74 17 [.inr (.inl 1), v1, v2] [.inr (.inl 1)] σ Q := by
  refine am_wn rfl ?_
  refine am_wn rfl ?_
  exact k
theorem b_74_21 {sc : Int → Int} {σ : St} {Q : Ou → St → Nat → Prop} (v1 : AV) (v2 : AV) (k : am_wp sc 74 22 [.inr (.inl 1), v1, v2] [.inl 0, .inr (.inl 1)] σ Q) : am_wp sc 74 21 [.inr (.inl 1), v1, v2] [.inr (.inl 1)] σ Q := by
  refine am_wn rfl ?_
  exact k
theorem b_74_22 {sc : Int → Int} {σ : St} {Q : Ou → St → Nat → Prop} (v1 : AV) (v2 : AV) (s1 : Int) (k : am_wp sc 49 0 [.inr (.inl 1), .inl s1] [] σ (am_bk sc 74 22 [.inr (.inl 1), v1, v2] [] Q)) : am_wp sc 74 22 [.inr (.inl 1), v1, v2] [.inl s1, .inr (.inl 1)] σ Q := by
  exact am_wc rfl (by decide) (by decide) rfl k
theorem b_74_25 {sc : Int → Int} {σ : St} {Q : Ou → St → Nat → Prop} (v1 : AV) (v2 : AV) (s0 : Int) (k1 : (s0 = 0) → am_wp sc 74 30 [.inr (.inl 1), v1, v2] [] σ Q) (k2 : ¬ (s0 = 0) → am_wp sc 74 28 [.inr (.inl 1), v1, v2] [] σ Q) : am_wp sc 74 25 [.inr (.inl 1), v1, v2] [.inl s0] σ Q := by
  exact ar_br (c := s0 = 0) rfl k1 k2
theorem b_74_28 {sc : Int → Int} {σ : St} {Q : Ou → St → Nat → Prop} (v1 : AV) (v2 : AV) (k : Q (.inl (some 0)) σ 0) : am_wp sc 74 28 [.inr (.inl 1), v1, v2] [] σ Q := by
  refine am_wn rfl ?_
  exact am_w60 rfl k
theorem b_74_30 {sc : Int → Int} {σ : St} {Q : Ou → St → Nat → Prop} (v1 : AV) (v2 : AV) (k1 : ((σ 43 0) ≠ 0) → am_wp sc 74 39 [.inr (.inl 1), v1, v2] [] σ Q) (k2 : ¬ ((σ 43 0) ≠ 0) → am_wp sc 74 37 [.inr (.inl 1), v1, v2] [] σ Q) : am_wp sc 74 30 [.inr (.inl 1), v1, v2] [] σ Q := by
  refine am_wn rfl ?_
  refine am_wn rfl ?_
  exact ar_br (c := (σ 43 0) ≠ 0) rfl k1 k2
theorem b_74_37 {sc : Int → Int} {σ : St} {Q : Ou → St → Nat → Prop} (v1 : AV) (v2 : AV) (k : Q (.inl (some (-1))) σ 0) : am_wp sc 74 37 [.inr (.inl 1), v1, v2] [] σ Q := by
  refine am_wn rfl ?_
  exact am_w60 rfl k
theorem b_74_39 {sc : Int → Int} {σ : St} {Q : Ou → St → Nat → Prop} (v1 : AV) (v2 : AV) (h0 : 0 ≤ (0 : Int) ∧ (0 : Int) < 15) (h1 : am_R ((σ 43 0) - 1)) (k : am_wp sc 74 58 [.inr (.inl 1), .inl (σ 22 0), .inl 0] [] (am_up σ 43 0 ((σ 43 0) - 1)) Q) : am_wp sc 74 39 [.inr (.inl 1), v1, v2] [] σ Q := by
  refine am_wn rfl ?_
  refine am_wn rfl ?_
  refine am_wn rfl ?_
  refine ar_iald rfl rfl h0 ?_
  refine am_wn rfl ?_
  refine am_wn rfl ?_
  refine am_wn rfl ?_
  refine am_wn rfl ?_
  refine am_wn rfl ?_
  refine ar_sub rfl h1 ?_
  refine am_wn rfl ?_
  refine am_wn rfl ?_
  refine am_wn rfl ?_
  exact k
theorem b_74_58 {sc : Int → Int} {σ : St} {Q : Ou → St → Nat → Prop} (z1 : Int) (z2 : Int) (k1 : ((σ 43 0) ≤ z2) → am_wp sc 74 86 [.inr (.inl 1), .inl z1, .inl z2] [] σ Q) (k2 : ¬ ((σ 43 0) ≤ z2) → am_wp sc 74 66 [.inr (.inl 1), .inl z1, .inl z2] [] σ Q) : am_wp sc 74 58 [.inr (.inl 1), .inl z1, .inl z2] [] σ Q := by
  refine am_wn rfl ?_
  refine am_wn rfl ?_
  refine am_wn rfl ?_
  exact ar_br (c := (σ 43 0) ≤ z2) rfl k1 k2
theorem b_74_66 {sc : Int → Int} {σ : St} {Q : Ou → St → Nat → Prop} (z1 : Int) (z2 : Int) (h0 : am_R (z2 + 1)) (h1 : 0 ≤ (z2 + 1) ∧ (z2 + 1) < 15) (h2 : 0 ≤ z2 ∧ z2 < 15) (h3 : am_R (z2 + 1)) (k : am_wp sc 74 58 [.inr (.inl 1), .inl z1, .inl (z2 + 1)] [] (am_up σ 22 z2 (σ 22 (z2 + 1))) Q) : am_wp sc 74 66 [.inr (.inl 1), .inl z1, .inl z2] [] σ Q := by
  refine am_wn rfl ?_
  refine am_wn rfl ?_
  refine am_wn rfl ?_
  refine am_wn rfl ?_
  refine am_wn rfl ?_
  refine am_wn rfl ?_
  refine am_wn rfl ?_
  refine ar_add rfl h0 ?_
  refine ar_iald rfl rfl h1 ?_
  refine ar_iast rfl rfl h2 ?_
  refine ar_inc (L' := [.inr (.inl 1), .inl z1, .inl (z2 + 1)]) rfl rfl h3 rfl ?_
  refine am_wn rfl ?_
  exact k
theorem b_74_86 {sc : Int → Int} {σ : St} {Q : Ou → St → Nat → Prop} (z1 : Int) (z2 : Int) (h0 : 0 ≤ (σ 42 0) ∧ (σ 42 0) < 10) (h1 : am_R ((σ 42 0) + 1)) (k : Q (.inl (some z1)) (am_up (am_up σ 21 (σ 42 0) z1) 42 0 ((σ 42 0) + 1)) 0) : am_wp sc 74 86 [.inr (.inl 1), .inl z1, .inl z2] [] σ Q := by
  refine am_wn rfl ?_
  refine am_wn rfl ?_
  refine am_wn rfl ?_
  refine am_wn rfl ?_
  refine am_wn rfl ?_
  refine ar_iast rfl rfl h0 ?_
  refine am_wn rfl ?_
  refine am_wn rfl ?_
  refine am_wn rfl ?_
  refine am_wn rfl ?_
  refine ar_add rfl h1 ?_
  refine am_wn rfl ?_
  refine am_wn rfl ?_
  exact am_w60 rfl k
/-! SlidingHeapModel.queued -/
theorem b_75_0 {sc : Int → Int} {σ : St} {Q : Ou → St → Nat → Prop} (z1 : Int) (k1 : (z1 < 0) → am_wp sc 75 17 [.inr (.inl 1), .inl z1] [] (am_up σ 40 0 0) Q) (k2 : ¬ (z1 < 0) → am_wp sc 75 9 [.inr (.inl 1), .inl z1] [] (am_up σ 40 0 0) Q) : am_wp sc 75 0 [.inr (.inl 1), .inl z1] [] σ Q := by
  refine am_wn rfl ?_
  refine am_wn rfl ?_
  refine am_wn rfl ?_
  refine am_wn rfl ?_
  exact ar_br (c := z1 < 0) rfl k1 k2
theorem b_75_9 {sc : Int → Int} {σ : St} {Q : Ou → St → Nat → Prop} (z1 : Int) (k1 : (z1 < (σ 43 0)) → am_wp sc 75 21 [.inr (.inl 1), .inl z1] [] σ Q) (k2 : ¬ (z1 < (σ 43 0)) → am_wp sc 75 17 [.inr (.inl 1), .inl z1] [] σ Q) : am_wp sc 75 9 [.inr (.inl 1), .inl z1] [] σ Q := by
  refine am_wn rfl ?_
  refine am_wn rfl ?_
  refine am_wn rfl ?_
  exact ar_br (c := z1 < (σ 43 0)) rfl k1 k2
theorem b_75_17 {sc : Int → Int} {σ : St} {Q : Ou → St → Nat → Prop} (z1 : Int) (k : am_wp sc 75 27 [.inr (.inl 1), .inl z1] [.inl (-1)] σ Q) : am_wp sc 75 17 [.inr (.inl 1), .inl z1] [] σ Q := by
  refine am_wn rfl ?_
  refine am_wn rfl ?_
  exact k
theorem b_75_21 {sc : Int → Int} {σ : St} {Q : Ou → St → Nat → Prop} (z1 : Int) (h0 : 0 ≤ z1 ∧ z1 < 15) (k : am_wp sc 75 27 [.inr (.inl 1), .inl z1] [.inl (σ 22 z1)] σ Q) : am_wp sc 75 21 [.inr (.inl 1), .inl z1] [] σ Q := by
  refine am_wn rfl ?_
  refine am_wn rfl ?_
  refine am_wn rfl ?_
  refine ar_iald rfl rfl h0 ?_
  exact k
theorem b_75_27 {sc : Int → Int} {σ : St} {Q : Ou → St → Nat → Prop} (z1 : Int) (s0 : Int) (k : Q (.inl (some s0)) σ 0) : am_wp sc 75 27 [.inr (.inl 1), .inl z1] [.inl s0] σ Q := by
  exact am_w60 rfl k
/-! SlidingHeapModel.word -/
theorem b_76_0 {sc : Int → Int} {σ : St} {Q : Ou → St → Nat → Prop} (z1 : Int) (v2 : AV) (v3 : AV) (v4 : AV) (v5 : AV) (v6 : AV) (v7 : AV) (k1 : (z1 < 0) → am_wp sc 76 11 [.inr (.inl 1), .inl z1, v2, v3, v4, v5, v6, v7] [.inr (.inl 1)] σ Q) (k2 : ¬ (z1 < 0) → am_wp sc 76 5 [.inr (.inl 1), .inl z1, v2, v3, v4, v5, v6, v7] [.inr (.inl 1)] σ Q) : am_wp sc 76 0 [.inr (.inl 1), .inl z1, v2, v3, v4, v5, v6, v7] [] σ Q := by
  refine am_wn rfl ?_
  refine am_wn rfl ?_
  exact ar_br (c := z1 < 0) rfl k1 k2
theorem b_76_5 {sc : Int → Int} {σ : St} {Q : Ou → St → Nat → Prop} (z1 : Int) (v2 : AV) (v3 : AV) (v4 : AV) (v5 : AV) (v6 : AV) (v7 : AV) (k1 : (z1 ≤ 89) → am_wp sc 76 15 [.inr (.inl 1), .inl z1, v2, v3, v4, v5, v6, v7] [.inr (.inl 1)] σ Q) (k2 : ¬ (z1 ≤ 89) → am_wp sc 76 11 [.inr (.inl 1), .inl z1, v2, v3, v4, v5, v6, v7] [.inr (.inl 1)] σ Q) : am_wp sc 76 5 [.inr (.inl 1), .inl z1, v2, v3, v4, v5, v6, v7] [.inr (.inl 1)] σ Q := by
  refine am_wn rfl ?_
  refine am_wn rfl ?_
  exact ar_br (c := z1 ≤ 89) rfl k1 k2
theorem b_76_11 {sc : Int → Int} {σ : St} {Q : Ou → St → Nat → Prop} (z1 : Int) (v2 : AV) (v3 : AV) (v4 : AV) (v5 : AV) (v6 : AV) (v7 : AV) (k : am_wp sc 76 16 [.inr (.inl 1), .inl z1, v2, v3, v4, v5, v6, v7] [.inl 1, .inr (.inl 1)] σ Q) : am_wp sc 76 11 [.inr (.inl 1), .inl z1, v2, v3, v4, v5, v6, v7] [.inr (.inl 1)] σ Q := by
  refine am_wn rfl ?_
  refine am_wn rfl ?_
  exact k
theorem b_76_15 {sc : Int → Int} {σ : St} {Q : Ou → St → Nat → Prop} (z1 : Int) (v2 : AV) (v3 : AV) (v4 : AV) (v5 : AV) (v6 : AV) (v7 : AV) (k : am_wp sc 76 16 [.inr (.inl 1), .inl z1, v2, v3, v4, v5, v6, v7] [.inl 0, .inr (.inl 1)] σ Q) : am_wp sc 76 15 [.inr (.inl 1), .inl z1, v2, v3, v4, v5, v6, v7] [.inr (.inl 1)] σ Q := by
  refine am_wn rfl ?_
  exact k
theorem b_76_16 {sc : Int → Int} {σ : St} {Q : Ou → St → Nat → Prop} (z1 : Int) (v2 : AV) (v3 : AV) (v4 : AV) (v5 : AV) (v6 : AV) (v7 : AV) (s1 : Int) (k : am_wp sc 49 0 [.inr (.inl 1), .inl s1] [] σ (am_bk sc 76 16 [.inr (.inl 1), .inl z1, v2, v3, v4, v5, v6, v7] [] Q)) : am_wp sc 76 16 [.inr (.inl 1), .inl z1, v2, v3, v4, v5, v6, v7] [.inl s1, .inr (.inl 1)] σ Q := by
  exact am_wc rfl (by decide) (by decide) rfl k
theorem b_76_19 {sc : Int → Int} {σ : St} {Q : Ou → St → Nat → Prop} (z1 : Int) (v2 : AV) (v3 : AV) (v4 : AV) (v5 : AV) (v6 : AV) (v7 : AV) (s0 : Int) (k1 : (s0 = 0) → am_wp sc 76 24 [.inr (.inl 1), .inl z1, v2, v3, v4, v5, v6, v7] [] σ Q) (k2 : ¬ (s0 = 0) → am_wp sc 76 22 [.inr (.inl 1), .inl z1, v2, v3, v4, v5, v6, v7] [] σ Q) : am_wp sc 76 19 [.inr (.inl 1), .inl z1, v2, v3, v4, v5, v6, v7] [.inl s0] σ Q := by
  exact ar_br (c := s0 = 0) rfl k1 k2
theorem b_76_22 {sc : Int → Int} {σ : St} {Q : Ou → St → Nat → Prop} (z1 : Int) (v2 : AV) (v3 : AV) (v4 : AV) (v5 : AV) (v6 : AV) (v7 : AV) (k : Q (.inl (some 0)) σ 0) : am_wp sc 76 22 [.inr (.inl 1), .inl z1, v2, v3, v4, v5, v6, v7] [] σ Q := by
  refine am_wn rfl ?_
  exact am_w60 rfl k
theorem b_76_24 {sc : Int → Int} {σ : St} {Q : Ou → St → Nat → Prop} (z1 : Int) (v2 : AV) (v3 : AV) (v4 : AV) (v5 : AV) (v6 : AV) (v7 : AV) (k : am_wp sc 76 31 [.inr (.inl 1), .inl z1, .inl 0, .inl 0, .inl 0, v5, v6, v7] [] σ Q) : am_wp sc 76 24 [.inr (.inl 1), .inl z1, v2, v3, v4, v5, v6, v7] [] σ Q := by
  refine am_wn rfl ?_
  refine am_wn rfl ?_
  refine am_wn rfl ?_
  refine am_wn rfl ?_
  refine am_wn rfl ?_
  refine am_wn rfl ?_
  exact k
theorem b_76_31 {sc : Int → Int} {σ : St} {Q : Ou → St → Nat → Prop} (z1 : Int) (z2 : Int) (z3 : Int) (z4 : Int) (v5 : AV) (v6 : AV) (v7 : AV) (k1 : ((σ 41 0) ≤ z4) → am_wp sc 76 149 [.inr (.inl 1), .inl z1, .inl z2, .inl z3, .inl z4, v5, v6, v7] [] σ Q) (k2 : ¬ ((σ 41 0) ≤ z4) → am_wp sc 76 40 [.inr (.inl 1), .inl z1, .inl z2, .inl z3, .inl z4, v5, v6, v7] [] σ Q) : am_wp sc 76 31 [.inr (.inl 1), .inl z1, .inl z2, .inl z3, .inl z4, v5, v6, v7] [] σ Q := by
  refine am_wn rfl ?_
  refine am_wn rfl ?_
  refine am_wn rfl ?_
  exact ar_br (c := (σ 41 0) ≤ z4) rfl k1 k2
theorem b_76_40 {sc : Int → Int} {σ : St} {Q : Ou → St → Nat → Prop} (z1 : Int) (z2 : Int) (z3 : Int) (z4 : Int) (v5 : AV) (v6 : AV) (v7 : AV) (h0 : 0 ≤ z4 ∧ z4 < 15) (h1 : am_R (z1 - z2)) (k1 : ((z1 - z2) < 0) → am_wp sc 76 77 [.inr (.inl 1), .inl z1, .inl z2, .inl z3, .inl z4, .inl (σ 14 z4), .inl (z1 - z2), v7] [] σ Q) (k2 : ¬ ((z1 - z2) < 0) → am_wp sc 76 59 [.inr (.inl 1), .inl z1, .inl z2, .inl z3, .inl z4, .inl (σ 14 z4), .inl (z1 - z2), v7] [] σ Q) : am_wp sc 76 40 [.inr (.inl 1), .inl z1, .inl z2, .inl z3, .inl z4, v5, v6, v7] [] σ Q := by
  refine am_wn rfl ?_
  refine am_wn rfl ?_
  refine am_wn rfl ?_
  refine ar_iald rfl rfl h0 ?_
  refine am_wn rfl ?_
  refine am_wn rfl ?_
  refine am_wn rfl ?_
  refine ar_sub rfl h1 ?_
  refine am_wn rfl ?_
  refine am_wn rfl ?_
  exact ar_br (c := (z1 - z2) < 0) rfl k1 k2
theorem b_76_59 {sc : Int → Int} {σ : St} {Q : Ou → St → Nat → Prop} (z1 : Int) (z2 : Int) (z3 : Int) (z4 : Int) (z5 : Int) (z6 : Int) (v7 : AV) (h0 : 0 ≤ z5 ∧ z5 < 15) (h1 : am_R ((σ 16 z5) + 2)) (k1 : (((σ 16 z5) + 2) ≤ z6) → am_wp sc 76 77 [.inr (.inl 1), .inl z1, .inl z2, .inl z3, .inl z4, .inl z5, .inl z6, v7] [] σ Q) (k2 : ¬ (((σ 16 z5) + 2) ≤ z6) → am_wp sc 76 73 [.inr (.inl 1), .inl z1, .inl z2, .inl z3, .inl z4, .inl z5, .inl z6, v7] [] σ Q) : am_wp sc 76 59 [.inr (.inl 1), .inl z1, .inl z2, .inl z3, .inl z4, .inl z5, .inl z6, v7] [] σ Q := by
  refine am_wn rfl ?_
  refine am_wn rfl ?_
  refine am_wn rfl ?_
  refine am_wn rfl ?_
  refine ar_iald rfl rfl h0 ?_
  refine am_wn rfl ?_
  refine ar_add rfl h1 ?_
  exact ar_br (c := ((σ 16 z5) + 2) ≤ z6) rfl k1 k2
theorem b_76_73 {sc : Int → Int} {σ : St} {Q : Ou → St → Nat → Prop} (z1 : Int) (z2 : Int) (z3 : Int) (z4 : Int) (z5 : Int) (z6 : Int) (v7 : AV) (k : am_wp sc 76 78 [.inr (.inl 1), .inl z1, .inl z2, .inl z3, .inl z4, .inl z5, .inl z6, v7] [.inl 1] σ Q) : am_wp sc 76 73 [.inr (.inl 1), .inl z1, .inl z2, .inl z3, .inl z4, .inl z5, .inl z6, v7] [] σ Q := by
  refine am_wn rfl ?_
  refine am_wn rfl ?_
  exact k
theorem b_76_77 {sc : Int → Int} {σ : St} {Q : Ou → St → Nat → Prop} (z1 : Int) (z2 : Int) (z3 : Int) (z4 : Int) (z5 : Int) (z6 : Int) (v7 : AV) (k : am_wp sc 76 78 [.inr (.inl 1), .inl z1, .inl z2, .inl z3, .inl z4, .inl z5, .inl z6, v7] [.inl 0] σ Q) : am_wp sc 76 77 [.inr (.inl 1), .inl z1, .inl z2, .inl z3, .inl z4, .inl z5, .inl z6, v7] [] σ Q := by
  refine am_wn rfl ?_
  exact k
theorem b_76_78 {sc : Int → Int} {σ : St} {Q : Ou → St → Nat → Prop} (z1 : Int) (z2 : Int) (z3 : Int) (z4 : Int) (z5 : Int) (z6 : Int) (v7 : AV) (s0 : Int) (k1 : (s0 ≠ 0) → am_wp sc 76 89 [.inr (.inl 1), .inl z1, .inl z2, .inl z3, .inl z4, .inl z5, .inl z6, .inl s0] [] σ Q) (k2 : ¬ (s0 ≠ 0) → am_wp sc 76 85 [.inr (.inl 1), .inl z1, .inl z2, .inl z3, .inl z4, .inl z5, .inl z6, .inl s0] [] σ Q) : am_wp sc 76 78 [.inr (.inl 1), .inl z1, .inl z2, .inl z3, .inl z4, .inl z5, .inl z6, v7] [.inl s0] σ Q := by
  refine am_wn rfl ?_
  refine am_wn rfl ?_
  exact ar_br (c := s0 ≠ 0) rfl k1 k2
theorem b_76_85 {sc : Int → Int} {σ : St} {Q : Ou → St → Nat → Prop} (z1 : Int) (z2 : Int) (z3 : Int) (z4 : Int) (z5 : Int) (z6 : Int) (z7 : Int) (k : am_wp sc 76 130 [.inr (.inl 1), .inl z1, .inl z2, .inl z3, .inl z4, .inl z5, .inl z6, .inl z7] [.inl z3] σ Q) : am_wp sc 76 85 [.inr (.inl 1), .inl z1, .inl z2, .inl z3, .inl z4, .inl z5, .inl z6, .inl z7] [] σ Q := by
  refine am_wn rfl ?_
  refine am_wn rfl ?_
  exact k
theorem b_76_89 {sc : Int → Int} {σ : St} {Q : Ou → St → Nat → Prop} (z1 : Int) (z2 : Int) (z3 : Int) (z4 : Int) (z5 : Int) (z6 : Int) (z7 : Int) (k1 : (z6 ≠ 0) → am_wp sc 76 104 [.inr (.inl 1), .inl z1, .inl z2, .inl z3, .inl z4, .inl z5, .inl z6, .inl z7] [] σ Q) (k2 : ¬ (z6 ≠ 0) → am_wp sc 76 94 [.inr (.inl 1), .inl z1, .inl z2, .inl z3, .inl z4, .inl z5, .inl z6, .inl z7] [] σ Q) : am_wp sc 76 89 [.inr (.inl 1), .inl z1, .inl z2, .inl z3, .inl z4, .inl z5, .inl z6, .inl z7] [] σ Q := by
  refine am_wn rfl ?_
  exact ar_br (c := z6 ≠ 0) rfl k1 k2
theorem b_76_94 {sc : Int → Int} {σ : St} {Q : Ou → St → Nat → Prop} (z1 : Int) (z2 : Int) (z3 : Int) (z4 : Int) (z5 : Int) (z6 : Int) (z7 : Int) (h0 : 0 ≤ z5 ∧ z5 < 15) (k : am_wp sc 76 130 [.inr (.inl 1), .inl z1, .inl z2, .inl z3, .inl z4, .inl z5, .inl z6, .inl z7] [.inl (σ 16 z5)] σ Q) : am_wp sc 76 94 [.inr (.inl 1), .inl z1, .inl z2, .inl z3, .inl z4, .inl z5, .inl z6, .inl z7] [] σ Q := by
  refine am_wn rfl ?_
  refine am_wn rfl ?_
  refine am_wn rfl ?_
  refine ar_iald rfl rfl h0 ?_
  refine am_wn rfl ?_
  exact k
theorem b_76_104 {sc : Int → Int} {σ : St} {Q : Ou → St → Nat → Prop} (z1 : Int) (z2 : Int) (z3 : Int) (z4 : Int) (z5 : Int) (z6 : Int) (z7 : Int) (k1 : (z6 ≠ 1) → am_wp sc 76 115 [.inr (.inl 1), .inl z1, .inl z2, .inl z3, .inl z4, .inl z5, .inl z6, .inl z7] [] σ Q) (k2 : ¬ (z6 ≠ 1) → am_wp sc 76 110 [.inr (.inl 1), .inl z1, .inl z2, .inl z3, .inl z4, .inl z5, .inl z6, .inl z7] [] σ Q) : am_wp sc 76 104 [.inr (.inl 1), .inl z1, .inl z2, .inl z3, .inl z4, .inl z5, .inl z6, .inl z7] [] σ Q := by
  refine am_wn rfl ?_
  refine am_wn rfl ?_
  exact ar_br (c := z6 ≠ 1) rfl k1 k2
theorem b_76_110 {sc : Int → Int} {σ : St} {Q : Ou → St → Nat → Prop} (z1 : Int) (z2 : Int) (z3 : Int) (z4 : Int) (z5 : Int) (z6 : Int) (z7 : Int) (k : am_wp sc 76 130 [.inr (.inl 1), .inl z1, .inl z2, .inl z3, .inl z4, .inl z5, .inl z6, .inl z7] [.inl z5] σ Q) : am_wp sc 76 110 [.inr (.inl 1), .inl z1, .inl z2, .inl z3, .inl z4, .inl z5, .inl z6, .inl z7] [] σ Q := by
  refine am_wn rfl ?_
  refine am_wn rfl ?_
  exact k
theorem b_76_115 {sc : Int → Int} {σ : St} {Q : Ou → St → Nat → Prop} (z1 : Int) (z2 : Int) (z3 : Int) (z4 : Int) (z5 : Int) (z6 : Int) (z7 : Int) (h0 : am_R (10 * z5)) (h1 : am_R ((10 * z5) + z6)) (h2 : am_R (((10 * z5) + z6) - 2)) (h3 : 0 ≤ (((10 * z5) + z6) - 2) ∧ (((10 * z5) + z6) - 2) < 150) (k : am_wp sc 76 130 [.inr (.inl 1), .inl z1, .inl z2, .inl z3, .inl z4, .inl z5, .inl z6, .inl z7] [.inl (σ 19 (((10 * z5) + z6) - 2))] σ Q) : am_wp sc 76 115 [.inr (.inl 1), .inl z1, .inl z2, .inl z3, .inl z4, .inl z5, .inl z6, .inl z7] [] σ Q := by
  refine am_wn rfl ?_
  refine am_wn rfl ?_
  refine am_wn rfl ?_
  refine am_wn rfl ?_
  refine ar_mul rfl h0 ?_
  refine am_wn rfl ?_
  refine ar_add rfl h1 ?_
  refine am_wn rfl ?_
  refine ar_sub rfl h2 ?_
  refine ar_iald rfl rfl h3 ?_
  exact k
theorem b_76_130 {sc : Int → Int} {σ : St} {Q : Ou → St → Nat → Prop} (z1 : Int) (z2 : Int) (z3 : Int) (z4 : Int) (z5 : Int) (z6 : Int) (z7 : Int) (s0 : Int) (h0 : 0 ≤ z5 ∧ z5 < 15) (h1 : am_R (z2 + (σ 16 z5))) (h2 : am_R ((z2 + (σ 16 z5)) + 2)) (h3 : am_R (z4 + 1)) (k : am_wp sc 76 31 [.inr (.inl 1), .inl z1, .inl ((z2 + (σ 16 z5)) + 2), .inl s0, .inl (z4 + 1), .inl z5, .inl z6, .inl z7] [] σ Q) : am_wp sc 76 130 [.inr (.inl 1), .inl z1, .inl z2, .inl z3, .inl z4, .inl z5, .inl z6, .inl z7] [.inl s0] σ Q := by
  refine am_wn rfl ?_
  refine am_wn rfl ?_
  refine am_wn rfl ?_
  refine am_wn rfl ?_
  refine am_wn rfl ?_
  refine ar_iald rfl rfl h0 ?_
  refine ar_add rfl h1 ?_
  refine am_wn rfl ?_
  refine ar_add rfl h2 ?_
  refine am_wn rfl ?_
  refine ar_inc (L' := [.inr (.inl 1), .inl z1, .inl ((z2 + (σ 16 z5)) + 2), .inl s0, .inl (z4 + 1), .inl z5, .inl z6, .inl z7]) rfl rfl h3 rfl ?_
  refine am_wn rfl ?_
  exact k
theorem b_76_149 {sc : Int → Int} {σ : St} {Q : Ou → St → Nat → Prop} (z1 : Int) (z2 : Int) (z3 : Int) (z4 : Int) (v5 : AV) (v6 : AV) (v7 : AV) (k : Q (.inl (some z3)) σ 0) : am_wp sc 76 149 [.inr (.inl 1), .inl z1, .inl z2, .inl z3, .inl z4, v5, v6, v7] [] σ Q := by
  refine am_wn rfl ?_
  exact am_w60 rfl k
/-! SlidingHeapModel.placeOf -/
theorem b_77_0 {sc : Int → Int} {σ : St} {Q : Ou → St → Nat → Prop} (z1 : Int) (v2 : AV) (v3 : AV) (v4 : AV) (k : am_wp sc 77 7 [.inr (.inl 1), .inl z1, .inl 0, .inl 0, .inl 0] [] σ Q) : am_wp sc 77 0 [.inr (.inl 1), .inl z1, v2, v3, v4] [] σ Q := by
  refine am_wn rfl ?_
  refine am_wn rfl ?_
  refine am_wn rfl ?_
  refine am_wn rfl ?_
  refine am_wn rfl ?_
  refine am_wn rfl ?_
  exact k
theorem b_77_7 {sc : Int → Int} {σ : St} {Q : Ou → St → Nat → Prop} (z1 : Int) (z2 : Int) (z3 : Int) (z4 : Int) (k1 : ((σ 41 0) ≤ z4) → am_wp sc 77 56 [.inr (.inl 1), .inl z1, .inl z2, .inl z3, .inl z4] [] σ Q) (k2 : ¬ ((σ 41 0) ≤ z4) → am_wp sc 77 16 [.inr (.inl 1), .inl z1, .inl z2, .inl z3, .inl z4] [] σ Q) : am_wp sc 77 7 [.inr (.inl 1), .inl z1, .inl z2, .inl z3, .inl z4] [] σ Q := by
  refine am_wn rfl ?_
  refine am_wn rfl ?_
  refine am_wn rfl ?_
  exact ar_br (c := (σ 41 0) ≤ z4) rfl k1 k2
theorem b_77_16 {sc : Int → Int} {σ : St} {Q : Ou → St → Nat → Prop} (z1 : Int) (z2 : Int) (z3 : Int) (z4 : Int) (h0 : 0 ≤ z4 ∧ z4 < 15) (k1 : ((σ 14 z4) ≠ z1) → am_wp sc 77 31 [.inr (.inl 1), .inl z1, .inl z2, .inl z3, .inl z4] [] σ Q) (k2 : ¬ ((σ 14 z4) ≠ z1) → am_wp sc 77 27 [.inr (.inl 1), .inl z1, .inl z2, .inl z3, .inl z4] [] σ Q) : am_wp sc 77 16 [.inr (.inl 1), .inl z1, .inl z2, .inl z3, .inl z4] [] σ Q := by
  refine am_wn rfl ?_
  refine am_wn rfl ?_
  refine am_wn rfl ?_
  refine ar_iald rfl rfl h0 ?_
  refine am_wn rfl ?_
  exact ar_br (c := (σ 14 z4) ≠ z1) rfl k1 k2
theorem b_77_27 {sc : Int → Int} {σ : St} {Q : Ou → St → Nat → Prop} (z1 : Int) (z2 : Int) (z3 : Int) (z4 : Int) (k : am_wp sc 77 32 [.inr (.inl 1), .inl z1, .inl z2, .inl z3, .inl z4] [.inl z2] σ Q) : am_wp sc 77 27 [.inr (.inl 1), .inl z1, .inl z2, .inl z3, .inl z4] [] σ Q := by
  refine am_wn rfl ?_
  refine am_wn rfl ?_
  exact k
theorem b_77_31 {sc : Int → Int} {σ : St} {Q : Ou → St → Nat → Prop} (z1 : Int) (z2 : Int) (z3 : Int) (z4 : Int) (k : am_wp sc 77 32 [.inr (.inl 1), .inl z1, .inl z2, .inl z3, .inl z4] [.inl z3] σ Q) : am_wp sc 77 31 [.inr (.inl 1), .inl z1, .inl z2, .inl z3, .inl z4] [] σ Q := by
  refine am_wn rfl ?_
  exact k
theorem b_77_32 {sc : Int → Int} {σ : St} {Q : Ou → St → Nat → Prop} (z1 : Int) (z2 : Int) (z3 : Int) (z4 : Int) (s0 : Int) (h0 : 0 ≤ z4 ∧ z4 < 15) (h1 : 0 ≤ (σ 14 z4) ∧ (σ 14 z4) < 15) (h2 : am_R (z2 + (σ 16 (σ 14 z4)))) (h3 : am_R ((z2 + (σ 16 (σ 14 z4))) + 2)) (h4 : am_R (z4 + 1)) (k : am_wp sc 77 7 [.inr (.inl 1), .inl z1, .inl ((z2 + (σ 16 (σ 14 z4))) + 2), .inl s0, .inl (z4 + 1)] [] σ Q) : am_wp sc 77 32 [.inr (.inl 1), .inl z1, .inl z2, .inl z3, .inl z4] [.inl s0] σ Q := by
  refine am_wn rfl ?_
  refine am_wn rfl ?_
  refine am_wn rfl ?_
  refine am_wn rfl ?_
  refine am_wn rfl ?_
  refine am_wn rfl ?_
  refine am_wn rfl ?_
  refine ar_iald rfl rfl h0 ?_
  refine ar_iald rfl rfl h1 ?_
  refine ar_add rfl h2 ?_
  refine am_wn rfl ?_
  refine ar_add rfl h3 ?_
  refine am_wn rfl ?_
  refine ar_inc (L' := [.inr (.inl 1), .inl z1, .inl ((z2 + (σ 16 (σ 14 z4))) + 2), .inl s0, .inl (z4 + 1)]) rfl rfl h4 rfl ?_
  refine am_wn rfl ?_
  exact k
theorem b_77_56 {sc : Int → Int} {σ : St} {Q : Ou → St → Nat → Prop} (z1 : Int) (z2 : Int) (z3 : Int) (z4 : Int) (k : Q (.inl (some z3)) σ 0) : am_wp sc 77 56 [.inr (.inl 1), .inl z1, .inl z2, .inl z3, .inl z4] [] σ Q := by
  refine am_wn rfl ?_
  exact am_w60 rfl k
/-! SlidingHeapModel.heldBy -/
theorem b_78_0 {sc : Int → Int} {σ : St} {Q : Ou → St → Nat → Prop} (z1 : Int) (v2 : AV) (v3 : AV) (v4 : AV) (v5 : AV) (k : am_wp sc 78 4 [.inr (.inl 1), .inl z1, .inl 0, .inl 1, v4, v5] [] σ Q) : am_wp sc 78 0 [.inr (.inl 1), .inl z1, v2, v3, v4, v5] [] σ Q := by
  refine am_wn rfl ?_
  refine am_wn rfl ?_
  refine am_wn rfl ?_
  refine am_wn rfl ?_
  exact k
theorem b_78_4 {sc : Int → Int} {σ : St} {Q : Ou → St → Nat → Prop} (z1 : Int) (z2 : Int) (z3 : Int) (v4 : AV) (v5 : AV) (k1 : (15 ≤ z3) → am_wp sc 78 103 [.inr (.inl 1), .inl z1, .inl z2, .inl z3, v4, v5] [] σ Q) (k2 : ¬ (15 ≤ z3) → am_wp sc 78 10 [.inr (.inl 1), .inl z1, .inl z2, .inl z3, v4, v5] [] σ Q) : am_wp sc 78 4 [.inr (.inl 1), .inl z1, .inl z2, .inl z3, v4, v5] [] σ Q := by
  refine am_wn rfl ?_
  refine am_wn rfl ?_
  exact ar_br (c := 15 ≤ z3) rfl k1 k2
theorem b_78_10 {sc : Int → Int} {σ : St} {Q : Ou → St → Nat → Prop} (z1 : Int) (z2 : Int) (z3 : Int) (v4 : AV) (v5 : AV) (k : am_wp sc 78 13 [.inr (.inl 1), .inl z1, .inl z2, .inl z3, .inl 0, v5] [] σ Q) : am_wp sc 78 10 [.inr (.inl 1), .inl z1, .inl z2, .inl z3, v4, v5] [] σ Q := by
  refine am_wn rfl ?_
  refine am_wn rfl ?_
  exact k
theorem b_78_13 {sc : Int → Int} {σ : St} {Q : Ou → St → Nat → Prop} (z1 : Int) (z2 : Int) (z3 : Int) (z4 : Int) (v5 : AV) (k1 : (10 ≤ z4) → am_wp sc 78 97 [.inr (.inl 1), .inl z1, .inl z2, .inl z3, .inl z4, v5] [] σ Q) (k2 : ¬ (10 ≤ z4) → am_wp sc 78 20 [.inr (.inl 1), .inl z1, .inl z2, .inl z3, .inl z4, v5] [] σ Q) : am_wp sc 78 13 [.inr (.inl 1), .inl z1, .inl z2, .inl z3, .inl z4, v5] [] σ Q := by
  refine am_wn rfl ?_
  refine am_wn rfl ?_
  exact ar_br (c := 10 ≤ z4) rfl k1 k2
theorem b_78_20 {sc : Int → Int} {σ : St} {Q : Ou → St → Nat → Prop} (z1 : Int) (z2 : Int) (z3 : Int) (z4 : Int) (v5 : AV) (h0 : 0 ≤ z3 ∧ z3 < 15) (k1 : ((σ 15 z3) = 0) → am_wp sc 78 75 [.inr (.inl 1), .inl z1, .inl z2, .inl z3, .inl z4, v5] [] σ Q) (k2 : ¬ ((σ 15 z3) = 0) → am_wp sc 78 29 [.inr (.inl 1), .inl z1, .inl z2, .inl z3, .inl z4, v5] [] σ Q) : am_wp sc 78 20 [.inr (.inl 1), .inl z1, .inl z2, .inl z3, .inl z4, v5] [] σ Q := by
  refine am_wn rfl ?_
  refine am_wn rfl ?_
  refine am_wn rfl ?_
  refine ar_bald rfl rfl h0 ?_
  exact ar_br (c := (σ 15 z3) = 0) rfl k1 k2
theorem b_78_29 {sc : Int → Int} {σ : St} {Q : Ou → St → Nat → Prop} (z1 : Int) (z2 : Int) (z3 : Int) (z4 : Int) (v5 : AV) (h0 : 0 ≤ z3 ∧ z3 < 15) (k1 : ((σ 16 z3) ≤ z4) → am_wp sc 78 75 [.inr (.inl 1), .inl z1, .inl z2, .inl z3, .inl z4, v5] [] σ Q) (k2 : ¬ ((σ 16 z3) ≤ z4) → am_wp sc 78 40 [.inr (.inl 1), .inl z1, .inl z2, .inl z3, .inl z4, v5] [] σ Q) : am_wp sc 78 29 [.inr (.inl 1), .inl z1, .inl z2, .inl z3, .inl z4, v5] [] σ Q := by
  refine am_wn rfl ?_
  refine am_wn rfl ?_
  refine am_wn rfl ?_
  refine am_wn rfl ?_
  refine ar_iald rfl rfl h0 ?_
  exact ar_br (c := (σ 16 z3) ≤ z4) rfl k1 k2
theorem b_78_40 {sc : Int → Int} {σ : St} {Q : Ou → St → Nat → Prop} (z1 : Int) (z2 : Int) (z3 : Int) (z4 : Int) (v5 : AV) (h0 : am_R (10 * z3)) (h1 : am_R ((10 * z3) + z4)) (h2 : 0 ≤ ((10 * z3) + z4) ∧ ((10 * z3) + z4) < 150) (k1 : ((σ 20 ((10 * z3) + z4)) ≤ 0) → am_wp sc 78 75 [.inr (.inl 1), .inl z1, .inl z2, .inl z3, .inl z4, v5] [] σ Q) (k2 : ¬ ((σ 20 ((10 * z3) + z4)) ≤ 0) → am_wp sc 78 55 [.inr (.inl 1), .inl z1, .inl z2, .inl z3, .inl z4, v5] [] σ Q) : am_wp sc 78 40 [.inr (.inl 1), .inl z1, .inl z2, .inl z3, .inl z4, v5] [] σ Q := by
  refine am_wn rfl ?_
  refine am_wn rfl ?_
  refine am_wn rfl ?_
  refine am_wn rfl ?_
  refine ar_mul rfl h0 ?_
  refine am_wn rfl ?_
  refine ar_add rfl h1 ?_
  refine ar_iald rfl rfl h2 ?_
  exact ar_br (c := (σ 20 ((10 * z3) + z4)) ≤ 0) rfl k1 k2
theorem b_78_55 {sc : Int → Int} {σ : St} {Q : Ou → St → Nat → Prop} (z1 : Int) (z2 : Int) (z3 : Int) (z4 : Int) (v5 : AV) (h0 : am_R (10 * z3)) (h1 : am_R ((10 * z3) + z4)) (h2 : 0 ≤ ((10 * z3) + z4) ∧ ((10 * z3) + z4) < 150) (k1 : ((σ 19 ((10 * z3) + z4)) ≠ z1) → am_wp sc 78 75 [.inr (.inl 1), .inl z1, .inl z2, .inl z3, .inl z4, v5] [] σ Q) (k2 : ¬ ((σ 19 ((10 * z3) + z4)) ≠ z1) → am_wp sc 78 71 [.inr (.inl 1), .inl z1, .inl z2, .inl z3, .inl z4, v5] [] σ Q) : am_wp sc 78 55 [.inr (.inl 1), .inl z1, .inl z2, .inl z3, .inl z4, v5] [] σ Q := by
  refine am_wn rfl ?_
  refine am_wn rfl ?_
  refine am_wn rfl ?_
  refine am_wn rfl ?_
  refine ar_mul rfl h0 ?_
  refine am_wn rfl ?_
  refine ar_add rfl h1 ?_
  refine ar_iald rfl rfl h2 ?_
  refine am_wn rfl ?_
  exact ar_br (c := (σ 19 ((10 * z3) + z4)) ≠ z1) rfl k1 k2
theorem b_78_71 {sc : Int → Int} {σ : St} {Q : Ou → St → Nat → Prop} (z1 : Int) (z2 : Int) (z3 : Int) (z4 : Int) (v5 : AV) (k : am_wp sc 78 76 [.inr (.inl 1), .inl z1, .inl z2, .inl z3, .inl z4, v5] [.inl 1] σ Q) : am_wp sc 78 71 [.inr (.inl 1), .inl z1, .inl z2, .inl z3, .inl z4, v5] [] σ Q := by
  refine am_wn rfl ?_
  refine am_wn rfl ?_
  exact k
theorem b_78_75 {sc : Int → Int} {σ : St} {Q : Ou → St → Nat → Prop} (z1 : Int) (z2 : Int) (z3 : Int) (z4 : Int) (v5 : AV) (k : am_wp sc 78 76 [.inr (.inl 1), .inl z1, .inl z2, .inl z3, .inl z4, v5] [.inl 0] σ Q) : am_wp sc 78 75 [.inr (.inl 1), .inl z1, .inl z2, .inl z3, .inl z4, v5] [] σ Q := by
  refine am_wn rfl ?_
  exact k
theorem b_78_76 {sc : Int → Int} {σ : St} {Q : Ou → St → Nat → Prop} (z1 : Int) (z2 : Int) (z3 : Int) (z4 : Int) (v5 : AV) (s0 : Int) (k1 : (s0 = 0) → am_wp sc 78 89 [.inr (.inl 1), .inl z1, .inl z2, .inl z3, .inl z4, .inl s0] [] σ Q) (k2 : ¬ (s0 = 0) → am_wp sc 78 83 [.inr (.inl 1), .inl z1, .inl z2, .inl z3, .inl z4, .inl s0] [] σ Q) : am_wp sc 78 76 [.inr (.inl 1), .inl z1, .inl z2, .inl z3, .inl z4, v5] [.inl s0] σ Q := by
  refine am_wn rfl ?_
  refine am_wn rfl ?_
  exact ar_br (c := s0 = 0) rfl k1 k2
theorem b_78_83 {sc : Int → Int} {σ : St} {Q : Ou → St → Nat → Prop} (z1 : Int) (z2 : Int) (z3 : Int) (z4 : Int) (z5 : Int) (h0 : am_R (z2 + 1)) (k : am_wp sc 78 90 [.inr (.inl 1), .inl z1, .inl z2, .inl z3, .inl z4, .inl z5] [.inl (z2 + 1)] σ Q) : am_wp sc 78 83 [.inr (.inl 1), .inl z1, .inl z2, .inl z3, .inl z4, .inl z5] [] σ Q := by
  refine am_wn rfl ?_
  refine am_wn rfl ?_
  refine ar_add rfl h0 ?_
  refine am_wn rfl ?_
  exact k
theorem b_78_89 {sc : Int → Int} {σ : St} {Q : Ou → St → Nat → Prop} (z1 : Int) (z2 : Int) (z3 : Int) (z4 : Int) (z5 : Int) (k : am_wp sc 78 90 [.inr (.inl 1), .inl z1, .inl z2, .inl z3, .inl z4, .inl z5] [.inl z2] σ Q) : am_wp sc 78 89 [.inr (.inl 1), .inl z1, .inl z2, .inl z3, .inl z4, .inl z5] [] σ Q := by
  refine am_wn rfl ?_
  exact k
theorem b_78_90 {sc : Int → Int} {σ : St} {Q : Ou → St → Nat → Prop} (z1 : Int) (z2 : Int) (z3 : Int) (z4 : Int) (z5 : Int) (s0 : Int) (h0 : am_R (z4 + 1)) (k : am_wp sc 78 13 [.inr (.inl 1), .inl z1, .inl s0, .inl z3, .inl (z4 + 1), .inl z5] [] σ Q) : am_wp sc 78 90 [.inr (.inl 1), .inl z1, .inl z2, .inl z3, .inl z4, .inl z5] [.inl s0] σ Q := by
  refine am_wn rfl ?_
  refine ar_inc (L' := [.inr (.inl 1), .inl z1, .inl s0, .inl z3, .inl (z4 + 1), .inl z5]) rfl rfl h0 rfl ?_
  refine am_wn rfl ?_
  exact k
theorem b_78_97 {sc : Int → Int} {σ : St} {Q : Ou → St → Nat → Prop} (z1 : Int) (z2 : Int) (z3 : Int) (z4 : Int) (v5 : AV) (h0 : am_R (z3 + 1)) (k : am_wp sc 78 4 [.inr (.inl 1), .inl z1, .inl z2, .inl (z3 + 1), .inl z4, v5] [] σ Q) : am_wp sc 78 97 [.inr (.inl 1), .inl z1, .inl z2, .inl z3, .inl z4, v5] [] σ Q := by
  refine ar_inc (L' := [.inr (.inl 1), .inl z1, .inl z2, .inl (z3 + 1), .inl z4, v5]) rfl rfl h0 rfl ?_
  refine am_wn rfl ?_
  exact k
theorem b_78_103 {sc : Int → Int} {σ : St} {Q : Ou → St → Nat → Prop} (z1 : Int) (z2 : Int) (z3 : Int) (v4 : AV) (v5 : AV) (k : Q (.inl (some z2)) σ 0) : am_wp sc 78 103 [.inr (.inl 1), .inl z1, .inl z2, .inl z3, v4, v5] [] σ Q := by
  refine am_wn rfl ?_
  exact am_w60 rfl k
/-! SlidingHeapModel.about -/
theorem b_79_0 {sc : Int → Int} {σ : St} {Q : Ou → St → Nat → Prop} (z1 : Int) (z2 : Int) (k : am_wp sc 50 0 [.inr (.inl 1), .inl z1] [] σ (am_bk sc 79 3 [.inr (.inl 1), .inl z1, .inl z2] [.inr (.inl 1)] Q)) : am_wp sc 79 0 [.inr (.inl 1), .inl z1, .inl z2] [] σ Q := by
  refine am_wn rfl ?_
  refine am_wn rfl ?_
  refine am_wn rfl ?_
  exact am_wc rfl (by decide) (by decide) rfl k
theorem b_79_6 {sc : Int → Int} {σ : St} {Q : Ou → St → Nat → Prop} (z1 : Int) (z2 : Int) (s1 : Int) (k1 : (s1 ≠ 0) → am_wp sc 79 13 [.inr (.inl 1), .inl z1, .inl z2] [.inr (.inl 1)] σ Q) (k2 : ¬ (s1 ≠ 0) → am_wp sc 79 9 [.inr (.inl 1), .inl z1, .inl z2] [.inr (.inl 1)] σ Q) : am_wp sc 79 6 [.inr (.inl 1), .inl z1, .inl z2] [.inl s1, .inr (.inl 1)] σ Q := by
  exact ar_br (c := s1 ≠ 0) rfl k1 k2
theorem b_79_9 {sc : Int → Int} {σ : St} {Q : Ou → St → Nat → Prop} (z1 : Int) (z2 : Int) (k : am_wp sc 79 27 [.inr (.inl 1), .inl z1, .inl z2] [.inl 1, .inr (.inl 1)] σ Q) : am_wp sc 79 9 [.inr (.inl 1), .inl z1, .inl z2] [.inr (.inl 1)] σ Q := by
  refine am_wn rfl ?_
  refine am_wn rfl ?_
  exact k
theorem b_79_13 {sc : Int → Int} {σ : St} {Q : Ou → St → Nat → Prop} (z1 : Int) (z2 : Int) (k1 : (z2 < 0) → am_wp sc 79 22 [.inr (.inl 1), .inl z1, .inl z2] [.inr (.inl 1)] σ Q) (k2 : ¬ (z2 < 0) → am_wp sc 79 17 [.inr (.inl 1), .inl z1, .inl z2] [.inr (.inl 1)] σ Q) : am_wp sc 79 13 [.inr (.inl 1), .inl z1, .inl z2] [.inr (.inl 1)] σ Q := by
  refine am_wn rfl ?_
  exact ar_br (c := z2 < 0) rfl k1 k2
theorem b_79_17 {sc : Int → Int} {σ : St} {Q : Ou → St → Nat → Prop} (z1 : Int) (z2 : Int) (k1 : (z2 ≤ 5) → am_wp sc 79 26 [.inr (.inl 1), .inl z1, .inl z2] [.inr (.inl 1)] σ Q) (k2 : ¬ (z2 ≤ 5) → am_wp sc 79 22 [.inr (.inl 1), .inl z1, .inl z2] [.inr (.inl 1)] σ Q) : am_wp sc 79 17 [.inr (.inl 1), .inl z1, .inl z2] [.inr (.inl 1)] σ Q := by
  refine am_wn rfl ?_
  refine am_wn rfl ?_
  exact ar_br (c := z2 ≤ 5) rfl k1 k2
theorem b_79_22 {sc : Int → Int} {σ : St} {Q : Ou → St → Nat → Prop} (z1 : Int) (z2 : Int) (k : am_wp sc 79 27 [.inr (.inl 1), .inl z1, .inl z2] [.inl 2, .inr (.inl 1)] σ Q) : am_wp sc 79 22 [.inr (.inl 1), .inl z1, .inl z2] [.inr (.inl 1)] σ Q := by
  refine am_wn rfl ?_
  refine am_wn rfl ?_
  exact k
theorem b_79_26 {sc : Int → Int} {σ : St} {Q : Ou → St → Nat → Prop} (z1 : Int) (z2 : Int) (k : am_wp sc 79 27 [.inr (.inl 1), .inl z1, .inl z2] [.inl 0, .inr (.inl 1)] σ Q) : am_wp sc 79 26 [.inr (.inl 1), .inl z1, .inl z2] [.inr (.inl 1)] σ Q := by
  refine am_wn rfl ?_
  exact k
theorem b_79_27 {sc : Int → Int} {σ : St} {Q : Ou → St → Nat → Prop} (z1 : Int) (z2 : Int) (s1 : Int) (k : am_wp sc 49 0 [.inr (.inl 1), .inl s1] [] σ (am_bk sc 79 27 [.inr (.inl 1), .inl z1, .inl z2] [] Q)) : am_wp sc 79 27 [.inr (.inl 1), .inl z1, .inl z2] [.inl s1, .inr (.inl 1)] σ Q := by
  exact am_wc rfl (by decide) (by decide) rfl k
theorem b_79_30 {sc : Int → Int} {σ : St} {Q : Ou → St → Nat → Prop} (z1 : Int) (z2 : Int) (s0 : Int) (k1 : (s0 = 0) → am_wp sc 79 35 [.inr (.inl 1), .inl z1, .inl z2] [] σ Q) (k2 : ¬ (s0 = 0) → am_wp sc 79 33 [.inr (.inl 1), .inl z1, .inl z2] [] σ Q) : am_wp sc 79 30 [.inr (.inl 1), .inl z1, .inl z2] [.inl s0] σ Q := by
  exact ar_br (c := s0 = 0) rfl k1 k2
theorem b_79_33 {sc : Int → Int} {σ : St} {Q : Ou → St → Nat → Prop} (z1 : Int) (z2 : Int) (k : Q (.inl (some 0)) σ 0) : am_wp sc 79 33 [.inr (.inl 1), .inl z1, .inl z2] [] σ Q := by
  refine am_wn rfl ?_
  exact am_w60 rfl k
theorem b_79_35_c0 {sc : Int → Int} {σ : St} {Q : Ou → St → Nat → Prop} (z1 : Int) (z2 : Int) (hz : z2 = 0) (k : am_wp sc 79 72 [.inr (.inl 1), .inl z1, .inl z2] [] σ Q) : am_wp sc 79 35 [.inr (.inl 1), .inl z1, .inl z2] [] σ Q := by
  refine am_wn rfl ?_
  exact ar_sw hz rfl k
theorem b_79_35_c1 {sc : Int → Int} {σ : St} {Q : Ou → St → Nat → Prop} (z1 : Int) (z2 : Int) (hz : z2 = 1) (k : am_wp sc 79 78 [.inr (.inl 1), .inl z1, .inl z2] [] σ Q) : am_wp sc 79 35 [.inr (.inl 1), .inl z1, .inl z2] [] σ Q := by
  refine am_wn rfl ?_
  exact ar_sw hz rfl k
theorem b_79_35_c2 {sc : Int → Int} {σ : St} {Q : Ou → St → Nat → Prop} (z1 : Int) (z2 : Int) (hz : z2 = 2) (k : am_wp sc 79 85 [.inr (.inl 1), .inl z1, .inl z2] [] σ Q) : am_wp sc 79 35 [.inr (.inl 1), .inl z1, .inl z2] [] σ Q := by
  refine am_wn rfl ?_
  exact ar_sw hz rfl k
theorem b_79_35_c3 {sc : Int → Int} {σ : St} {Q : Ou → St → Nat → Prop} (z1 : Int) (z2 : Int) (hz : z2 = 3) (k : am_wp sc 79 92 [.inr (.inl 1), .inl z1, .inl z2] [] σ Q) : am_wp sc 79 35 [.inr (.inl 1), .inl z1, .inl z2] [] σ Q := by
  refine am_wn rfl ?_
  exact ar_sw hz rfl k
theorem b_79_35_c4 {sc : Int → Int} {σ : St} {Q : Ou → St → Nat → Prop} (z1 : Int) (z2 : Int) (hz : z2 = 4) (k : am_wp sc 79 107 [.inr (.inl 1), .inl z1, .inl z2] [] σ Q) : am_wp sc 79 35 [.inr (.inl 1), .inl z1, .inl z2] [] σ Q := by
  refine am_wn rfl ?_
  exact ar_sw hz rfl k
theorem b_79_35_d {sc : Int → Int} {σ : St} {Q : Ou → St → Nat → Prop} (z1 : Int) (z2 : Int) (hz : z2 < 0 ∨ 5 ≤ z2) (k : am_wp sc 79 121 [.inr (.inl 1), .inl z1, .inl z2] [] σ Q) : am_wp sc 79 35 [.inr (.inl 1), .inl z1, .inl z2] [] σ Q := by
  refine am_wn rfl ?_
  exact ar_swd rfl hz k
theorem b_79_72 {sc : Int → Int} {σ : St} {Q : Ou → St → Nat → Prop} (z1 : Int) (z2 : Int) (k : am_wp sc 77 0 [.inr (.inl 1), .inl z1, .inr (.inr 0), .inr (.inr 0), .inr (.inr 0)] [] σ (am_bk sc 79 74 [.inr (.inl 1), .inl z1, .inl z2] [] Q)) : am_wp sc 79 72 [.inr (.inl 1), .inl z1, .inl z2] [] σ Q := by
  refine am_wn rfl ?_
  refine am_wn rfl ?_
  exact am_wc rfl (by decide) (by decide) rfl k
theorem b_79_77 {sc : Int → Int} {σ : St} {Q : Ou → St → Nat → Prop} (z1 : Int) (z2 : Int) (s0 : Int) (k : Q (.inl (some s0)) σ 0) : am_wp sc 79 77 [.inr (.inl 1), .inl z1, .inl z2] [.inl s0] σ Q := by
  exact am_w60 rfl k
theorem b_79_78 {sc : Int → Int} {σ : St} {Q : Ou → St → Nat → Prop} (z1 : Int) (z2 : Int) (h0 : 0 ≤ z1 ∧ z1 < 15) (k : Q (.inl (some (σ 16 z1))) σ 0) : am_wp sc 79 78 [.inr (.inl 1), .inl z1, .inl z2] [] σ Q := by
  refine am_wn rfl ?_
  refine am_wn rfl ?_
  refine am_wn rfl ?_
  refine ar_iald rfl rfl h0 ?_
  exact am_w60 rfl k
theorem b_79_85 {sc : Int → Int} {σ : St} {Q : Ou → St → Nat → Prop} (z1 : Int) (z2 : Int) (h0 : 0 ≤ z1 ∧ z1 < 15) (k : Q (.inl (some (σ 17 z1))) σ 0) : am_wp sc 79 85 [.inr (.inl 1), .inl z1, .inl z2] [] σ Q := by
  refine am_wn rfl ?_
  refine am_wn rfl ?_
  refine am_wn rfl ?_
  refine ar_iald rfl rfl h0 ?_
  exact am_w60 rfl k
theorem b_79_92 {sc : Int → Int} {σ : St} {Q : Ou → St → Nat → Prop} (z1 : Int) (z2 : Int) (h0 : 0 ≤ z1 ∧ z1 < 15) (k1 : ((σ 18 z1) = 0) → am_wp sc 79 105 [.inr (.inl 1), .inl z1, .inl z2] [] σ Q) (k2 : ¬ ((σ 18 z1) = 0) → am_wp sc 79 101 [.inr (.inl 1), .inl z1, .inl z2] [] σ Q) : am_wp sc 79 92 [.inr (.inl 1), .inl z1, .inl z2] [] σ Q := by
  refine am_wn rfl ?_
  refine am_wn rfl ?_
  refine am_wn rfl ?_
  refine ar_bald rfl rfl h0 ?_
  exact ar_br (c := (σ 18 z1) = 0) rfl k1 k2
theorem b_79_101 {sc : Int → Int} {σ : St} {Q : Ou → St → Nat → Prop} (z1 : Int) (z2 : Int) (k : am_wp sc 79 106 [.inr (.inl 1), .inl z1, .inl z2] [.inl 1] σ Q) : am_wp sc 79 101 [.inr (.inl 1), .inl z1, .inl z2] [] σ Q := by
  refine am_wn rfl ?_
  refine am_wn rfl ?_
  exact k
theorem b_79_105 {sc : Int → Int} {σ : St} {Q : Ou → St → Nat → Prop} (z1 : Int) (z2 : Int) (k : am_wp sc 79 106 [.inr (.inl 1), .inl z1, .inl z2] [.inl 0] σ Q) : am_wp sc 79 105 [.inr (.inl 1), .inl z1, .inl z2] [] σ Q := by
  refine am_wn rfl ?_
  exact k
theorem b_79_106 {sc : Int → Int} {σ : St} {Q : Ou → St → Nat → Prop} (z1 : Int) (z2 : Int) (s0 : Int) (k : Q (.inl (some s0)) σ 0) : am_wp sc 79 106 [.inr (.inl 1), .inl z1, .inl z2] [.inl s0] σ Q := by
  exact am_w60 rfl k
theorem b_79_107 {sc : Int → Int} {σ : St} {Q : Ou → St → Nat → Prop} (z1 : Int) (z2 : Int) (k : am_wp sc 80 0 [.inr (.inl 1), .inl z1] [] σ (am_bk sc 79 109 [.inr (.inl 1), .inl z1, .inl z2] [] Q)) : am_wp sc 79 107 [.inr (.inl 1), .inl z1, .inl z2] [] σ Q := by
  refine am_wn rfl ?_
  refine am_wn rfl ?_
  exact am_wc rfl (by decide) (by decide) rfl k
theorem b_79_112 {sc : Int → Int} {σ : St} {Q : Ou → St → Nat → Prop} (z1 : Int) (z2 : Int) (s0 : Int) (k1 : (s0 = 0) → am_wp sc 79 119 [.inr (.inl 1), .inl z1, .inl z2] [] σ Q) (k2 : ¬ (s0 = 0) → am_wp sc 79 115 [.inr (.inl 1), .inl z1, .inl z2] [] σ Q) : am_wp sc 79 112 [.inr (.inl 1), .inl z1, .inl z2] [.inl s0] σ Q := by
  exact ar_br (c := s0 = 0) rfl k1 k2
theorem b_79_115 {sc : Int → Int} {σ : St} {Q : Ou → St → Nat → Prop} (z1 : Int) (z2 : Int) (k : am_wp sc 79 120 [.inr (.inl 1), .inl z1, .inl z2] [.inl 1] σ Q) : am_wp sc 79 115 [.inr (.inl 1), .inl z1, .inl z2] [] σ Q := by
  refine am_wn rfl ?_
  refine am_wn rfl ?_
  exact k
theorem b_79_119 {sc : Int → Int} {σ : St} {Q : Ou → St → Nat → Prop} (z1 : Int) (z2 : Int) (k : am_wp sc 79 120 [.inr (.inl 1), .inl z1, .inl z2] [.inl 0] σ Q) : am_wp sc 79 119 [.inr (.inl 1), .inl z1, .inl z2] [] σ Q := by
  refine am_wn rfl ?_
  exact k
theorem b_79_120 {sc : Int → Int} {σ : St} {Q : Ou → St → Nat → Prop} (z1 : Int) (z2 : Int) (s0 : Int) (k : Q (.inl (some s0)) σ 0) : am_wp sc 79 120 [.inr (.inl 1), .inl z1, .inl z2] [.inl s0] σ Q := by
  exact am_w60 rfl k
theorem b_79_121 {sc : Int → Int} {σ : St} {Q : Ou → St → Nat → Prop} (z1 : Int) (z2 : Int) (k : am_wp sc 78 0 [.inr (.inl 1), .inl z1, .inr (.inr 0), .inr (.inr 0), .inr (.inr 0), .inr (.inr 0)] [] σ (am_bk sc 79 123 [.inr (.inl 1), .inl z1, .inl z2] [] Q)) : am_wp sc 79 121 [.inr (.inl 1), .inl z1, .inl z2] [] σ Q := by
  refine am_wn rfl ?_
  refine am_wn rfl ?_
  exact am_wc rfl (by decide) (by decide) rfl k
theorem b_79_126 {sc : Int → Int} {σ : St} {Q : Ou → St → Nat → Prop} (z1 : Int) (z2 : Int) (s0 : Int) (k : Q (.inl (some s0)) σ 0) : am_wp sc 79 126 [.inr (.inl 1), .inl z1, .inl z2] [.inl s0] σ Q := by
  exact am_w60 rfl k
/-! SlidingHeapModel.isLive -/
theorem b_80_0 {sc : Int → Int} {σ : St} {Q : Ou → St → Nat → Prop} (z1 : Int) (k : am_wp sc 55 0 [.inr (.inl 1), .inr (.inr 0)] [] σ (am_bk sc 80 1 [.inr (.inl 1), .inl z1] [] Q)) : am_wp sc 80 0 [.inr (.inl 1), .inl z1] [] σ Q := by
  refine am_wn rfl ?_
  exact am_wc rfl (by decide) (by decide) rfl k
theorem b_80_4 {sc : Int → Int} {σ : St} {Q : Ou → St → Nat → Prop} (z1 : Int) (h0 : 0 ≤ z1 ∧ z1 < 15) (h1 : (σ 23 z1) = 0 ∨ (σ 23 z1) = 1) (k : Q (.inl (some (σ 23 z1))) σ 0) : am_wp sc 80 4 [.inr (.inl 1), .inl z1] [] σ Q := by
  refine am_wn rfl ?_
  refine am_wn rfl ?_
  refine am_wn rfl ?_
  refine ar_bald rfl rfl h0 ?_
  exact am_w61 rfl h1 k
/-! SlidingHeapModel.findLeft -/
theorem b_81_0 {sc : Int → Int} {σ : St} {Q : Ou → St → Nat → Prop} (z1 : Int) (v2 : AV) (v3 : AV) (v4 : AV) (v5 : AV) (k : am_wp sc 81 2 [.inr (.inl 1), .inl z1, .inl 1, v3, v4, v5] [] σ Q) : am_wp sc 81 0 [.inr (.inl 1), .inl z1, v2, v3, v4, v5] [] σ Q := by
  refine am_wn rfl ?_
  refine am_wn rfl ?_
  exact k
theorem b_81_2 {sc : Int → Int} {σ : St} {Q : Ou → St → Nat → Prop} (z1 : Int) (z2 : Int) (v3 : AV) (v4 : AV) (v5 : AV) (k1 : (15 ≤ z2) → am_wp sc 81 31 [.inr (.inl 1), .inl z1, .inl z2, v3, v4, v5] [] σ Q) (k2 : ¬ (15 ≤ z2) → am_wp sc 81 8 [.inr (.inl 1), .inl z1, .inl z2, v3, v4, v5] [] σ Q) : am_wp sc 81 2 [.inr (.inl 1), .inl z1, .inl z2, v3, v4, v5] [] σ Q := by
  refine am_wn rfl ?_
  refine am_wn rfl ?_
  exact ar_br (c := 15 ≤ z2) rfl k1 k2
theorem b_81_8 {sc : Int → Int} {σ : St} {Q : Ou → St → Nat → Prop} (z1 : Int) (z2 : Int) (v3 : AV) (v4 : AV) (v5 : AV) (k1 : (z2 ≠ z1) → am_wp sc 81 22 [.inr (.inl 1), .inl z1, .inl z2, v3, v4, v5] [.inl z2, .inr (.inl 25)] σ Q) (k2 : ¬ (z2 ≠ z1) → am_wp sc 81 18 [.inr (.inl 1), .inl z1, .inl z2, v3, v4, v5] [.inl z2, .inr (.inl 25)] σ Q) : am_wp sc 81 8 [.inr (.inl 1), .inl z1, .inl z2, v3, v4, v5] [] σ Q := by
  refine am_wn rfl ?_
  refine am_wn rfl ?_
  refine am_wn rfl ?_
  refine am_wn rfl ?_
  refine am_wn rfl ?_
  exact ar_br (c := z2 ≠ z1) rfl k1 k2
theorem b_81_18 {sc : Int → Int} {σ : St} {Q : Ou → St → Nat → Prop} (z1 : Int) (z2 : Int) (v3 : AV) (v4 : AV) (v5 : AV) (s1 : Int) (k : am_wp sc 81 24 [.inr (.inl 1), .inl z1, .inl z2, v3, v4, v5] [.inl 0, .inl s1, .inr (.inl 25)] σ Q) : am_wp sc 81 18 [.inr (.inl 1), .inl z1, .inl z2, v3, v4, v5] [.inl s1, .inr (.inl 25)] σ Q := by
  refine am_wn rfl ?_
  refine am_wn rfl ?_
  exact k
theorem b_81_22 {sc : Int → Int} {σ : St} {Q : Ou → St → Nat → Prop} (z1 : Int) (z2 : Int) (v3 : AV) (v4 : AV) (v5 : AV) (s1 : Int) (k : am_wp sc 81 24 [.inr (.inl 1), .inl z1, .inl z2, v3, v4, v5] [.inl 99, .inl s1, .inr (.inl 25)] σ Q) : am_wp sc 81 22 [.inr (.inl 1), .inl z1, .inl z2, v3, v4, v5] [.inl s1, .inr (.inl 25)] σ Q := by
  refine am_wn rfl ?_
  exact k
theorem b_81_24 {sc : Int → Int} {σ : St} {Q : Ou → St → Nat → Prop} (z1 : Int) (z2 : Int) (v3 : AV) (v4 : AV) (v5 : AV) (s1 : Int) (s2 : Int) (h0 : 0 ≤ s1 ∧ s1 < 15) (h1 : am_R (z2 + 1)) (k : am_wp sc 81 2 [.inr (.inl 1), .inl z1, .inl (z2 + 1), v3, v4, v5] [] (am_up σ 25 s1 s2) Q) : am_wp sc 81 24 [.inr (.inl 1), .inl z1, .inl z2, v3, v4, v5] [.inl s2, .inl s1, .inr (.inl 25)] σ Q := by
  refine ar_iast rfl rfl h0 ?_
  refine ar_inc (L' := [.inr (.inl 1), .inl z1, .inl (z2 + 1), v3, v4, v5]) rfl rfl h1 rfl ?_
  refine am_wn rfl ?_
  exact k
theorem b_81_31 {sc : Int → Int} {σ : St} {Q : Ou → St → Nat → Prop} (z1 : Int) (z2 : Int) (v3 : AV) (v4 : AV) (v5 : AV) (k : am_wp sc 81 33 [.inr (.inl 1), .inl z1, .inl 0, v3, v4, v5] [] σ Q) : am_wp sc 81 31 [.inr (.inl 1), .inl z1, .inl z2, v3, v4, v5] [] σ Q := by
  refine am_wn rfl ?_
  refine am_wn rfl ?_
  exact k
theorem b_81_33 {sc : Int → Int} {σ : St} {Q : Ou → St → Nat → Prop} (z1 : Int) (z2 : Int) (v3 : AV) (v4 : AV) (v5 : AV) (k1 : (14 ≤ z2) → am_wp sc 81 158 [.inr (.inl 1), .inl z1, .inl z2, v3, v4, v5] [] σ Q) (k2 : ¬ (14 ≤ z2) → am_wp sc 81 39 [.inr (.inl 1), .inl z1, .inl z2, v3, v4, v5] [] σ Q) : am_wp sc 81 33 [.inr (.inl 1), .inl z1, .inl z2, v3, v4, v5] [] σ Q := by
  refine am_wn rfl ?_
  refine am_wn rfl ?_
  exact ar_br (c := 14 ≤ z2) rfl k1 k2
theorem b_81_39 {sc : Int → Int} {σ : St} {Q : Ou → St → Nat → Prop} (z1 : Int) (z2 : Int) (v3 : AV) (v4 : AV) (v5 : AV) (k : am_wp sc 81 41 [.inr (.inl 1), .inl z1, .inl z2, .inl 1, v4, v5] [] σ Q) : am_wp sc 81 39 [.inr (.inl 1), .inl z1, .inl z2, v3, v4, v5] [] σ Q := by
  refine am_wn rfl ?_
  refine am_wn rfl ?_
  exact k
theorem b_81_41 {sc : Int → Int} {σ : St} {Q : Ou → St → Nat → Prop} (z1 : Int) (z2 : Int) (z3 : Int) (v4 : AV) (v5 : AV) (k1 : (15 ≤ z3) → am_wp sc 81 152 [.inr (.inl 1), .inl z1, .inl z2, .inl z3, v4, v5] [] σ Q) (k2 : ¬ (15 ≤ z3) → am_wp sc 81 47 [.inr (.inl 1), .inl z1, .inl z2, .inl z3, v4, v5] [] σ Q) : am_wp sc 81 41 [.inr (.inl 1), .inl z1, .inl z2, .inl z3, v4, v5] [] σ Q := by
  refine am_wn rfl ?_
  refine am_wn rfl ?_
  exact ar_br (c := 15 ≤ z3) rfl k1 k2
theorem b_81_47 {sc : Int → Int} {σ : St} {Q : Ou → St → Nat → Prop} (z1 : Int) (z2 : Int) (z3 : Int) (v4 : AV) (v5 : AV) (k : am_wp sc 81 50 [.inr (.inl 1), .inl z1, .inl z2, .inl z3, .inl 1, v5] [] σ Q) : am_wp sc 81 47 [.inr (.inl 1), .inl z1, .inl z2, .inl z3, v4, v5] [] σ Q := by
  refine am_wn rfl ?_
  refine am_wn rfl ?_
  exact k
theorem b_81_50 {sc : Int → Int} {σ : St} {Q : Ou → St → Nat → Prop} (z1 : Int) (z2 : Int) (z3 : Int) (z4 : Int) (v5 : AV) (k1 : (15 ≤ z4) → am_wp sc 81 146 [.inr (.inl 1), .inl z1, .inl z2, .inl z3, .inl z4, v5] [] σ Q) (k2 : ¬ (15 ≤ z4) → am_wp sc 81 57 [.inr (.inl 1), .inl z1, .inl z2, .inl z3, .inl z4, v5] [] σ Q) : am_wp sc 81 50 [.inr (.inl 1), .inl z1, .inl z2, .inl z3, .inl z4, v5] [] σ Q := by
  refine am_wn rfl ?_
  refine am_wn rfl ?_
  exact ar_br (c := 15 ≤ z4) rfl k1 k2
theorem b_81_57 {sc : Int → Int} {σ : St} {Q : Ou → St → Nat → Prop} (z1 : Int) (z2 : Int) (z3 : Int) (z4 : Int) (v5 : AV) (h0 : 0 ≤ z3 ∧ z3 < 15) (k1 : ((σ 15 z3) = 0) → am_wp sc 81 108 [.inr (.inl 1), .inl z1, .inl z2, .inl z3, .inl z4, v5] [] σ Q) (k2 : ¬ ((σ 15 z3) = 0) → am_wp sc 81 66 [.inr (.inl 1), .inl z1, .inl z2, .inl z3, .inl z4, v5] [] σ Q) : am_wp sc 81 57 [.inr (.inl 1), .inl z1, .inl z2, .inl z3, .inl z4, v5] [] σ Q := by
  refine am_wn rfl ?_
  refine am_wn rfl ?_
  refine am_wn rfl ?_
  refine ar_bald rfl rfl h0 ?_
  exact ar_br (c := (σ 15 z3) = 0) rfl k1 k2
theorem b_81_66 {sc : Int → Int} {σ : St} {Q : Ou → St → Nat → Prop} (z1 : Int) (z2 : Int) (z3 : Int) (z4 : Int) (v5 : AV) (h0 : 0 ≤ z4 ∧ z4 < 15) (k1 : ((σ 15 z4) = 0) → am_wp sc 81 108 [.inr (.inl 1), .inl z1, .inl z2, .inl z3, .inl z4, v5] [] σ Q) (k2 : ¬ ((σ 15 z4) = 0) → am_wp sc 81 76 [.inr (.inl 1), .inl z1, .inl z2, .inl z3, .inl z4, v5] [] σ Q) : am_wp sc 81 66 [.inr (.inl 1), .inl z1, .inl z2, .inl z3, .inl z4, v5] [] σ Q := by
  refine am_wn rfl ?_
  refine am_wn rfl ?_
  refine am_wn rfl ?_
  refine ar_bald rfl rfl h0 ?_
  exact ar_br (c := (σ 15 z4) = 0) rfl k1 k2
theorem b_81_76 {sc : Int → Int} {σ : St} {Q : Ou → St → Nat → Prop} (z1 : Int) (z2 : Int) (z3 : Int) (z4 : Int) (v5 : AV) (h0 : 0 ≤ z4 ∧ z4 < 15) (h1 : am_R ((σ 25 z4) + 1)) (h2 : 0 ≤ z3 ∧ z3 < 15) (k1 : ((σ 25 z3) ≤ ((σ 25 z4) + 1)) → am_wp sc 81 108 [.inr (.inl 1), .inl z1, .inl z2, .inl z3, .inl z4, v5] [] σ Q) (k2 : ¬ ((σ 25 z3) ≤ ((σ 25 z4) + 1)) → am_wp sc 81 94 [.inr (.inl 1), .inl z1, .inl z2, .inl z3, .inl z4, v5] [] σ Q) : am_wp sc 81 76 [.inr (.inl 1), .inl z1, .inl z2, .inl z3, .inl z4, v5] [] σ Q := by
  refine am_wn rfl ?_
  refine am_wn rfl ?_
  refine am_wn rfl ?_
  refine ar_iald rfl rfl h0 ?_
  refine am_wn rfl ?_
  refine ar_add rfl h1 ?_
  refine am_wn rfl ?_
  refine am_wn rfl ?_
  refine am_wn rfl ?_
  refine ar_iald rfl rfl h2 ?_
  exact ar_br (c := (σ 25 z3) ≤ ((σ 25 z4) + 1)) rfl k1 k2
theorem b_81_94 {sc : Int → Int} {σ : St} {Q : Ou → St → Nat → Prop} (z1 : Int) (z2 : Int) (z3 : Int) (z4 : Int) (v5 : AV) (k : am_wp sc 53 0 [.inr (.inl 1), .inl z3, .inl z4, .inr (.inr 0), .inr (.inr 0)] [] σ (am_bk sc 81 98 [.inr (.inl 1), .inl z1, .inl z2, .inl z3, .inl z4, v5] [] Q)) : am_wp sc 81 94 [.inr (.inl 1), .inl z1, .inl z2, .inl z3, .inl z4, v5] [] σ Q := by
  refine am_wn rfl ?_
  refine am_wn rfl ?_
  refine am_wn rfl ?_
  exact am_wc rfl (by decide) (by decide) rfl k
theorem b_81_101 {sc : Int → Int} {σ : St} {Q : Ou → St → Nat → Prop} (z1 : Int) (z2 : Int) (z3 : Int) (z4 : Int) (v5 : AV) (s0 : Int) (k1 : (s0 = 0) → am_wp sc 81 108 [.inr (.inl 1), .inl z1, .inl z2, .inl z3, .inl z4, v5] [] σ Q) (k2 : ¬ (s0 = 0) → am_wp sc 81 104 [.inr (.inl 1), .inl z1, .inl z2, .inl z3, .inl z4, v5] [] σ Q) : am_wp sc 81 101 [.inr (.inl 1), .inl z1, .inl z2, .inl z3, .inl z4, v5] [.inl s0] σ Q := by
  exact ar_br (c := s0 = 0) rfl k1 k2
theorem b_81_104 {sc : Int → Int} {σ : St} {Q : Ou → St → Nat → Prop} (z1 : Int) (z2 : Int) (z3 : Int) (z4 : Int) (v5 : AV) (k : am_wp sc 81 109 [.inr (.inl 1), .inl z1, .inl z2, .inl z3, .inl z4, v5] [.inl 1] σ Q) : am_wp sc 81 104 [.inr (.inl 1), .inl z1, .inl z2, .inl z3, .inl z4, v5] [] σ Q := by
  refine am_wn rfl ?_
  refine am_wn rfl ?_
  exact k
theorem b_81_108 {sc : Int → Int} {σ : St} {Q : Ou → St → Nat → Prop} (z1 : Int) (z2 : Int) (z3 : Int) (z4 : Int) (v5 : AV) (k : am_wp sc 81 109 [.inr (.inl 1), .inl z1, .inl z2, .inl z3, .inl z4, v5] [.inl 0] σ Q) : am_wp sc 81 108 [.inr (.inl 1), .inl z1, .inl z2, .inl z3, .inl z4, v5] [] σ Q := by
  refine am_wn rfl ?_
  exact k
theorem b_81_109 {sc : Int → Int} {σ : St} {Q : Ou → St → Nat → Prop} (z1 : Int) (z2 : Int) (z3 : Int) (z4 : Int) (v5 : AV) (s0 : Int) (k1 : (s0 = 0) → am_wp sc 81 133 [.inr (.inl 1), .inl z1, .inl z2, .inl z3, .inl z4, .inl s0] [.inl z3, .inr (.inl 25)] σ Q) (k2 : ¬ (s0 = 0) → am_wp sc 81 121 [.inr (.inl 1), .inl z1, .inl z2, .inl z3, .inl z4, .inl s0] [.inl z3, .inr (.inl 25)] σ Q) : am_wp sc 81 109 [.inr (.inl 1), .inl z1, .inl z2, .inl z3, .inl z4, v5] [.inl s0] σ Q := by
  refine am_wn rfl ?_
  refine am_wn rfl ?_
  refine am_wn rfl ?_
  refine am_wn rfl ?_
  refine am_wn rfl ?_
  exact ar_br (c := s0 = 0) rfl k1 k2
theorem b_81_121 {sc : Int → Int} {σ : St} {Q : Ou → St → Nat → Prop} (z1 : Int) (z2 : Int) (z3 : Int) (z4 : Int) (z5 : Int) (s1 : Int) (h0 : 0 ≤ z4 ∧ z4 < 15) (h1 : am_R ((σ 25 z4) + 1)) (k : am_wp sc 81 139 [.inr (.inl 1), .inl z1, .inl z2, .inl z3, .inl z4, .inl z5] [.inl ((σ 25 z4) + 1), .inl s1, .inr (.inl 25)] σ Q) : am_wp sc 81 121 [.inr (.inl 1), .inl z1, .inl z2, .inl z3, .inl z4, .inl z5] [.inl s1, .inr (.inl 25)] σ Q := by
  refine am_wn rfl ?_
  refine am_wn rfl ?_
  refine am_wn rfl ?_
  refine ar_iald rfl rfl h0 ?_
  refine am_wn rfl ?_
  refine ar_add rfl h1 ?_
  refine am_wn rfl ?_
  exact k
theorem b_81_133 {sc : Int → Int} {σ : St} {Q : Ou → St → Nat → Prop} (z1 : Int) (z2 : Int) (z3 : Int) (z4 : Int) (z5 : Int) (s1 : Int) (h0 : 0 ≤ z3 ∧ z3 < 15) (k : am_wp sc 81 139 [.inr (.inl 1), .inl z1, .inl z2, .inl z3, .inl z4, .inl z5] [.inl (σ 25 z3), .inl s1, .inr (.inl 25)] σ Q) : am_wp sc 81 133 [.inr (.inl 1), .inl z1, .inl z2, .inl z3, .inl z4, .inl z5] [.inl s1, .inr (.inl 25)] σ Q := by
  refine am_wn rfl ?_
  refine am_wn rfl ?_
  refine am_wn rfl ?_
  refine ar_iald rfl rfl h0 ?_
  exact k
theorem b_81_139 {sc : Int → Int} {σ : St} {Q : Ou → St → Nat → Prop} (z1 : Int) (z2 : Int) (z3 : Int) (z4 : Int) (z5 : Int) (s1 : Int) (s2 : Int) (h0 : 0 ≤ s1 ∧ s1 < 15) (h1 : am_R (z4 + 1)) (k : am_wp sc 81 50 [.inr (.inl 1), .inl z1, .inl z2, .inl z3, .inl (z4 + 1), .inl z5] [] (am_up σ 25 s1 s2) Q) : am_wp sc 81 139 [.inr (.inl 1), .inl z1, .inl z2, .inl z3, .inl z4, .inl z5] [.inl s2, .inl s1, .inr (.inl 25)] σ Q := by
  refine ar_iast rfl rfl h0 ?_
  refine ar_inc (L' := [.inr (.inl 1), .inl z1, .inl z2, .inl z3, .inl (z4 + 1), .inl z5]) rfl rfl h1 rfl ?_
  refine am_wn rfl ?_
  exact k
theorem b_81_146 {sc : Int → Int} {σ : St} {Q : Ou → St → Nat → Prop} (z1 : Int) (z2 : Int) (z3 : Int) (z4 : Int) (v5 : AV) (h0 : am_R (z3 + 1)) (k : am_wp sc 81 41 [.inr (.inl 1), .inl z1, .inl z2, .inl (z3 + 1), .inl z4, v5] [] σ Q) : am_wp sc 81 146 [.inr (.inl 1), .inl z1, .inl z2, .inl z3, .inl z4, v5] [] σ Q := by
  refine ar_inc (L' := [.inr (.inl 1), .inl z1, .inl z2, .inl (z3 + 1), .inl z4, v5]) rfl rfl h0 rfl ?_
  refine am_wn rfl ?_
  exact k
theorem b_81_152 {sc : Int → Int} {σ : St} {Q : Ou → St → Nat → Prop} (z1 : Int) (z2 : Int) (z3 : Int) (v4 : AV) (v5 : AV) (h0 : am_R (z2 + 1)) (k : am_wp sc 81 33 [.inr (.inl 1), .inl z1, .inl (z2 + 1), .inl z3, v4, v5] [] σ Q) : am_wp sc 81 152 [.inr (.inl 1), .inl z1, .inl z2, .inl z3, v4, v5] [] σ Q := by
  refine ar_inc (L' := [.inr (.inl 1), .inl z1, .inl (z2 + 1), .inl z3, v4, v5]) rfl rfl h0 rfl ?_
  refine am_wn rfl ?_
  exact k
theorem b_81_158 {sc : Int → Int} {σ : St} {Q : Ou → St → Nat → Prop} (z1 : Int) (z2 : Int) (v3 : AV) (v4 : AV) (v5 : AV) (k : Q (.inl none) σ 0) : am_wp sc 81 158 [.inr (.inl 1), .inl z1, .inl z2, v3, v4, v5] [] σ Q := by
  exact am_w62 rfl k
/-! SlidingHeapModel.firstOf -/
theorem b_82_0 {sc : Int → Int} {σ : St} {Q : Ou → St → Nat → Prop} (z1 : Int) (v2 : AV) (v3 : AV) (v4 : AV) (k : am_wp sc 81 0 [.inr (.inl 1), .inl z1, .inr (.inr 0), .inr (.inr 0), .inr (.inr 0), .inr (.inr 0)] [] σ (am_bk sc 82 2 [.inr (.inl 1), .inl z1, v2, v3, v4] [] Q)) : am_wp sc 82 0 [.inr (.inl 1), .inl z1, v2, v3, v4] [] σ Q := by
  refine am_wn rfl ?_
  refine am_wn rfl ?_
  exact am_wc rfl (by decide) (by decide) rfl k
theorem b_82_5 {sc : Int → Int} {σ : St} {Q : Ou → St → Nat → Prop} (z1 : Int) (v2 : AV) (v3 : AV) (v4 : AV) (k : am_wp sc 82 10 [.inr (.inl 1), .inl z1, .inl 0, .inl 14, v4] [] σ Q) : am_wp sc 82 5 [.inr (.inl 1), .inl z1, v2, v3, v4] [] σ Q := by
  refine am_wn rfl ?_
  refine am_wn rfl ?_
  refine am_wn rfl ?_
  refine am_wn rfl ?_
  exact k
theorem b_82_10 {sc : Int → Int} {σ : St} {Q : Ou → St → Nat → Prop} (z1 : Int) (z2 : Int) (z3 : Int) (v4 : AV) (k1 : (z3 ≤ 0) → am_wp sc 82 85 [.inr (.inl 1), .inl z1, .inl z2, .inl z3, v4] [] σ Q) (k2 : ¬ (z3 ≤ 0) → am_wp sc 82 14 [.inr (.inl 1), .inl z1, .inl z2, .inl z3, v4] [] σ Q) : am_wp sc 82 10 [.inr (.inl 1), .inl z1, .inl z2, .inl z3, v4] [] σ Q := by
  refine am_wn rfl ?_
  exact ar_br (c := z3 ≤ 0) rfl k1 k2
theorem b_82_14 {sc : Int → Int} {σ : St} {Q : Ou → St → Nat → Prop} (z1 : Int) (z2 : Int) (z3 : Int) (v4 : AV) (h0 : 0 ≤ z3 ∧ z3 < 15) (k1 : ((σ 15 z3) = 0) → am_wp sc 82 46 [.inr (.inl 1), .inl z1, .inl z2, .inl z3, v4] [] σ Q) (k2 : ¬ ((σ 15 z3) = 0) → am_wp sc 82 23 [.inr (.inl 1), .inl z1, .inl z2, .inl z3, v4] [] σ Q) : am_wp sc 82 14 [.inr (.inl 1), .inl z1, .inl z2, .inl z3, v4] [] σ Q := by
  refine am_wn rfl ?_
  refine am_wn rfl ?_
  refine am_wn rfl ?_
  refine ar_bald rfl rfl h0 ?_
  exact ar_br (c := (σ 15 z3) = 0) rfl k1 k2
theorem b_82_23 {sc : Int → Int} {σ : St} {Q : Ou → St → Nat → Prop} (z1 : Int) (z2 : Int) (z3 : Int) (v4 : AV) (k : am_wp sc 52 0 [.inr (.inl 1), .inl z3, .inr (.inr 0), .inr (.inr 0)] [] σ (am_bk sc 82 25 [.inr (.inl 1), .inl z1, .inl z2, .inl z3, v4] [] Q)) : am_wp sc 82 23 [.inr (.inl 1), .inl z1, .inl z2, .inl z3, v4] [] σ Q := by
  refine am_wn rfl ?_
  refine am_wn rfl ?_
  exact am_wc rfl (by decide) (by decide) rfl k
theorem b_82_28 {sc : Int → Int} {σ : St} {Q : Ou → St → Nat → Prop} (z1 : Int) (z2 : Int) (z3 : Int) (v4 : AV) (s0 : Int) (k1 : (s0 = 0) → am_wp sc 82 46 [.inr (.inl 1), .inl z1, .inl z2, .inl z3, v4] [] σ Q) (k2 : ¬ (s0 = 0) → am_wp sc 82 31 [.inr (.inl 1), .inl z1, .inl z2, .inl z3, v4] [] σ Q) : am_wp sc 82 28 [.inr (.inl 1), .inl z1, .inl z2, .inl z3, v4] [.inl s0] σ Q := by
  exact ar_br (c := s0 = 0) rfl k1 k2
theorem b_82_31 {sc : Int → Int} {σ : St} {Q : Ou → St → Nat → Prop} (z1 : Int) (z2 : Int) (z3 : Int) (v4 : AV) (h0 : 0 ≤ z3 ∧ z3 < 15) (k1 : (99 ≤ (σ 25 z3)) → am_wp sc 82 46 [.inr (.inl 1), .inl z1, .inl z2, .inl z3, v4] [] σ Q) (k2 : ¬ (99 ≤ (σ 25 z3)) → am_wp sc 82 42 [.inr (.inl 1), .inl z1, .inl z2, .inl z3, v4] [] σ Q) : am_wp sc 82 31 [.inr (.inl 1), .inl z1, .inl z2, .inl z3, v4] [] σ Q := by
  refine am_wn rfl ?_
  refine am_wn rfl ?_
  refine am_wn rfl ?_
  refine ar_iald rfl rfl h0 ?_
  refine am_wn rfl ?_
  exact ar_br (c := 99 ≤ (σ 25 z3)) rfl k1 k2
theorem b_82_42 {sc : Int → Int} {σ : St} {Q : Ou → St → Nat → Prop} (z1 : Int) (z2 : Int) (z3 : Int) (v4 : AV) (k : am_wp sc 82 47 [.inr (.inl 1), .inl z1, .inl z2, .inl z3, v4] [.inl 1] σ Q) : am_wp sc 82 42 [.inr (.inl 1), .inl z1, .inl z2, .inl z3, v4] [] σ Q := by
  refine am_wn rfl ?_
  refine am_wn rfl ?_
  exact k
theorem b_82_46 {sc : Int → Int} {σ : St} {Q : Ou → St → Nat → Prop} (z1 : Int) (z2 : Int) (z3 : Int) (v4 : AV) (k : am_wp sc 82 47 [.inr (.inl 1), .inl z1, .inl z2, .inl z3, v4] [.inl 0] σ Q) : am_wp sc 82 46 [.inr (.inl 1), .inl z1, .inl z2, .inl z3, v4] [] σ Q := by
  refine am_wn rfl ?_
  exact k
theorem b_82_47 {sc : Int → Int} {σ : St} {Q : Ou → St → Nat → Prop} (z1 : Int) (z2 : Int) (z3 : Int) (v4 : AV) (s0 : Int) (k1 : (s0 = 0) → am_wp sc 82 77 [.inr (.inl 1), .inl z1, .inl z2, .inl z3, .inl s0] [] σ Q) (k2 : ¬ (s0 = 0) → am_wp sc 82 54 [.inr (.inl 1), .inl z1, .inl z2, .inl z3, .inl s0] [] σ Q) : am_wp sc 82 47 [.inr (.inl 1), .inl z1, .inl z2, .inl z3, v4] [.inl s0] σ Q := by
  refine am_wn rfl ?_
  refine am_wn rfl ?_
  exact ar_br (c := s0 = 0) rfl k1 k2
theorem b_82_54 {sc : Int → Int} {σ : St} {Q : Ou → St → Nat → Prop} (z1 : Int) (z2 : Int) (z3 : Int) (z4 : Int) (k1 : (z2 = 0) → am_wp sc 82 73 [.inr (.inl 1), .inl z1, .inl z2, .inl z3, .inl z4] [] σ Q) (k2 : ¬ (z2 = 0) → am_wp sc 82 58 [.inr (.inl 1), .inl z1, .inl z2, .inl z3, .inl z4] [] σ Q) : am_wp sc 82 54 [.inr (.inl 1), .inl z1, .inl z2, .inl z3, .inl z4] [] σ Q := by
  refine am_wn rfl ?_
  exact ar_br (c := z2 = 0) rfl k1 k2
theorem b_82_58 {sc : Int → Int} {σ : St} {Q : Ou → St → Nat → Prop} (z1 : Int) (z2 : Int) (z3 : Int) (z4 : Int) (h0 : 0 ≤ z3 ∧ z3 < 15) (h1 : 0 ≤ z2 ∧ z2 < 15) (k1 : ((σ 25 z2) < (σ 25 z3)) → am_wp sc 82 77 [.inr (.inl 1), .inl z1, .inl z2, .inl z3, .inl z4] [] σ Q) (k2 : ¬ ((σ 25 z2) < (σ 25 z3)) → am_wp sc 82 73 [.inr (.inl 1), .inl z1, .inl z2, .inl z3, .inl z4] [] σ Q) : am_wp sc 82 58 [.inr (.inl 1), .inl z1, .inl z2, .inl z3, .inl z4] [] σ Q := by
  refine am_wn rfl ?_
  refine am_wn rfl ?_
  refine am_wn rfl ?_
  refine ar_iald rfl rfl h0 ?_
  refine am_wn rfl ?_
  refine am_wn rfl ?_
  refine am_wn rfl ?_
  refine ar_iald rfl rfl h1 ?_
  exact ar_br (c := (σ 25 z2) < (σ 25 z3)) rfl k1 k2
theorem b_82_73 {sc : Int → Int} {σ : St} {Q : Ou → St → Nat → Prop} (z1 : Int) (z2 : Int) (z3 : Int) (z4 : Int) (k : am_wp sc 82 78 [.inr (.inl 1), .inl z1, .inl z2, .inl z3, .inl z4] [.inl z3] σ Q) : am_wp sc 82 73 [.inr (.inl 1), .inl z1, .inl z2, .inl z3, .inl z4] [] σ Q := by
  refine am_wn rfl ?_
  refine am_wn rfl ?_
  exact k
theorem b_82_77 {sc : Int → Int} {σ : St} {Q : Ou → St → Nat → Prop} (z1 : Int) (z2 : Int) (z3 : Int) (z4 : Int) (k : am_wp sc 82 78 [.inr (.inl 1), .inl z1, .inl z2, .inl z3, .inl z4] [.inl z2] σ Q) : am_wp sc 82 77 [.inr (.inl 1), .inl z1, .inl z2, .inl z3, .inl z4] [] σ Q := by
  refine am_wn rfl ?_
  exact k
theorem b_82_78 {sc : Int → Int} {σ : St} {Q : Ou → St → Nat → Prop} (z1 : Int) (z2 : Int) (z3 : Int) (z4 : Int) (s0 : Int) (h0 : am_R (z3 + (-1))) (k : am_wp sc 82 10 [.inr (.inl 1), .inl z1, .inl s0, .inl (z3 + (-1)), .inl z4] [] σ Q) : am_wp sc 82 78 [.inr (.inl 1), .inl z1, .inl z2, .inl z3, .inl z4] [.inl s0] σ Q := by
  refine am_wn rfl ?_
  refine ar_inc (L' := [.inr (.inl 1), .inl z1, .inl s0, .inl (z3 + (-1)), .inl z4]) rfl rfl h0 rfl ?_
  refine am_wn rfl ?_
  exact k
theorem b_82_85 {sc : Int → Int} {σ : St} {Q : Ou → St → Nat → Prop} (z1 : Int) (z2 : Int) (z3 : Int) (v4 : AV) (k : Q (.inl (some z2)) σ 0) : am_wp sc 82 85 [.inr (.inl 1), .inl z1, .inl z2, .inl z3, v4] [] σ Q := by
  refine am_wn rfl ?_
  exact am_w60 rfl k
/-! SlidingHeapModel.far -/
theorem b_83_0 {sc : Int → Int} {σ : St} {Q : Ou → St → Nat → Prop} (z1 : Int) (v2 : AV) (k : am_wp sc 50 0 [.inr (.inl 1), .inl z1] [] σ (am_bk sc 83 3 [.inr (.inl 1), .inl z1, v2] [.inr (.inl 1)] Q)) : am_wp sc 83 0 [.inr (.inl 1), .inl z1, v2] [] σ Q := by
  refine am_wn rfl ?_
  refine am_wn rfl ?_
  refine am_wn rfl ?_
  exact am_wc rfl (by decide) (by decide) rfl k
theorem b_83_6 {sc : Int → Int} {σ : St} {Q : Ou → St → Nat → Prop} (z1 : Int) (v2 : AV) (s1 : Int) (k1 : (s1 = 0) → am_wp sc 83 13 [.inr (.inl 1), .inl z1, v2] [.inr (.inl 1)] σ Q) (k2 : ¬ (s1 = 0) → am_wp sc 83 9 [.inr (.inl 1), .inl z1, v2] [.inr (.inl 1)] σ Q) : am_wp sc 83 6 [.inr (.inl 1), .inl z1, v2] [.inl s1, .inr (.inl 1)] σ Q := by
  exact ar_br (c := s1 = 0) rfl k1 k2
theorem b_83_9 {sc : Int → Int} {σ : St} {Q : Ou → St → Nat → Prop} (z1 : Int) (v2 : AV) (k : am_wp sc 83 14 [.inr (.inl 1), .inl z1, v2] [.inl 0, .inr (.inl 1)] σ Q) : am_wp sc 83 9 [.inr (.inl 1), .inl z1, v2] [.inr (.inl 1)] σ Q := by
  refine am_wn rfl ?_
  refine am_wn rfl ?_
  exact k
theorem b_83_13 {sc : Int → Int} {σ : St} {Q : Ou → St → Nat → Prop} (z1 : Int) (v2 : AV) (k : am_wp sc 83 14 [.inr (.inl 1), .inl z1, v2] [.inl 1, .inr (.inl 1)] σ Q) : am_wp sc 83 13 [.inr (.inl 1), .inl z1, v2] [.inr (.inl 1)] σ Q := by
  refine am_wn rfl ?_
  exact k
theorem b_83_14 {sc : Int → Int} {σ : St} {Q : Ou → St → Nat → Prop} (z1 : Int) (v2 : AV) (s1 : Int) (k : am_wp sc 49 0 [.inr (.inl 1), .inl s1] [] σ (am_bk sc 83 14 [.inr (.inl 1), .inl z1, v2] [] Q)) : am_wp sc 83 14 [.inr (.inl 1), .inl z1, v2] [.inl s1, .inr (.inl 1)] σ Q := by
  exact am_wc rfl (by decide) (by decide) rfl k
theorem b_83_17 {sc : Int → Int} {σ : St} {Q : Ou → St → Nat → Prop} (z1 : Int) (v2 : AV) (s0 : Int) (k1 : (s0 = 0) → am_wp sc 83 22 [.inr (.inl 1), .inl z1, v2] [] σ Q) (k2 : ¬ (s0 = 0) → am_wp sc 83 20 [.inr (.inl 1), .inl z1, v2] [] σ Q) : am_wp sc 83 17 [.inr (.inl 1), .inl z1, v2] [.inl s0] σ Q := by
  exact ar_br (c := s0 = 0) rfl k1 k2
theorem b_83_20 {sc : Int → Int} {σ : St} {Q : Ou → St → Nat → Prop} (z1 : Int) (v2 : AV) (k : Q (.inl (some 0)) σ 0) : am_wp sc 83 20 [.inr (.inl 1), .inl z1, v2] [] σ Q := by
  refine am_wn rfl ?_
  exact am_w60 rfl k
theorem b_83_22 {sc : Int → Int} {σ : St} {Q : Ou → St → Nat → Prop} (z1 : Int) (v2 : AV) (k : am_wp sc 82 0 [.inr (.inl 1), .inl z1, .inr (.inr 0), .inr (.inr 0), .inr (.inr 0)] [] σ (am_bk sc 83 24 [.inr (.inl 1), .inl z1, v2] [] Q)) : am_wp sc 83 22 [.inr (.inl 1), .inl z1, v2] [] σ Q := by
  refine am_wn rfl ?_
  refine am_wn rfl ?_
  exact am_wc rfl (by decide) (by decide) rfl k
theorem b_83_27 {sc : Int → Int} {σ : St} {Q : Ou → St → Nat → Prop} (z1 : Int) (v2 : AV) (s0 : Int) (k1 : (s0 ≠ 0) → am_wp sc 83 36 [.inr (.inl 1), .inl z1, .inl s0] [] σ Q) (k2 : ¬ (s0 ≠ 0) → am_wp sc 83 32 [.inr (.inl 1), .inl z1, .inl s0] [] σ Q) : am_wp sc 83 27 [.inr (.inl 1), .inl z1, v2] [.inl s0] σ Q := by
  refine am_wn rfl ?_
  refine am_wn rfl ?_
  exact ar_br (c := s0 ≠ 0) rfl k1 k2
theorem b_83_32 {sc : Int → Int} {σ : St} {Q : Ou → St → Nat → Prop} (z1 : Int) (z2 : Int) (k : am_wp sc 83 42 [.inr (.inl 1), .inl z1, .inl z2] [.inl (-1)] σ Q) : am_wp sc 83 32 [.inr (.inl 1), .inl z1, .inl z2] [] σ Q := by
  refine am_wn rfl ?_
  refine am_wn rfl ?_
  exact k
theorem b_83_36 {sc : Int → Int} {σ : St} {Q : Ou → St → Nat → Prop} (z1 : Int) (z2 : Int) (h0 : 0 ≤ z2 ∧ z2 < 15) (k : am_wp sc 83 42 [.inr (.inl 1), .inl z1, .inl z2] [.inl (σ 25 z2)] σ Q) : am_wp sc 83 36 [.inr (.inl 1), .inl z1, .inl z2] [] σ Q := by
  refine am_wn rfl ?_
  refine am_wn rfl ?_
  refine am_wn rfl ?_
  refine ar_iald rfl rfl h0 ?_
  exact k
theorem b_83_42 {sc : Int → Int} {σ : St} {Q : Ou → St → Nat → Prop} (z1 : Int) (z2 : Int) (s0 : Int) (k : Q (.inl (some s0)) σ 0) : am_wp sc 83 42 [.inr (.inl 1), .inl z1, .inl z2] [.inl s0] σ Q := by
  exact am_w60 rfl k
/-! SlidingHeapModel.way -/
theorem b_84_0 {sc : Int → Int} {σ : St} {Q : Ou → St → Nat → Prop} (z1 : Int) (z2 : Int) (v3 : AV) (v4 : AV) (v5 : AV) (v6 : AV) (k : am_wp sc 50 0 [.inr (.inl 1), .inl z1] [] σ (am_bk sc 84 3 [.inr (.inl 1), .inl z1, .inl z2, v3, v4, v5, v6] [.inr (.inl 1)] Q)) : am_wp sc 84 0 [.inr (.inl 1), .inl z1, .inl z2, v3, v4, v5, v6] [] σ Q := by
  refine am_wn rfl ?_
  refine am_wn rfl ?_
  refine am_wn rfl ?_
  exact am_wc rfl (by decide) (by decide) rfl k
theorem b_84_6 {sc : Int → Int} {σ : St} {Q : Ou → St → Nat → Prop} (z1 : Int) (z2 : Int) (v3 : AV) (v4 : AV) (v5 : AV) (v6 : AV) (s1 : Int) (k1 : (s1 = 0) → am_wp sc 84 13 [.inr (.inl 1), .inl z1, .inl z2, v3, v4, v5, v6] [.inr (.inl 1)] σ Q) (k2 : ¬ (s1 = 0) → am_wp sc 84 9 [.inr (.inl 1), .inl z1, .inl z2, v3, v4, v5, v6] [.inr (.inl 1)] σ Q) : am_wp sc 84 6 [.inr (.inl 1), .inl z1, .inl z2, v3, v4, v5, v6] [.inl s1, .inr (.inl 1)] σ Q := by
  exact ar_br (c := s1 = 0) rfl k1 k2
theorem b_84_9 {sc : Int → Int} {σ : St} {Q : Ou → St → Nat → Prop} (z1 : Int) (z2 : Int) (v3 : AV) (v4 : AV) (v5 : AV) (v6 : AV) (k : am_wp sc 84 14 [.inr (.inl 1), .inl z1, .inl z2, v3, v4, v5, v6] [.inl 0, .inr (.inl 1)] σ Q) : am_wp sc 84 9 [.inr (.inl 1), .inl z1, .inl z2, v3, v4, v5, v6] [.inr (.inl 1)] σ Q := by
  refine am_wn rfl ?_
  refine am_wn rfl ?_
  exact k
theorem b_84_13 {sc : Int → Int} {σ : St} {Q : Ou → St → Nat → Prop} (z1 : Int) (z2 : Int) (v3 : AV) (v4 : AV) (v5 : AV) (v6 : AV) (k : am_wp sc 84 14 [.inr (.inl 1), .inl z1, .inl z2, v3, v4, v5, v6] [.inl 1, .inr (.inl 1)] σ Q) : am_wp sc 84 13 [.inr (.inl 1), .inl z1, .inl z2, v3, v4, v5, v6] [.inr (.inl 1)] σ Q := by
  refine am_wn rfl ?_
  exact k
theorem b_84_14 {sc : Int → Int} {σ : St} {Q : Ou → St → Nat → Prop} (z1 : Int) (z2 : Int) (v3 : AV) (v4 : AV) (v5 : AV) (v6 : AV) (s1 : Int) (k : am_wp sc 49 0 [.inr (.inl 1), .inl s1] [] σ (am_bk sc 84 14 [.inr (.inl 1), .inl z1, .inl z2, v3, v4, v5, v6] [] Q)) : am_wp sc 84 14 [.inr (.inl 1), .inl z1, .inl z2, v3, v4, v5, v6] [.inl s1, .inr (.inl 1)] σ Q := by
  exact am_wc rfl (by decide) (by decide) rfl k
theorem b_84_17 {sc : Int → Int} {σ : St} {Q : Ou → St → Nat → Prop} (z1 : Int) (z2 : Int) (v3 : AV) (v4 : AV) (v5 : AV) (v6 : AV) (s0 : Int) (k1 : (s0 = 0) → am_wp sc 84 22 [.inr (.inl 1), .inl z1, .inl z2, v3, v4, v5, v6] [] σ Q) (k2 : ¬ (s0 = 0) → am_wp sc 84 20 [.inr (.inl 1), .inl z1, .inl z2, v3, v4, v5, v6] [] σ Q) : am_wp sc 84 17 [.inr (.inl 1), .inl z1, .inl z2, v3, v4, v5, v6] [.inl s0] σ Q := by
  exact ar_br (c := s0 = 0) rfl k1 k2
theorem b_84_20 {sc : Int → Int} {σ : St} {Q : Ou → St → Nat → Prop} (z1 : Int) (z2 : Int) (v3 : AV) (v4 : AV) (v5 : AV) (v6 : AV) (k : Q (.inl (some 0)) σ 0) : am_wp sc 84 20 [.inr (.inl 1), .inl z1, .inl z2, v3, v4, v5, v6] [] σ Q := by
  refine am_wn rfl ?_
  exact am_w60 rfl k
theorem b_84_22 {sc : Int → Int} {σ : St} {Q : Ou → St → Nat → Prop} (z1 : Int) (z2 : Int) (v3 : AV) (v4 : AV) (v5 : AV) (v6 : AV) (k : am_wp sc 82 0 [.inr (.inl 1), .inl z1, .inr (.inr 0), .inr (.inr 0), .inr (.inr 0)] [] σ (am_bk sc 84 24 [.inr (.inl 1), .inl z1, .inl z2, v3, v4, v5, v6] [] Q)) : am_wp sc 84 22 [.inr (.inl 1), .inl z1, .inl z2, v3, v4, v5, v6] [] σ Q := by
  refine am_wn rfl ?_
  refine am_wn rfl ?_
  exact am_wc rfl (by decide) (by decide) rfl k
theorem b_84_27 {sc : Int → Int} {σ : St} {Q : Ou → St → Nat → Prop} (z1 : Int) (z2 : Int) (v3 : AV) (v4 : AV) (v5 : AV) (v6 : AV) (s0 : Int) (k1 : (s0 = 0) → am_wp sc 84 46 [.inr (.inl 1), .inl z1, .inl z2, .inl s0, v4, v5, v6] [] σ Q) (k2 : ¬ (s0 = 0) → am_wp sc 84 32 [.inr (.inl 1), .inl z1, .inl z2, .inl s0, v4, v5, v6] [] σ Q) : am_wp sc 84 27 [.inr (.inl 1), .inl z1, .inl z2, v3, v4, v5, v6] [.inl s0] σ Q := by
  refine am_wn rfl ?_
  refine am_wn rfl ?_
  exact ar_br (c := s0 = 0) rfl k1 k2
theorem b_84_32 {sc : Int → Int} {σ : St} {Q : Ou → St → Nat → Prop} (z1 : Int) (z2 : Int) (z3 : Int) (v4 : AV) (v5 : AV) (v6 : AV) (k1 : (z2 < 0) → am_wp sc 84 46 [.inr (.inl 1), .inl z1, .inl z2, .inl z3, v4, v5, v6] [] σ Q) (k2 : ¬ (z2 < 0) → am_wp sc 84 36 [.inr (.inl 1), .inl z1, .inl z2, .inl z3, v4, v5, v6] [] σ Q) : am_wp sc 84 32 [.inr (.inl 1), .inl z1, .inl z2, .inl z3, v4, v5, v6] [] σ Q := by
  refine am_wn rfl ?_
  exact ar_br (c := z2 < 0) rfl k1 k2
theorem b_84_36 {sc : Int → Int} {σ : St} {Q : Ou → St → Nat → Prop} (z1 : Int) (z2 : Int) (z3 : Int) (v4 : AV) (v5 : AV) (v6 : AV) (h0 : 0 ≤ z3 ∧ z3 < 15) (k1 : (z2 ≤ (σ 25 z3)) → am_wp sc 84 48 [.inr (.inl 1), .inl z1, .inl z2, .inl z3, v4, v5, v6] [] σ Q) (k2 : ¬ (z2 ≤ (σ 25 z3)) → am_wp sc 84 46 [.inr (.inl 1), .inl z1, .inl z2, .inl z3, v4, v5, v6] [] σ Q) : am_wp sc 84 36 [.inr (.inl 1), .inl z1, .inl z2, .inl z3, v4, v5, v6] [] σ Q := by
  refine am_wn rfl ?_
  refine am_wn rfl ?_
  refine am_wn rfl ?_
  refine am_wn rfl ?_
  refine ar_iald rfl rfl h0 ?_
  exact ar_br (c := z2 ≤ (σ 25 z3)) rfl k1 k2
theorem b_84_46 {sc : Int → Int} {σ : St} {Q : Ou → St → Nat → Prop} (z1 : Int) (z2 : Int) (z3 : Int) (v4 : AV) (v5 : AV) (v6 : AV) (k : Q (.inl (some (-1))) σ 0) : am_wp sc 84 46 [.inr (.inl 1), .inl z1, .inl z2, .inl z3, v4, v5, v6] [] σ Q := by
  refine am_wn rfl ?_
  exact am_w60 rfl k
theorem b_84_48 {sc : Int → Int} {σ : St} {Q : Ou → St → Nat → Prop} (z1 : Int) (z2 : Int) (z3 : Int) (v4 : AV) (v5 : AV) (v6 : AV) (k : am_wp sc 84 51 [.inr (.inl 1), .inl z1, .inl z2, .inl z3, .inl 0, v5, v6] [] σ Q) : am_wp sc 84 48 [.inr (.inl 1), .inl z1, .inl z2, .inl z3, v4, v5, v6] [] σ Q := by
  refine am_wn rfl ?_
  refine am_wn rfl ?_
  exact k
theorem b_84_51 {sc : Int → Int} {σ : St} {Q : Ou → St → Nat → Prop} (z1 : Int) (z2 : Int) (z3 : Int) (z4 : Int) (v5 : AV) (v6 : AV) (k1 : (z2 ≤ z4) → am_wp sc 84 131 [.inr (.inl 1), .inl z1, .inl z2, .inl z3, .inl z4, v5, v6] [] σ Q) (k2 : ¬ (z2 ≤ z4) → am_wp sc 84 57 [.inr (.inl 1), .inl z1, .inl z2, .inl z3, .inl z4, v5, v6] [] σ Q) : am_wp sc 84 51 [.inr (.inl 1), .inl z1, .inl z2, .inl z3, .inl z4, v5, v6] [] σ Q := by
  refine am_wn rfl ?_
  refine am_wn rfl ?_
  exact ar_br (c := z2 ≤ z4) rfl k1 k2
theorem b_84_57 {sc : Int → Int} {σ : St} {Q : Ou → St → Nat → Prop} (z1 : Int) (z2 : Int) (z3 : Int) (z4 : Int) (v5 : AV) (v6 : AV) (k : am_wp sc 84 64 [.inr (.inl 1), .inl z1, .inl z2, .inl z3, .inl z4, .inl 0, .inl 14] [] σ Q) : am_wp sc 84 57 [.inr (.inl 1), .inl z1, .inl z2, .inl z3, .inl z4, v5, v6] [] σ Q := by
  refine am_wn rfl ?_
  refine am_wn rfl ?_
  refine am_wn rfl ?_
  refine am_wn rfl ?_
  exact k
theorem b_84_64 {sc : Int → Int} {σ : St} {Q : Ou → St → Nat → Prop} (z1 : Int) (z2 : Int) (z3 : Int) (z4 : Int) (z5 : Int) (z6 : Int) (k1 : (z6 ≤ 0) → am_wp sc 84 122 [.inr (.inl 1), .inl z1, .inl z2, .inl z3, .inl z4, .inl z5, .inl z6] [] σ Q) (k2 : ¬ (z6 ≤ 0) → am_wp sc 84 69 [.inr (.inl 1), .inl z1, .inl z2, .inl z3, .inl z4, .inl z5, .inl z6] [] σ Q) : am_wp sc 84 64 [.inr (.inl 1), .inl z1, .inl z2, .inl z3, .inl z4, .inl z5, .inl z6] [] σ Q := by
  refine am_wn rfl ?_
  exact ar_br (c := z6 ≤ 0) rfl k1 k2
theorem b_84_69 {sc : Int → Int} {σ : St} {Q : Ou → St → Nat → Prop} (z1 : Int) (z2 : Int) (z3 : Int) (z4 : Int) (z5 : Int) (z6 : Int) (h0 : 0 ≤ z6 ∧ z6 < 15) (k1 : ((σ 15 z6) = 0) → am_wp sc 84 112 [.inr (.inl 1), .inl z1, .inl z2, .inl z3, .inl z4, .inl z5, .inl z6] [] σ Q) (k2 : ¬ ((σ 15 z6) = 0) → am_wp sc 84 79 [.inr (.inl 1), .inl z1, .inl z2, .inl z3, .inl z4, .inl z5, .inl z6] [] σ Q) : am_wp sc 84 69 [.inr (.inl 1), .inl z1, .inl z2, .inl z3, .inl z4, .inl z5, .inl z6] [] σ Q := by
  refine am_wn rfl ?_
  refine am_wn rfl ?_
  refine am_wn rfl ?_
  refine ar_bald rfl rfl h0 ?_
  exact ar_br (c := (σ 15 z6) = 0) rfl k1 k2
theorem b_84_79 {sc : Int → Int} {σ : St} {Q : Ou → St → Nat → Prop} (z1 : Int) (z2 : Int) (z3 : Int) (z4 : Int) (z5 : Int) (z6 : Int) (h0 : 0 ≤ z6 ∧ z6 < 15) (h1 : 0 ≤ z3 ∧ z3 < 15) (h2 : am_R ((σ 25 z3) - 1)) (k1 : ((σ 25 z6) ≠ ((σ 25 z3) - 1)) → am_wp sc 84 112 [.inr (.inl 1), .inl z1, .inl z2, .inl z3, .inl z4, .inl z5, .inl z6] [] σ Q) (k2 : ¬ ((σ 25 z6) ≠ ((σ 25 z3) - 1)) → am_wp sc 84 97 [.inr (.inl 1), .inl z1, .inl z2, .inl z3, .inl z4, .inl z5, .inl z6] [] σ Q) : am_wp sc 84 79 [.inr (.inl 1), .inl z1, .inl z2, .inl z3, .inl z4, .inl z5, .inl z6] [] σ Q := by
  refine am_wn rfl ?_
  refine am_wn rfl ?_
  refine am_wn rfl ?_
  refine ar_iald rfl rfl h0 ?_
  refine am_wn rfl ?_
  refine am_wn rfl ?_
  refine am_wn rfl ?_
  refine ar_iald rfl rfl h1 ?_
  refine am_wn rfl ?_
  refine ar_sub rfl h2 ?_
  exact ar_br (c := (σ 25 z6) ≠ ((σ 25 z3) - 1)) rfl k1 k2
theorem b_84_97 {sc : Int → Int} {σ : St} {Q : Ou → St → Nat → Prop} (z1 : Int) (z2 : Int) (z3 : Int) (z4 : Int) (z5 : Int) (z6 : Int) (k : am_wp sc 53 0 [.inr (.inl 1), .inl z3, .inl z6, .inr (.inr 0), .inr (.inr 0)] [] σ (am_bk sc 84 101 [.inr (.inl 1), .inl z1, .inl z2, .inl z3, .inl z4, .inl z5, .inl z6] [] Q)) : am_wp sc 84 97 [.inr (.inl 1), .inl z1, .inl z2, .inl z3, .inl z4, .inl z5, .inl z6] [] σ Q := by
  refine am_wn rfl ?_
  refine am_wn rfl ?_
  refine am_wn rfl ?_
  exact am_wc rfl (by decide) (by decide) rfl k
theorem b_84_104 {sc : Int → Int} {σ : St} {Q : Ou → St → Nat → Prop} (z1 : Int) (z2 : Int) (z3 : Int) (z4 : Int) (z5 : Int) (z6 : Int) (s0 : Int) (k1 : (s0 = 0) → am_wp sc 84 112 [.inr (.inl 1), .inl z1, .inl z2, .inl z3, .inl z4, .inl z5, .inl z6] [] σ Q) (k2 : ¬ (s0 = 0) → am_wp sc 84 107 [.inr (.inl 1), .inl z1, .inl z2, .inl z3, .inl z4, .inl z5, .inl z6] [] σ Q) : am_wp sc 84 104 [.inr (.inl 1), .inl z1, .inl z2, .inl z3, .inl z4, .inl z5, .inl z6] [.inl s0] σ Q := by
  exact ar_br (c := s0 = 0) rfl k1 k2
theorem b_84_107 {sc : Int → Int} {σ : St} {Q : Ou → St → Nat → Prop} (z1 : Int) (z2 : Int) (z3 : Int) (z4 : Int) (z5 : Int) (z6 : Int) (k : am_wp sc 84 114 [.inr (.inl 1), .inl z1, .inl z2, .inl z3, .inl z4, .inl z5, .inl z6] [.inl z6] σ Q) : am_wp sc 84 107 [.inr (.inl 1), .inl z1, .inl z2, .inl z3, .inl z4, .inl z5, .inl z6] [] σ Q := by
  refine am_wn rfl ?_
  refine am_wn rfl ?_
  exact k
theorem b_84_112 {sc : Int → Int} {σ : St} {Q : Ou → St → Nat → Prop} (z1 : Int) (z2 : Int) (z3 : Int) (z4 : Int) (z5 : Int) (z6 : Int) (k : am_wp sc 84 114 [.inr (.inl 1), .inl z1, .inl z2, .inl z3, .inl z4, .inl z5, .inl z6] [.inl z5] σ Q) : am_wp sc 84 112 [.inr (.inl 1), .inl z1, .inl z2, .inl z3, .inl z4, .inl z5, .inl z6] [] σ Q := by
  refine am_wn rfl ?_
  exact k
theorem b_84_114 {sc : Int → Int} {σ : St} {Q : Ou → St → Nat → Prop} (z1 : Int) (z2 : Int) (z3 : Int) (z4 : Int) (z5 : Int) (z6 : Int) (s0 : Int) (h0 : am_R (z6 + (-1))) (k : am_wp sc 84 64 [.inr (.inl 1), .inl z1, .inl z2, .inl z3, .inl z4, .inl s0, .inl (z6 + (-1))] [] σ Q) : am_wp sc 84 114 [.inr (.inl 1), .inl z1, .inl z2, .inl z3, .inl z4, .inl z5, .inl z6] [.inl s0] σ Q := by
  refine am_wn rfl ?_
  refine ar_inc (L' := [.inr (.inl 1), .inl z1, .inl z2, .inl z3, .inl z4, .inl s0, .inl (z6 + (-1))]) rfl rfl h0 rfl ?_
  refine am_wn rfl ?_
  exact k
theorem b_84_122 {sc : Int → Int} {σ : St} {Q : Ou → St → Nat → Prop} (z1 : Int) (z2 : Int) (z3 : Int) (z4 : Int) (z5 : Int) (z6 : Int) (h0 : am_R (z4 + 1)) (k : am_wp sc 84 51 [.inr (.inl 1), .inl z1, .inl z2, .inl z5, .inl (z4 + 1), .inl z5, .inl z6] [] σ Q) : am_wp sc 84 122 [.inr (.inl 1), .inl z1, .inl z2, .inl z3, .inl z4, .inl z5, .inl z6] [] σ Q := by
  refine am_wn rfl ?_
  refine am_wn rfl ?_
  refine ar_inc (L' := [.inr (.inl 1), .inl z1, .inl z2, .inl z5, .inl (z4 + 1), .inl z5, .inl z6]) rfl rfl h0 rfl ?_
  refine am_wn rfl ?_
  exact k
theorem b_84_131 {sc : Int → Int} {σ : St} {Q : Ou → St → Nat → Prop} (z1 : Int) (z2 : Int) (z3 : Int) (z4 : Int) (v5 : AV) (v6 : AV) (k : Q (.inl (some z3)) σ 0) : am_wp sc 84 131 [.inr (.inl 1), .inl z1, .inl z2, .inl z3, .inl z4, v5, v6] [] σ Q := by
  refine am_wn rfl ?_
  exact am_w60 rfl k
/-! SlidingHeapModel.count -/
theorem b_85_0 {sc : Int → Int} {σ : St} {Q : Ou → St → Nat → Prop} (z1 : Int) (k1 : (z1 < 0) → am_wp sc 85 11 [.inr (.inl 1), .inl z1] [.inr (.inl 1)] σ Q) (k2 : ¬ (z1 < 0) → am_wp sc 85 5 [.inr (.inl 1), .inl z1] [.inr (.inl 1)] σ Q) : am_wp sc 85 0 [.inr (.inl 1), .inl z1] [] σ Q := by
  refine am_wn rfl ?_
  refine am_wn rfl ?_
  exact ar_br (c := z1 < 0) rfl k1 k2
theorem b_85_5 {sc : Int → Int} {σ : St} {Q : Ou → St → Nat → Prop} (z1 : Int) (k1 : (z1 ≤ 6) → am_wp sc 85 15 [.inr (.inl 1), .inl z1] [.inr (.inl 1)] σ Q) (k2 : ¬ (z1 ≤ 6) → am_wp sc 85 11 [.inr (.inl 1), .inl z1] [.inr (.inl 1)] σ Q) : am_wp sc 85 5 [.inr (.inl 1), .inl z1] [.inr (.inl 1)] σ Q := by
  refine am_wn rfl ?_
  refine am_wn rfl ?_
  exact ar_br (c := z1 ≤ 6) rfl k1 k2
theorem b_85_11 {sc : Int → Int} {σ : St} {Q : Ou → St → Nat → Prop} (z1 : Int) (k : am_wp sc 85 16 [.inr (.inl 1), .inl z1] [.inl 1, .inr (.inl 1)] σ Q) : am_wp sc 85 11 [.inr (.inl 1), .inl z1] [.inr (.inl 1)] σ Q := by
  refine am_wn rfl ?_
  refine am_wn rfl ?_
  exact k
theorem b_85_15 {sc : Int → Int} {σ : St} {Q : Ou → St → Nat → Prop} (z1 : Int) (k : am_wp sc 85 16 [.inr (.inl 1), .inl z1] [.inl 0, .inr (.inl 1)] σ Q) : am_wp sc 85 15 [.inr (.inl 1), .inl z1] [.inr (.inl 1)] σ Q := by
  refine am_wn rfl ?_
  exact k
theorem b_85_16 {sc : Int → Int} {σ : St} {Q : Ou → St → Nat → Prop} (z1 : Int) (s1 : Int) (k : am_wp sc 49 0 [.inr (.inl 1), .inl s1] [] σ (am_bk sc 85 16 [.inr (.inl 1), .inl z1] [] Q)) : am_wp sc 85 16 [.inr (.inl 1), .inl z1] [.inl s1, .inr (.inl 1)] σ Q := by
  exact am_wc rfl (by decide) (by decide) rfl k
theorem b_85_19 {sc : Int → Int} {σ : St} {Q : Ou → St → Nat → Prop} (z1 : Int) (s0 : Int) (k1 : (s0 = 0) → am_wp sc 85 24 [.inr (.inl 1), .inl z1] [] σ Q) (k2 : ¬ (s0 = 0) → am_wp sc 85 22 [.inr (.inl 1), .inl z1] [] σ Q) : am_wp sc 85 19 [.inr (.inl 1), .inl z1] [.inl s0] σ Q := by
  exact ar_br (c := s0 = 0) rfl k1 k2
theorem b_85_22 {sc : Int → Int} {σ : St} {Q : Ou → St → Nat → Prop} (z1 : Int) (k : Q (.inl (some 0)) σ 0) : am_wp sc 85 22 [.inr (.inl 1), .inl z1] [] σ Q := by
  refine am_wn rfl ?_
  exact am_w60 rfl k
theorem b_85_24 {sc : Int → Int} {σ : St} {Q : Ou → St → Nat → Prop} (z1 : Int) (k : am_wp sc 55 0 [.inr (.inl 1), .inr (.inr 0)] [] σ (am_bk sc 85 25 [.inr (.inl 1), .inl z1] [] Q)) : am_wp sc 85 24 [.inr (.inl 1), .inl z1] [] σ Q := by
  refine am_wn rfl ?_
  exact am_wc rfl (by decide) (by decide) rfl k
theorem b_85_28_c0 {sc : Int → Int} {σ : St} {Q : Ou → St → Nat → Prop} (z1 : Int) (hz : z1 = 0) (k : am_wp sc 85 68 [.inr (.inl 1), .inl z1] [] σ Q) : am_wp sc 85 28 [.inr (.inl 1), .inl z1] [] σ Q := by
  refine am_wn rfl ?_
  exact ar_sw hz rfl k
theorem b_85_28_c1 {sc : Int → Int} {σ : St} {Q : Ou → St → Nat → Prop} (z1 : Int) (hz : z1 = 1) (k : am_wp sc 85 73 [.inr (.inl 1), .inl z1] [] σ Q) : am_wp sc 85 28 [.inr (.inl 1), .inl z1] [] σ Q := by
  refine am_wn rfl ?_
  exact ar_sw hz rfl k
theorem b_85_28_c2 {sc : Int → Int} {σ : St} {Q : Ou → St → Nat → Prop} (z1 : Int) (hz : z1 = 2) (k : am_wp sc 85 78 [.inr (.inl 1), .inl z1] [] σ Q) : am_wp sc 85 28 [.inr (.inl 1), .inl z1] [] σ Q := by
  refine am_wn rfl ?_
  exact ar_sw hz rfl k
theorem b_85_28_c3 {sc : Int → Int} {σ : St} {Q : Ou → St → Nat → Prop} (z1 : Int) (hz : z1 = 3) (k : am_wp sc 85 84 [.inr (.inl 1), .inl z1] [] σ Q) : am_wp sc 85 28 [.inr (.inl 1), .inl z1] [] σ Q := by
  refine am_wn rfl ?_
  exact ar_sw hz rfl k
theorem b_85_28_c4 {sc : Int → Int} {σ : St} {Q : Ou → St → Nat → Prop} (z1 : Int) (hz : z1 = 4) (k : am_wp sc 85 90 [.inr (.inl 1), .inl z1] [] σ Q) : am_wp sc 85 28 [.inr (.inl 1), .inl z1] [] σ Q := by
  refine am_wn rfl ?_
  exact ar_sw hz rfl k
theorem b_85_28_c5 {sc : Int → Int} {σ : St} {Q : Ou → St → Nat → Prop} (z1 : Int) (hz : z1 = 5) (k : am_wp sc 85 95 [.inr (.inl 1), .inl z1] [] σ Q) : am_wp sc 85 28 [.inr (.inl 1), .inl z1] [] σ Q := by
  refine am_wn rfl ?_
  exact ar_sw hz rfl k
theorem b_85_28_d {sc : Int → Int} {σ : St} {Q : Ou → St → Nat → Prop} (z1 : Int) (hz : z1 < 0 ∨ 6 ≤ z1) (k : am_wp sc 85 100 [.inr (.inl 1), .inl z1] [] σ Q) : am_wp sc 85 28 [.inr (.inl 1), .inl z1] [] σ Q := by
  refine am_wn rfl ?_
  exact ar_swd rfl hz k
theorem b_85_68 {sc : Int → Int} {σ : St} {Q : Ou → St → Nat → Prop} (z1 : Int) (k : Q (.inl (some (σ 41 0))) σ 0) : am_wp sc 85 68 [.inr (.inl 1), .inl z1] [] σ Q := by
  refine am_wn rfl ?_
  refine am_wn rfl ?_
  exact am_w60 rfl k
theorem b_85_73 {sc : Int → Int} {σ : St} {Q : Ou → St → Nat → Prop} (z1 : Int) (k : am_wp sc 57 0 [.inr (.inl 1), .inr (.inr 0), .inr (.inr 0)] [] σ (am_bk sc 85 74 [.inr (.inl 1), .inl z1] [] Q)) : am_wp sc 85 73 [.inr (.inl 1), .inl z1] [] σ Q := by
  refine am_wn rfl ?_
  exact am_wc rfl (by decide) (by decide) rfl k
theorem b_85_77 {sc : Int → Int} {σ : St} {Q : Ou → St → Nat → Prop} (z1 : Int) (s0 : Int) (k : Q (.inl (some s0)) σ 0) : am_wp sc 85 77 [.inr (.inl 1), .inl z1] [.inl s0] σ Q := by
  exact am_w60 rfl k
theorem b_85_78 {sc : Int → Int} {σ : St} {Q : Ou → St → Nat → Prop} (z1 : Int) (k : am_wp sc 56 0 [.inr (.inl 1), .inl 0, .inr (.inr 0), .inr (.inr 0)] [] σ (am_bk sc 85 80 [.inr (.inl 1), .inl z1] [] Q)) : am_wp sc 85 78 [.inr (.inl 1), .inl z1] [] σ Q := by
  refine am_wn rfl ?_
  refine am_wn rfl ?_
  exact am_wc rfl (by decide) (by decide) rfl k
theorem b_85_83 {sc : Int → Int} {σ : St} {Q : Ou → St → Nat → Prop} (z1 : Int) (s0 : Int) (k : Q (.inl (some s0)) σ 0) : am_wp sc 85 83 [.inr (.inl 1), .inl z1] [.inl s0] σ Q := by
  exact am_w60 rfl k
theorem b_85_84 {sc : Int → Int} {σ : St} {Q : Ou → St → Nat → Prop} (z1 : Int) (k : am_wp sc 56 0 [.inr (.inl 1), .inl 1, .inr (.inr 0), .inr (.inr 0)] [] σ (am_bk sc 85 86 [.inr (.inl 1), .inl z1] [] Q)) : am_wp sc 85 84 [.inr (.inl 1), .inl z1] [] σ Q := by
  refine am_wn rfl ?_
  refine am_wn rfl ?_
  exact am_wc rfl (by decide) (by decide) rfl k
theorem b_85_89 {sc : Int → Int} {σ : St} {Q : Ou → St → Nat → Prop} (z1 : Int) (s0 : Int) (k : Q (.inl (some s0)) σ 0) : am_wp sc 85 89 [.inr (.inl 1), .inl z1] [.inl s0] σ Q := by
  exact am_w60 rfl k
theorem b_85_90 {sc : Int → Int} {σ : St} {Q : Ou → St → Nat → Prop} (z1 : Int) (k : Q (.inl (some (σ 42 0))) σ 0) : am_wp sc 85 90 [.inr (.inl 1), .inl z1] [] σ Q := by
  refine am_wn rfl ?_
  refine am_wn rfl ?_
  exact am_w60 rfl k
theorem b_85_95 {sc : Int → Int} {σ : St} {Q : Ou → St → Nat → Prop} (z1 : Int) (k : Q (.inl (some (σ 43 0))) σ 0) : am_wp sc 85 95 [.inr (.inl 1), .inl z1] [] σ Q := by
  refine am_wn rfl ?_
  refine am_wn rfl ?_
  exact am_w60 rfl k
theorem b_85_100 {sc : Int → Int} {σ : St} {Q : Ou → St → Nat → Prop} (z1 : Int) (k : Q (.inl (some (σ 44 0))) σ 0) : am_wp sc 85 100 [.inr (.inl 1), .inl z1] [] σ Q := by
  refine am_wn rfl ?_
  refine am_wn rfl ?_
  exact am_w60 rfl k
/-! SlidingHeapModel.clear -/
theorem b_86_0 {sc : Int → Int} {σ : St} {Q : Ou → St → Nat → Prop} (v1 : AV) (k : am_wp sc 86 27 [.inr (.inl 1), .inl 0] [] (am_up (am_up (am_up (am_up (am_up σ 40 0 0) 41 0 0) 42 0 0) 43 0 0) 44 0 0) Q) : am_wp sc 86 0 [.inr (.inl 1), v1] [] σ Q := by
  refine am_wn rfl ?_
  refine am_wn rfl ?_
  refine am_wn rfl ?_
  refine am_wn rfl ?_
  refine am_wn rfl ?_
  refine am_wn rfl ?_
  refine am_wn rfl ?_
  refine am_wn rfl ?_
  refine am_wn rfl ?_
  refine am_wn rfl ?_
  refine am_wn rfl ?_
  refine am_wn rfl ?_
  refine am_wn rfl ?_
  refine am_wn rfl ?_
  refine am_wn rfl ?_
  refine am_wn rfl ?_
  refine am_wn rfl ?_
  exact k
theorem b_86_27 {sc : Int → Int} {σ : St} {Q : Ou → St → Nat → Prop} (z1 : Int) (k1 : (15 ≤ z1) → am_wp sc 86 46 [.inr (.inl 1), .inl z1] [] σ Q) (k2 : ¬ (15 ≤ z1) → am_wp sc 86 33 [.inr (.inl 1), .inl z1] [] σ Q) : am_wp sc 86 27 [.inr (.inl 1), .inl z1] [] σ Q := by
  refine am_wn rfl ?_
  refine am_wn rfl ?_
  exact ar_br (c := 15 ≤ z1) rfl k1 k2
theorem b_86_33 {sc : Int → Int} {σ : St} {Q : Ou → St → Nat → Prop} (z1 : Int) (h0 : 0 ≤ z1 ∧ z1 < 15) (h1 : am_R (z1 + 1)) (k : am_wp sc 86 27 [.inr (.inl 1), .inl (z1 + 1)] [] (am_up σ 15 z1 0) Q) : am_wp sc 86 33 [.inr (.inl 1), .inl z1] [] σ Q := by
  refine am_wn rfl ?_
  refine am_wn rfl ?_
  refine am_wn rfl ?_
  refine am_wn rfl ?_
  refine ar_bast rfl rfl h0 (Or.inl rfl) ?_
  refine ar_inc (L' := [.inr (.inl 1), .inl (z1 + 1)]) rfl rfl h1 rfl ?_
  refine am_wn rfl ?_
  exact k
theorem b_86_46 {sc : Int → Int} {σ : St} {Q : Ou → St → Nat → Prop} (z1 : Int) (k : Q (.inl none) σ 0) : am_wp sc 86 46 [.inr (.inl 1), .inl z1] [] σ Q := by
  exact am_w62 rfl k
/-! java/util/Arrays.fill -/
theorem b_87_0 {sc : Int → Int} {σ : St} {Q : Ou → St → Nat → Prop} (v0 : Nat) (z1 : Int) (v2 : AV) (v3 : AV) (h0 : am_at v0 < 3) (k : am_wp sc 87 5 [.inr (.inl v0), .inl z1, .inl 0, .inl (am_ln v0)] [] σ Q) : am_wp sc 87 0 [.inr (.inl v0), .inl z1, v2, v3] [] σ Q := by
  refine am_wn rfl ?_
  refine am_wn rfl ?_
  refine am_wn rfl ?_
  refine ar_len rfl h0 ?_
  refine am_wn rfl ?_
  exact k
theorem b_87_5 {sc : Int → Int} {σ : St} {Q : Ou → St → Nat → Prop} (v0 : Nat) (z1 : Int) (z2 : Int) (z3 : Int) (k1 : (z3 ≤ z2) → am_wp sc 87 20 [.inr (.inl v0), .inl z1, .inl z2, .inl z3] [] σ Q) (k2 : ¬ (z3 ≤ z2) → am_wp sc 87 10 [.inr (.inl v0), .inl z1, .inl z2, .inl z3] [] σ Q) : am_wp sc 87 5 [.inr (.inl v0), .inl z1, .inl z2, .inl z3] [] σ Q := by
  refine am_wn rfl ?_
  refine am_wn rfl ?_
  exact ar_br (c := z3 ≤ z2) rfl k1 k2
theorem b_87_10 {sc : Int → Int} {σ : St} {Q : Ou → St → Nat → Prop} (v0 : Nat) (z1 : Int) (z2 : Int) (z3 : Int) (h0 : am_at v0 = 0) (h1 : 0 ≤ z2 ∧ z2 < am_ln v0) (h2 : am_R (z2 + 1)) (k : am_wp sc 87 5 [.inr (.inl v0), .inl z1, .inl (z2 + 1), .inl z3] [] (am_up σ v0 z2 z1) Q) : am_wp sc 87 10 [.inr (.inl v0), .inl z1, .inl z2, .inl z3] [] σ Q := by
  refine am_wn rfl ?_
  refine am_wn rfl ?_
  refine am_wn rfl ?_
  refine ar_iast rfl h0 h1 ?_
  refine ar_inc (L' := [.inr (.inl v0), .inl z1, .inl (z2 + 1), .inl z3]) rfl rfl h2 rfl ?_
  refine am_wn rfl ?_
  exact k
theorem b_87_20 {sc : Int → Int} {σ : St} {Q : Ou → St → Nat → Prop} (v0 : Nat) (z1 : Int) (z2 : Int) (z3 : Int) (k : Q (.inl none) σ 0) : am_wp sc 87 20 [.inr (.inl v0), .inl z1, .inl z2, .inl z3] [] σ Q := by
  exact am_w62 rfl k
