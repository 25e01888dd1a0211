/-! SlidingHeap.alloc -/
theorem b_0_0 {sc : Int → Int} {σ : St} {Q : Ou → St → Nat → Prop} (z1 : Int) (v2 : AV) (k1 : (z1 < 0) → am_wp sc 0 10 [.inr (.inl 0), .inl z1, v2] [] σ Q) (k2 : ¬ (z1 < 0) → am_wp sc 0 4 [.inr (.inl 0), .inl z1, v2] [] σ Q) : am_wp sc 0 0 [.inr (.inl 0), .inl z1, v2] [] σ Q := by
  refine am_wn rfl ?_
  exact ar_br (c := z1 < 0) rfl k1 k2
theorem b_0_4 {sc : Int → Int} {σ : St} {Q : Ou → St → Nat → Prop} (z1 : Int) (v2 : AV) (k1 : (z1 ≤ 10) → am_wp sc 0 18 [.inr (.inl 0), .inl z1, v2] [] σ Q) (k2 : ¬ (z1 ≤ 10) → am_wp sc 0 10 [.inr (.inl 0), .inl z1, v2] [] σ Q) : am_wp sc 0 4 [.inr (.inl 0), .inl z1, v2] [] σ Q := by
  refine am_wn rfl ?_
  refine am_wn rfl ?_
  exact ar_br (c := z1 ≤ 10) rfl k1 k2
theorem b_0_10 {sc : Int → Int} {σ : St} {Q : Ou → St → Nat → Prop} (z1 : Int) (v2 : AV) (k : Q (.inr 0) σ 1) : am_wp sc 0 10 [.inr (.inl 0), .inl z1, v2] [] σ Q := by
  exact am_w63 rfl k
theorem b_0_18 {sc : Int → Int} {σ : St} {Q : Ou → St → Nat → Prop} (z1 : Int) (v2 : AV) (k1 : ((σ 32 0) < 10) → am_wp sc 0 35 [.inr (.inl 0), .inl z1, v2] [] σ Q) (k2 : ¬ ((σ 32 0) < 10) → am_wp sc 0 27 [.inr (.inl 0), .inl z1, v2] [] σ Q) : am_wp sc 0 18 [.inr (.inl 0), .inl z1, v2] [] σ Q := by
  refine am_wn rfl ?_
  refine am_wn rfl ?_
  refine am_wn rfl ?_
  exact ar_br (c := (σ 32 0) < 10) rfl k1 k2
theorem b_0_27 {sc : Int → Int} {σ : St} {Q : Ou → St → Nat → Prop} (z1 : Int) (v2 : AV) (k : Q (.inr 1) σ 1) : am_wp sc 0 27 [.inr (.inl 0), .inl z1, v2] [] σ Q := by
  exact am_w63 rfl k
theorem b_0_35 {sc : Int → Int} {σ : St} {Q : Ou → St → Nat → Prop} (z1 : Int) (v2 : AV) (k : am_wp sc 25 0 [.inl z1, .inl (σ 31 0), .inl (σ 30 0)] [] σ (am_bk sc 0 44 [.inr (.inl 0), .inl z1, v2] [] Q)) : am_wp sc 0 35 [.inr (.inl 0), .inl z1, v2] [] σ Q := by
  refine am_wn rfl ?_
  refine am_wn rfl ?_
  refine am_wn rfl ?_
  refine am_wn rfl ?_
  refine am_wn rfl ?_
  exact am_wc rfl (by decide) (by decide) rfl k
theorem b_0_47 {sc : Int → Int} {σ : St} {Q : Ou → St → Nat → Prop} (z1 : Int) (v2 : AV) (s0 : Int) (k1 : (s0 ≠ 0) → am_wp sc 0 82 [.inr (.inl 0), .inl z1, v2] [] σ Q) (k2 : ¬ (s0 ≠ 0) → am_wp sc 0 50 [.inr (.inl 0), .inl z1, v2] [] σ Q) : am_wp sc 0 47 [.inr (.inl 0), .inl z1, v2] [.inl s0] σ Q := by
  exact ar_br (c := s0 ≠ 0) rfl k1 k2
theorem b_0_50 {sc : Int → Int} {σ : St} {Q : Ou → St → Nat → Prop} (z1 : Int) (v2 : AV) (k : am_wp sc 32 0 [.inr (.inl 0), .inr (.inr 0)] [] σ (am_bk sc 0 51 [.inr (.inl 0), .inl z1, v2] [] Q)) : am_wp sc 0 50 [.inr (.inl 0), .inl z1, v2] [] σ Q := by
  refine am_wn rfl ?_
  exact am_wc rfl (by decide) (by decide) rfl k
theorem b_0_54 {sc : Int → Int} {σ : St} {Q : Ou → St → Nat → Prop} (z1 : Int) (v2 : AV) (k : am_wp sc 35 0 [.inr (.inl 0), .inr (.inr 0), .inr (.inr 0)] [] σ (am_bk sc 0 60 [.inr (.inl 0), .inl z1, v2] [.inl (σ 35 0), .inl z1] Q)) : am_wp sc 0 54 [.inr (.inl 0), .inl z1, v2] [] σ Q := by
  refine am_wn rfl ?_
  refine am_wn rfl ?_
  refine am_wn rfl ?_
  refine am_wn rfl ?_
  exact am_wc rfl (by decide) (by decide) rfl k
theorem b_0_63 {sc : Int → Int} {σ : St} {Q : Ou → St → Nat → Prop} (z1 : Int) (v2 : AV) (s0 : Int) (s1 : Int) (s2 : Int) (k : am_wp sc 25 0 [.inl s0, .inl s1, .inl s2] [] σ (am_bk sc 0 63 [.inr (.inl 0), .inl z1, v2] [] Q)) : am_wp sc 0 63 [.inr (.inl 0), .inl z1, v2] [.inl s2, .inl s1, .inl s0] σ Q := by
  exact am_wc rfl (by decide) (by decide) rfl k
theorem b_0_66 {sc : Int → Int} {σ : St} {Q : Ou → St → Nat → Prop} (z1 : Int) (v2 : AV) (s0 : Int) (k1 : (s0 ≠ 0) → am_wp sc 0 77 [.inr (.inl 0), .inl z1, v2] [] σ Q) (k2 : ¬ (s0 ≠ 0) → am_wp sc 0 69 [.inr (.inl 0), .inl z1, v2] [] σ Q) : am_wp sc 0 66 [.inr (.inl 0), .inl z1, v2] [.inl s0] σ Q := by
  exact ar_br (c := s0 ≠ 0) rfl k1 k2
theorem b_0_69 {sc : Int → Int} {σ : St} {Q : Ou → St → Nat → Prop} (z1 : Int) (v2 : AV) (k : Q (.inr 2) σ 1) : am_wp sc 0 69 [.inr (.inl 0), .inl z1, v2] [] σ Q := by
  exact am_w63 rfl k
theorem b_0_77 {sc : Int → Int} {σ : St} {Q : Ou → St → Nat → Prop} (z1 : Int) (v2 : AV) (k : am_wp sc 11 0 [.inr (.inl 0), .inr (.inr 0)] [] σ (am_bk sc 0 78 [.inr (.inl 0), .inl z1, v2] [] Q)) : am_wp sc 0 77 [.inr (.inl 0), .inl z1, v2] [] σ Q := by
  refine am_wn rfl ?_
  exact am_wc rfl (by decide) (by decide) rfl k
theorem b_0_81 {sc : Int → Int} {σ : St} {Q : Ou → St → Nat → Prop} (z1 : Int) (v2 : AV) (s0 : Int) (k : am_wp sc 0 82 [.inr (.inl 0), .inl z1, v2] [] σ Q) : am_wp sc 0 81 [.inr (.inl 0), .inl z1, v2] [.inl s0] σ Q := by
  refine am_wn rfl ?_
  exact k
theorem b_0_82 {sc : Int → Int} {σ : St} {Q : Ou → St → Nat → Prop} (z1 : Int) (v2 : AV) (k : am_wp sc 26 0 [.inr (.inl 0), .inr (.inr 0)] [] σ (am_bk sc 0 83 [.inr (.inl 0), .inl z1, v2] [] Q)) : am_wp sc 0 82 [.inr (.inl 0), .inl z1, v2] [] σ Q := by
  refine am_wn rfl ?_
  exact am_wc rfl (by decide) (by decide) rfl k
theorem b_0_86 {sc : Int → Int} {σ : St} {Q : Ou → St → Nat → Prop} (z1 : Int) (v2 : AV) (s0 : Int) (k : am_wp sc 27 0 [.inr (.inl 0), .inl s0, .inl z1] [] σ (am_bk sc 0 90 [.inr (.inl 0), .inl z1, .inl s0] [] Q)) : am_wp sc 0 86 [.inr (.inl 0), .inl z1, v2] [.inl s0] σ Q := by
  refine am_wn rfl ?_
  refine am_wn rfl ?_
  refine am_wn rfl ?_
  refine am_wn rfl ?_
  exact am_wc rfl (by decide) (by decide) rfl k
theorem b_0_93 {sc : Int → Int} {σ : St} {Q : Ou → St → Nat → Prop} (z1 : Int) (z2 : Int) (k : am_wp sc 29 0 [.inr (.inl 0), .inl z2] [] σ (am_bk sc 0 95 [.inr (.inl 0), .inl z1, .inl z2] [] Q)) : am_wp sc 0 93 [.inr (.inl 0), .inl z1, .inl z2] [] σ Q := by
  refine am_wn rfl ?_
  refine am_wn rfl ?_
  exact am_wc rfl (by decide) (by decide) rfl k
theorem b_0_98 {sc : Int → Int} {σ : St} {Q : Ou → St → Nat → Prop} (z1 : Int) (z2 : Int) (k : Q (.inl (some z2)) σ 0) : am_wp sc 0 98 [.inr (.inl 0), .inl z1, .inl z2] [] σ Q := by
  refine am_wn rfl ?_
  exact am_w60 rfl k
/-! SlidingHeap.number -/
theorem b_1_0 {sc : Int → Int} {σ : St} {Q : Ou → St → Nat → Prop} (z1 : Int) (z2 : Int) (z3 : Int) (k : am_wp sc 19 0 [.inr (.inl 0), .inl z1, .inl z2] [] σ (am_bk sc 1 3 [.inr (.inl 0), .inl z1, .inl z2, .inl z3] [] Q)) : am_wp sc 1 0 [.inr (.inl 0), .inl z1, .inl z2, .inl z3] [] σ Q := by
  refine am_wn rfl ?_
  refine am_wn rfl ?_
  refine am_wn rfl ?_
  exact am_wc rfl (by decide) (by decide) rfl k
theorem b_1_6 {sc : Int → Int} {σ : St} {Q : Ou → St → Nat → Prop} (z1 : Int) (z2 : Int) (z3 : Int) (k : am_wp sc 24 0 [.inr (.inl 0), .inl z1, .inl z2, .inl 0, .inl z3, .inr (.inr 0)] [] σ (am_bk sc 1 11 [.inr (.inl 0), .inl z1, .inl z2, .inl z3] [] Q)) : am_wp sc 1 6 [.inr (.inl 0), .inl z1, .inl z2, .inl z3] [] σ Q := by
  refine am_wn rfl ?_
  refine am_wn rfl ?_
  refine am_wn rfl ?_
  refine am_wn rfl ?_
  refine am_wn rfl ?_
  exact am_wc rfl (by decide) (by decide) rfl k
theorem b_1_14 {sc : Int → Int} {σ : St} {Q : Ou → St → Nat → Prop} (z1 : Int) (z2 : Int) (z3 : Int) (k : Q (.inl none) σ 0) : am_wp sc 1 14 [.inr (.inl 0), .inl z1, .inl z2, .inl z3] [] σ Q := by
  exact am_w62 rfl k
/-! SlidingHeap.refer -/
theorem b_2_0 {sc : Int → Int} {σ : St} {Q : Ou → St → Nat → Prop} (z1 : Int) (z2 : Int) (z3 : Int) (z4 : Int) (k : am_wp sc 19 0 [.inr (.inl 0), .inl z1, .inl z2] [] σ (am_bk sc 2 3 [.inr (.inl 0), .inl z1, .inl z2, .inl z3, .inl z4] [] Q)) : am_wp sc 2 0 [.inr (.inl 0), .inl z1, .inl z2, .inl z3, .inl z4] [] σ Q := by
  refine am_wn rfl ?_
  refine am_wn rfl ?_
  refine am_wn rfl ?_
  exact am_wc rfl (by decide) (by decide) rfl k
theorem b_2_6 {sc : Int → Int} {σ : St} {Q : Ou → St → Nat → Prop} (z1 : Int) (z2 : Int) (z3 : Int) (z4 : Int) (k1 : (z3 = 0) → am_wp sc 2 26 [.inr (.inl 0), .inl z1, .inl z2, .inl z3, .inl z4] [] σ Q) (k2 : ¬ (z3 = 0) → am_wp sc 2 10 [.inr (.inl 0), .inl z1, .inl z2, .inl z3, .inl z4] [] σ Q) : am_wp sc 2 6 [.inr (.inl 0), .inl z1, .inl z2, .inl z3, .inl z4] [] σ Q := by
  refine am_wn rfl ?_
  exact ar_br (c := z3 = 0) rfl k1 k2
theorem b_2_10 {sc : Int → Int} {σ : St} {Q : Ou → St → Nat → Prop} (z1 : Int) (z2 : Int) (z3 : Int) (z4 : Int) (k : am_wp sc 20 0 [.inr (.inl 0), .inl z3] [] σ (am_bk sc 2 12 [.inr (.inl 0), .inl z1, .inl z2, .inl z3, .inl z4] [] Q)) : am_wp sc 2 10 [.inr (.inl 0), .inl z1, .inl z2, .inl z3, .inl z4] [] σ Q := by
  refine am_wn rfl ?_
  refine am_wn rfl ?_
  exact am_wc rfl (by decide) (by decide) rfl k
theorem b_2_15 {sc : Int → Int} {σ : St} {Q : Ou → St → Nat → Prop} (z1 : Int) (z2 : Int) (z3 : Int) (z4 : Int) (s0 : Int) (k1 : (s0 ≠ 0) → am_wp sc 2 26 [.inr (.inl 0), .inl z1, .inl z2, .inl z3, .inl z4] [] σ Q) (k2 : ¬ (s0 ≠ 0) → am_wp sc 2 18 [.inr (.inl 0), .inl z1, .inl z2, .inl z3, .inl z4] [] σ Q) : am_wp sc 2 15 [.inr (.inl 0), .inl z1, .inl z2, .inl z3, .inl z4] [.inl s0] σ Q := by
  exact ar_br (c := s0 ≠ 0) rfl k1 k2
theorem b_2_18 {sc : Int → Int} {σ : St} {Q : Ou → St → Nat → Prop} (z1 : Int) (z2 : Int) (z3 : Int) (z4 : Int) (k : Q (.inr 0) σ 1) : am_wp sc 2 18 [.inr (.inl 0), .inl z1, .inl z2, .inl z3, .inl z4] [] σ Q := by
  exact am_w63 rfl k
theorem b_2_26 {sc : Int → Int} {σ : St} {Q : Ou → St → Nat → Prop} (z1 : Int) (z2 : Int) (z3 : Int) (z4 : Int) (k1 : (z4 = 0) → am_wp sc 2 38 [.inr (.inl 0), .inl z1, .inl z2, .inl z3, .inl z4] [.inl z2, .inl z1, .inr (.inl 0)] σ Q) (k2 : ¬ (z4 = 0) → am_wp sc 2 34 [.inr (.inl 0), .inl z1, .inl z2, .inl z3, .inl z4] [.inl z2, .inl z1, .inr (.inl 0)] σ Q) : am_wp sc 2 26 [.inr (.inl 0), .inl z1, .inl z2, .inl z3, .inl z4] [] σ Q := by
  refine am_wn rfl ?_
  refine am_wn rfl ?_
  refine am_wn rfl ?_
  refine am_wn rfl ?_
  exact ar_br (c := z4 = 0) rfl k1 k2
theorem b_2_34 {sc : Int → Int} {σ : St} {Q : Ou → St → Nat → Prop} (z1 : Int) (z2 : Int) (z3 : Int) (z4 : Int) (s1 : Int) (s2 : Int) (k : am_wp sc 2 39 [.inr (.inl 0), .inl z1, .inl z2, .inl z3, .inl z4] [.inl 2, .inl s2, .inl s1, .inr (.inl 0)] σ Q) : am_wp sc 2 34 [.inr (.inl 0), .inl z1, .inl z2, .inl z3, .inl z4] [.inl s2, .inl s1, .inr (.inl 0)] σ Q := by
  refine am_wn rfl ?_
  refine am_wn rfl ?_
  exact k
theorem b_2_38 {sc : Int → Int} {σ : St} {Q : Ou → St → Nat → Prop} (z1 : Int) (z2 : Int) (z3 : Int) (z4 : Int) (s1 : Int) (s2 : Int) (k : am_wp sc 2 39 [.inr (.inl 0), .inl z1, .inl z2, .inl z3, .inl z4] [.inl 1, .inl s2, .inl s1, .inr (.inl 0)] σ Q) : am_wp sc 2 38 [.inr (.inl 0), .inl z1, .inl z2, .inl z3, .inl z4] [.inl s2, .inl s1, .inr (.inl 0)] σ Q := by
  refine am_wn rfl ?_
  exact k
theorem b_2_39 {sc : Int → Int} {σ : St} {Q : Ou → St → Nat → Prop} (z1 : Int) (z2 : Int) (z3 : Int) (z4 : Int) (s1 : Int) (s2 : Int) (s3 : Int) (k : am_wp sc 24 0 [.inr (.inl 0), .inl s1, .inl s2, .inl s3, .inl z3, .inr (.inr 0)] [] σ (am_bk sc 2 40 [.inr (.inl 0), .inl z1, .inl z2, .inl z3, .inl z4] [] Q)) : am_wp sc 2 39 [.inr (.inl 0), .inl z1, .inl z2, .inl z3, .inl z4] [.inl s3, .inl s2, .inl s1, .inr (.inl 0)] σ Q := by
  refine am_wn rfl ?_
  exact am_wc rfl (by decide) (by decide) rfl k
theorem b_2_43 {sc : Int → Int} {σ : St} {Q : Ou → St → Nat → Prop} (z1 : Int) (z2 : Int) (z3 : Int) (z4 : Int) (k : Q (.inl none) σ 0) : am_wp sc 2 43 [.inr (.inl 0), .inl z1, .inl z2, .inl z3, .inl z4] [] σ Q := by
  exact am_w62 rfl k
/-! SlidingHeap.get -/
theorem b_3_0 {sc : Int → Int} {σ : St} {Q : Ou → St → Nat → Prop} (z1 : Int) (z2 : Int) (k : am_wp sc 19 0 [.inr (.inl 0), .inl z1, .inl z2] [] σ (am_bk sc 3 3 [.inr (.inl 0), .inl z1, .inl z2] [] Q)) : am_wp sc 3 0 [.inr (.inl 0), .inl z1, .inl z2] [] σ Q := by
  refine am_wn rfl ?_
  refine am_wn rfl ?_
  refine am_wn rfl ?_
  exact am_wc rfl (by decide) (by decide) rfl k
theorem b_3_6 {sc : Int → Int} {σ : St} {Q : Ou → St → Nat → Prop} (z1 : Int) (z2 : Int) (k : am_wp sc 21 0 [.inr (.inl 0), .inl z1] [] σ (am_bk sc 3 12 [.inr (.inl 0), .inl z1, .inl z2] [.inr (.inl 2)] Q)) : am_wp sc 3 6 [.inr (.inl 0), .inl z1, .inl z2] [] σ Q := by
  refine am_wn rfl ?_
  refine am_wn rfl ?_
  refine am_wn rfl ?_
  refine am_wn rfl ?_
  exact am_wc rfl (by decide) (by decide) rfl k
theorem b_3_15 {sc : Int → Int} {σ : St} {Q : Ou → St → Nat → Prop} (z1 : Int) (z2 : Int) (s1 : Int) (h0 : am_R (s1 + z2)) (h1 : 0 ≤ (s1 + z2) ∧ (s1 + z2) < 90) (k : Q (.inl (some (σ 2 (s1 + z2)))) σ 0) : am_wp sc 3 15 [.inr (.inl 0), .inl z1, .inl z2] [.inl s1, .inr (.inl 2)] σ Q := by
  refine am_wn rfl ?_
  refine ar_add rfl h0 ?_
  refine ar_iald rfl rfl h1 ?_
  exact am_w60 rfl k
/-! SlidingHeap.kind -/
theorem b_4_0 {sc : Int → Int} {σ : St} {Q : Ou → St → Nat → Prop} (z1 : Int) (z2 : Int) (k : am_wp sc 19 0 [.inr (.inl 0), .inl z1, .inl z2] [] σ (am_bk sc 4 3 [.inr (.inl 0), .inl z1, .inl z2] [] Q)) : am_wp sc 4 0 [.inr (.inl 0), .inl z1, .inl z2] [] σ Q := by
  refine am_wn rfl ?_
  refine am_wn rfl ?_
  refine am_wn rfl ?_
  exact am_wc rfl (by decide) (by decide) rfl k
theorem b_4_6 {sc : Int → Int} {σ : St} {Q : Ou → St → Nat → Prop} (z1 : Int) (z2 : Int) (k : am_wp sc 21 0 [.inr (.inl 0), .inl z1] [] σ (am_bk sc 4 12 [.inr (.inl 0), .inl z1, .inl z2] [.inr (.inl 3)] Q)) : am_wp sc 4 6 [.inr (.inl 0), .inl z1, .inl z2] [] σ Q := by
  refine am_wn rfl ?_
  refine am_wn rfl ?_
  refine am_wn rfl ?_
  refine am_wn rfl ?_
  exact am_wc rfl (by decide) (by decide) rfl k
theorem b_4_15 {sc : Int → Int} {σ : St} {Q : Ou → St → Nat → Prop} (z1 : Int) (z2 : Int) (s1 : Int) (h0 : am_R (s1 + z2)) (h1 : 0 ≤ (s1 + z2) ∧ (s1 + z2) < 90) (k : Q (.inl (some (σ 3 (s1 + z2)))) σ 0) : am_wp sc 4 15 [.inr (.inl 0), .inl z1, .inl z2] [.inl s1, .inr (.inl 3)] σ Q := by
  refine am_wn rfl ?_
  refine ar_add rfl h0 ?_
  refine ar_iald rfl rfl h1 ?_
  exact am_w60 rfl k
/-! SlidingHeap.push -/
theorem b_5_0 {sc : Int → Int} {σ : St} {Q : Ou → St → Nat → Prop} (z1 : Int) (k : am_wp sc 18 0 [.inr (.inl 0), .inl z1] [] σ (am_bk sc 5 2 [.inr (.inl 0), .inl z1] [] Q)) : am_wp sc 5 0 [.inr (.inl 0), .inl z1] [] σ Q := by
  refine am_wn rfl ?_
  refine am_wn rfl ?_
  exact am_wc rfl (by decide) (by decide) rfl k
theorem b_5_5 {sc : Int → Int} {σ : St} {Q : Ou → St → Nat → Prop} (z1 : Int) (k1 : ((σ 32 0) < 10) → am_wp sc 5 22 [.inr (.inl 0), .inl z1] [] σ Q) (k2 : ¬ ((σ 32 0) < 10) → am_wp sc 5 14 [.inr (.inl 0), .inl z1] [] σ Q) : am_wp sc 5 5 [.inr (.inl 0), .inl z1] [] σ Q := by
  refine am_wn rfl ?_
  refine am_wn rfl ?_
  refine am_wn rfl ?_
  exact ar_br (c := (σ 32 0) < 10) rfl k1 k2
theorem b_5_14 {sc : Int → Int} {σ : St} {Q : Ou → St → Nat → Prop} (z1 : Int) (k : Q (.inr 1) σ 1) : am_wp sc 5 14 [.inr (.inl 0), .inl z1] [] σ Q := by
  exact am_w63 rfl k
theorem b_5_22 {sc : Int → Int} {σ : St} {Q : Ou → St → Nat → Prop} (z1 : Int) (k : am_wp sc 29 0 [.inr (.inl 0), .inl z1] [] σ (am_bk sc 5 24 [.inr (.inl 0), .inl z1] [] Q)) : am_wp sc 5 22 [.inr (.inl 0), .inl z1] [] σ Q := by
  refine am_wn rfl ?_
  refine am_wn rfl ?_
  exact am_wc rfl (by decide) (by decide) rfl k
theorem b_5_27 {sc : Int → Int} {σ : St} {Q : Ou → St → Nat → Prop} (z1 : Int) (k : Q (.inl (some (σ 32 0))) σ 0) : am_wp sc 5 27 [.inr (.inl 0), .inl z1] [] σ Q := by
  refine am_wn rfl ?_
  refine am_wn rfl ?_
  exact am_w60 rfl k
/-! SlidingHeap.pop -/
theorem b_6_0 {sc : Int → Int} {σ : St} {Q : Ou → St → Nat → Prop}  (k1 : ((σ 32 0) ≠ 0) → am_wp sc 6 9 [.inr (.inl 0)] [] σ Q) (k2 : ¬ ((σ 32 0) ≠ 0) → am_wp sc 6 7 [.inr (.inl 0)] [] σ Q) : am_wp sc 6 0 [.inr (.inl 0)] [] σ Q := by
  refine am_wn rfl ?_
  refine am_wn rfl ?_
  exact ar_br (c := (σ 32 0) ≠ 0) rfl k1 k2
theorem b_6_7 {sc : Int → Int} {σ : St} {Q : Ou → St → Nat → Prop}  (k : Q (.inl (some (-1))) σ 0) : am_wp sc 6 7 [.inr (.inl 0)] [] σ Q := by
  refine am_wn rfl ?_
  exact am_w60 rfl k
theorem b_6_9 {sc : Int → Int} {σ : St} {Q : Ou → St → Nat → Prop}  (h0 : am_R ((σ 32 0) - 1)) (h1 : 0 ≤ ((σ 32 0) - 1) ∧ ((σ 32 0) - 1) < 10) (k : Q (.inl (some (σ 9 ((σ 32 0) - 1)))) (am_up σ 32 0 ((σ 32 0) - 1)) 0) : am_wp sc 6 9 [.inr (.inl 0)] [] σ Q := by
  refine am_wn rfl ?_
  refine am_wn rfl ?_
  refine am_wn rfl ?_
  refine am_wn rfl ?_
  refine ar_sub rfl h0 ?_
  refine am_wn rfl ?_
  refine am_wn rfl ?_
  refine am_wn rfl ?_
  refine am_wn rfl ?_
  refine am_wn rfl ?_
  refine ar_iald rfl rfl h1 ?_
  exact am_w60 rfl k
/-! SlidingHeap.root -/
theorem b_7_0 {sc : Int → Int} {σ : St} {Q : Ou → St → Nat → Prop} (z1 : Int) (k1 : (z1 < 0) → am_wp sc 7 21 [.inr (.inl 0), .inl z1] [] σ Q) (k2 : ¬ (z1 < 0) → am_wp sc 7 4 [.inr (.inl 0), .inl z1] [] σ Q) : am_wp sc 7 0 [.inr (.inl 0), .inl z1] [] σ Q := by
  refine am_wn rfl ?_
  exact ar_br (c := z1 < 0) rfl k1 k2
theorem b_7_4 {sc : Int → Int} {σ : St} {Q : Ou → St → Nat → Prop} (z1 : Int) (k1 : ((σ 32 0) ≤ z1) → am_wp sc 7 21 [.inr (.inl 0), .inl z1] [] σ Q) (k2 : ¬ ((σ 32 0) ≤ z1) → am_wp sc 7 12 [.inr (.inl 0), .inl z1] [] σ Q) : am_wp sc 7 4 [.inr (.inl 0), .inl z1] [] σ Q := by
  refine am_wn rfl ?_
  refine am_wn rfl ?_
  refine am_wn rfl ?_
  exact ar_br (c := (σ 32 0) ≤ z1) rfl k1 k2
theorem b_7_12 {sc : Int → Int} {σ : St} {Q : Ou → St → Nat → Prop} (z1 : Int) (h0 : 0 ≤ z1 ∧ z1 < 10) (k : am_wp sc 7 22 [.inr (.inl 0), .inl z1] [.inl (σ 9 z1)] σ Q) : am_wp sc 7 12 [.inr (.inl 0), .inl z1] [] σ Q := by
  refine am_wn rfl ?_
  refine am_wn rfl ?_
  refine am_wn rfl ?_
  refine ar_iald rfl rfl h0 ?_
  refine am_wn rfl ?_
  exact k
theorem b_7_21 {sc : Int → Int} {σ : St} {Q : Ou → St → Nat → Prop} (z1 : Int) (k : am_wp sc 7 22 [.inr (.inl 0), .inl z1] [.inl (-1)] σ Q) : am_wp sc 7 21 [.inr (.inl 0), .inl z1] [] σ Q := by
  refine am_wn rfl ?_
  exact k
theorem b_7_22 {sc : Int → Int} {σ : St} {Q : Ou → St → Nat → Prop} (z1 : Int) (s0 : Int) (k : Q (.inl (some s0)) σ 0) : am_wp sc 7 22 [.inr (.inl 0), .inl z1] [.inl s0] σ Q := by
  exact am_w60 rfl k
/-! SlidingHeap.rites -/
theorem b_8_0 {sc : Int → Int} {σ : St} {Q : Ou → St → Nat → Prop} (z1 : Int) (z2 : Int) (k : am_wp sc 18 0 [.inr (.inl 0), .inl z1] [] σ (am_bk sc 8 2 [.inr (.inl 0), .inl z1, .inl z2] [] Q)) : am_wp sc 8 0 [.inr (.inl 0), .inl z1, .inl z2] [] σ Q := by
  refine am_wn rfl ?_
  refine am_wn rfl ?_
  exact am_wc rfl (by decide) (by decide) rfl k
theorem b_8_5 {sc : Int → Int} {σ : St} {Q : Ou → St → Nat → Prop} (z1 : Int) (z2 : Int) (h0 : 0 ≤ z1 ∧ z1 < 15) (h1 : z2 = 0 ∨ z2 = 1) (k : Q (.inl none) (am_up σ 7 z1 z2) 0) : am_wp sc 8 5 [.inr (.inl 0), .inl z1, .inl z2] [] σ Q := by
  refine am_wn rfl ?_
  refine am_wn rfl ?_
  refine am_wn rfl ?_
  refine am_wn rfl ?_
  refine ar_bast rfl rfl h0 h1 ?_
  exact am_w62 rfl k
/-! SlidingHeap.take -/
theorem b_9_0 {sc : Int → Int} {σ : St} {Q : Ou → St → Nat → Prop} (v1 : AV) (k1 : ((σ 33 0) ≠ 0) → am_wp sc 9 9 [.inr (.inl 0), v1] [] σ Q) (k2 : ¬ ((σ 33 0) ≠ 0) → am_wp sc 9 7 [.inr (.inl 0), v1] [] σ Q) : am_wp sc 9 0 [.inr (.inl 0), v1] [] σ Q := by
  refine am_wn rfl ?_
  refine am_wn rfl ?_
  exact ar_br (c := (σ 33 0) ≠ 0) rfl k1 k2
theorem b_9_7 {sc : Int → Int} {σ : St} {Q : Ou → St → Nat → Prop} (v1 : AV) (k : Q (.inl (some (-1))) σ 0) : am_wp sc 9 7 [.inr (.inl 0), v1] [] σ Q := by
  refine am_wn rfl ?_
  exact am_w60 rfl k
theorem b_9_9 {sc : Int → Int} {σ : St} {Q : Ou → St → Nat → Prop} (v1 : AV) (k1 : ((σ 32 0) < 10) → am_wp sc 9 26 [.inr (.inl 0), v1] [] σ Q) (k2 : ¬ ((σ 32 0) < 10) → am_wp sc 9 18 [.inr (.inl 0), v1] [] σ Q) : am_wp sc 9 9 [.inr (.inl 0), v1] [] σ Q := by
  refine am_wn rfl ?_
  refine am_wn rfl ?_
  refine am_wn rfl ?_
  exact ar_br (c := (σ 32 0) < 10) rfl k1 k2
theorem b_9_18 {sc : Int → Int} {σ : St} {Q : Ou → St → Nat → Prop} (v1 : AV) (k : Q (.inr 1) σ 1) : am_wp sc 9 18 [.inr (.inl 0), v1] [] σ Q := by
  exact am_w63 rfl k
theorem b_9_26 {sc : Int → Int} {σ : St} {Q : Ou → St → Nat → Prop} (v1 : AV) (k : am_wp sc 30 0 [.inr (.inl 0), .inr (.inr 0), .inr (.inr 0)] [] σ (am_bk sc 9 27 [.inr (.inl 0), v1] [] Q)) : am_wp sc 9 26 [.inr (.inl 0), v1] [] σ Q := by
  refine am_wn rfl ?_
  exact am_wc rfl (by decide) (by decide) rfl k
theorem b_9_30 {sc : Int → Int} {σ : St} {Q : Ou → St → Nat → Prop} (v1 : AV) (s0 : Int) (k : am_wp sc 29 0 [.inr (.inl 0), .inl s0] [] σ (am_bk sc 9 33 [.inr (.inl 0), .inl s0] [] Q)) : am_wp sc 9 30 [.inr (.inl 0), v1] [.inl s0] σ Q := by
  refine am_wn rfl ?_
  refine am_wn rfl ?_
  refine am_wn rfl ?_
  exact am_wc rfl (by decide) (by decide) rfl k
theorem b_9_36 {sc : Int → Int} {σ : St} {Q : Ou → St → Nat → Prop} (z1 : Int) (k : Q (.inl (some z1)) σ 0) : am_wp sc 9 36 [.inr (.inl 0), .inl z1] [] σ Q := by
  refine am_wn rfl ?_
  exact am_w60 rfl k
/-! SlidingHeap.queued -/
theorem b_10_0 {sc : Int → Int} {σ : St} {Q : Ou → St → Nat → Prop} (z1 : Int) (k1 : (z1 < 0) → am_wp sc 10 21 [.inr (.inl 0), .inl z1] [] σ Q) (k2 : ¬ (z1 < 0) → am_wp sc 10 4 [.inr (.inl 0), .inl z1] [] σ Q) : am_wp sc 10 0 [.inr (.inl 0), .inl z1] [] σ Q := by
  refine am_wn rfl ?_
  exact ar_br (c := z1 < 0) rfl k1 k2
theorem b_10_4 {sc : Int → Int} {σ : St} {Q : Ou → St → Nat → Prop} (z1 : Int) (k1 : ((σ 33 0) ≤ z1) → am_wp sc 10 21 [.inr (.inl 0), .inl z1] [] σ Q) (k2 : ¬ ((σ 33 0) ≤ z1) → am_wp sc 10 12 [.inr (.inl 0), .inl z1] [] σ Q) : am_wp sc 10 4 [.inr (.inl 0), .inl z1] [] σ Q := by
  refine am_wn rfl ?_
  refine am_wn rfl ?_
  refine am_wn rfl ?_
  exact ar_br (c := (σ 33 0) ≤ z1) rfl k1 k2
theorem b_10_12 {sc : Int → Int} {σ : St} {Q : Ou → St → Nat → Prop} (z1 : Int) (h0 : 0 ≤ z1 ∧ z1 < 14) (k : am_wp sc 10 22 [.inr (.inl 0), .inl z1] [.inl (σ 10 z1)] σ Q) : am_wp sc 10 12 [.inr (.inl 0), .inl z1] [] σ Q := by
  refine am_wn rfl ?_
  refine am_wn rfl ?_
  refine am_wn rfl ?_
  refine ar_iald rfl rfl h0 ?_
  refine am_wn rfl ?_
  exact k
theorem b_10_21 {sc : Int → Int} {σ : St} {Q : Ou → St → Nat → Prop} (z1 : Int) (k : am_wp sc 10 22 [.inr (.inl 0), .inl z1] [.inl (-1)] σ Q) : am_wp sc 10 21 [.inr (.inl 0), .inl z1] [] σ Q := by
  refine am_wn rfl ?_
  exact k
theorem b_10_22 {sc : Int → Int} {σ : St} {Q : Ou → St → Nat → Prop} (z1 : Int) (s0 : Int) (k : Q (.inl (some s0)) σ 0) : am_wp sc 10 22 [.inr (.inl 0), .inl z1] [.inl s0] σ Q := by
  exact am_w60 rfl k
/-! SlidingHeap.collect -/
theorem b_11_0 {sc : Int → Int} {σ : St} {Q : Ou → St → Nat → Prop} (v1 : AV) (k : am_wp sc 31 0 [.inr (.inl 0), .inr (.inr 0)] [] σ (am_bk sc 11 6 [.inr (.inl 0), .inl (σ 30 0)] [] Q)) : am_wp sc 11 0 [.inr (.inl 0), v1] [] σ Q := by
  refine am_wn rfl ?_
  refine am_wn rfl ?_
  refine am_wn rfl ?_
  refine am_wn rfl ?_
  exact am_wc rfl (by decide) (by decide) rfl k
theorem b_11_9 {sc : Int → Int} {σ : St} {Q : Ou → St → Nat → Prop} (z1 : Int) (k : am_wp sc 36 0 [.inr (.inl 0), .inr (.inr 0), .inr (.inr 0), .inr (.inr 0)] [] σ (am_bk sc 11 10 [.inr (.inl 0), .inl z1] [] Q)) : am_wp sc 11 9 [.inr (.inl 0), .inl z1] [] σ Q := by
  refine am_wn rfl ?_
  exact am_wc rfl (by decide) (by decide) rfl k
theorem b_11_13 {sc : Int → Int} {σ : St} {Q : Ou → St → Nat → Prop} (z1 : Int) (k : am_wp sc 37 0 [.inr (.inl 0), .inr (.inr 0)] [] σ (am_bk sc 11 14 [.inr (.inl 0), .inl z1] [] Q)) : am_wp sc 11 13 [.inr (.inl 0), .inl z1] [] σ Q := by
  refine am_wn rfl ?_
  exact am_wc rfl (by decide) (by decide) rfl k
theorem b_11_17 {sc : Int → Int} {σ : St} {Q : Ou → St → Nat → Prop} (z1 : Int) (k : am_wp sc 31 0 [.inr (.inl 0), .inr (.inr 0)] [] σ (am_bk sc 11 18 [.inr (.inl 0), .inl z1] [] Q)) : am_wp sc 11 17 [.inr (.inl 0), .inl z1] [] σ Q := by
  refine am_wn rfl ?_
  exact am_wc rfl (by decide) (by decide) rfl k
theorem b_11_21 {sc : Int → Int} {σ : St} {Q : Ou → St → Nat → Prop} (z1 : Int) (k : am_wp sc 36 0 [.inr (.inl 0), .inr (.inr 0), .inr (.inr 0), .inr (.inr 0)] [] σ (am_bk sc 11 22 [.inr (.inl 0), .inl z1] [] Q)) : am_wp sc 11 21 [.inr (.inl 0), .inl z1] [] σ Q := by
  refine am_wn rfl ?_
  exact am_wc rfl (by decide) (by decide) rfl k
theorem b_11_25 {sc : Int → Int} {σ : St} {Q : Ou → St → Nat → Prop} (z1 : Int) (k : am_wp sc 38 0 [.inr (.inl 0), .inr (.inr 0), .inr (.inr 0), .inr (.inr 0), .inr (.inr 0)] [] σ (am_bk sc 11 26 [.inr (.inl 0), .inl z1] [] Q)) : am_wp sc 11 25 [.inr (.inl 0), .inl z1] [] σ Q := by
  refine am_wn rfl ?_
  exact am_wc rfl (by decide) (by decide) rfl k
theorem b_11_29 {sc : Int → Int} {σ : St} {Q : Ou → St → Nat → Prop} (z1 : Int) (k : am_wp sc 41 0 [.inr (.inl 0), .inr (.inr 0), .inr (.inr 0)] [] σ (am_bk sc 11 30 [.inr (.inl 0), .inl z1] [] Q)) : am_wp sc 11 29 [.inr (.inl 0), .inl z1] [] σ Q := by
  refine am_wn rfl ?_
  exact am_wc rfl (by decide) (by decide) rfl k
theorem b_11_33 {sc : Int → Int} {σ : St} {Q : Ou → St → Nat → Prop} (z1 : Int) (h0 : am_R ((σ 34 0) + 1)) (h1 : am_R (z1 - (σ 30 0))) (k : Q (.inl (some (z1 - (σ 30 0)))) (am_up σ 34 0 ((σ 34 0) + 1)) 0) : am_wp sc 11 33 [.inr (.inl 0), .inl z1] [] σ Q := by
  refine am_wn rfl ?_
  refine am_wn rfl ?_
  refine am_wn rfl ?_
  refine am_wn rfl ?_
  refine ar_add rfl h0 ?_
  refine am_wn rfl ?_
  refine am_wn rfl ?_
  refine am_wn rfl ?_
  refine am_wn rfl ?_
  refine ar_sub rfl h1 ?_
  exact am_w60 rfl k
/-! SlidingHeap.word -/
theorem b_12_0 {sc : Int → Int} {σ : St} {Q : Ou → St → Nat → Prop} (z1 : Int) (k1 : (z1 < 0) → am_wp sc 12 10 [.inr (.inl 0), .inl z1] [] σ Q) (k2 : ¬ (z1 < 0) → am_wp sc 12 4 [.inr (.inl 0), .inl z1] [] σ Q) : am_wp sc 12 0 [.inr (.inl 0), .inl z1] [] σ Q := by
  refine am_wn rfl ?_
  exact ar_br (c := z1 < 0) rfl k1 k2
theorem b_12_4 {sc : Int → Int} {σ : St} {Q : Ou → St → Nat → Prop} (z1 : Int) (k1 : (z1 < 90) → am_wp sc 12 18 [.inr (.inl 0), .inl z1] [] σ Q) (k2 : ¬ (z1 < 90) → am_wp sc 12 10 [.inr (.inl 0), .inl z1] [] σ Q) : am_wp sc 12 4 [.inr (.inl 0), .inl z1] [] σ Q := by
  refine am_wn rfl ?_
  refine am_wn rfl ?_
  exact ar_br (c := z1 < 90) rfl k1 k2
theorem b_12_10 {sc : Int → Int} {σ : St} {Q : Ou → St → Nat → Prop} (z1 : Int) (k : Q (.inr 3) σ 1) : am_wp sc 12 10 [.inr (.inl 0), .inl z1] [] σ Q := by
  exact am_w63 rfl k
theorem b_12_18 {sc : Int → Int} {σ : St} {Q : Ou → St → Nat → Prop} (z1 : Int) (h0 : 0 ≤ z1 ∧ z1 < 90) (k : Q (.inl (some (σ 2 z1))) σ 0) : am_wp sc 12 18 [.inr (.inl 0), .inl z1] [] σ Q := by
  refine am_wn rfl ?_
  refine am_wn rfl ?_
  refine am_wn rfl ?_
  refine ar_iald rfl rfl h0 ?_
  exact am_w60 rfl k
/-! SlidingHeap.about -/
theorem b_13_0 {sc : Int → Int} {σ : St} {Q : Ou → St → Nat → Prop} (z1 : Int) (z2 : Int) (k : am_wp sc 18 0 [.inr (.inl 0), .inl z1] [] σ (am_bk sc 13 2 [.inr (.inl 0), .inl z1, .inl z2] [] Q)) : am_wp sc 13 0 [.inr (.inl 0), .inl z1, .inl z2] [] σ Q := by
  refine am_wn rfl ?_
  refine am_wn rfl ?_
  exact am_wc rfl (by decide) (by decide) rfl k
theorem b_13_5_c0 {sc : Int → Int} {σ : St} {Q : Ou → St → Nat → Prop} (z1 : Int) (z2 : Int) (hz : z2 = 0) (k : am_wp sc 13 44 [.inr (.inl 0), .inl z1, .inl z2] [] σ Q) : am_wp sc 13 5 [.inr (.inl 0), .inl z1, .inl z2] [] σ Q := by
  refine am_wn rfl ?_
  exact ar_sw hz rfl k
theorem b_13_5_c1 {sc : Int → Int} {σ : St} {Q : Ou → St → Nat → Prop} (z1 : Int) (z2 : Int) (hz : z2 = 1) (k : am_wp sc 13 51 [.inr (.inl 0), .inl z1, .inl z2] [] σ Q) : am_wp sc 13 5 [.inr (.inl 0), .inl z1, .inl z2] [] σ Q := by
  refine am_wn rfl ?_
  exact ar_sw hz rfl k
theorem b_13_5_c2 {sc : Int → Int} {σ : St} {Q : Ou → St → Nat → Prop} (z1 : Int) (z2 : Int) (hz : z2 = 2) (k : am_wp sc 13 58 [.inr (.inl 0), .inl z1, .inl z2] [] σ Q) : am_wp sc 13 5 [.inr (.inl 0), .inl z1, .inl z2] [] σ Q := by
  refine am_wn rfl ?_
  exact ar_sw hz rfl k
theorem b_13_5_c3 {sc : Int → Int} {σ : St} {Q : Ou → St → Nat → Prop} (z1 : Int) (z2 : Int) (hz : z2 = 3) (k : am_wp sc 13 65 [.inr (.inl 0), .inl z1, .inl z2] [] σ Q) : am_wp sc 13 5 [.inr (.inl 0), .inl z1, .inl z2] [] σ Q := by
  refine am_wn rfl ?_
  exact ar_sw hz rfl k
theorem b_13_5_c4 {sc : Int → Int} {σ : St} {Q : Ou → St → Nat → Prop} (z1 : Int) (z2 : Int) (hz : z2 = 4) (k : am_wp sc 13 80 [.inr (.inl 0), .inl z1, .inl z2] [] σ Q) : am_wp sc 13 5 [.inr (.inl 0), .inl z1, .inl z2] [] σ Q := by
  refine am_wn rfl ?_
  exact ar_sw hz rfl k
theorem b_13_5_c5 {sc : Int → Int} {σ : St} {Q : Ou → St → Nat → Prop} (z1 : Int) (z2 : Int) (hz : z2 = 5) (k : am_wp sc 13 99 [.inr (.inl 0), .inl z1, .inl z2] [] σ Q) : am_wp sc 13 5 [.inr (.inl 0), .inl z1, .inl z2] [] σ Q := by
  refine am_wn rfl ?_
  exact ar_sw hz rfl k
theorem b_13_5_d {sc : Int → Int} {σ : St} {Q : Ou → St → Nat → Prop} (z1 : Int) (z2 : Int) (hz : z2 < 0 ∨ 6 ≤ z2) (k : am_wp sc 13 105 [.inr (.inl 0), .inl z1, .inl z2] [] σ Q) : am_wp sc 13 5 [.inr (.inl 0), .inl z1, .inl z2] [] σ Q := by
  refine am_wn rfl ?_
  exact ar_swd rfl hz k
theorem b_13_44 {sc : Int → Int} {σ : St} {Q : Ou → St → Nat → Prop} (z1 : Int) (z2 : Int) (h0 : 0 ≤ z1 ∧ z1 < 15) (k : Q (.inl (some (σ 4 z1))) σ 0) : am_wp sc 13 44 [.inr (.inl 0), .inl z1, .inl z2] [] σ Q := by
  refine am_wn rfl ?_
  refine am_wn rfl ?_
  refine am_wn rfl ?_
  refine ar_iald rfl rfl h0 ?_
  exact am_w60 rfl k
theorem b_13_51 {sc : Int → Int} {σ : St} {Q : Ou → St → Nat → Prop} (z1 : Int) (z2 : Int) (h0 : 0 ≤ z1 ∧ z1 < 15) (k : Q (.inl (some (σ 5 z1))) σ 0) : am_wp sc 13 51 [.inr (.inl 0), .inl z1, .inl z2] [] σ Q := by
  refine am_wn rfl ?_
  refine am_wn rfl ?_
  refine am_wn rfl ?_
  refine ar_iald rfl rfl h0 ?_
  exact am_w60 rfl k
theorem b_13_58 {sc : Int → Int} {σ : St} {Q : Ou → St → Nat → Prop} (z1 : Int) (z2 : Int) (h0 : 0 ≤ z1 ∧ z1 < 15) (k : Q (.inl (some (σ 6 z1))) σ 0) : am_wp sc 13 58 [.inr (.inl 0), .inl z1, .inl z2] [] σ Q := by
  refine am_wn rfl ?_
  refine am_wn rfl ?_
  refine am_wn rfl ?_
  refine ar_iald rfl rfl h0 ?_
  exact am_w60 rfl k
theorem b_13_65 {sc : Int → Int} {σ : St} {Q : Ou → St → Nat → Prop} (z1 : Int) (z2 : Int) (h0 : 0 ≤ z1 ∧ z1 < 15) (k1 : ((σ 7 z1) = 0) → am_wp sc 13 78 [.inr (.inl 0), .inl z1, .inl z2] [] σ Q) (k2 : ¬ ((σ 7 z1) = 0) → am_wp sc 13 74 [.inr (.inl 0), .inl z1, .inl z2] [] σ Q) : am_wp sc 13 65 [.inr (.inl 0), .inl z1, .inl z2] [] σ Q := by
  refine am_wn rfl ?_
  refine am_wn rfl ?_
  refine am_wn rfl ?_
  refine ar_bald rfl rfl h0 ?_
  exact ar_br (c := (σ 7 z1) = 0) rfl k1 k2
theorem b_13_74 {sc : Int → Int} {σ : St} {Q : Ou → St → Nat → Prop} (z1 : Int) (z2 : Int) (k : am_wp sc 13 79 [.inr (.inl 0), .inl z1, .inl z2] [.inl 1] σ Q) : am_wp sc 13 74 [.inr (.inl 0), .inl z1, .inl z2] [] σ Q := by
  refine am_wn rfl ?_
  refine am_wn rfl ?_
  exact k
theorem b_13_78 {sc : Int → Int} {σ : St} {Q : Ou → St → Nat → Prop} (z1 : Int) (z2 : Int) (k : am_wp sc 13 79 [.inr (.inl 0), .inl z1, .inl z2] [.inl 0] σ Q) : am_wp sc 13 78 [.inr (.inl 0), .inl z1, .inl z2] [] σ Q := by
  refine am_wn rfl ?_
  exact k
theorem b_13_79 {sc : Int → Int} {σ : St} {Q : Ou → St → Nat → Prop} (z1 : Int) (z2 : Int) (s0 : Int) (k : Q (.inl (some s0)) σ 0) : am_wp sc 13 79 [.inr (.inl 0), .inl z1, .inl z2] [.inl s0] σ Q := by
  exact am_w60 rfl k
theorem b_13_80 {sc : Int → Int} {σ : St} {Q : Ou → St → Nat → Prop} (z1 : Int) (z2 : Int) (k : am_wp sc 31 0 [.inr (.inl 0), .inr (.inr 0)] [] σ (am_bk sc 13 81 [.inr (.inl 0), .inl z1, .inl z2] [] Q)) : am_wp sc 13 80 [.inr (.inl 0), .inl z1, .inl z2] [] σ Q := by
  refine am_wn rfl ?_
  exact am_wc rfl (by decide) (by decide) rfl k
theorem b_13_84 {sc : Int → Int} {σ : St} {Q : Ou → St → Nat → Prop} (z1 : Int) (z2 : Int) (h0 : 0 ≤ z1 ∧ z1 < 15) (k1 : ((σ 11 z1) = 0) → am_wp sc 13 97 [.inr (.inl 0), .inl z1, .inl z2] [] σ Q) (k2 : ¬ ((σ 11 z1) = 0) → am_wp sc 13 93 [.inr (.inl 0), .inl z1, .inl z2] [] σ Q) : am_wp sc 13 84 [.inr (.inl 0), .inl z1, .inl z2] [] σ Q := by
  refine am_wn rfl ?_
  refine am_wn rfl ?_
  refine am_wn rfl ?_
  refine ar_bald rfl rfl h0 ?_
  exact ar_br (c := (σ 11 z1) = 0) rfl k1 k2
theorem b_13_93 {sc : Int → Int} {σ : St} {Q : Ou → St → Nat → Prop} (z1 : Int) (z2 : Int) (k : am_wp sc 13 98 [.inr (.inl 0), .inl z1, .inl z2] [.inl 1] σ Q) : am_wp sc 13 93 [.inr (.inl 0), .inl z1, .inl z2] [] σ Q := by
  refine am_wn rfl ?_
  refine am_wn rfl ?_
  exact k
theorem b_13_97 {sc : Int → Int} {σ : St} {Q : Ou → St → Nat → Prop} (z1 : Int) (z2 : Int) (k : am_wp sc 13 98 [.inr (.inl 0), .inl z1, .inl z2] [.inl 0] σ Q) : am_wp sc 13 97 [.inr (.inl 0), .inl z1, .inl z2] [] σ Q := by
  refine am_wn rfl ?_
  exact k
theorem b_13_98 {sc : Int → Int} {σ : St} {Q : Ou → St → Nat → Prop} (z1 : Int) (z2 : Int) (s0 : Int) (k : Q (.inl (some s0)) σ 0) : am_wp sc 13 98 [.inr (.inl 0), .inl z1, .inl z2] [.inl s0] σ Q := by
  exact am_w60 rfl k
theorem b_13_99 {sc : Int → Int} {σ : St} {Q : Ou → St → Nat → Prop} (z1 : Int) (z2 : Int) (k : am_wp sc 42 0 [.inr (.inl 0), .inl z1, .inr (.inr 0), .inr (.inr 0)] [] σ (am_bk sc 13 101 [.inr (.inl 0), .inl z1, .inl z2] [] Q)) : am_wp sc 13 99 [.inr (.inl 0), .inl z1, .inl z2] [] σ Q := by
  refine am_wn rfl ?_
  refine am_wn rfl ?_
  exact am_wc rfl (by decide) (by decide) rfl k
theorem b_13_104 {sc : Int → Int} {σ : St} {Q : Ou → St → Nat → Prop} (z1 : Int) (z2 : Int) (s0 : Int) (k : Q (.inl (some s0)) σ 0) : am_wp sc 13 104 [.inr (.inl 0), .inl z1, .inl z2] [.inl s0] σ Q := by
  exact am_w60 rfl k
theorem b_13_105 {sc : Int → Int} {σ : St} {Q : Ou → St → Nat → Prop} (z1 : Int) (z2 : Int) (k : Q (.inr 0) σ 1) : am_wp sc 13 105 [.inr (.inl 0), .inl z1, .inl z2] [] σ Q := by
  exact am_w63 rfl k
/-! SlidingHeap.far -/
theorem b_14_0 {sc : Int → Int} {σ : St} {Q : Ou → St → Nat → Prop} (z1 : Int) (v2 : AV) (k : am_wp sc 18 0 [.inr (.inl 0), .inl z1] [] σ (am_bk sc 14 2 [.inr (.inl 0), .inl z1, v2] [] Q)) : am_wp sc 14 0 [.inr (.inl 0), .inl z1, v2] [] σ Q := by
  refine am_wn rfl ?_
  refine am_wn rfl ?_
  exact am_wc rfl (by decide) (by decide) rfl k
theorem b_14_5 {sc : Int → Int} {σ : St} {Q : Ou → St → Nat → Prop} (z1 : Int) (v2 : AV) (k : am_wp sc 43 0 [.inr (.inl 0), .inl z1, .inr (.inr 0), .inr (.inr 0), .inr (.inr 0)] [] σ (am_bk sc 14 7 [.inr (.inl 0), .inl z1, v2] [] Q)) : am_wp sc 14 5 [.inr (.inl 0), .inl z1, v2] [] σ Q := by
  refine am_wn rfl ?_
  refine am_wn rfl ?_
  exact am_wc rfl (by decide) (by decide) rfl k
theorem b_14_10 {sc : Int → Int} {σ : St} {Q : Ou → St → Nat → Prop} (z1 : Int) (v2 : AV) (k : am_wp sc 45 0 [.inr (.inl 0), .inr (.inr 0), .inr (.inr 0)] [] σ (am_bk sc 14 11 [.inr (.inl 0), .inl z1, v2] [] Q)) : am_wp sc 14 10 [.inr (.inl 0), .inl z1, v2] [] σ Q := by
  refine am_wn rfl ?_
  exact am_wc rfl (by decide) (by decide) rfl k
theorem b_14_14 {sc : Int → Int} {σ : St} {Q : Ou → St → Nat → Prop} (z1 : Int) (v2 : AV) (s0 : Int) (k1 : (s0 ≠ (-1)) → am_wp sc 14 24 [.inr (.inl 0), .inl z1, .inl s0] [] σ Q) (k2 : ¬ (s0 ≠ (-1)) → am_wp sc 14 20 [.inr (.inl 0), .inl z1, .inl s0] [] σ Q) : am_wp sc 14 14 [.inr (.inl 0), .inl z1, v2] [.inl s0] σ Q := by
  refine am_wn rfl ?_
  refine am_wn rfl ?_
  refine am_wn rfl ?_
  exact ar_br (c := s0 ≠ (-1)) rfl k1 k2
theorem b_14_20 {sc : Int → Int} {σ : St} {Q : Ou → St → Nat → Prop} (z1 : Int) (z2 : Int) (k : am_wp sc 14 30 [.inr (.inl 0), .inl z1, .inl z2] [.inl (-1)] σ Q) : am_wp sc 14 20 [.inr (.inl 0), .inl z1, .inl z2] [] σ Q := by
  refine am_wn rfl ?_
  refine am_wn rfl ?_
  exact k
theorem b_14_24 {sc : Int → Int} {σ : St} {Q : Ou → St → Nat → Prop} (z1 : Int) (z2 : Int) (h0 : 0 ≤ z2 ∧ z2 < 15) (k : am_wp sc 14 30 [.inr (.inl 0), .inl z1, .inl z2] [.inl (σ 13 z2)] σ Q) : am_wp sc 14 24 [.inr (.inl 0), .inl z1, .inl z2] [] σ Q := by
  refine am_wn rfl ?_
  refine am_wn rfl ?_
  refine am_wn rfl ?_
  refine ar_iald rfl rfl h0 ?_
  exact k
theorem b_14_30 {sc : Int → Int} {σ : St} {Q : Ou → St → Nat → Prop} (z1 : Int) (z2 : Int) (s0 : Int) (k : Q (.inl (some s0)) σ 0) : am_wp sc 14 30 [.inr (.inl 0), .inl z1, .inl z2] [.inl s0] σ Q := by
  exact am_w60 rfl k
/-! SlidingHeap.way -/
theorem b_15_0 {sc : Int → Int} {σ : St} {Q : Ou → St → Nat → Prop} (z1 : Int) (z2 : Int) (v3 : AV) (v4 : AV) (k : am_wp sc 18 0 [.inr (.inl 0), .inl z1] [] σ (am_bk sc 15 2 [.inr (.inl 0), .inl z1, .inl z2, v3, v4] [] Q)) : am_wp sc 15 0 [.inr (.inl 0), .inl z1, .inl z2, v3, v4] [] σ Q := by
  refine am_wn rfl ?_
  refine am_wn rfl ?_
  exact am_wc rfl (by decide) (by decide) rfl k
theorem b_15_5 {sc : Int → Int} {σ : St} {Q : Ou → St → Nat → Prop} (z1 : Int) (z2 : Int) (v3 : AV) (v4 : AV) (k : am_wp sc 43 0 [.inr (.inl 0), .inl z1, .inr (.inr 0), .inr (.inr 0), .inr (.inr 0)] [] σ (am_bk sc 15 7 [.inr (.inl 0), .inl z1, .inl z2, v3, v4] [] Q)) : am_wp sc 15 5 [.inr (.inl 0), .inl z1, .inl z2, v3, v4] [] σ Q := by
  refine am_wn rfl ?_
  refine am_wn rfl ?_
  exact am_wc rfl (by decide) (by decide) rfl k
theorem b_15_10 {sc : Int → Int} {σ : St} {Q : Ou → St → Nat → Prop} (z1 : Int) (z2 : Int) (v3 : AV) (v4 : AV) (k : am_wp sc 45 0 [.inr (.inl 0), .inr (.inr 0), .inr (.inr 0)] [] σ (am_bk sc 15 11 [.inr (.inl 0), .inl z1, .inl z2, v3, v4] [] Q)) : am_wp sc 15 10 [.inr (.inl 0), .inl z1, .inl z2, v3, v4] [] σ Q := by
  refine am_wn rfl ?_
  exact am_wc rfl (by decide) (by decide) rfl k
theorem b_15_14 {sc : Int → Int} {σ : St} {Q : Ou → St → Nat → Prop} (z1 : Int) (z2 : Int) (v3 : AV) (v4 : AV) (s0 : Int) (k1 : (s0 = (-1)) → am_wp sc 15 34 [.inr (.inl 0), .inl z1, .inl z2, .inl s0, v4] [] σ Q) (k2 : ¬ (s0 = (-1)) → am_wp sc 15 20 [.inr (.inl 0), .inl z1, .inl z2, .inl s0, v4] [] σ Q) : am_wp sc 15 14 [.inr (.inl 0), .inl z1, .inl z2, v3, v4] [.inl s0] σ Q := by
  refine am_wn rfl ?_
  refine am_wn rfl ?_
  refine am_wn rfl ?_
  exact ar_br (c := s0 = (-1)) rfl k1 k2
theorem b_15_20 {sc : Int → Int} {σ : St} {Q : Ou → St → Nat → Prop} (z1 : Int) (z2 : Int) (z3 : Int) (v4 : AV) (k1 : (z2 < 0) → am_wp sc 15 34 [.inr (.inl 0), .inl z1, .inl z2, .inl z3, v4] [] σ Q) (k2 : ¬ (z2 < 0) → am_wp sc 15 24 [.inr (.inl 0), .inl z1, .inl z2, .inl z3, v4] [] σ Q) : am_wp sc 15 20 [.inr (.inl 0), .inl z1, .inl z2, .inl z3, v4] [] σ Q := by
  refine am_wn rfl ?_
  exact ar_br (c := z2 < 0) rfl k1 k2
theorem b_15_24 {sc : Int → Int} {σ : St} {Q : Ou → St → Nat → Prop} (z1 : Int) (z2 : Int) (z3 : Int) (v4 : AV) (h0 : 0 ≤ z3 ∧ z3 < 15) (k1 : (z2 ≤ (σ 13 z3)) → am_wp sc 15 36 [.inr (.inl 0), .inl z1, .inl z2, .inl z3, v4] [] σ Q) (k2 : ¬ (z2 ≤ (σ 13 z3)) → am_wp sc 15 34 [.inr (.inl 0), .inl z1, .inl z2, .inl z3, v4] [] σ Q) : am_wp sc 15 24 [.inr (.inl 0), .inl z1, .inl z2, .inl z3, v4] [] σ Q := by
  refine am_wn rfl ?_
  refine am_wn rfl ?_
  refine am_wn rfl ?_
  refine am_wn rfl ?_
  refine ar_iald rfl rfl h0 ?_
  exact ar_br (c := z2 ≤ (σ 13 z3)) rfl k1 k2
theorem b_15_34 {sc : Int → Int} {σ : St} {Q : Ou → St → Nat → Prop} (z1 : Int) (z2 : Int) (z3 : Int) (v4 : AV) (k : Q (.inl (some (-1))) σ 0) : am_wp sc 15 34 [.inr (.inl 0), .inl z1, .inl z2, .inl z3, v4] [] σ Q := by
  refine am_wn rfl ?_
  exact am_w60 rfl k
theorem b_15_36 {sc : Int → Int} {σ : St} {Q : Ou → St → Nat → Prop} (z1 : Int) (z2 : Int) (z3 : Int) (v4 : AV) (k : am_wp sc 15 39 [.inr (.inl 0), .inl z1, .inl z2, .inl z3, .inl 0] [] σ Q) : am_wp sc 15 36 [.inr (.inl 0), .inl z1, .inl z2, .inl z3, v4] [] σ Q := by
  refine am_wn rfl ?_
  refine am_wn rfl ?_
  exact k
theorem b_15_39 {sc : Int → Int} {σ : St} {Q : Ou → St → Nat → Prop} (z1 : Int) (z2 : Int) (z3 : Int) (z4 : Int) (k1 : (z2 ≤ z4) → am_wp sc 15 62 [.inr (.inl 0), .inl z1, .inl z2, .inl z3, .inl z4] [] σ Q) (k2 : ¬ (z2 ≤ z4) → am_wp sc 15 45 [.inr (.inl 0), .inl z1, .inl z2, .inl z3, .inl z4] [] σ Q) : am_wp sc 15 39 [.inr (.inl 0), .inl z1, .inl z2, .inl z3, .inl z4] [] σ Q := by
  refine am_wn rfl ?_
  refine am_wn rfl ?_
  exact ar_br (c := z2 ≤ z4) rfl k1 k2
theorem b_15_45 {sc : Int → Int} {σ : St} {Q : Ou → St → Nat → Prop} (z1 : Int) (z2 : Int) (z3 : Int) (z4 : Int) (k1 : (z3 = (-1)) → am_wp sc 15 62 [.inr (.inl 0), .inl z1, .inl z2, .inl z3, .inl z4] [] σ Q) (k2 : ¬ (z3 = (-1)) → am_wp sc 15 50 [.inr (.inl 0), .inl z1, .inl z2, .inl z3, .inl z4] [] σ Q) : am_wp sc 15 45 [.inr (.inl 0), .inl z1, .inl z2, .inl z3, .inl z4] [] σ Q := by
  refine am_wn rfl ?_
  refine am_wn rfl ?_
  exact ar_br (c := z3 = (-1)) rfl k1 k2
theorem b_15_50 {sc : Int → Int} {σ : St} {Q : Ou → St → Nat → Prop} (z1 : Int) (z2 : Int) (z3 : Int) (z4 : Int) (k : am_wp sc 47 0 [.inr (.inl 0), .inl z3, .inr (.inr 0), .inr (.inr 0)] [] σ (am_bk sc 15 52 [.inr (.inl 0), .inl z1, .inl z2, .inl z3, .inl z4] [] Q)) : am_wp sc 15 50 [.inr (.inl 0), .inl z1, .inl z2, .inl z3, .inl z4] [] σ Q := by
  refine am_wn rfl ?_
  refine am_wn rfl ?_
  exact am_wc rfl (by decide) (by decide) rfl k
theorem b_15_55 {sc : Int → Int} {σ : St} {Q : Ou → St → Nat → Prop} (z1 : Int) (z2 : Int) (z3 : Int) (z4 : Int) (s0 : Int) (h0 : am_R (z4 + 1)) (k : am_wp sc 15 39 [.inr (.inl 0), .inl z1, .inl z2, .inl s0, .inl (z4 + 1)] [] σ Q) : am_wp sc 15 55 [.inr (.inl 0), .inl z1, .inl z2, .inl z3, .inl z4] [.inl s0] σ Q := by
  refine am_wn rfl ?_
  refine ar_inc (L' := [.inr (.inl 0), .inl z1, .inl z2, .inl s0, .inl (z4 + 1)]) rfl rfl h0 rfl ?_
  refine am_wn rfl ?_
  exact k
theorem b_15_62 {sc : Int → Int} {σ : St} {Q : Ou → St → Nat → Prop} (z1 : Int) (z2 : Int) (z3 : Int) (z4 : Int) (k : Q (.inl (some z3)) σ 0) : am_wp sc 15 62 [.inr (.inl 0), .inl z1, .inl z2, .inl z3, .inl z4] [] σ Q := by
  refine am_wn rfl ?_
  exact am_w60 rfl k
/-! SlidingHeap.count -/
theorem b_16_0_c0 {sc : Int → Int} {σ : St} {Q : Ou → St → Nat → Prop} (z1 : Int) (hz : z1 = 0) (k : am_wp sc 16 44 [.inr (.inl 0), .inl z1] [] σ Q) : am_wp sc 16 0 [.inr (.inl 0), .inl z1] [] σ Q := by
  refine am_wn rfl ?_
  exact ar_sw hz rfl k
theorem b_16_0_c1 {sc : Int → Int} {σ : St} {Q : Ou → St → Nat → Prop} (z1 : Int) (hz : z1 = 1) (k : am_wp sc 16 49 [.inr (.inl 0), .inl z1] [] σ Q) : am_wp sc 16 0 [.inr (.inl 0), .inl z1] [] σ Q := by
  refine am_wn rfl ?_
  exact ar_sw hz rfl k
theorem b_16_0_c2 {sc : Int → Int} {σ : St} {Q : Ou → St → Nat → Prop} (z1 : Int) (hz : z1 = 2) (k : am_wp sc 16 58 [.inr (.inl 0), .inl z1] [] σ Q) : am_wp sc 16 0 [.inr (.inl 0), .inl z1] [] σ Q := by
  refine am_wn rfl ?_
  exact ar_sw hz rfl k
theorem b_16_0_c3 {sc : Int → Int} {σ : St} {Q : Ou → St → Nat → Prop} (z1 : Int) (hz : z1 = 3) (k : am_wp sc 16 63 [.inr (.inl 0), .inl z1] [] σ Q) : am_wp sc 16 0 [.inr (.inl 0), .inl z1] [] σ Q := by
  refine am_wn rfl ?_
  exact ar_sw hz rfl k
theorem b_16_0_c4 {sc : Int → Int} {σ : St} {Q : Ou → St → Nat → Prop} (z1 : Int) (hz : z1 = 4) (k : am_wp sc 16 72 [.inr (.inl 0), .inl z1] [] σ Q) : am_wp sc 16 0 [.inr (.inl 0), .inl z1] [] σ Q := by
  refine am_wn rfl ?_
  exact ar_sw hz rfl k
theorem b_16_0_c5 {sc : Int → Int} {σ : St} {Q : Ou → St → Nat → Prop} (z1 : Int) (hz : z1 = 5) (k : am_wp sc 16 77 [.inr (.inl 0), .inl z1] [] σ Q) : am_wp sc 16 0 [.inr (.inl 0), .inl z1] [] σ Q := by
  refine am_wn rfl ?_
  exact ar_sw hz rfl k
theorem b_16_0_c6 {sc : Int → Int} {σ : St} {Q : Ou → St → Nat → Prop} (z1 : Int) (hz : z1 = 6) (k : am_wp sc 16 82 [.inr (.inl 0), .inl z1] [] σ Q) : am_wp sc 16 0 [.inr (.inl 0), .inl z1] [] σ Q := by
  refine am_wn rfl ?_
  exact ar_sw hz rfl k
theorem b_16_0_d {sc : Int → Int} {σ : St} {Q : Ou → St → Nat → Prop} (z1 : Int) (hz : z1 < 0 ∨ 7 ≤ z1) (k : am_wp sc 16 87 [.inr (.inl 0), .inl z1] [] σ Q) : am_wp sc 16 0 [.inr (.inl 0), .inl z1] [] σ Q := by
  refine am_wn rfl ?_
  exact ar_swd rfl hz k
theorem b_16_44 {sc : Int → Int} {σ : St} {Q : Ou → St → Nat → Prop} (z1 : Int) (k : Q (.inl (some (σ 31 0))) σ 0) : am_wp sc 16 44 [.inr (.inl 0), .inl z1] [] σ Q := by
  refine am_wn rfl ?_
  refine am_wn rfl ?_
  exact am_w60 rfl k
theorem b_16_49 {sc : Int → Int} {σ : St} {Q : Ou → St → Nat → Prop} (z1 : Int) (k : am_wp sc 31 0 [.inr (.inl 0), .inr (.inr 0)] [] σ (am_bk sc 16 50 [.inr (.inl 0), .inl z1] [] Q)) : am_wp sc 16 49 [.inr (.inl 0), .inl z1] [] σ Q := by
  refine am_wn rfl ?_
  exact am_wc rfl (by decide) (by decide) rfl k
theorem b_16_53 {sc : Int → Int} {σ : St} {Q : Ou → St → Nat → Prop} (z1 : Int) (k : Q (.inl (some (σ 35 0))) σ 0) : am_wp sc 16 53 [.inr (.inl 0), .inl z1] [] σ Q := by
  refine am_wn rfl ?_
  refine am_wn rfl ?_
  exact am_w60 rfl k
theorem b_16_58 {sc : Int → Int} {σ : St} {Q : Ou → St → Nat → Prop} (z1 : Int) (k : Q (.inl (some (σ 30 0))) σ 0) : am_wp sc 16 58 [.inr (.inl 0), .inl z1] [] σ Q := by
  refine am_wn rfl ?_
  refine am_wn rfl ?_
  exact am_w60 rfl k
theorem b_16_63 {sc : Int → Int} {σ : St} {Q : Ou → St → Nat → Prop} (z1 : Int) (k : am_wp sc 31 0 [.inr (.inl 0), .inr (.inr 0)] [] σ (am_bk sc 16 64 [.inr (.inl 0), .inl z1] [] Q)) : am_wp sc 16 63 [.inr (.inl 0), .inl z1] [] σ Q := by
  refine am_wn rfl ?_
  exact am_wc rfl (by decide) (by decide) rfl k
theorem b_16_67 {sc : Int → Int} {σ : St} {Q : Ou → St → Nat → Prop} (z1 : Int) (k : am_wp sc 35 0 [.inr (.inl 0), .inr (.inr 0), .inr (.inr 0)] [] σ (am_bk sc 16 68 [.inr (.inl 0), .inl z1] [] Q)) : am_wp sc 16 67 [.inr (.inl 0), .inl z1] [] σ Q := by
  refine am_wn rfl ?_
  exact am_wc rfl (by decide) (by decide) rfl k
theorem b_16_71 {sc : Int → Int} {σ : St} {Q : Ou → St → Nat → Prop} (z1 : Int) (s0 : Int) (k : Q (.inl (some s0)) σ 0) : am_wp sc 16 71 [.inr (.inl 0), .inl z1] [.inl s0] σ Q := by
  exact am_w60 rfl k
theorem b_16_72 {sc : Int → Int} {σ : St} {Q : Ou → St → Nat → Prop} (z1 : Int) (k : Q (.inl (some (σ 32 0))) σ 0) : am_wp sc 16 72 [.inr (.inl 0), .inl z1] [] σ Q := by
  refine am_wn rfl ?_
  refine am_wn rfl ?_
  exact am_w60 rfl k
theorem b_16_77 {sc : Int → Int} {σ : St} {Q : Ou → St → Nat → Prop} (z1 : Int) (k : Q (.inl (some (σ 33 0))) σ 0) : am_wp sc 16 77 [.inr (.inl 0), .inl z1] [] σ Q := by
  refine am_wn rfl ?_
  refine am_wn rfl ?_
  exact am_w60 rfl k
theorem b_16_82 {sc : Int → Int} {σ : St} {Q : Ou → St → Nat → Prop} (z1 : Int) (k : Q (.inl (some (σ 34 0))) σ 0) : am_wp sc 16 82 [.inr (.inl 0), .inl z1] [] σ Q := by
  refine am_wn rfl ?_
  refine am_wn rfl ?_
  exact am_w60 rfl k
theorem b_16_87 {sc : Int → Int} {σ : St} {Q : Ou → St → Nat → Prop} (z1 : Int) (k : Q (.inr 0) σ 1) : am_wp sc 16 87 [.inr (.inl 0), .inl z1] [] σ Q := by
  exact am_w63 rfl k
/-! SlidingHeap.clear -/
theorem b_17_0 {sc : Int → Int} {σ : St} {Q : Ou → St → Nat → Prop} (v1 : AV) (k : am_wp sc 17 2 [.inr (.inl 0), .inl 1] [] σ Q) : am_wp sc 17 0 [.inr (.inl 0), v1] [] σ Q := by
  refine am_wn rfl ?_
  refine am_wn rfl ?_
  exact k
theorem b_17_2 {sc : Int → Int} {σ : St} {Q : Ou → St → Nat → Prop} (z1 : Int) (k1 : (14 < z1) → am_wp sc 17 19 [.inr (.inl 0), .inl z1] [] σ Q) (k2 : ¬ (14 < z1) → am_wp sc 17 8 [.inr (.inl 0), .inl z1] [] σ Q) : am_wp sc 17 2 [.inr (.inl 0), .inl z1] [] σ Q := by
  refine am_wn rfl ?_
  refine am_wn rfl ?_
  exact ar_br (c := 14 < z1) rfl k1 k2
theorem b_17_8 {sc : Int → Int} {σ : St} {Q : Ou → St → Nat → Prop} (z1 : Int) (k : am_wp sc 28 0 [.inr (.inl 0), .inl z1] [] σ (am_bk sc 17 10 [.inr (.inl 0), .inl z1] [] Q)) : am_wp sc 17 8 [.inr (.inl 0), .inl z1] [] σ Q := by
  refine am_wn rfl ?_
  refine am_wn rfl ?_
  exact am_wc rfl (by decide) (by decide) rfl k
theorem b_17_13 {sc : Int → Int} {σ : St} {Q : Ou → St → Nat → Prop} (z1 : Int) (h0 : am_R (z1 + 1)) (k : am_wp sc 17 2 [.inr (.inl 0), .inl (z1 + 1)] [] σ Q) : am_wp sc 17 13 [.inr (.inl 0), .inl z1] [] σ Q := by
  refine ar_inc (L' := [.inr (.inl 0), .inl (z1 + 1)]) rfl rfl h0 rfl ?_
  refine am_wn rfl ?_
  exact k
theorem b_17_19 {sc : Int → Int} {σ : St} {Q : Ou → St → Nat → Prop} (z1 : Int) (k : am_wp sc 40 0 [.inr (.inl 0), .inl 0, .inl (σ 30 0), .inr (.inr 0)] [] σ (am_bk sc 17 25 [.inr (.inl 0), .inl z1] [] Q)) : am_wp sc 17 19 [.inr (.inl 0), .inl z1] [] σ Q := by
  refine am_wn rfl ?_
  refine am_wn rfl ?_
  refine am_wn rfl ?_
  refine am_wn rfl ?_
  exact am_wc rfl (by decide) (by decide) rfl k
theorem b_17_28 {sc : Int → Int} {σ : St} {Q : Ou → St → Nat → Prop} (z1 : Int) (k : Q (.inl none) (am_up (am_up (am_up (am_up (am_up σ 30 0 0) 31 0 0) 32 0 0) 33 0 0) 34 0 0) 0) : am_wp sc 17 28 [.inr (.inl 0), .inl z1] [] σ Q := by
  refine am_wn rfl ?_
  refine am_wn rfl ?_
  refine am_wn rfl ?_
  refine am_wn rfl ?_
  refine am_wn rfl ?_
  refine am_wn rfl ?_
  refine am_wn rfl ?_
  refine am_wn rfl ?_
  refine am_wn rfl ?_
  refine am_wn rfl ?_
  refine am_wn rfl ?_
  refine am_wn rfl ?_
  refine am_wn rfl ?_
  refine am_wn rfl ?_
  refine am_wn rfl ?_
  exact am_w62 rfl k
/-! SlidingHeap.requireObject -/
theorem b_18_0 {sc : Int → Int} {σ : St} {Q : Ou → St → Nat → Prop} (z1 : Int) (k : am_wp sc 20 0 [.inr (.inl 0), .inl z1] [] σ (am_bk sc 18 2 [.inr (.inl 0), .inl z1] [] Q)) : am_wp sc 18 0 [.inr (.inl 0), .inl z1] [] σ Q := by
  refine am_wn rfl ?_
  refine am_wn rfl ?_
  exact am_wc rfl (by decide) (by decide) rfl k
theorem b_18_5 {sc : Int → Int} {σ : St} {Q : Ou → St → Nat → Prop} (z1 : Int) (s0 : Int) (k1 : (s0 ≠ 0) → am_wp sc 18 16 [.inr (.inl 0), .inl z1] [] σ Q) (k2 : ¬ (s0 ≠ 0) → am_wp sc 18 8 [.inr (.inl 0), .inl z1] [] σ Q) : am_wp sc 18 5 [.inr (.inl 0), .inl z1] [.inl s0] σ Q := by
  exact ar_br (c := s0 ≠ 0) rfl k1 k2
theorem b_18_8 {sc : Int → Int} {σ : St} {Q : Ou → St → Nat → Prop} (z1 : Int) (k : Q (.inr 3) σ 1) : am_wp sc 18 8 [.inr (.inl 0), .inl z1] [] σ Q := by
  exact am_w63 rfl k
theorem b_18_16 {sc : Int → Int} {σ : St} {Q : Ou → St → Nat → Prop} (z1 : Int) (k : Q (.inl none) σ 0) : am_wp sc 18 16 [.inr (.inl 0), .inl z1] [] σ Q := by
  exact am_w62 rfl k
/-! SlidingHeap.requireSlot -/
theorem b_19_0 {sc : Int → Int} {σ : St} {Q : Ou → St → Nat → Prop} (z1 : Int) (z2 : Int) (k : am_wp sc 18 0 [.inr (.inl 0), .inl z1] [] σ (am_bk sc 19 2 [.inr (.inl 0), .inl z1, .inl z2] [] Q)) : am_wp sc 19 0 [.inr (.inl 0), .inl z1, .inl z2] [] σ Q := by
  refine am_wn rfl ?_
  refine am_wn rfl ?_
  exact am_wc rfl (by decide) (by decide) rfl k
theorem b_19_5 {sc : Int → Int} {σ : St} {Q : Ou → St → Nat → Prop} (z1 : Int) (z2 : Int) (k1 : (z2 < 0) → am_wp sc 19 19 [.inr (.inl 0), .inl z1, .inl z2] [] σ Q) (k2 : ¬ (z2 < 0) → am_wp sc 19 9 [.inr (.inl 0), .inl z1, .inl z2] [] σ Q) : am_wp sc 19 5 [.inr (.inl 0), .inl z1, .inl z2] [] σ Q := by
  refine am_wn rfl ?_
  exact ar_br (c := z2 < 0) rfl k1 k2
theorem b_19_9 {sc : Int → Int} {σ : St} {Q : Ou → St → Nat → Prop} (z1 : Int) (z2 : Int) (h0 : 0 ≤ z1 ∧ z1 < 15) (k1 : (z2 < (σ 5 z1)) → am_wp sc 19 27 [.inr (.inl 0), .inl z1, .inl z2] [] σ Q) (k2 : ¬ (z2 < (σ 5 z1)) → am_wp sc 19 19 [.inr (.inl 0), .inl z1, .inl z2] [] σ Q) : am_wp sc 19 9 [.inr (.inl 0), .inl z1, .inl z2] [] σ Q := by
  refine am_wn rfl ?_
  refine am_wn rfl ?_
  refine am_wn rfl ?_
  refine am_wn rfl ?_
  refine ar_iald rfl rfl h0 ?_
  exact ar_br (c := z2 < (σ 5 z1)) rfl k1 k2
theorem b_19_19 {sc : Int → Int} {σ : St} {Q : Ou → St → Nat → Prop} (z1 : Int) (z2 : Int) (k : Q (.inr 3) σ 1) : am_wp sc 19 19 [.inr (.inl 0), .inl z1, .inl z2] [] σ Q := by
  exact am_w63 rfl k
theorem b_19_27 {sc : Int → Int} {σ : St} {Q : Ou → St → Nat → Prop} (z1 : Int) (z2 : Int) (k : Q (.inl none) σ 0) : am_wp sc 19 27 [.inr (.inl 0), .inl z1, .inl z2] [] σ Q := by
  exact am_w62 rfl k
/-! SlidingHeap.isObject -/
theorem b_20_0 {sc : Int → Int} {σ : St} {Q : Ou → St → Nat → Prop} (z1 : Int) (k1 : (z1 < 1) → am_wp sc 20 25 [.inr (.inl 0), .inl z1] [] σ Q) (k2 : ¬ (z1 < 1) → am_wp sc 20 5 [.inr (.inl 0), .inl z1] [] σ Q) : am_wp sc 20 0 [.inr (.inl 0), .inl z1] [] σ Q := by
  refine am_wn rfl ?_
  refine am_wn rfl ?_
  exact ar_br (c := z1 < 1) rfl k1 k2
theorem b_20_5 {sc : Int → Int} {σ : St} {Q : Ou → St → Nat → Prop} (z1 : Int) (k1 : (14 < z1) → am_wp sc 20 25 [.inr (.inl 0), .inl z1] [] σ Q) (k2 : ¬ (14 < z1) → am_wp sc 20 11 [.inr (.inl 0), .inl z1] [] σ Q) : am_wp sc 20 5 [.inr (.inl 0), .inl z1] [] σ Q := by
  refine am_wn rfl ?_
  refine am_wn rfl ?_
  exact ar_br (c := 14 < z1) rfl k1 k2
theorem b_20_11 {sc : Int → Int} {σ : St} {Q : Ou → St → Nat → Prop} (z1 : Int) (h0 : 0 ≤ z1 ∧ z1 < 15) (k1 : ((σ 4 z1) = (-1)) → am_wp sc 20 25 [.inr (.inl 0), .inl z1] [] σ Q) (k2 : ¬ ((σ 4 z1) = (-1)) → am_wp sc 20 21 [.inr (.inl 0), .inl z1] [] σ Q) : am_wp sc 20 11 [.inr (.inl 0), .inl z1] [] σ Q := by
  refine am_wn rfl ?_
  refine am_wn rfl ?_
  refine am_wn rfl ?_
  refine ar_iald rfl rfl h0 ?_
  refine am_wn rfl ?_
  exact ar_br (c := (σ 4 z1) = (-1)) rfl k1 k2
theorem b_20_21 {sc : Int → Int} {σ : St} {Q : Ou → St → Nat → Prop} (z1 : Int) (k : am_wp sc 20 26 [.inr (.inl 0), .inl z1] [.inl 1] σ Q) : am_wp sc 20 21 [.inr (.inl 0), .inl z1] [] σ Q := by
  refine am_wn rfl ?_
  refine am_wn rfl ?_
  exact k
theorem b_20_25 {sc : Int → Int} {σ : St} {Q : Ou → St → Nat → Prop} (z1 : Int) (k : am_wp sc 20 26 [.inr (.inl 0), .inl z1] [.inl 0] σ Q) : am_wp sc 20 25 [.inr (.inl 0), .inl z1] [] σ Q := by
  refine am_wn rfl ?_
  exact k
theorem b_20_26 {sc : Int → Int} {σ : St} {Q : Ou → St → Nat → Prop} (z1 : Int) (s0 : Int) (h0 : s0 = 0 ∨ s0 = 1) (k : Q (.inl (some s0)) σ 0) : am_wp sc 20 26 [.inr (.inl 0), .inl z1] [.inl s0] σ Q := by
  exact am_w61 rfl h0 k
/-! SlidingHeap.firstSlot -/
theorem b_21_0 {sc : Int → Int} {σ : St} {Q : Ou → St → Nat → Prop} (z1 : Int) (h0 : 0 ≤ z1 ∧ z1 < 15) (h1 : am_R ((σ 4 z1) + 2)) (k : Q (.inl (some ((σ 4 z1) + 2))) σ 0) : am_wp sc 21 0 [.inr (.inl 0), .inl z1] [] σ Q := by
  refine am_wn rfl ?_
  refine am_wn rfl ?_
  refine am_wn rfl ?_
  refine ar_iald rfl rfl h0 ?_
  refine am_wn rfl ?_
  refine ar_add rfl h1 ?_
  exact am_w60 rfl k
/-! SlidingHeap.sizeOf -/
theorem b_22_0 {sc : Int → Int} {σ : St} {Q : Ou → St → Nat → Prop} (z1 : Int) (h0 : 0 ≤ z1 ∧ z1 < 15) (h1 : am_R ((σ 5 z1) + 2)) (k : Q (.inl (some ((σ 5 z1) + 2))) σ 0) : am_wp sc 22 0 [.inr (.inl 0), .inl z1] [] σ Q := by
  refine am_wn rfl ?_
  refine am_wn rfl ?_
  refine am_wn rfl ?_
  refine ar_iald rfl rfl h0 ?_
  refine am_wn rfl ?_
  refine ar_add rfl h1 ?_
  exact am_w60 rfl k
/-! SlidingHeap.endOf -/
theorem b_23_0 {sc : Int → Int} {σ : St} {Q : Ou → St → Nat → Prop} (z1 : Int) (h0 : 0 ≤ z1 ∧ z1 < 15) (k : am_wp sc 22 0 [.inr (.inl 0), .inl z1] [] σ (am_bk sc 23 8 [.inr (.inl 0), .inl z1] [.inl (σ 4 z1)] Q)) : am_wp sc 23 0 [.inr (.inl 0), .inl z1] [] σ Q := by
  refine am_wn rfl ?_
  refine am_wn rfl ?_
  refine am_wn rfl ?_
  refine ar_iald rfl rfl h0 ?_
  refine am_wn rfl ?_
  refine am_wn rfl ?_
  exact am_wc rfl (by decide) (by decide) rfl k
theorem b_23_11 {sc : Int → Int} {σ : St} {Q : Ou → St → Nat → Prop} (z1 : Int) (s0 : Int) (s1 : Int) (h0 : am_R (s0 + s1)) (k : Q (.inl (some (s0 + s1))) σ 0) : am_wp sc 23 11 [.inr (.inl 0), .inl z1] [.inl s1, .inl s0] σ Q := by
  refine ar_add rfl h0 ?_
  exact am_w60 rfl k
