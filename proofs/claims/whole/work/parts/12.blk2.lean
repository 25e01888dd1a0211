/-! SlidingHeapModel.thrown -/
theorem b_48_0 {sc : Int → Int} {σ : St} {Q : Ou → St → Nat → Prop}  (k : Q (.inl (some (σ 40 0))) σ 0) : am_wp sc 48 0 [.inr (.inl 1)] [] σ Q := by
  refine am_wn rfl ?_
  refine am_wn rfl ?_
  exact am_w60 rfl k
/-! SlidingHeapModel.refused -/
theorem b_49_0 {sc : Int → Int} {σ : St} {Q : Ou → St → Nat → Prop} (z1 : Int) (k1 : (z1 ≤ 0) → am_wp sc 49 13 [.inr (.inl 1), .inl z1] [] (am_up σ 40 0 z1) Q) (k2 : ¬ (z1 ≤ 0) → am_wp sc 49 9 [.inr (.inl 1), .inl z1] [] (am_up σ 40 0 z1) Q) : am_wp sc 49 0 [.inr (.inl 1), .inl z1] [] σ Q := by
  refine am_wn rfl ?_
  refine am_wn rfl ?_
  refine am_wn rfl ?_
  refine am_wn rfl ?_
  exact ar_br (c := z1 ≤ 0) rfl k1 k2
theorem b_49_9 {sc : Int → Int} {σ : St} {Q : Ou → St → Nat → Prop} (z1 : Int) (k : am_wp sc 49 14 [.inr (.inl 1), .inl z1] [.inl 1] σ Q) : am_wp sc 49 9 [.inr (.inl 1), .inl z1] [] σ Q := by
  refine am_wn rfl ?_
  refine am_wn rfl ?_
  exact k
theorem b_49_13 {sc : Int → Int} {σ : St} {Q : Ou → St → Nat → Prop} (z1 : Int) (k : am_wp sc 49 14 [.inr (.inl 1), .inl z1] [.inl 0] σ Q) : am_wp sc 49 13 [.inr (.inl 1), .inl z1] [] σ Q := by
  refine am_wn rfl ?_
  exact k
theorem b_49_14 {sc : Int → Int} {σ : St} {Q : Ou → St → Nat → Prop} (z1 : Int) (s0 : Int) (h0 : s0 = 0 ∨ s0 = 1) (k : Q (.inl (some s0)) σ 0) : am_wp sc 49 14 [.inr (.inl 1), .inl z1] [.inl s0] σ Q := by
  exact am_w61 rfl h0 k
/-! SlidingHeapModel.isObject -/
theorem b_50_0 {sc : Int → Int} {σ : St} {Q : Ou → St → Nat → Prop} (z1 : Int) (k1 : (z1 < 1) → am_wp sc 50 24 [.inr (.inl 1), .inl z1] [] σ Q) (k2 : ¬ (z1 < 1) → am_wp sc 50 5 [.inr (.inl 1), .inl z1] [] σ Q) : am_wp sc 50 0 [.inr (.inl 1), .inl z1] [] σ Q := by
  refine am_wn rfl ?_
  refine am_wn rfl ?_
  exact ar_br (c := z1 < 1) rfl k1 k2
theorem b_50_5 {sc : Int → Int} {σ : St} {Q : Ou → St → Nat → Prop} (z1 : Int) (k1 : (14 < z1) → am_wp sc 50 24 [.inr (.inl 1), .inl z1] [] σ Q) (k2 : ¬ (14 < z1) → am_wp sc 50 11 [.inr (.inl 1), .inl z1] [] σ Q) : am_wp sc 50 5 [.inr (.inl 1), .inl z1] [] σ Q := by
  refine am_wn rfl ?_
  refine am_wn rfl ?_
  exact ar_br (c := 14 < z1) rfl k1 k2
theorem b_50_11 {sc : Int → Int} {σ : St} {Q : Ou → St → Nat → Prop} (z1 : Int) (h0 : 0 ≤ z1 ∧ z1 < 15) (k1 : ((σ 15 z1) = 0) → am_wp sc 50 24 [.inr (.inl 1), .inl z1] [] σ Q) (k2 : ¬ ((σ 15 z1) = 0) → am_wp sc 50 20 [.inr (.inl 1), .inl z1] [] σ Q) : am_wp sc 50 11 [.inr (.inl 1), .inl z1] [] σ Q := by
  refine am_wn rfl ?_
  refine am_wn rfl ?_
  refine am_wn rfl ?_
  refine ar_bald rfl rfl h0 ?_
  exact ar_br (c := (σ 15 z1) = 0) rfl k1 k2
theorem b_50_20 {sc : Int → Int} {σ : St} {Q : Ou → St → Nat → Prop} (z1 : Int) (k : am_wp sc 50 25 [.inr (.inl 1), .inl z1] [.inl 1] σ Q) : am_wp sc 50 20 [.inr (.inl 1), .inl z1] [] σ Q := by
  refine am_wn rfl ?_
  refine am_wn rfl ?_
  exact k
theorem b_50_24 {sc : Int → Int} {σ : St} {Q : Ou → St → Nat → Prop} (z1 : Int) (k : am_wp sc 50 25 [.inr (.inl 1), .inl z1] [.inl 0] σ Q) : am_wp sc 50 24 [.inr (.inl 1), .inl z1] [] σ Q := by
  refine am_wn rfl ?_
  exact k
theorem b_50_25 {sc : Int → Int} {σ : St} {Q : Ou → St → Nat → Prop} (z1 : Int) (s0 : Int) (h0 : s0 = 0 ∨ s0 = 1) (k : Q (.inl (some s0)) σ 0) : am_wp sc 50 25 [.inr (.inl 1), .inl z1] [.inl s0] σ Q := by
  exact am_w61 rfl h0 k
/-! SlidingHeapModel.isSlot -/
theorem b_51_0 {sc : Int → Int} {σ : St} {Q : Ou → St → Nat → Prop} (z1 : Int) (z2 : Int) (k : am_wp sc 50 0 [.inr (.inl 1), .inl z1] [] σ (am_bk sc 51 2 [.inr (.inl 1), .inl z1, .inl z2] [] Q)) : am_wp sc 51 0 [.inr (.inl 1), .inl z1, .inl z2] [] σ Q := by
  refine am_wn rfl ?_
  refine am_wn rfl ?_
  exact am_wc rfl (by decide) (by decide) rfl k
theorem b_51_5 {sc : Int → Int} {σ : St} {Q : Ou → St → Nat → Prop} (z1 : Int) (z2 : Int) (s0 : Int) (k1 : (s0 = 0) → am_wp sc 51 26 [.inr (.inl 1), .inl z1, .inl z2] [] σ Q) (k2 : ¬ (s0 = 0) → am_wp sc 51 8 [.inr (.inl 1), .inl z1, .inl z2] [] σ Q) : am_wp sc 51 5 [.inr (.inl 1), .inl z1, .inl z2] [.inl s0] σ Q := by
  exact ar_br (c := s0 = 0) rfl k1 k2
theorem b_51_8 {sc : Int → Int} {σ : St} {Q : Ou → St → Nat → Prop} (z1 : Int) (z2 : Int) (k1 : (z2 < 0) → am_wp sc 51 26 [.inr (.inl 1), .inl z1, .inl z2] [] σ Q) (k2 : ¬ (z2 < 0) → am_wp sc 51 12 [.inr (.inl 1), .inl z1, .inl z2] [] σ Q) : am_wp sc 51 8 [.inr (.inl 1), .inl z1, .inl z2] [] σ Q := by
  refine am_wn rfl ?_
  exact ar_br (c := z2 < 0) rfl k1 k2
theorem b_51_12 {sc : Int → Int} {σ : St} {Q : Ou → St → Nat → Prop} (z1 : Int) (z2 : Int) (h0 : 0 ≤ z1 ∧ z1 < 15) (k1 : ((σ 16 z1) ≤ z2) → am_wp sc 51 26 [.inr (.inl 1), .inl z1, .inl z2] [] σ Q) (k2 : ¬ ((σ 16 z1) ≤ z2) → am_wp sc 51 22 [.inr (.inl 1), .inl z1, .inl z2] [] σ Q) : am_wp sc 51 12 [.inr (.inl 1), .inl z1, .inl z2] [] σ Q := by
  refine am_wn rfl ?_
  refine am_wn rfl ?_
  refine am_wn rfl ?_
  refine am_wn rfl ?_
  refine ar_iald rfl rfl h0 ?_
  exact ar_br (c := (σ 16 z1) ≤ z2) rfl k1 k2
theorem b_51_22 {sc : Int → Int} {σ : St} {Q : Ou → St → Nat → Prop} (z1 : Int) (z2 : Int) (k : am_wp sc 51 27 [.inr (.inl 1), .inl z1, .inl z2] [.inl 1] σ Q) : am_wp sc 51 22 [.inr (.inl 1), .inl z1, .inl z2] [] σ Q := by
  refine am_wn rfl ?_
  refine am_wn rfl ?_
  exact k
theorem b_51_26 {sc : Int → Int} {σ : St} {Q : Ou → St → Nat → Prop} (z1 : Int) (z2 : Int) (k : am_wp sc 51 27 [.inr (.inl 1), .inl z1, .inl z2] [.inl 0] σ Q) : am_wp sc 51 26 [.inr (.inl 1), .inl z1, .inl z2] [] σ Q := by
  refine am_wn rfl ?_
  exact k
theorem b_51_27 {sc : Int → Int} {σ : St} {Q : Ou → St → Nat → Prop} (z1 : Int) (z2 : Int) (s0 : Int) (h0 : s0 = 0 ∨ s0 = 1) (k : Q (.inl (some s0)) σ 0) : am_wp sc 51 27 [.inr (.inl 1), .inl z1, .inl z2] [.inl s0] σ Q := by
  exact am_w61 rfl h0 k
/-! SlidingHeapModel.isSource -/
theorem b_52_0 {sc : Int → Int} {σ : St} {Q : Ou → St → Nat → Prop} (z1 : Int) (v2 : AV) (v3 : AV) (k : am_wp sc 52 4 [.inr (.inl 1), .inl z1, .inl 0, .inl 0] [] σ Q) : am_wp sc 52 0 [.inr (.inl 1), .inl z1, v2, v3] [] σ Q := by
  refine am_wn rfl ?_
  refine am_wn rfl ?_
  refine am_wn rfl ?_
  refine am_wn rfl ?_
  exact k
theorem b_52_4 {sc : Int → Int} {σ : St} {Q : Ou → St → Nat → Prop} (z1 : Int) (z2 : Int) (z3 : Int) (k1 : ((σ 42 0) ≤ z3) → am_wp sc 52 38 [.inr (.inl 1), .inl z1, .inl z2, .inl z3] [] σ Q) (k2 : ¬ ((σ 42 0) ≤ z3) → am_wp sc 52 12 [.inr (.inl 1), .inl z1, .inl z2, .inl z3] [] σ Q) : am_wp sc 52 4 [.inr (.inl 1), .inl z1, .inl z2, .inl z3] [] σ Q := by
  refine am_wn rfl ?_
  refine am_wn rfl ?_
  refine am_wn rfl ?_
  exact ar_br (c := (σ 42 0) ≤ z3) rfl k1 k2
theorem b_52_12 {sc : Int → Int} {σ : St} {Q : Ou → St → Nat → Prop} (z1 : Int) (z2 : Int) (z3 : Int) (k1 : (z2 ≠ 0) → am_wp sc 52 26 [.inr (.inl 1), .inl z1, .inl z2, .inl z3] [] σ Q) (k2 : ¬ (z2 ≠ 0) → am_wp sc 52 16 [.inr (.inl 1), .inl z1, .inl z2, .inl z3] [] σ Q) : am_wp sc 52 12 [.inr (.inl 1), .inl z1, .inl z2, .inl z3] [] σ Q := by
  refine am_wn rfl ?_
  exact ar_br (c := z2 ≠ 0) rfl k1 k2
theorem b_52_16 {sc : Int → Int} {σ : St} {Q : Ou → St → Nat → Prop} (z1 : Int) (z2 : Int) (z3 : Int) (h0 : 0 ≤ z3 ∧ z3 < 10) (k1 : ((σ 21 z3) ≠ z1) → am_wp sc 52 30 [.inr (.inl 1), .inl z1, .inl z2, .inl z3] [] σ Q) (k2 : ¬ ((σ 21 z3) ≠ z1) → am_wp sc 52 26 [.inr (.inl 1), .inl z1, .inl z2, .inl z3] [] σ Q) : am_wp sc 52 16 [.inr (.inl 1), .inl z1, .inl z2, .inl z3] [] σ Q := by
  refine am_wn rfl ?_
  refine am_wn rfl ?_
  refine am_wn rfl ?_
  refine ar_iald rfl rfl h0 ?_
  refine am_wn rfl ?_
  exact ar_br (c := (σ 21 z3) ≠ z1) rfl k1 k2
theorem b_52_26 {sc : Int → Int} {σ : St} {Q : Ou → St → Nat → Prop} (z1 : Int) (z2 : Int) (z3 : Int) (k : am_wp sc 52 31 [.inr (.inl 1), .inl z1, .inl z2, .inl z3] [.inl 1] σ Q) : am_wp sc 52 26 [.inr (.inl 1), .inl z1, .inl z2, .inl z3] [] σ Q := by
  refine am_wn rfl ?_
  refine am_wn rfl ?_
  exact k
theorem b_52_30 {sc : Int → Int} {σ : St} {Q : Ou → St → Nat → Prop} (z1 : Int) (z2 : Int) (z3 : Int) (k : am_wp sc 52 31 [.inr (.inl 1), .inl z1, .inl z2, .inl z3] [.inl 0] σ Q) : am_wp sc 52 30 [.inr (.inl 1), .inl z1, .inl z2, .inl z3] [] σ Q := by
  refine am_wn rfl ?_
  exact k
theorem b_52_31 {sc : Int → Int} {σ : St} {Q : Ou → St → Nat → Prop} (z1 : Int) (z2 : Int) (z3 : Int) (s0 : Int) (h0 : am_R (z3 + 1)) (k : am_wp sc 52 4 [.inr (.inl 1), .inl z1, .inl s0, .inl (z3 + 1)] [] σ Q) : am_wp sc 52 31 [.inr (.inl 1), .inl z1, .inl z2, .inl z3] [.inl s0] σ Q := by
  refine am_wn rfl ?_
  refine ar_inc (L' := [.inr (.inl 1), .inl z1, .inl s0, .inl (z3 + 1)]) rfl rfl h0 rfl ?_
  refine am_wn rfl ?_
  exact k
theorem b_52_38 {sc : Int → Int} {σ : St} {Q : Ou → St → Nat → Prop} (z1 : Int) (z2 : Int) (z3 : Int) (k : am_wp sc 52 40 [.inr (.inl 1), .inl z1, .inl z2, .inl 0] [] σ Q) : am_wp sc 52 38 [.inr (.inl 1), .inl z1, .inl z2, .inl z3] [] σ Q := by
  refine am_wn rfl ?_
  refine am_wn rfl ?_
  exact k
theorem b_52_40 {sc : Int → Int} {σ : St} {Q : Ou → St → Nat → Prop} (z1 : Int) (z2 : Int) (z3 : Int) (k1 : ((σ 43 0) ≤ z3) → am_wp sc 52 74 [.inr (.inl 1), .inl z1, .inl z2, .inl z3] [] σ Q) (k2 : ¬ ((σ 43 0) ≤ z3) → am_wp sc 52 48 [.inr (.inl 1), .inl z1, .inl z2, .inl z3] [] σ Q) : am_wp sc 52 40 [.inr (.inl 1), .inl z1, .inl z2, .inl z3] [] σ Q := by
  refine am_wn rfl ?_
  refine am_wn rfl ?_
  refine am_wn rfl ?_
  exact ar_br (c := (σ 43 0) ≤ z3) rfl k1 k2
theorem b_52_48 {sc : Int → Int} {σ : St} {Q : Ou → St → Nat → Prop} (z1 : Int) (z2 : Int) (z3 : Int) (k1 : (z2 ≠ 0) → am_wp sc 52 62 [.inr (.inl 1), .inl z1, .inl z2, .inl z3] [] σ Q) (k2 : ¬ (z2 ≠ 0) → am_wp sc 52 52 [.inr (.inl 1), .inl z1, .inl z2, .inl z3] [] σ Q) : am_wp sc 52 48 [.inr (.inl 1), .inl z1, .inl z2, .inl z3] [] σ Q := by
  refine am_wn rfl ?_
  exact ar_br (c := z2 ≠ 0) rfl k1 k2
theorem b_52_52 {sc : Int → Int} {σ : St} {Q : Ou → St → Nat → Prop} (z1 : Int) (z2 : Int) (z3 : Int) (h0 : 0 ≤ z3 ∧ z3 < 15) (k1 : ((σ 22 z3) ≠ z1) → am_wp sc 52 66 [.inr (.inl 1), .inl z1, .inl z2, .inl z3] [] σ Q) (k2 : ¬ ((σ 22 z3) ≠ z1) → am_wp sc 52 62 [.inr (.inl 1), .inl z1, .inl z2, .inl z3] [] σ Q) : am_wp sc 52 52 [.inr (.inl 1), .inl z1, .inl z2, .inl z3] [] σ Q := by
  refine am_wn rfl ?_
  refine am_wn rfl ?_
  refine am_wn rfl ?_
  refine ar_iald rfl rfl h0 ?_
  refine am_wn rfl ?_
  exact ar_br (c := (σ 22 z3) ≠ z1) rfl k1 k2
theorem b_52_62 {sc : Int → Int} {σ : St} {Q : Ou → St → Nat → Prop} (z1 : Int) (z2 : Int) (z3 : Int) (k : am_wp sc 52 67 [.inr (.inl 1), .inl z1, .inl z2, .inl z3] [.inl 1] σ Q) : am_wp sc 52 62 [.inr (.inl 1), .inl z1, .inl z2, .inl z3] [] σ Q := by
  refine am_wn rfl ?_
  refine am_wn rfl ?_
  exact k
theorem b_52_66 {sc : Int → Int} {σ : St} {Q : Ou → St → Nat → Prop} (z1 : Int) (z2 : Int) (z3 : Int) (k : am_wp sc 52 67 [.inr (.inl 1), .inl z1, .inl z2, .inl z3] [.inl 0] σ Q) : am_wp sc 52 66 [.inr (.inl 1), .inl z1, .inl z2, .inl z3] [] σ Q := by
  refine am_wn rfl ?_
  exact k
theorem b_52_67 {sc : Int → Int} {σ : St} {Q : Ou → St → Nat → Prop} (z1 : Int) (z2 : Int) (z3 : Int) (s0 : Int) (h0 : am_R (z3 + 1)) (k : am_wp sc 52 40 [.inr (.inl 1), .inl z1, .inl s0, .inl (z3 + 1)] [] σ Q) : am_wp sc 52 67 [.inr (.inl 1), .inl z1, .inl z2, .inl z3] [.inl s0] σ Q := by
  refine am_wn rfl ?_
  refine ar_inc (L' := [.inr (.inl 1), .inl z1, .inl s0, .inl (z3 + 1)]) rfl rfl h0 rfl ?_
  refine am_wn rfl ?_
  exact k
theorem b_52_74 {sc : Int → Int} {σ : St} {Q : Ou → St → Nat → Prop} (z1 : Int) (z2 : Int) (z3 : Int) (h0 : z2 = 0 ∨ z2 = 1) (k : Q (.inl (some z2)) σ 0) : am_wp sc 52 74 [.inr (.inl 1), .inl z1, .inl z2, .inl z3] [] σ Q := by
  refine am_wn rfl ?_
  exact am_w61 rfl h0 k
/-! SlidingHeapModel.refers -/
theorem b_53_0 {sc : Int → Int} {σ : St} {Q : Ou → St → Nat → Prop} (z1 : Int) (z2 : Int) (v3 : AV) (v4 : AV) (k : am_wp sc 53 5 [.inr (.inl 1), .inl z1, .inl z2, .inl 0, .inl 0] [] σ Q) : am_wp sc 53 0 [.inr (.inl 1), .inl z1, .inl z2, v3, v4] [] σ Q := by
  refine am_wn rfl ?_
  refine am_wn rfl ?_
  refine am_wn rfl ?_
  refine am_wn rfl ?_
  exact k
theorem b_53_5 {sc : Int → Int} {σ : St} {Q : Ou → St → Nat → Prop} (z1 : Int) (z2 : Int) (z3 : Int) (z4 : Int) (h0 : 0 ≤ z1 ∧ z1 < 15) (k1 : ((σ 16 z1) ≤ z4) → am_wp sc 53 64 [.inr (.inl 1), .inl z1, .inl z2, .inl z3, .inl z4] [] σ Q) (k2 : ¬ ((σ 16 z1) ≤ z4) → am_wp sc 53 16 [.inr (.inl 1), .inl z1, .inl z2, .inl z3, .inl z4] [] σ Q) : am_wp sc 53 5 [.inr (.inl 1), .inl z1, .inl z2, .inl z3, .inl z4] [] σ Q := by
  refine am_wn rfl ?_
  refine am_wn rfl ?_
  refine am_wn rfl ?_
  refine am_wn rfl ?_
  refine ar_iald rfl rfl h0 ?_
  exact ar_br (c := (σ 16 z1) ≤ z4) rfl k1 k2
theorem b_53_16 {sc : Int → Int} {σ : St} {Q : Ou → St → Nat → Prop} (z1 : Int) (z2 : Int) (z3 : Int) (z4 : Int) (k1 : (z3 ≠ 0) → am_wp sc 53 52 [.inr (.inl 1), .inl z1, .inl z2, .inl z3, .inl z4] [] σ Q) (k2 : ¬ (z3 ≠ 0) → am_wp sc 53 20 [.inr (.inl 1), .inl z1, .inl z2, .inl z3, .inl z4] [] σ Q) : am_wp sc 53 16 [.inr (.inl 1), .inl z1, .inl z2, .inl z3, .inl z4] [] σ Q := by
  refine am_wn rfl ?_
  exact ar_br (c := z3 ≠ 0) rfl k1 k2
theorem b_53_20 {sc : Int → Int} {σ : St} {Q : Ou → St → Nat → Prop} (z1 : Int) (z2 : Int) (z3 : Int) (z4 : Int) (h0 : am_R (10 * z1)) (h1 : am_R ((10 * z1) + z4)) (h2 : 0 ≤ ((10 * z1) + z4) ∧ ((10 * z1) + z4) < 150) (k1 : ((σ 20 ((10 * z1) + z4)) ≠ 1) → am_wp sc 53 56 [.inr (.inl 1), .inl z1, .inl z2, .inl z3, .inl z4] [] σ Q) (k2 : ¬ ((σ 20 ((10 * z1) + z4)) ≠ 1) → am_wp sc 53 36 [.inr (.inl 1), .inl z1, .inl z2, .inl z3, .inl z4] [] σ Q) : am_wp sc 53 20 [.inr (.inl 1), .inl z1, .inl z2, .inl z3, .inl z4] [] σ Q := by
  refine am_wn rfl ?_
  refine am_wn rfl ?_
  refine am_wn rfl ?_
  refine am_wn rfl ?_
  refine ar_mul rfl h0 ?_
  refine am_wn rfl ?_
  refine ar_add rfl h1 ?_
  refine ar_iald rfl rfl h2 ?_
  refine am_wn rfl ?_
  exact ar_br (c := (σ 20 ((10 * z1) + z4)) ≠ 1) rfl k1 k2
theorem b_53_36 {sc : Int → Int} {σ : St} {Q : Ou → St → Nat → Prop} (z1 : Int) (z2 : Int) (z3 : Int) (z4 : Int) (h0 : am_R (10 * z1)) (h1 : am_R ((10 * z1) + z4)) (h2 : 0 ≤ ((10 * z1) + z4) ∧ ((10 * z1) + z4) < 150) (k1 : ((σ 19 ((10 * z1) + z4)) ≠ z2) → am_wp sc 53 56 [.inr (.inl 1), .inl z1, .inl z2, .inl z3, .inl z4] [] σ Q) (k2 : ¬ ((σ 19 ((10 * z1) + z4)) ≠ z2) → am_wp sc 53 52 [.inr (.inl 1), .inl z1, .inl z2, .inl z3, .inl z4] [] σ Q) : am_wp sc 53 36 [.inr (.inl 1), .inl z1, .inl z2, .inl z3, .inl z4] [] σ Q := by
  refine am_wn rfl ?_
  refine am_wn rfl ?_
  refine am_wn rfl ?_
  refine am_wn rfl ?_
  refine ar_mul rfl h0 ?_
  refine am_wn rfl ?_
  refine ar_add rfl h1 ?_
  refine ar_iald rfl rfl h2 ?_
  refine am_wn rfl ?_
  exact ar_br (c := (σ 19 ((10 * z1) + z4)) ≠ z2) rfl k1 k2
theorem b_53_52 {sc : Int → Int} {σ : St} {Q : Ou → St → Nat → Prop} (z1 : Int) (z2 : Int) (z3 : Int) (z4 : Int) (k : am_wp sc 53 57 [.inr (.inl 1), .inl z1, .inl z2, .inl z3, .inl z4] [.inl 1] σ Q) : am_wp sc 53 52 [.inr (.inl 1), .inl z1, .inl z2, .inl z3, .inl z4] [] σ Q := by
  refine am_wn rfl ?_
  refine am_wn rfl ?_
  exact k
theorem b_53_56 {sc : Int → Int} {σ : St} {Q : Ou → St → Nat → Prop} (z1 : Int) (z2 : Int) (z3 : Int) (z4 : Int) (k : am_wp sc 53 57 [.inr (.inl 1), .inl z1, .inl z2, .inl z3, .inl z4] [.inl 0] σ Q) : am_wp sc 53 56 [.inr (.inl 1), .inl z1, .inl z2, .inl z3, .inl z4] [] σ Q := by
  refine am_wn rfl ?_
  exact k
theorem b_53_57 {sc : Int → Int} {σ : St} {Q : Ou → St → Nat → Prop} (z1 : Int) (z2 : Int) (z3 : Int) (z4 : Int) (s0 : Int) (h0 : am_R (z4 + 1)) (k : am_wp sc 53 5 [.inr (.inl 1), .inl z1, .inl z2, .inl s0, .inl (z4 + 1)] [] σ Q) : am_wp sc 53 57 [.inr (.inl 1), .inl z1, .inl z2, .inl z3, .inl z4] [.inl s0] σ Q := by
  refine am_wn rfl ?_
  refine ar_inc (L' := [.inr (.inl 1), .inl z1, .inl z2, .inl s0, .inl (z4 + 1)]) rfl rfl h0 rfl ?_
  refine am_wn rfl ?_
  exact k
theorem b_53_64 {sc : Int → Int} {σ : St} {Q : Ou → St → Nat → Prop} (z1 : Int) (z2 : Int) (z3 : Int) (z4 : Int) (h0 : z3 = 0 ∨ z3 = 1) (k : Q (.inl (some z3)) σ 0) : am_wp sc 53 64 [.inr (.inl 1), .inl z1, .inl z2, .inl z3, .inl z4] [] σ Q := by
  refine am_wn rfl ?_
  exact am_w61 rfl h0 k
/-! SlidingHeapModel.spread -/
theorem b_54_0 {sc : Int → Int} {σ : St} {Q : Ou → St → Nat → Prop} (v1 : AV) (v2 : AV) (v3 : AV) (v4 : AV) (k : am_wp sc 54 2 [.inr (.inl 1), .inl 1, v2, v3, v4] [] σ Q) : am_wp sc 54 0 [.inr (.inl 1), v1, v2, v3, v4] [] σ Q := by
  refine am_wn rfl ?_
  refine am_wn rfl ?_
  exact k
theorem b_54_2 {sc : Int → Int} {σ : St} {Q : Ou → St → Nat → Prop} (z1 : Int) (v2 : AV) (v3 : AV) (v4 : AV) (k1 : (z1 = 0) → am_wp sc 54 131 [.inr (.inl 1), .inl z1, v2, v3, v4] [] σ Q) (k2 : ¬ (z1 = 0) → am_wp sc 54 6 [.inr (.inl 1), .inl z1, v2, v3, v4] [] σ Q) : am_wp sc 54 2 [.inr (.inl 1), .inl z1, v2, v3, v4] [] σ Q := by
  refine am_wn rfl ?_
  exact ar_br (c := z1 = 0) rfl k1 k2
theorem b_54_6 {sc : Int → Int} {σ : St} {Q : Ou → St → Nat → Prop} (z1 : Int) (v2 : AV) (v3 : AV) (v4 : AV) (k : am_wp sc 54 10 [.inr (.inl 1), .inl 0, .inl 1, v3, v4] [] σ Q) : am_wp sc 54 6 [.inr (.inl 1), .inl z1, v2, v3, v4] [] σ Q := by
  refine am_wn rfl ?_
  refine am_wn rfl ?_
  refine am_wn rfl ?_
  refine am_wn rfl ?_
  exact k
theorem b_54_10 {sc : Int → Int} {σ : St} {Q : Ou → St → Nat → Prop} (z1 : Int) (z2 : Int) (v3 : AV) (v4 : AV) (k1 : (15 ≤ z2) → am_wp sc 54 128 [.inr (.inl 1), .inl z1, .inl z2, v3, v4] [] σ Q) (k2 : ¬ (15 ≤ z2) → am_wp sc 54 16 [.inr (.inl 1), .inl z1, .inl z2, v3, v4] [] σ Q) : am_wp sc 54 10 [.inr (.inl 1), .inl z1, .inl z2, v3, v4] [] σ Q := by
  refine am_wn rfl ?_
  refine am_wn rfl ?_
  exact ar_br (c := 15 ≤ z2) rfl k1 k2
theorem b_54_16 {sc : Int → Int} {σ : St} {Q : Ou → St → Nat → Prop} (z1 : Int) (z2 : Int) (v3 : AV) (v4 : AV) (k : am_wp sc 54 18 [.inr (.inl 1), .inl z1, .inl z2, .inl 1, v4] [] σ Q) : am_wp sc 54 16 [.inr (.inl 1), .inl z1, .inl z2, v3, v4] [] σ Q := by
  refine am_wn rfl ?_
  refine am_wn rfl ?_
  exact k
theorem b_54_18 {sc : Int → Int} {σ : St} {Q : Ou → St → Nat → Prop} (z1 : Int) (z2 : Int) (z3 : Int) (v4 : AV) (k1 : (15 ≤ z3) → am_wp sc 54 122 [.inr (.inl 1), .inl z1, .inl z2, .inl z3, v4] [] σ Q) (k2 : ¬ (15 ≤ z3) → am_wp sc 54 24 [.inr (.inl 1), .inl z1, .inl z2, .inl z3, v4] [] σ Q) : am_wp sc 54 18 [.inr (.inl 1), .inl z1, .inl z2, .inl z3, v4] [] σ Q := by
  refine am_wn rfl ?_
  refine am_wn rfl ?_
  exact ar_br (c := 15 ≤ z3) rfl k1 k2
theorem b_54_24 {sc : Int → Int} {σ : St} {Q : Ou → St → Nat → Prop} (z1 : Int) (z2 : Int) (z3 : Int) (v4 : AV) (h0 : 0 ≤ z2 ∧ z2 < 15) (k1 : ((σ 15 z2) = 0) → am_wp sc 54 73 [.inr (.inl 1), .inl z1, .inl z2, .inl z3, v4] [] σ Q) (k2 : ¬ ((σ 15 z2) = 0) → am_wp sc 54 33 [.inr (.inl 1), .inl z1, .inl z2, .inl z3, v4] [] σ Q) : am_wp sc 54 24 [.inr (.inl 1), .inl z1, .inl z2, .inl z3, v4] [] σ Q := by
  refine am_wn rfl ?_
  refine am_wn rfl ?_
  refine am_wn rfl ?_
  refine ar_bald rfl rfl h0 ?_
  exact ar_br (c := (σ 15 z2) = 0) rfl k1 k2
theorem b_54_33 {sc : Int → Int} {σ : St} {Q : Ou → St → Nat → Prop} (z1 : Int) (z2 : Int) (z3 : Int) (v4 : AV) (h0 : 0 ≤ z2 ∧ z2 < 15) (k1 : ((σ 23 z2) = 0) → am_wp sc 54 73 [.inr (.inl 1), .inl z1, .inl z2, .inl z3, v4] [] σ Q) (k2 : ¬ ((σ 23 z2) = 0) → am_wp sc 54 42 [.inr (.inl 1), .inl z1, .inl z2, .inl z3, v4] [] σ Q) : am_wp sc 54 33 [.inr (.inl 1), .inl z1, .inl z2, .inl z3, v4] [] σ Q := by
  refine am_wn rfl ?_
  refine am_wn rfl ?_
  refine am_wn rfl ?_
  refine ar_bald rfl rfl h0 ?_
  exact ar_br (c := (σ 23 z2) = 0) rfl k1 k2
theorem b_54_42 {sc : Int → Int} {σ : St} {Q : Ou → St → Nat → Prop} (z1 : Int) (z2 : Int) (z3 : Int) (v4 : AV) (h0 : 0 ≤ z3 ∧ z3 < 15) (k1 : ((σ 15 z3) = 0) → am_wp sc 54 73 [.inr (.inl 1), .inl z1, .inl z2, .inl z3, v4] [] σ Q) (k2 : ¬ ((σ 15 z3) = 0) → am_wp sc 54 51 [.inr (.inl 1), .inl z1, .inl z2, .inl z3, v4] [] σ Q) : am_wp sc 54 42 [.inr (.inl 1), .inl z1, .inl z2, .inl z3, v4] [] σ Q := by
  refine am_wn rfl ?_
  refine am_wn rfl ?_
  refine am_wn rfl ?_
  refine ar_bald rfl rfl h0 ?_
  exact ar_br (c := (σ 15 z3) = 0) rfl k1 k2
theorem b_54_51 {sc : Int → Int} {σ : St} {Q : Ou → St → Nat → Prop} (z1 : Int) (z2 : Int) (z3 : Int) (v4 : AV) (h0 : 0 ≤ z3 ∧ z3 < 15) (k1 : ((σ 23 z3) ≠ 0) → am_wp sc 54 73 [.inr (.inl 1), .inl z1, .inl z2, .inl z3, v4] [] σ Q) (k2 : ¬ ((σ 23 z3) ≠ 0) → am_wp sc 54 60 [.inr (.inl 1), .inl z1, .inl z2, .inl z3, v4] [] σ Q) : am_wp sc 54 51 [.inr (.inl 1), .inl z1, .inl z2, .inl z3, v4] [] σ Q := by
  refine am_wn rfl ?_
  refine am_wn rfl ?_
  refine am_wn rfl ?_
  refine ar_bald rfl rfl h0 ?_
  exact ar_br (c := (σ 23 z3) ≠ 0) rfl k1 k2
theorem b_54_60 {sc : Int → Int} {σ : St} {Q : Ou → St → Nat → Prop} (z1 : Int) (z2 : Int) (z3 : Int) (v4 : AV) (k : am_wp sc 53 0 [.inr (.inl 1), .inl z2, .inl z3, .inr (.inr 0), .inr (.inr 0)] [] σ (am_bk sc 54 63 [.inr (.inl 1), .inl z1, .inl z2, .inl z3, v4] [] Q)) : am_wp sc 54 60 [.inr (.inl 1), .inl z1, .inl z2, .inl z3, v4] [] σ Q := by
  refine am_wn rfl ?_
  refine am_wn rfl ?_
  refine am_wn rfl ?_
  exact am_wc rfl (by decide) (by decide) rfl k
theorem b_54_66 {sc : Int → Int} {σ : St} {Q : Ou → St → Nat → Prop} (z1 : Int) (z2 : Int) (z3 : Int) (v4 : AV) (s0 : Int) (k1 : (s0 = 0) → am_wp sc 54 73 [.inr (.inl 1), .inl z1, .inl z2, .inl z3, v4] [] σ Q) (k2 : ¬ (s0 = 0) → am_wp sc 54 69 [.inr (.inl 1), .inl z1, .inl z2, .inl z3, v4] [] σ Q) : am_wp sc 54 66 [.inr (.inl 1), .inl z1, .inl z2, .inl z3, v4] [.inl s0] σ Q := by
  exact ar_br (c := s0 = 0) rfl k1 k2
theorem b_54_69 {sc : Int → Int} {σ : St} {Q : Ou → St → Nat → Prop} (z1 : Int) (z2 : Int) (z3 : Int) (v4 : AV) (k : am_wp sc 54 74 [.inr (.inl 1), .inl z1, .inl z2, .inl z3, v4] [.inl 1] σ Q) : am_wp sc 54 69 [.inr (.inl 1), .inl z1, .inl z2, .inl z3, v4] [] σ Q := by
  refine am_wn rfl ?_
  refine am_wn rfl ?_
  exact k
theorem b_54_73 {sc : Int → Int} {σ : St} {Q : Ou → St → Nat → Prop} (z1 : Int) (z2 : Int) (z3 : Int) (v4 : AV) (k : am_wp sc 54 74 [.inr (.inl 1), .inl z1, .inl z2, .inl z3, v4] [.inl 0] σ Q) : am_wp sc 54 73 [.inr (.inl 1), .inl z1, .inl z2, .inl z3, v4] [] σ Q := by
  refine am_wn rfl ?_
  exact k
theorem b_54_74 {sc : Int → Int} {σ : St} {Q : Ou → St → Nat → Prop} (z1 : Int) (z2 : Int) (z3 : Int) (v4 : AV) (s0 : Int) (h0 : 0 ≤ z3 ∧ z3 < 15) (k1 : ((σ 23 z3) ≠ 0) → am_wp sc 54 95 [.inr (.inl 1), .inl z1, .inl z2, .inl z3, .inl s0] [.inl z3, .inr (.inl 23)] σ Q) (k2 : ¬ ((σ 23 z3) ≠ 0) → am_wp sc 54 90 [.inr (.inl 1), .inl z1, .inl z2, .inl z3, .inl s0] [.inl z3, .inr (.inl 23)] σ Q) : am_wp sc 54 74 [.inr (.inl 1), .inl z1, .inl z2, .inl z3, v4] [.inl s0] σ Q := by
  refine am_wn rfl ?_
  refine am_wn rfl ?_
  refine am_wn rfl ?_
  refine am_wn rfl ?_
  refine am_wn rfl ?_
  refine am_wn rfl ?_
  refine am_wn rfl ?_
  refine ar_bald rfl rfl h0 ?_
  exact ar_br (c := (σ 23 z3) ≠ 0) rfl k1 k2
theorem b_54_90 {sc : Int → Int} {σ : St} {Q : Ou → St → Nat → Prop} (z1 : Int) (z2 : Int) (z3 : Int) (z4 : Int) (s1 : Int) (k1 : (z4 = 0) → am_wp sc 54 99 [.inr (.inl 1), .inl z1, .inl z2, .inl z3, .inl z4] [.inl s1, .inr (.inl 23)] σ Q) (k2 : ¬ (z4 = 0) → am_wp sc 54 95 [.inr (.inl 1), .inl z1, .inl z2, .inl z3, .inl z4] [.inl s1, .inr (.inl 23)] σ Q) : am_wp sc 54 90 [.inr (.inl 1), .inl z1, .inl z2, .inl z3, .inl z4] [.inl s1, .inr (.inl 23)] σ Q := by
  refine am_wn rfl ?_
  exact ar_br (c := z4 = 0) rfl k1 k2
theorem b_54_95 {sc : Int → Int} {σ : St} {Q : Ou → St → Nat → Prop} (z1 : Int) (z2 : Int) (z3 : Int) (z4 : Int) (s1 : Int) (k : am_wp sc 54 100 [.inr (.inl 1), .inl z1, .inl z2, .inl z3, .inl z4] [.inl 1, .inl s1, .inr (.inl 23)] σ Q) : am_wp sc 54 95 [.inr (.inl 1), .inl z1, .inl z2, .inl z3, .inl z4] [.inl s1, .inr (.inl 23)] σ Q := by
  refine am_wn rfl ?_
  refine am_wn rfl ?_
  exact k
theorem b_54_99 {sc : Int → Int} {σ : St} {Q : Ou → St → Nat → Prop} (z1 : Int) (z2 : Int) (z3 : Int) (z4 : Int) (s1 : Int) (k : am_wp sc 54 100 [.inr (.inl 1), .inl z1, .inl z2, .inl z3, .inl z4] [.inl 0, .inl s1, .inr (.inl 23)] σ Q) : am_wp sc 54 99 [.inr (.inl 1), .inl z1, .inl z2, .inl z3, .inl z4] [.inl s1, .inr (.inl 23)] σ Q := by
  refine am_wn rfl ?_
  exact k
theorem b_54_100 {sc : Int → Int} {σ : St} {Q : Ou → St → Nat → Prop} (z1 : Int) (z2 : Int) (z3 : Int) (z4 : Int) (s1 : Int) (s2 : Int) (h0 : 0 ≤ s1 ∧ s1 < 15) (h1 : s2 = 0 ∨ s2 = 1) (k1 : (z1 ≠ 0) → am_wp sc 54 110 [.inr (.inl 1), .inl z1, .inl z2, .inl z3, .inl z4] [] (am_up σ 23 s1 s2) Q) (k2 : ¬ (z1 ≠ 0) → am_wp sc 54 105 [.inr (.inl 1), .inl z1, .inl z2, .inl z3, .inl z4] [] (am_up σ 23 s1 s2) Q) : am_wp sc 54 100 [.inr (.inl 1), .inl z1, .inl z2, .inl z3, .inl z4] [.inl s2, .inl s1, .inr (.inl 23)] σ Q := by
  refine ar_bast rfl rfl h0 h1 ?_
  refine am_wn rfl ?_
  exact ar_br (c := z1 ≠ 0) rfl k1 k2
theorem b_54_105 {sc : Int → Int} {σ : St} {Q : Ou → St → Nat → Prop} (z1 : Int) (z2 : Int) (z3 : Int) (z4 : Int) (k1 : (z4 = 0) → am_wp sc 54 114 [.inr (.inl 1), .inl z1, .inl z2, .inl z3, .inl z4] [] σ Q) (k2 : ¬ (z4 = 0) → am_wp sc 54 110 [.inr (.inl 1), .inl z1, .inl z2, .inl z3, .inl z4] [] σ Q) : am_wp sc 54 105 [.inr (.inl 1), .inl z1, .inl z2, .inl z3, .inl z4] [] σ Q := by
  refine am_wn rfl ?_
  exact ar_br (c := z4 = 0) rfl k1 k2
theorem b_54_110 {sc : Int → Int} {σ : St} {Q : Ou → St → Nat → Prop} (z1 : Int) (z2 : Int) (z3 : Int) (z4 : Int) (k : am_wp sc 54 115 [.inr (.inl 1), .inl z1, .inl z2, .inl z3, .inl z4] [.inl 1] σ Q) : am_wp sc 54 110 [.inr (.inl 1), .inl z1, .inl z2, .inl z3, .inl z4] [] σ Q := by
  refine am_wn rfl ?_
  refine am_wn rfl ?_
  exact k
theorem b_54_114 {sc : Int → Int} {σ : St} {Q : Ou → St → Nat → Prop} (z1 : Int) (z2 : Int) (z3 : Int) (z4 : Int) (k : am_wp sc 54 115 [.inr (.inl 1), .inl z1, .inl z2, .inl z3, .inl z4] [.inl 0] σ Q) : am_wp sc 54 114 [.inr (.inl 1), .inl z1, .inl z2, .inl z3, .inl z4] [] σ Q := by
  refine am_wn rfl ?_
  exact k
theorem b_54_115 {sc : Int → Int} {σ : St} {Q : Ou → St → Nat → Prop} (z1 : Int) (z2 : Int) (z3 : Int) (z4 : Int) (s0 : Int) (h0 : am_R (z3 + 1)) (k : am_wp sc 54 18 [.inr (.inl 1), .inl s0, .inl z2, .inl (z3 + 1), .inl z4] [] σ Q) : am_wp sc 54 115 [.inr (.inl 1), .inl z1, .inl z2, .inl z3, .inl z4] [.inl s0] σ Q := by
  refine am_wn rfl ?_
  refine ar_inc (L' := [.inr (.inl 1), .inl s0, .inl z2, .inl (z3 + 1), .inl z4]) rfl rfl h0 rfl ?_
  refine am_wn rfl ?_
  exact k
theorem b_54_122 {sc : Int → Int} {σ : St} {Q : Ou → St → Nat → Prop} (z1 : Int) (z2 : Int) (z3 : Int) (v4 : AV) (h0 : am_R (z2 + 1)) (k : am_wp sc 54 10 [.inr (.inl 1), .inl z1, .inl (z2 + 1), .inl z3, v4] [] σ Q) : am_wp sc 54 122 [.inr (.inl 1), .inl z1, .inl z2, .inl z3, v4] [] σ Q := by
  refine ar_inc (L' := [.inr (.inl 1), .inl z1, .inl (z2 + 1), .inl z3, v4]) rfl rfl h0 rfl ?_
  refine am_wn rfl ?_
  exact k
theorem b_54_128 {sc : Int → Int} {σ : St} {Q : Ou → St → Nat → Prop} (z1 : Int) (z2 : Int) (v3 : AV) (v4 : AV) (k : am_wp sc 54 2 [.inr (.inl 1), .inl z1, .inl z2, v3, v4] [] σ Q) : am_wp sc 54 128 [.inr (.inl 1), .inl z1, .inl z2, v3, v4] [] σ Q := by
  refine am_wn rfl ?_
  exact k
theorem b_54_131 {sc : Int → Int} {σ : St} {Q : Ou → St → Nat → Prop} (z1 : Int) (v2 : AV) (v3 : AV) (v4 : AV) (k : Q (.inl none) σ 0) : am_wp sc 54 131 [.inr (.inl 1), .inl z1, v2, v3, v4] [] σ Q := by
  exact am_w62 rfl k
/-! SlidingHeapModel.findLive -/
theorem b_55_0 {sc : Int → Int} {σ : St} {Q : Ou → St → Nat → Prop} (v1 : AV) (k : am_wp sc 55 2 [.inr (.inl 1), .inl 1] [] σ Q) : am_wp sc 55 0 [.inr (.inl 1), v1] [] σ Q := by
  refine am_wn rfl ?_
  refine am_wn rfl ?_
  exact k
theorem b_55_2 {sc : Int → Int} {σ : St} {Q : Ou → St → Nat → Prop} (z1 : Int) (k1 : (15 ≤ z1) → am_wp sc 55 42 [.inr (.inl 1), .inl z1] [] σ Q) (k2 : ¬ (15 ≤ z1) → am_wp sc 55 8 [.inr (.inl 1), .inl z1] [] σ Q) : am_wp sc 55 2 [.inr (.inl 1), .inl z1] [] σ Q := by
  refine am_wn rfl ?_
  refine am_wn rfl ?_
  exact ar_br (c := 15 ≤ z1) rfl k1 k2
theorem b_55_8 {sc : Int → Int} {σ : St} {Q : Ou → St → Nat → Prop} (z1 : Int) (h0 : 0 ≤ z1 ∧ z1 < 15) (k1 : ((σ 15 z1) = 0) → am_wp sc 55 34 [.inr (.inl 1), .inl z1] [.inl z1, .inr (.inl 23)] σ Q) (k2 : ¬ ((σ 15 z1) = 0) → am_wp sc 55 22 [.inr (.inl 1), .inl z1] [.inl z1, .inr (.inl 23)] σ Q) : am_wp sc 55 8 [.inr (.inl 1), .inl z1] [] σ Q := by
  refine am_wn rfl ?_
  refine am_wn rfl ?_
  refine am_wn rfl ?_
  refine am_wn rfl ?_
  refine am_wn rfl ?_
  refine am_wn rfl ?_
  refine ar_bald rfl rfl h0 ?_
  exact ar_br (c := (σ 15 z1) = 0) rfl k1 k2
theorem b_55_22 {sc : Int → Int} {σ : St} {Q : Ou → St → Nat → Prop} (z1 : Int) (s1 : Int) (k : am_wp sc 52 0 [.inr (.inl 1), .inl z1, .inr (.inr 0), .inr (.inr 0)] [] σ (am_bk sc 55 24 [.inr (.inl 1), .inl z1] [.inl s1, .inr (.inl 23)] Q)) : am_wp sc 55 22 [.inr (.inl 1), .inl z1] [.inl s1, .inr (.inl 23)] σ Q := by
  refine am_wn rfl ?_
  refine am_wn rfl ?_
  exact am_wc rfl (by decide) (by decide) rfl k
theorem b_55_27 {sc : Int → Int} {σ : St} {Q : Ou → St → Nat → Prop} (z1 : Int) (s1 : Int) (s2 : Int) (k1 : (s2 = 0) → am_wp sc 55 34 [.inr (.inl 1), .inl z1] [.inl s1, .inr (.inl 23)] σ Q) (k2 : ¬ (s2 = 0) → am_wp sc 55 30 [.inr (.inl 1), .inl z1] [.inl s1, .inr (.inl 23)] σ Q) : am_wp sc 55 27 [.inr (.inl 1), .inl z1] [.inl s2, .inl s1, .inr (.inl 23)] σ Q := by
  exact ar_br (c := s2 = 0) rfl k1 k2
theorem b_55_30 {sc : Int → Int} {σ : St} {Q : Ou → St → Nat → Prop} (z1 : Int) (s1 : Int) (k : am_wp sc 55 35 [.inr (.inl 1), .inl z1] [.inl 1, .inl s1, .inr (.inl 23)] σ Q) : am_wp sc 55 30 [.inr (.inl 1), .inl z1] [.inl s1, .inr (.inl 23)] σ Q := by
  refine am_wn rfl ?_
  refine am_wn rfl ?_
  exact k
theorem b_55_34 {sc : Int → Int} {σ : St} {Q : Ou → St → Nat → Prop} (z1 : Int) (s1 : Int) (k : am_wp sc 55 35 [.inr (.inl 1), .inl z1] [.inl 0, .inl s1, .inr (.inl 23)] σ Q) : am_wp sc 55 34 [.inr (.inl 1), .inl z1] [.inl s1, .inr (.inl 23)] σ Q := by
  refine am_wn rfl ?_
  exact k
theorem b_55_35 {sc : Int → Int} {σ : St} {Q : Ou → St → Nat → Prop} (z1 : Int) (s1 : Int) (s2 : Int) (h0 : 0 ≤ s1 ∧ s1 < 15) (h1 : s2 = 0 ∨ s2 = 1) (h2 : am_R (z1 + 1)) (k : am_wp sc 55 2 [.inr (.inl 1), .inl (z1 + 1)] [] (am_up σ 23 s1 s2) Q) : am_wp sc 55 35 [.inr (.inl 1), .inl z1] [.inl s2, .inl s1, .inr (.inl 23)] σ Q := by
  refine ar_bast rfl rfl h0 h1 ?_
  refine ar_inc (L' := [.inr (.inl 1), .inl (z1 + 1)]) rfl rfl h2 rfl ?_
  refine am_wn rfl ?_
  exact k
theorem b_55_42 {sc : Int → Int} {σ : St} {Q : Ou → St → Nat → Prop} (z1 : Int) (k : am_wp sc 54 0 [.inr (.inl 1), .inr (.inr 0), .inr (.inr 0), .inr (.inr 0), .inr (.inr 0)] [] σ (am_bk sc 55 43 [.inr (.inl 1), .inl z1] [] Q)) : am_wp sc 55 42 [.inr (.inl 1), .inl z1] [] σ Q := by
  refine am_wn rfl ?_
  exact am_wc rfl (by decide) (by decide) rfl k
theorem b_55_46 {sc : Int → Int} {σ : St} {Q : Ou → St → Nat → Prop} (z1 : Int) (k : Q (.inl none) σ 0) : am_wp sc 55 46 [.inr (.inl 1), .inl z1] [] σ Q := by
  exact am_w62 rfl k
/-! SlidingHeapModel.wordsOf -/
theorem b_56_0 {sc : Int → Int} {σ : St} {Q : Ou → St → Nat → Prop} (z1 : Int) (v2 : AV) (v3 : AV) (k : am_wp sc 56 4 [.inr (.inl 1), .inl z1, .inl 0, .inl 1] [] σ Q) : am_wp sc 56 0 [.inr (.inl 1), .inl z1, v2, v3] [] σ Q := by
  refine am_wn rfl ?_
  refine am_wn rfl ?_
  refine am_wn rfl ?_
  refine am_wn rfl ?_
  exact k
theorem b_56_4 {sc : Int → Int} {σ : St} {Q : Ou → St → Nat → Prop} (z1 : Int) (z2 : Int) (z3 : Int) (k1 : (15 ≤ z3) → am_wp sc 56 53 [.inr (.inl 1), .inl z1, .inl z2, .inl z3] [] σ Q) (k2 : ¬ (15 ≤ z3) → am_wp sc 56 10 [.inr (.inl 1), .inl z1, .inl z2, .inl z3] [] σ Q) : am_wp sc 56 4 [.inr (.inl 1), .inl z1, .inl z2, .inl z3] [] σ Q := by
  refine am_wn rfl ?_
  refine am_wn rfl ?_
  exact ar_br (c := 15 ≤ z3) rfl k1 k2
theorem b_56_10 {sc : Int → Int} {σ : St} {Q : Ou → St → Nat → Prop} (z1 : Int) (z2 : Int) (z3 : Int) (h0 : 0 ≤ z3 ∧ z3 < 15) (k1 : ((σ 15 z3) = 0) → am_wp sc 56 45 [.inr (.inl 1), .inl z1, .inl z2, .inl z3] [] σ Q) (k2 : ¬ ((σ 15 z3) = 0) → am_wp sc 56 19 [.inr (.inl 1), .inl z1, .inl z2, .inl z3] [] σ Q) : am_wp sc 56 10 [.inr (.inl 1), .inl z1, .inl z2, .inl z3] [] σ Q := by
  refine am_wn rfl ?_
  refine am_wn rfl ?_
  refine am_wn rfl ?_
  refine ar_bald rfl rfl h0 ?_
  exact ar_br (c := (σ 15 z3) = 0) rfl k1 k2
theorem b_56_19 {sc : Int → Int} {σ : St} {Q : Ou → St → Nat → Prop} (z1 : Int) (z2 : Int) (z3 : Int) (h0 : 0 ≤ z3 ∧ z3 < 15) (k1 : ((σ 23 z3) ≠ 0) → am_wp sc 56 32 [.inr (.inl 1), .inl z1, .inl z2, .inl z3] [] σ Q) (k2 : ¬ ((σ 23 z3) ≠ 0) → am_wp sc 56 28 [.inr (.inl 1), .inl z1, .inl z2, .inl z3] [] σ Q) : am_wp sc 56 19 [.inr (.inl 1), .inl z1, .inl z2, .inl z3] [] σ Q := by
  refine am_wn rfl ?_
  refine am_wn rfl ?_
  refine am_wn rfl ?_
  refine ar_bald rfl rfl h0 ?_
  exact ar_br (c := (σ 23 z3) ≠ 0) rfl k1 k2
theorem b_56_28 {sc : Int → Int} {σ : St} {Q : Ou → St → Nat → Prop} (z1 : Int) (z2 : Int) (z3 : Int) (k1 : (z1 ≠ 0) → am_wp sc 56 45 [.inr (.inl 1), .inl z1, .inl z2, .inl z3] [] σ Q) (k2 : ¬ (z1 ≠ 0) → am_wp sc 56 32 [.inr (.inl 1), .inl z1, .inl z2, .inl z3] [] σ Q) : am_wp sc 56 28 [.inr (.inl 1), .inl z1, .inl z2, .inl z3] [] σ Q := by
  refine am_wn rfl ?_
  exact ar_br (c := z1 ≠ 0) rfl k1 k2
theorem b_56_32 {sc : Int → Int} {σ : St} {Q : Ou → St → Nat → Prop} (z1 : Int) (z2 : Int) (z3 : Int) (h0 : 0 ≤ z3 ∧ z3 < 15) (h1 : am_R (z2 + (σ 16 z3))) (h2 : am_R ((z2 + (σ 16 z3)) + 2)) (k : am_wp sc 56 46 [.inr (.inl 1), .inl z1, .inl z2, .inl z3] [.inl ((z2 + (σ 16 z3)) + 2)] σ Q) : am_wp sc 56 32 [.inr (.inl 1), .inl z1, .inl z2, .inl z3] [] σ Q := by
  refine am_wn rfl ?_
  refine am_wn rfl ?_
  refine am_wn rfl ?_
  refine am_wn rfl ?_
  refine ar_iald rfl rfl h0 ?_
  refine ar_add rfl h1 ?_
  refine am_wn rfl ?_
  refine ar_add rfl h2 ?_
  refine am_wn rfl ?_
  exact k
theorem b_56_45 {sc : Int → Int} {σ : St} {Q : Ou → St → Nat → Prop} (z1 : Int) (z2 : Int) (z3 : Int) (k : am_wp sc 56 46 [.inr (.inl 1), .inl z1, .inl z2, .inl z3] [.inl z2] σ Q) : am_wp sc 56 45 [.inr (.inl 1), .inl z1, .inl z2, .inl z3] [] σ Q := by
  refine am_wn rfl ?_
  exact k
theorem b_56_46 {sc : Int → Int} {σ : St} {Q : Ou → St → Nat → Prop} (z1 : Int) (z2 : Int) (z3 : Int) (s0 : Int) (h0 : am_R (z3 + 1)) (k : am_wp sc 56 4 [.inr (.inl 1), .inl z1, .inl s0, .inl (z3 + 1)] [] σ Q) : am_wp sc 56 46 [.inr (.inl 1), .inl z1, .inl z2, .inl z3] [.inl s0] σ Q := by
  refine am_wn rfl ?_
  refine ar_inc (L' := [.inr (.inl 1), .inl z1, .inl s0, .inl (z3 + 1)]) rfl rfl h0 rfl ?_
  refine am_wn rfl ?_
  exact k
theorem b_56_53 {sc : Int → Int} {σ : St} {Q : Ou → St → Nat → Prop} (z1 : Int) (z2 : Int) (z3 : Int) (k : Q (.inl (some z2)) σ 0) : am_wp sc 56 53 [.inr (.inl 1), .inl z1, .inl z2, .inl z3] [] σ Q := by
  refine am_wn rfl ?_
  exact am_w60 rfl k
/-! SlidingHeapModel.countLive -/
theorem b_57_0 {sc : Int → Int} {σ : St} {Q : Ou → St → Nat → Prop} (v1 : AV) (v2 : AV) (k : am_wp sc 57 4 [.inr (.inl 1), .inl 0, .inl 1] [] σ Q) : am_wp sc 57 0 [.inr (.inl 1), v1, v2] [] σ Q := by
  refine am_wn rfl ?_
  refine am_wn rfl ?_
  refine am_wn rfl ?_
  refine am_wn rfl ?_
  exact k
theorem b_57_4 {sc : Int → Int} {σ : St} {Q : Ou → St → Nat → Prop} (z1 : Int) (z2 : Int) (k1 : (15 ≤ z2) → am_wp sc 57 33 [.inr (.inl 1), .inl z1, .inl z2] [] σ Q) (k2 : ¬ (15 ≤ z2) → am_wp sc 57 10 [.inr (.inl 1), .inl z1, .inl z2] [] σ Q) : am_wp sc 57 4 [.inr (.inl 1), .inl z1, .inl z2] [] σ Q := by
  refine am_wn rfl ?_
  refine am_wn rfl ?_
  exact ar_br (c := 15 ≤ z2) rfl k1 k2
theorem b_57_10 {sc : Int → Int} {σ : St} {Q : Ou → St → Nat → Prop} (z1 : Int) (z2 : Int) (h0 : 0 ≤ z2 ∧ z2 < 15) (k1 : ((σ 23 z2) = 0) → am_wp sc 57 25 [.inr (.inl 1), .inl z1, .inl z2] [] σ Q) (k2 : ¬ ((σ 23 z2) = 0) → am_wp sc 57 19 [.inr (.inl 1), .inl z1, .inl z2] [] σ Q) : am_wp sc 57 10 [.inr (.inl 1), .inl z1, .inl z2] [] σ Q := by
  refine am_wn rfl ?_
  refine am_wn rfl ?_
  refine am_wn rfl ?_
  refine ar_bald rfl rfl h0 ?_
  exact ar_br (c := (σ 23 z2) = 0) rfl k1 k2
theorem b_57_19 {sc : Int → Int} {σ : St} {Q : Ou → St → Nat → Prop} (z1 : Int) (z2 : Int) (h0 : am_R (z1 + 1)) (k : am_wp sc 57 26 [.inr (.inl 1), .inl z1, .inl z2] [.inl (z1 + 1)] σ Q) : am_wp sc 57 19 [.inr (.inl 1), .inl z1, .inl z2] [] σ Q := by
  refine am_wn rfl ?_
  refine am_wn rfl ?_
  refine ar_add rfl h0 ?_
  refine am_wn rfl ?_
  exact k
theorem b_57_25 {sc : Int → Int} {σ : St} {Q : Ou → St → Nat → Prop} (z1 : Int) (z2 : Int) (k : am_wp sc 57 26 [.inr (.inl 1), .inl z1, .inl z2] [.inl z1] σ Q) : am_wp sc 57 25 [.inr (.inl 1), .inl z1, .inl z2] [] σ Q := by
  refine am_wn rfl ?_
  exact k
theorem b_57_26 {sc : Int → Int} {σ : St} {Q : Ou → St → Nat → Prop} (z1 : Int) (z2 : Int) (s0 : Int) (h0 : am_R (z2 + 1)) (k : am_wp sc 57 4 [.inr (.inl 1), .inl s0, .inl (z2 + 1)] [] σ Q) : am_wp sc 57 26 [.inr (.inl 1), .inl z1, .inl z2] [.inl s0] σ Q := by
  refine am_wn rfl ?_
  refine ar_inc (L' := [.inr (.inl 1), .inl s0, .inl (z2 + 1)]) rfl rfl h0 rfl ?_
  refine am_wn rfl ?_
  exact k
theorem b_57_33 {sc : Int → Int} {σ : St} {Q : Ou → St → Nat → Prop} (z1 : Int) (z2 : Int) (k : Q (.inl (some z1)) σ 0) : am_wp sc 57 33 [.inr (.inl 1), .inl z1, .inl z2] [] σ Q := by
  refine am_wn rfl ?_
  exact am_w60 rfl k
/-! SlidingHeapModel.weaken -/
theorem b_58_0 {sc : Int → Int} {σ : St} {Q : Ou → St → Nat → Prop} (z1 : Int) (v2 : AV) (v3 : AV) (k : am_wp sc 58 2 [.inr (.inl 1), .inl z1, .inl 0, v3] [] σ Q) : am_wp sc 58 0 [.inr (.inl 1), .inl z1, v2, v3] [] σ Q := by
  refine am_wn rfl ?_
  refine am_wn rfl ?_
  exact k
theorem b_58_2 {sc : Int → Int} {σ : St} {Q : Ou → St → Nat → Prop} (z1 : Int) (z2 : Int) (v3 : AV) (h0 : 0 ≤ z1 ∧ z1 < 15) (k1 : ((σ 16 z1) ≤ z2) → am_wp sc 58 74 [.inr (.inl 1), .inl z1, .inl z2, v3] [] σ Q) (k2 : ¬ ((σ 16 z1) ≤ z2) → am_wp sc 58 12 [.inr (.inl 1), .inl z1, .inl z2, v3] [] σ Q) : am_wp sc 58 2 [.inr (.inl 1), .inl z1, .inl z2, v3] [] σ Q := by
  refine am_wn rfl ?_
  refine am_wn rfl ?_
  refine am_wn rfl ?_
  refine am_wn rfl ?_
  refine ar_iald rfl rfl h0 ?_
  exact ar_br (c := (σ 16 z1) ≤ z2) rfl k1 k2
theorem b_58_12 {sc : Int → Int} {σ : St} {Q : Ou → St → Nat → Prop} (z1 : Int) (z2 : Int) (v3 : AV) (h0 : am_R (10 * z1)) (h1 : am_R ((10 * z1) + z2)) (h2 : 0 ≤ ((10 * z1) + z2) ∧ ((10 * z1) + z2) < 150) (k1 : ((σ 20 ((10 * z1) + z2)) ≠ 2) → am_wp sc 58 61 [.inr (.inl 1), .inl z1, .inl z2, .inl ((10 * z1) + z2)] [.inl ((10 * z1) + z2), .inr (.inl 19)] σ Q) (k2 : ¬ ((σ 20 ((10 * z1) + z2)) ≠ 2) → am_wp sc 58 34 [.inr (.inl 1), .inl z1, .inl z2, .inl ((10 * z1) + z2)] [.inl ((10 * z1) + z2), .inr (.inl 19)] σ Q) : am_wp sc 58 12 [.inr (.inl 1), .inl z1, .inl z2, v3] [] σ Q := by
  refine am_wn rfl ?_
  refine am_wn rfl ?_
  refine ar_mul rfl h0 ?_
  refine am_wn rfl ?_
  refine ar_add rfl h1 ?_
  refine am_wn rfl ?_
  refine am_wn rfl ?_
  refine am_wn rfl ?_
  refine am_wn rfl ?_
  refine am_wn rfl ?_
  refine am_wn rfl ?_
  refine am_wn rfl ?_
  refine ar_iald rfl rfl h2 ?_
  refine am_wn rfl ?_
  exact ar_br (c := (σ 20 ((10 * z1) + z2)) ≠ 2) rfl k1 k2
theorem b_58_34 {sc : Int → Int} {σ : St} {Q : Ou → St → Nat → Prop} (z1 : Int) (z2 : Int) (z3 : Int) (s1 : Int) (h0 : 0 ≤ z3 ∧ z3 < 150) (k1 : ((σ 19 z3) ≤ 0) → am_wp sc 58 61 [.inr (.inl 1), .inl z1, .inl z2, .inl z3] [.inl s1, .inr (.inl 19)] σ Q) (k2 : ¬ ((σ 19 z3) ≤ 0) → am_wp sc 58 43 [.inr (.inl 1), .inl z1, .inl z2, .inl z3] [.inl s1, .inr (.inl 19)] σ Q) : am_wp sc 58 34 [.inr (.inl 1), .inl z1, .inl z2, .inl z3] [.inl s1, .inr (.inl 19)] σ Q := by
  refine am_wn rfl ?_
  refine am_wn rfl ?_
  refine am_wn rfl ?_
  refine ar_iald rfl rfl h0 ?_
  exact ar_br (c := (σ 19 z3) ≤ 0) rfl k1 k2
theorem b_58_43 {sc : Int → Int} {σ : St} {Q : Ou → St → Nat → Prop} (z1 : Int) (z2 : Int) (z3 : Int) (s1 : Int) (h0 : 0 ≤ z3 ∧ z3 < 150) (h1 : 0 ≤ (σ 19 z3) ∧ (σ 19 z3) < 15) (k1 : ((σ 23 (σ 19 z3)) ≠ 0) → am_wp sc 58 61 [.inr (.inl 1), .inl z1, .inl z2, .inl z3] [.inl s1, .inr (.inl 19)] σ Q) (k2 : ¬ ((σ 23 (σ 19 z3)) ≠ 0) → am_wp sc 58 57 [.inr (.inl 1), .inl z1, .inl z2, .inl z3] [.inl s1, .inr (.inl 19)] σ Q) : am_wp sc 58 43 [.inr (.inl 1), .inl z1, .inl z2, .inl z3] [.inl s1, .inr (.inl 19)] σ Q := by
  refine am_wn rfl ?_
  refine am_wn rfl ?_
  refine am_wn rfl ?_
  refine am_wn rfl ?_
  refine am_wn rfl ?_
  refine ar_iald rfl rfl h0 ?_
  refine ar_bald rfl rfl h1 ?_
  exact ar_br (c := (σ 23 (σ 19 z3)) ≠ 0) rfl k1 k2
theorem b_58_57 {sc : Int → Int} {σ : St} {Q : Ou → St → Nat → Prop} (z1 : Int) (z2 : Int) (z3 : Int) (s1 : Int) (k : am_wp sc 58 67 [.inr (.inl 1), .inl z1, .inl z2, .inl z3] [.inl 0, .inl s1, .inr (.inl 19)] σ Q) : am_wp sc 58 57 [.inr (.inl 1), .inl z1, .inl z2, .inl z3] [.inl s1, .inr (.inl 19)] σ Q := by
  refine am_wn rfl ?_
  refine am_wn rfl ?_
  exact k
theorem b_58_61 {sc : Int → Int} {σ : St} {Q : Ou → St → Nat → Prop} (z1 : Int) (z2 : Int) (z3 : Int) (s1 : Int) (h0 : 0 ≤ z3 ∧ z3 < 150) (k : am_wp sc 58 67 [.inr (.inl 1), .inl z1, .inl z2, .inl z3] [.inl (σ 19 z3), .inl s1, .inr (.inl 19)] σ Q) : am_wp sc 58 61 [.inr (.inl 1), .inl z1, .inl z2, .inl z3] [.inl s1, .inr (.inl 19)] σ Q := by
  refine am_wn rfl ?_
  refine am_wn rfl ?_
  refine am_wn rfl ?_
  refine ar_iald rfl rfl h0 ?_
  exact k
theorem b_58_67 {sc : Int → Int} {σ : St} {Q : Ou → St → Nat → Prop} (z1 : Int) (z2 : Int) (z3 : Int) (s1 : Int) (s2 : Int) (h0 : 0 ≤ s1 ∧ s1 < 150) (h1 : am_R (z2 + 1)) (k : am_wp sc 58 2 [.inr (.inl 1), .inl z1, .inl (z2 + 1), .inl z3] [] (am_up σ 19 s1 s2) Q) : am_wp sc 58 67 [.inr (.inl 1), .inl z1, .inl z2, .inl z3] [.inl s2, .inl s1, .inr (.inl 19)] σ Q := by
  refine ar_iast rfl rfl h0 ?_
  refine ar_inc (L' := [.inr (.inl 1), .inl z1, .inl (z2 + 1), .inl z3]) rfl rfl h1 rfl ?_
  refine am_wn rfl ?_
  exact k
theorem b_58_74 {sc : Int → Int} {σ : St} {Q : Ou → St → Nat → Prop} (z1 : Int) (z2 : Int) (v3 : AV) (k : Q (.inl none) σ 0) : am_wp sc 58 74 [.inr (.inl 1), .inl z1, .inl z2, v3] [] σ Q := by
  exact am_w62 rfl k
/-! SlidingHeapModel.save -/
theorem b_59_0 {sc : Int → Int} {σ : St} {Q : Ou → St → Nat → Prop} (v1 : AV) (k : am_wp sc 59 2 [.inr (.inl 1), .inl 1] [] σ Q) : am_wp sc 59 0 [.inr (.inl 1), v1] [] σ Q := by
  refine am_wn rfl ?_
  refine am_wn rfl ?_
  exact k
theorem b_59_2 {sc : Int → Int} {σ : St} {Q : Ou → St → Nat → Prop} (z1 : Int) (k1 : (15 ≤ z1) → am_wp sc 59 52 [.inr (.inl 1), .inl z1] [] σ Q) (k2 : ¬ (15 ≤ z1) → am_wp sc 59 8 [.inr (.inl 1), .inl z1] [] σ Q) : am_wp sc 59 2 [.inr (.inl 1), .inl z1] [] σ Q := by
  refine am_wn rfl ?_
  refine am_wn rfl ?_
  exact ar_br (c := 15 ≤ z1) rfl k1 k2
theorem b_59_8 {sc : Int → Int} {σ : St} {Q : Ou → St → Nat → Prop} (z1 : Int) (h0 : 0 ≤ z1 ∧ z1 < 15) (k1 : ((σ 15 z1) = 0) → am_wp sc 59 44 [.inr (.inl 1), .inl z1] [.inl z1, .inr (.inl 24)] σ Q) (k2 : ¬ ((σ 15 z1) = 0) → am_wp sc 59 22 [.inr (.inl 1), .inl z1] [.inl z1, .inr (.inl 24)] σ Q) : am_wp sc 59 8 [.inr (.inl 1), .inl z1] [] σ Q := by
  refine am_wn rfl ?_
  refine am_wn rfl ?_
  refine am_wn rfl ?_
  refine am_wn rfl ?_
  refine am_wn rfl ?_
  refine am_wn rfl ?_
  refine ar_bald rfl rfl h0 ?_
  exact ar_br (c := (σ 15 z1) = 0) rfl k1 k2
theorem b_59_22 {sc : Int → Int} {σ : St} {Q : Ou → St → Nat → Prop} (z1 : Int) (s1 : Int) (h0 : 0 ≤ z1 ∧ z1 < 15) (k1 : ((σ 23 z1) ≠ 0) → am_wp sc 59 44 [.inr (.inl 1), .inl z1] [.inl s1, .inr (.inl 24)] σ Q) (k2 : ¬ ((σ 23 z1) ≠ 0) → am_wp sc 59 31 [.inr (.inl 1), .inl z1] [.inl s1, .inr (.inl 24)] σ Q) : am_wp sc 59 22 [.inr (.inl 1), .inl z1] [.inl s1, .inr (.inl 24)] σ Q := by
  refine am_wn rfl ?_
  refine am_wn rfl ?_
  refine am_wn rfl ?_
  refine ar_bald rfl rfl h0 ?_
  exact ar_br (c := (σ 23 z1) ≠ 0) rfl k1 k2
theorem b_59_31 {sc : Int → Int} {σ : St} {Q : Ou → St → Nat → Prop} (z1 : Int) (s1 : Int) (h0 : 0 ≤ z1 ∧ z1 < 15) (k1 : ((σ 18 z1) = 0) → am_wp sc 59 44 [.inr (.inl 1), .inl z1] [.inl s1, .inr (.inl 24)] σ Q) (k2 : ¬ ((σ 18 z1) = 0) → am_wp sc 59 40 [.inr (.inl 1), .inl z1] [.inl s1, .inr (.inl 24)] σ Q) : am_wp sc 59 31 [.inr (.inl 1), .inl z1] [.inl s1, .inr (.inl 24)] σ Q := by
  refine am_wn rfl ?_
  refine am_wn rfl ?_
  refine am_wn rfl ?_
  refine ar_bald rfl rfl h0 ?_
  exact ar_br (c := (σ 18 z1) = 0) rfl k1 k2
theorem b_59_40 {sc : Int → Int} {σ : St} {Q : Ou → St → Nat → Prop} (z1 : Int) (s1 : Int) (k : am_wp sc 59 45 [.inr (.inl 1), .inl z1] [.inl 1, .inl s1, .inr (.inl 24)] σ Q) : am_wp sc 59 40 [.inr (.inl 1), .inl z1] [.inl s1, .inr (.inl 24)] σ Q := by
  refine am_wn rfl ?_
  refine am_wn rfl ?_
  exact k
theorem b_59_44 {sc : Int → Int} {σ : St} {Q : Ou → St → Nat → Prop} (z1 : Int) (s1 : Int) (k : am_wp sc 59 45 [.inr (.inl 1), .inl z1] [.inl 0, .inl s1, .inr (.inl 24)] σ Q) : am_wp sc 59 44 [.inr (.inl 1), .inl z1] [.inl s1, .inr (.inl 24)] σ Q := by
  refine am_wn rfl ?_
  exact k
theorem b_59_45 {sc : Int → Int} {σ : St} {Q : Ou → St → Nat → Prop} (z1 : Int) (s1 : Int) (s2 : Int) (h0 : 0 ≤ s1 ∧ s1 < 15) (h1 : s2 = 0 ∨ s2 = 1) (h2 : am_R (z1 + 1)) (k : am_wp sc 59 2 [.inr (.inl 1), .inl (z1 + 1)] [] (am_up σ 24 s1 s2) Q) : am_wp sc 59 45 [.inr (.inl 1), .inl z1] [.inl s2, .inl s1, .inr (.inl 24)] σ Q := by
  refine ar_bast rfl rfl h0 h1 ?_
  refine ar_inc (L' := [.inr (.inl 1), .inl (z1 + 1)]) rfl rfl h2 rfl ?_
  refine am_wn rfl ?_
  exact k
theorem b_59_52 {sc : Int → Int} {σ : St} {Q : Ou → St → Nat → Prop} (z1 : Int) (k : am_wp sc 59 54 [.inr (.inl 1), .inl 1] [] σ Q) : am_wp sc 59 52 [.inr (.inl 1), .inl z1] [] σ Q := by
  refine am_wn rfl ?_
  refine am_wn rfl ?_
  exact k
theorem b_59_54 {sc : Int → Int} {σ : St} {Q : Ou → St → Nat → Prop} (z1 : Int) (k1 : (15 ≤ z1) → am_wp sc 59 95 [.inr (.inl 1), .inl z1] [] σ Q) (k2 : ¬ (15 ≤ z1) → am_wp sc 59 60 [.inr (.inl 1), .inl z1] [] σ Q) : am_wp sc 59 54 [.inr (.inl 1), .inl z1] [] σ Q := by
  refine am_wn rfl ?_
  refine am_wn rfl ?_
  exact ar_br (c := 15 ≤ z1) rfl k1 k2
theorem b_59_60 {sc : Int → Int} {σ : St} {Q : Ou → St → Nat → Prop} (z1 : Int) (h0 : 0 ≤ z1 ∧ z1 < 15) (k1 : ((σ 23 z1) ≠ 0) → am_wp sc 59 83 [.inr (.inl 1), .inl z1] [.inl z1, .inr (.inl 23)] σ Q) (k2 : ¬ ((σ 23 z1) ≠ 0) → am_wp sc 59 74 [.inr (.inl 1), .inl z1] [.inl z1, .inr (.inl 23)] σ Q) : am_wp sc 59 60 [.inr (.inl 1), .inl z1] [] σ Q := by
  refine am_wn rfl ?_
  refine am_wn rfl ?_
  refine am_wn rfl ?_
  refine am_wn rfl ?_
  refine am_wn rfl ?_
  refine am_wn rfl ?_
  refine ar_bald rfl rfl h0 ?_
  exact ar_br (c := (σ 23 z1) ≠ 0) rfl k1 k2
theorem b_59_74 {sc : Int → Int} {σ : St} {Q : Ou → St → Nat → Prop} (z1 : Int) (s1 : Int) (h0 : 0 ≤ z1 ∧ z1 < 15) (k1 : ((σ 24 z1) = 0) → am_wp sc 59 87 [.inr (.inl 1), .inl z1] [.inl s1, .inr (.inl 23)] σ Q) (k2 : ¬ ((σ 24 z1) = 0) → am_wp sc 59 83 [.inr (.inl 1), .inl z1] [.inl s1, .inr (.inl 23)] σ Q) : am_wp sc 59 74 [.inr (.inl 1), .inl z1] [.inl s1, .inr (.inl 23)] σ Q := by
  refine am_wn rfl ?_
  refine am_wn rfl ?_
  refine am_wn rfl ?_
  refine ar_bald rfl rfl h0 ?_
  exact ar_br (c := (σ 24 z1) = 0) rfl k1 k2
theorem b_59_83 {sc : Int → Int} {σ : St} {Q : Ou → St → Nat → Prop} (z1 : Int) (s1 : Int) (k : am_wp sc 59 88 [.inr (.inl 1), .inl z1] [.inl 1, .inl s1, .inr (.inl 23)] σ Q) : am_wp sc 59 83 [.inr (.inl 1), .inl z1] [.inl s1, .inr (.inl 23)] σ Q := by
  refine am_wn rfl ?_
  refine am_wn rfl ?_
  exact k
theorem b_59_87 {sc : Int → Int} {σ : St} {Q : Ou → St → Nat → Prop} (z1 : Int) (s1 : Int) (k : am_wp sc 59 88 [.inr (.inl 1), .inl z1] [.inl 0, .inl s1, .inr (.inl 23)] σ Q) : am_wp sc 59 87 [.inr (.inl 1), .inl z1] [.inl s1, .inr (.inl 23)] σ Q := by
  refine am_wn rfl ?_
  exact k
theorem b_59_88 {sc : Int → Int} {σ : St} {Q : Ou → St → Nat → Prop} (z1 : Int) (s1 : Int) (s2 : Int) (h0 : 0 ≤ s1 ∧ s1 < 15) (h1 : s2 = 0 ∨ s2 = 1) (h2 : am_R (z1 + 1)) (k : am_wp sc 59 54 [.inr (.inl 1), .inl (z1 + 1)] [] (am_up σ 23 s1 s2) Q) : am_wp sc 59 88 [.inr (.inl 1), .inl z1] [.inl s2, .inl s1, .inr (.inl 23)] σ Q := by
  refine ar_bast rfl rfl h0 h1 ?_
  refine ar_inc (L' := [.inr (.inl 1), .inl (z1 + 1)]) rfl rfl h2 rfl ?_
  refine am_wn rfl ?_
  exact k
theorem b_59_95 {sc : Int → Int} {σ : St} {Q : Ou → St → Nat → Prop} (z1 : Int) (k : am_wp sc 54 0 [.inr (.inl 1), .inr (.inr 0), .inr (.inr 0), .inr (.inr 0), .inr (.inr 0)] [] σ (am_bk sc 59 96 [.inr (.inl 1), .inl z1] [] Q)) : am_wp sc 59 95 [.inr (.inl 1), .inl z1] [] σ Q := by
  refine am_wn rfl ?_
  exact am_wc rfl (by decide) (by decide) rfl k
theorem b_59_99 {sc : Int → Int} {σ : St} {Q : Ou → St → Nat → Prop} (z1 : Int) (k : Q (.inl none) σ 0) : am_wp sc 59 99 [.inr (.inl 1), .inl z1] [] σ Q := by
  exact am_w62 rfl k
/-! SlidingHeapModel.collectAll -/
theorem b_60_0 {sc : Int → Int} {σ : St} {Q : Ou → St → Nat → Prop} (v1 : AV) (v2 : AV) (v3 : AV) (v4 : AV) (k : am_wp sc 56 0 [.inr (.inl 1), .inl 0, .inr (.inr 0), .inr (.inr 0)] [] σ (am_bk sc 60 2 [.inr (.inl 1), v1, v2, v3, v4] [] Q)) : am_wp sc 60 0 [.inr (.inl 1), v1, v2, v3, v4] [] σ Q := by
  refine am_wn rfl ?_
  refine am_wn rfl ?_
  exact am_wc rfl (by decide) (by decide) rfl k
theorem b_60_5 {sc : Int → Int} {σ : St} {Q : Ou → St → Nat → Prop} (v1 : AV) (v2 : AV) (v3 : AV) (v4 : AV) (s0 : Int) (k : am_wp sc 55 0 [.inr (.inl 1), .inr (.inr 0)] [] σ (am_bk sc 60 7 [.inr (.inl 1), .inl s0, v2, v3, v4] [] Q)) : am_wp sc 60 5 [.inr (.inl 1), v1, v2, v3, v4] [.inl s0] σ Q := by
  refine am_wn rfl ?_
  refine am_wn rfl ?_
  exact am_wc rfl (by decide) (by decide) rfl k
theorem b_60_10 {sc : Int → Int} {σ : St} {Q : Ou → St → Nat → Prop} (z1 : Int) (v2 : AV) (v3 : AV) (v4 : AV) (k : am_wp sc 60 12 [.inr (.inl 1), .inl z1, .inl 1, v3, v4] [] σ Q) : am_wp sc 60 10 [.inr (.inl 1), .inl z1, v2, v3, v4] [] σ Q := by
  refine am_wn rfl ?_
  refine am_wn rfl ?_
  exact k
theorem b_60_12 {sc : Int → Int} {σ : St} {Q : Ou → St → Nat → Prop} (z1 : Int) (z2 : Int) (v3 : AV) (v4 : AV) (k1 : (15 ≤ z2) → am_wp sc 60 38 [.inr (.inl 1), .inl z1, .inl z2, v3, v4] [] σ Q) (k2 : ¬ (15 ≤ z2) → am_wp sc 60 18 [.inr (.inl 1), .inl z1, .inl z2, v3, v4] [] σ Q) : am_wp sc 60 12 [.inr (.inl 1), .inl z1, .inl z2, v3, v4] [] σ Q := by
  refine am_wn rfl ?_
  refine am_wn rfl ?_
  exact ar_br (c := 15 ≤ z2) rfl k1 k2
theorem b_60_18 {sc : Int → Int} {σ : St} {Q : Ou → St → Nat → Prop} (z1 : Int) (z2 : Int) (v3 : AV) (v4 : AV) (h0 : 0 ≤ z2 ∧ z2 < 15) (k1 : ((σ 23 z2) = 0) → am_wp sc 60 32 [.inr (.inl 1), .inl z1, .inl z2, v3, v4] [] σ Q) (k2 : ¬ ((σ 23 z2) = 0) → am_wp sc 60 27 [.inr (.inl 1), .inl z1, .inl z2, v3, v4] [] σ Q) : am_wp sc 60 18 [.inr (.inl 1), .inl z1, .inl z2, v3, v4] [] σ Q := by
  refine am_wn rfl ?_
  refine am_wn rfl ?_
  refine am_wn rfl ?_
  refine ar_bald rfl rfl h0 ?_
  exact ar_br (c := (σ 23 z2) = 0) rfl k1 k2
theorem b_60_27 {sc : Int → Int} {σ : St} {Q : Ou → St → Nat → Prop} (z1 : Int) (z2 : Int) (v3 : AV) (v4 : AV) (k : am_wp sc 58 0 [.inr (.inl 1), .inl z2, .inr (.inr 0), .inr (.inr 0)] [] σ (am_bk sc 60 29 [.inr (.inl 1), .inl z1, .inl z2, v3, v4] [] Q)) : am_wp sc 60 27 [.inr (.inl 1), .inl z1, .inl z2, v3, v4] [] σ Q := by
  refine am_wn rfl ?_
  refine am_wn rfl ?_
  exact am_wc rfl (by decide) (by decide) rfl k
theorem b_60_32 {sc : Int → Int} {σ : St} {Q : Ou → St → Nat → Prop} (z1 : Int) (z2 : Int) (v3 : AV) (v4 : AV) (h0 : am_R (z2 + 1)) (k : am_wp sc 60 12 [.inr (.inl 1), .inl z1, .inl (z2 + 1), v3, v4] [] σ Q) : am_wp sc 60 32 [.inr (.inl 1), .inl z1, .inl z2, v3, v4] [] σ Q := by
  refine ar_inc (L' := [.inr (.inl 1), .inl z1, .inl (z2 + 1), v3, v4]) rfl rfl h0 rfl ?_
  refine am_wn rfl ?_
  exact k
theorem b_60_38 {sc : Int → Int} {σ : St} {Q : Ou → St → Nat → Prop} (z1 : Int) (z2 : Int) (v3 : AV) (v4 : AV) (k : am_wp sc 59 0 [.inr (.inl 1), .inr (.inr 0)] [] σ (am_bk sc 60 39 [.inr (.inl 1), .inl z1, .inl z2, v3, v4] [] Q)) : am_wp sc 60 38 [.inr (.inl 1), .inl z1, .inl z2, v3, v4] [] σ Q := by
  refine am_wn rfl ?_
  exact am_wc rfl (by decide) (by decide) rfl k
theorem b_60_42 {sc : Int → Int} {σ : St} {Q : Ou → St → Nat → Prop} (z1 : Int) (z2 : Int) (v3 : AV) (v4 : AV) (k : am_wp sc 60 44 [.inr (.inl 1), .inl z1, .inl 1, v3, v4] [] σ Q) : am_wp sc 60 42 [.inr (.inl 1), .inl z1, .inl z2, v3, v4] [] σ Q := by
  refine am_wn rfl ?_
  refine am_wn rfl ?_
  exact k
theorem b_60_44 {sc : Int → Int} {σ : St} {Q : Ou → St → Nat → Prop} (z1 : Int) (z2 : Int) (v3 : AV) (v4 : AV) (k1 : (15 ≤ z2) → am_wp sc 60 136 [.inr (.inl 1), .inl z1, .inl z2, v3, v4] [] σ Q) (k2 : ¬ (15 ≤ z2) → am_wp sc 60 50 [.inr (.inl 1), .inl z1, .inl z2, v3, v4] [] σ Q) : am_wp sc 60 44 [.inr (.inl 1), .inl z1, .inl z2, v3, v4] [] σ Q := by
  refine am_wn rfl ?_
  refine am_wn rfl ?_
  exact ar_br (c := 15 ≤ z2) rfl k1 k2
theorem b_60_50 {sc : Int → Int} {σ : St} {Q : Ou → St → Nat → Prop} (z1 : Int) (z2 : Int) (v3 : AV) (v4 : AV) (h0 : 0 ≤ z2 ∧ z2 < 15) (k1 : ((σ 24 z2) = 0) → am_wp sc 60 86 [.inr (.inl 1), .inl z1, .inl z2, v3, v4] [] σ Q) (k2 : ¬ ((σ 24 z2) = 0) → am_wp sc 60 59 [.inr (.inl 1), .inl z1, .inl z2, v3, v4] [] σ Q) : am_wp sc 60 50 [.inr (.inl 1), .inl z1, .inl z2, v3, v4] [] σ Q := by
  refine am_wn rfl ?_
  refine am_wn rfl ?_
  refine am_wn rfl ?_
  refine ar_bald rfl rfl h0 ?_
  exact ar_br (c := (σ 24 z2) = 0) rfl k1 k2
theorem b_60_59 {sc : Int → Int} {σ : St} {Q : Ou → St → Nat → Prop} (z1 : Int) (z2 : Int) (v3 : AV) (v4 : AV) (h0 : 0 ≤ (σ 43 0) ∧ (σ 43 0) < 15) (h1 : am_R ((σ 43 0) + 1)) (h2 : 0 ≤ z2 ∧ z2 < 15) (k : am_wp sc 60 86 [.inr (.inl 1), .inl z1, .inl z2, v3, v4] [] (am_up (am_up (am_up σ 22 (σ 43 0) z2) 43 0 ((σ 43 0) + 1)) 18 z2 0) Q) : am_wp sc 60 59 [.inr (.inl 1), .inl z1, .inl z2, v3, v4] [] σ Q := by
  refine am_wn rfl ?_
  refine am_wn rfl ?_
  refine am_wn rfl ?_
  refine am_wn rfl ?_
  refine am_wn rfl ?_
  refine ar_iast rfl rfl h0 ?_
  refine am_wn rfl ?_
  refine am_wn rfl ?_
  refine am_wn rfl ?_
  refine am_wn rfl ?_
  refine ar_add rfl h1 ?_
  refine am_wn rfl ?_
  refine am_wn rfl ?_
  refine am_wn rfl ?_
  refine am_wn rfl ?_
  refine am_wn rfl ?_
  refine ar_bast rfl rfl h2 (Or.inl rfl) ?_
  exact k
theorem b_60_86 {sc : Int → Int} {σ : St} {Q : Ou → St → Nat → Prop} (z1 : Int) (z2 : Int) (v3 : AV) (v4 : AV) (h0 : 0 ≤ z2 ∧ z2 < 15) (k1 : ((σ 23 z2) = 0) → am_wp sc 60 130 [.inr (.inl 1), .inl z1, .inl z2, v3, v4] [] σ Q) (k2 : ¬ ((σ 23 z2) = 0) → am_wp sc 60 95 [.inr (.inl 1), .inl z1, .inl z2, v3, v4] [] σ Q) : am_wp sc 60 86 [.inr (.inl 1), .inl z1, .inl z2, v3, v4] [] σ Q := by
  refine am_wn rfl ?_
  refine am_wn rfl ?_
  refine am_wn rfl ?_
  refine ar_bald rfl rfl h0 ?_
  exact ar_br (c := (σ 23 z2) = 0) rfl k1 k2
theorem b_60_95 {sc : Int → Int} {σ : St} {Q : Ou → St → Nat → Prop} (z1 : Int) (z2 : Int) (v3 : AV) (v4 : AV) (k : am_wp sc 58 0 [.inr (.inl 1), .inl z2, .inr (.inr 0), .inr (.inr 0)] [] σ (am_bk sc 60 97 [.inr (.inl 1), .inl z1, .inl z2, v3, v4] [] Q)) : am_wp sc 60 95 [.inr (.inl 1), .inl z1, .inl z2, v3, v4] [] σ Q := by
  refine am_wn rfl ?_
  refine am_wn rfl ?_
  exact am_wc rfl (by decide) (by decide) rfl k
theorem b_60_100 {sc : Int → Int} {σ : St} {Q : Ou → St → Nat → Prop} (z1 : Int) (z2 : Int) (v3 : AV) (v4 : AV) (h0 : 0 ≤ z2 ∧ z2 < 15) (k1 : (99 ≤ (σ 17 z2)) → am_wp sc 60 127 [.inr (.inl 1), .inl z1, .inl z2, v3, v4] [.inl z2, .inr (.inl 17)] σ Q) (k2 : ¬ (99 ≤ (σ 17 z2)) → am_wp sc 60 116 [.inr (.inl 1), .inl z1, .inl z2, v3, v4] [.inl z2, .inr (.inl 17)] σ Q) : am_wp sc 60 100 [.inr (.inl 1), .inl z1, .inl z2, v3, v4] [] σ Q := by
  refine am_wn rfl ?_
  refine am_wn rfl ?_
  refine am_wn rfl ?_
  refine am_wn rfl ?_
  refine am_wn rfl ?_
  refine am_wn rfl ?_
  refine ar_iald rfl rfl h0 ?_
  refine am_wn rfl ?_
  exact ar_br (c := 99 ≤ (σ 17 z2)) rfl k1 k2
theorem b_60_116 {sc : Int → Int} {σ : St} {Q : Ou → St → Nat → Prop} (z1 : Int) (z2 : Int) (v3 : AV) (v4 : AV) (s1 : Int) (h0 : 0 ≤ z2 ∧ z2 < 15) (h1 : am_R ((σ 17 z2) + 1)) (k : am_wp sc 60 129 [.inr (.inl 1), .inl z1, .inl z2, v3, v4] [.inl ((σ 17 z2) + 1), .inl s1, .inr (.inl 17)] σ Q) : am_wp sc 60 116 [.inr (.inl 1), .inl z1, .inl z2, v3, v4] [.inl s1, .inr (.inl 17)] σ Q := by
  refine am_wn rfl ?_
  refine am_wn rfl ?_
  refine am_wn rfl ?_
  refine ar_iald rfl rfl h0 ?_
  refine am_wn rfl ?_
  refine ar_add rfl h1 ?_
  refine am_wn rfl ?_
  exact k
theorem b_60_127 {sc : Int → Int} {σ : St} {Q : Ou → St → Nat → Prop} (z1 : Int) (z2 : Int) (v3 : AV) (v4 : AV) (s1 : Int) (k : am_wp sc 60 129 [.inr (.inl 1), .inl z1, .inl z2, v3, v4] [.inl 99, .inl s1, .inr (.inl 17)] σ Q) : am_wp sc 60 127 [.inr (.inl 1), .inl z1, .inl z2, v3, v4] [.inl s1, .inr (.inl 17)] σ Q := by
  refine am_wn rfl ?_
  exact k
theorem b_60_129 {sc : Int → Int} {σ : St} {Q : Ou → St → Nat → Prop} (z1 : Int) (z2 : Int) (v3 : AV) (v4 : AV) (s1 : Int) (s2 : Int) (h0 : 0 ≤ s1 ∧ s1 < 15) (k : am_wp sc 60 130 [.inr (.inl 1), .inl z1, .inl z2, v3, v4] [] (am_up σ 17 s1 s2) Q) : am_wp sc 60 129 [.inr (.inl 1), .inl z1, .inl z2, v3, v4] [.inl s2, .inl s1, .inr (.inl 17)] σ Q := by
  refine ar_iast rfl rfl h0 ?_
  exact k
theorem b_60_130 {sc : Int → Int} {σ : St} {Q : Ou → St → Nat → Prop} (z1 : Int) (z2 : Int) (v3 : AV) (v4 : AV) (h0 : am_R (z2 + 1)) (k : am_wp sc 60 44 [.inr (.inl 1), .inl z1, .inl (z2 + 1), v3, v4] [] σ Q) : am_wp sc 60 130 [.inr (.inl 1), .inl z1, .inl z2, v3, v4] [] σ Q := by
  refine ar_inc (L' := [.inr (.inl 1), .inl z1, .inl (z2 + 1), v3, v4]) rfl rfl h0 rfl ?_
  refine am_wn rfl ?_
  exact k
theorem b_60_136 {sc : Int → Int} {σ : St} {Q : Ou → St → Nat → Prop} (z1 : Int) (z2 : Int) (v3 : AV) (v4 : AV) (k : am_wp sc 60 140 [.inr (.inl 1), .inl z1, .inl 0, .inl 0, v4] [] σ Q) : am_wp sc 60 136 [.inr (.inl 1), .inl z1, .inl z2, v3, v4] [] σ Q := by
  refine am_wn rfl ?_
  refine am_wn rfl ?_
  refine am_wn rfl ?_
  refine am_wn rfl ?_
  exact k
theorem b_60_140 {sc : Int → Int} {σ : St} {Q : Ou → St → Nat → Prop} (z1 : Int) (z2 : Int) (z3 : Int) (v4 : AV) (k1 : ((σ 41 0) ≤ z3) → am_wp sc 60 197 [.inr (.inl 1), .inl z1, .inl z2, .inl z3, v4] [] σ Q) (k2 : ¬ ((σ 41 0) ≤ z3) → am_wp sc 60 148 [.inr (.inl 1), .inl z1, .inl z2, .inl z3, v4] [] σ Q) : am_wp sc 60 140 [.inr (.inl 1), .inl z1, .inl z2, .inl z3, v4] [] σ Q := by
  refine am_wn rfl ?_
  refine am_wn rfl ?_
  refine am_wn rfl ?_
  exact ar_br (c := (σ 41 0) ≤ z3) rfl k1 k2
theorem b_60_148 {sc : Int → Int} {σ : St} {Q : Ou → St → Nat → Prop} (z1 : Int) (z2 : Int) (z3 : Int) (v4 : AV) (h0 : 0 ≤ z3 ∧ z3 < 15) (h1 : 0 ≤ (σ 14 z3) ∧ (σ 14 z3) < 15) (h2 : 0 ≤ (σ 14 z3) ∧ (σ 14 z3) < 15) (h3 : (σ 23 (σ 14 z3)) = 0 ∨ (σ 23 (σ 14 z3)) = 1) (h4 : 0 ≤ (σ 14 z3) ∧ (σ 14 z3) < 15) (k1 : ((σ 23 (σ 14 z3)) = 0) → am_wp sc 60 191 [.inr (.inl 1), .inl z1, .inl z2, .inl z3, .inl (σ 14 z3)] [] (am_up σ 15 (σ 14 z3) (σ 23 (σ 14 z3))) Q) (k2 : ¬ ((σ 23 (σ 14 z3)) = 0) → am_wp sc 60 180 [.inr (.inl 1), .inl z1, .inl z2, .inl z3, .inl (σ 14 z3)] [] (am_up σ 15 (σ 14 z3) (σ 23 (σ 14 z3))) Q) : am_wp sc 60 148 [.inr (.inl 1), .inl z1, .inl z2, .inl z3, v4] [] σ Q := by
  refine am_wn rfl ?_
  refine am_wn rfl ?_
  refine am_wn rfl ?_
  refine ar_iald rfl rfl h0 ?_
  refine am_wn rfl ?_
  refine am_wn rfl ?_
  refine am_wn rfl ?_
  refine am_wn rfl ?_
  refine am_wn rfl ?_
  refine am_wn rfl ?_
  refine am_wn rfl ?_
  refine ar_bald rfl rfl h1 ?_
  refine ar_bast rfl rfl h2 h3 ?_
  refine am_wn rfl ?_
  refine am_wn rfl ?_
  refine am_wn rfl ?_
  refine ar_bald rfl rfl h4 ?_
  exact ar_br (c := (σ 23 (σ 14 z3)) = 0) rfl k1 k2
theorem b_60_180 {sc : Int → Int} {σ : St} {Q : Ou → St → Nat → Prop} (z1 : Int) (z2 : Int) (z3 : Int) (z4 : Int) (h0 : 0 ≤ z2 ∧ z2 < 15) (h1 : am_R (z2 + 1)) (k : am_wp sc 60 191 [.inr (.inl 1), .inl z1, .inl (z2 + 1), .inl z3, .inl z4] [] (am_up σ 14 z2 z4) Q) : am_wp sc 60 180 [.inr (.inl 1), .inl z1, .inl z2, .inl z3, .inl z4] [] σ Q := by
  refine am_wn rfl ?_
  refine am_wn rfl ?_
  refine am_wn rfl ?_
  refine am_wn rfl ?_
  refine ar_iast rfl rfl h0 ?_
  refine ar_inc (L' := [.inr (.inl 1), .inl z1, .inl (z2 + 1), .inl z3, .inl z4]) rfl rfl h1 rfl ?_
  exact k
theorem b_60_191 {sc : Int → Int} {σ : St} {Q : Ou → St → Nat → Prop} (z1 : Int) (z2 : Int) (z3 : Int) (z4 : Int) (h0 : am_R (z3 + 1)) (k : am_wp sc 60 140 [.inr (.inl 1), .inl z1, .inl z2, .inl (z3 + 1), .inl z4] [] σ Q) : am_wp sc 60 191 [.inr (.inl 1), .inl z1, .inl z2, .inl z3, .inl z4] [] σ Q := by
  refine ar_inc (L' := [.inr (.inl 1), .inl z1, .inl z2, .inl (z3 + 1), .inl z4]) rfl rfl h0 rfl ?_
  refine am_wn rfl ?_
  exact k
theorem b_60_197 {sc : Int → Int} {σ : St} {Q : Ou → St → Nat → Prop} (z1 : Int) (z2 : Int) (z3 : Int) (v4 : AV) (h0 : am_R ((σ 44 0) + 1)) (k : am_wp sc 56 0 [.inr (.inl 1), .inl 0, .inr (.inr 0), .inr (.inr 0)] [] (am_up (am_up σ 41 0 z2) 44 0 ((σ 44 0) + 1)) (am_bk sc 60 215 [.inr (.inl 1), .inl z1, .inl z2, .inl z3, v4] [.inl z1] Q)) : am_wp sc 60 197 [.inr (.inl 1), .inl z1, .inl z2, .inl z3, v4] [] σ Q := by
  refine am_wn rfl ?_
  refine am_wn rfl ?_
  refine am_wn rfl ?_
  refine am_wn rfl ?_
  refine am_wn rfl ?_
  refine am_wn rfl ?_
  refine am_wn rfl ?_
  refine ar_add rfl h0 ?_
  refine am_wn rfl ?_
  refine am_wn rfl ?_
  refine am_wn rfl ?_
  refine am_wn rfl ?_
  exact am_wc rfl (by decide) (by decide) rfl k
theorem b_60_218 {sc : Int → Int} {σ : St} {Q : Ou → St → Nat → Prop} (z1 : Int) (z2 : Int) (z3 : Int) (v4 : AV) (s0 : Int) (s1 : Int) (h0 : am_R (s0 - s1)) (k : Q (.inl (some (s0 - s1))) σ 0) : am_wp sc 60 218 [.inr (.inl 1), .inl z1, .inl z2, .inl z3, v4] [.inl s1, .inl s0] σ Q := by
  refine ar_sub rfl h0 ?_
  exact am_w60 rfl k
/-! SlidingHeapModel.collect -/
theorem b_61_0 {sc : Int → Int} {σ : St} {Q : Ou → St → Nat → Prop}  (k : am_wp sc 60 0 [.inr (.inl 1), .inr (.inr 0), .inr (.inr 0), .inr (.inr 0), .inr (.inr 0)] [] (am_up σ 40 0 0) (am_bk sc 61 6 [.inr (.inl 1)] [] Q)) : am_wp sc 61 0 [.inr (.inl 1)] [] σ Q := by
  refine am_wn rfl ?_
  refine am_wn rfl ?_
  refine am_wn rfl ?_
  refine am_wn rfl ?_
  exact am_wc rfl (by decide) (by decide) rfl k
theorem b_61_9 {sc : Int → Int} {σ : St} {Q : Ou → St → Nat → Prop} (s0 : Int) (k : Q (.inl (some s0)) σ 0) : am_wp sc 61 9 [.inr (.inl 1)] [.inl s0] σ Q := by
  exact am_w60 rfl k
/-! SlidingHeapModel.freeHandle -/
theorem b_62_0 {sc : Int → Int} {σ : St} {Q : Ou → St → Nat → Prop} (v1 : AV) (v2 : AV) (k : am_wp sc 62 5 [.inr (.inl 1), .inl (-1), .inl 14] [] σ Q) : am_wp sc 62 0 [.inr (.inl 1), v1, v2] [] σ Q := by
  refine am_wn rfl ?_
  refine am_wn rfl ?_
  refine am_wn rfl ?_
  refine am_wn rfl ?_
  exact k
theorem b_62_5 {sc : Int → Int} {σ : St} {Q : Ou → St → Nat → Prop} (z1 : Int) (z2 : Int) (k1 : (z2 ≤ 0) → am_wp sc 62 30 [.inr (.inl 1), .inl z1, .inl z2] [] σ Q) (k2 : ¬ (z2 ≤ 0) → am_wp sc 62 9 [.inr (.inl 1), .inl z1, .inl z2] [] σ Q) : am_wp sc 62 5 [.inr (.inl 1), .inl z1, .inl z2] [] σ Q := by
  refine am_wn rfl ?_
  exact ar_br (c := z2 ≤ 0) rfl k1 k2
theorem b_62_9 {sc : Int → Int} {σ : St} {Q : Ou → St → Nat → Prop} (z1 : Int) (z2 : Int) (h0 : 0 ≤ z2 ∧ z2 < 15) (k1 : ((σ 15 z2) = 0) → am_wp sc 62 22 [.inr (.inl 1), .inl z1, .inl z2] [] σ Q) (k2 : ¬ ((σ 15 z2) = 0) → am_wp sc 62 18 [.inr (.inl 1), .inl z1, .inl z2] [] σ Q) : am_wp sc 62 9 [.inr (.inl 1), .inl z1, .inl z2] [] σ Q := by
  refine am_wn rfl ?_
  refine am_wn rfl ?_
  refine am_wn rfl ?_
  refine ar_bald rfl rfl h0 ?_
  exact ar_br (c := (σ 15 z2) = 0) rfl k1 k2
theorem b_62_18 {sc : Int → Int} {σ : St} {Q : Ou → St → Nat → Prop} (z1 : Int) (z2 : Int) (k : am_wp sc 62 23 [.inr (.inl 1), .inl z1, .inl z2] [.inl z1] σ Q) : am_wp sc 62 18 [.inr (.inl 1), .inl z1, .inl z2] [] σ Q := by
  refine am_wn rfl ?_
  refine am_wn rfl ?_
  exact k
theorem b_62_22 {sc : Int → Int} {σ : St} {Q : Ou → St → Nat → Prop} (z1 : Int) (z2 : Int) (k : am_wp sc 62 23 [.inr (.inl 1), .inl z1, .inl z2] [.inl z2] σ Q) : am_wp sc 62 22 [.inr (.inl 1), .inl z1, .inl z2] [] σ Q := by
  refine am_wn rfl ?_
  exact k
theorem b_62_23 {sc : Int → Int} {σ : St} {Q : Ou → St → Nat → Prop} (z1 : Int) (z2 : Int) (s0 : Int) (h0 : am_R (z2 + (-1))) (k : am_wp sc 62 5 [.inr (.inl 1), .inl s0, .inl (z2 + (-1))] [] σ Q) : am_wp sc 62 23 [.inr (.inl 1), .inl z1, .inl z2] [.inl s0] σ Q := by
  refine am_wn rfl ?_
  refine ar_inc (L' := [.inr (.inl 1), .inl s0, .inl (z2 + (-1))]) rfl rfl h0 rfl ?_
  refine am_wn rfl ?_
  exact k
theorem b_62_30 {sc : Int → Int} {σ : St} {Q : Ou → St → Nat → Prop} (z1 : Int) (z2 : Int) (k : Q (.inl (some z1)) σ 0) : am_wp sc 62 30 [.inr (.inl 1), .inl z1, .inl z2] [] σ Q := by
  refine am_wn rfl ?_
  exact am_w60 rfl k
/-! SlidingHeapModel.isRoom -/
theorem b_63_0 {sc : Int → Int} {σ : St} {Q : Ou → St → Nat → Prop} (z1 : Int) (k : am_wp sc 62 0 [.inr (.inl 1), .inr (.inr 0), .inr (.inr 0)] [] σ (am_bk sc 63 1 [.inr (.inl 1), .inl z1] [] Q)) : am_wp sc 63 0 [.inr (.inl 1), .inl z1] [] σ Q := by
  refine am_wn rfl ?_
  exact am_wc rfl (by decide) (by decide) rfl k
theorem b_63_4 {sc : Int → Int} {σ : St} {Q : Ou → St → Nat → Prop} (z1 : Int) (s0 : Int) (k1 : (s0 ≤ 0) → am_wp sc 63 25 [.inr (.inl 1), .inl z1] [] σ Q) (k2 : ¬ (s0 ≤ 0) → am_wp sc 63 7 [.inr (.inl 1), .inl z1] [] σ Q) : am_wp sc 63 4 [.inr (.inl 1), .inl z1] [.inl s0] σ Q := by
  exact ar_br (c := s0 ≤ 0) rfl k1 k2
theorem b_63_7 {sc : Int → Int} {σ : St} {Q : Ou → St → Nat → Prop} (z1 : Int) (k : am_wp sc 56 0 [.inr (.inl 1), .inl 0, .inr (.inr 0), .inr (.inr 0)] [] σ (am_bk sc 63 9 [.inr (.inl 1), .inl z1] [] Q)) : am_wp sc 63 7 [.inr (.inl 1), .inl z1] [] σ Q := by
  refine am_wn rfl ?_
  refine am_wn rfl ?_
  exact am_wc rfl (by decide) (by decide) rfl k
theorem b_63_12 {sc : Int → Int} {σ : St} {Q : Ou → St → Nat → Prop} (z1 : Int) (s0 : Int) (h0 : am_R (s0 + z1)) (h1 : am_R ((s0 + z1) + 2)) (k1 : (90 < ((s0 + z1) + 2)) → am_wp sc 63 25 [.inr (.inl 1), .inl z1] [] σ Q) (k2 : ¬ (90 < ((s0 + z1) + 2)) → am_wp sc 63 21 [.inr (.inl 1), .inl z1] [] σ Q) : am_wp sc 63 12 [.inr (.inl 1), .inl z1] [.inl s0] σ Q := by
  refine am_wn rfl ?_
  refine ar_add rfl h0 ?_
  refine am_wn rfl ?_
  refine ar_add rfl h1 ?_
  refine am_wn rfl ?_
  exact ar_br (c := 90 < ((s0 + z1) + 2)) rfl k1 k2
theorem b_63_21 {sc : Int → Int} {σ : St} {Q : Ou → St → Nat → Prop} (z1 : Int) (k : am_wp sc 63 26 [.inr (.inl 1), .inl z1] [.inl 1] σ Q) : am_wp sc 63 21 [.inr (.inl 1), .inl z1] [] σ Q := by
  refine am_wn rfl ?_
  refine am_wn rfl ?_
  exact k
theorem b_63_25 {sc : Int → Int} {σ : St} {Q : Ou → St → Nat → Prop} (z1 : Int) (k : am_wp sc 63 26 [.inr (.inl 1), .inl z1] [.inl 0] σ Q) : am_wp sc 63 25 [.inr (.inl 1), .inl z1] [] σ Q := by
  refine am_wn rfl ?_
  exact k
theorem b_63_26 {sc : Int → Int} {σ : St} {Q : Ou → St → Nat → Prop} (z1 : Int) (s0 : Int) (h0 : s0 = 0 ∨ s0 = 1) (k : Q (.inl (some s0)) σ 0) : am_wp sc 63 26 [.inr (.inl 1), .inl z1] [.inl s0] σ Q := by
  exact am_w61 rfl h0 k
/-! SlidingHeapModel.wouldBeRoom -/
theorem b_64_0 {sc : Int → Int} {σ : St} {Q : Ou → St → Nat → Prop} (z1 : Int) (k : am_wp sc 55 0 [.inr (.inl 1), .inr (.inr 0)] [] σ (am_bk sc 64 1 [.inr (.inl 1), .inl z1] [] Q)) : am_wp sc 64 0 [.inr (.inl 1), .inl z1] [] σ Q := by
  refine am_wn rfl ?_
  exact am_wc rfl (by decide) (by decide) rfl k
theorem b_64_4 {sc : Int → Int} {σ : St} {Q : Ou → St → Nat → Prop} (z1 : Int) (k : am_wp sc 59 0 [.inr (.inl 1), .inr (.inr 0)] [] σ (am_bk sc 64 5 [.inr (.inl 1), .inl z1] [] Q)) : am_wp sc 64 4 [.inr (.inl 1), .inl z1] [] σ Q := by
  refine am_wn rfl ?_
  exact am_wc rfl (by decide) (by decide) rfl k
theorem b_64_8 {sc : Int → Int} {σ : St} {Q : Ou → St → Nat → Prop} (z1 : Int) (k : am_wp sc 57 0 [.inr (.inl 1), .inr (.inr 0), .inr (.inr 0)] [] σ (am_bk sc 64 9 [.inr (.inl 1), .inl z1] [] Q)) : am_wp sc 64 8 [.inr (.inl 1), .inl z1] [] σ Q := by
  refine am_wn rfl ?_
  exact am_wc rfl (by decide) (by decide) rfl k
theorem b_64_12 {sc : Int → Int} {σ : St} {Q : Ou → St → Nat → Prop} (z1 : Int) (s0 : Int) (k1 : (14 ≤ s0) → am_wp sc 64 35 [.inr (.inl 1), .inl z1] [] σ Q) (k2 : ¬ (14 ≤ s0) → am_wp sc 64 17 [.inr (.inl 1), .inl z1] [] σ Q) : am_wp sc 64 12 [.inr (.inl 1), .inl z1] [.inl s0] σ Q := by
  refine am_wn rfl ?_
  exact ar_br (c := 14 ≤ s0) rfl k1 k2
theorem b_64_17 {sc : Int → Int} {σ : St} {Q : Ou → St → Nat → Prop} (z1 : Int) (k : am_wp sc 56 0 [.inr (.inl 1), .inl 1, .inr (.inr 0), .inr (.inr 0)] [] σ (am_bk sc 64 19 [.inr (.inl 1), .inl z1] [] Q)) : am_wp sc 64 17 [.inr (.inl 1), .inl z1] [] σ Q := by
  refine am_wn rfl ?_
  refine am_wn rfl ?_
  exact am_wc rfl (by decide) (by decide) rfl k
theorem b_64_22 {sc : Int → Int} {σ : St} {Q : Ou → St → Nat → Prop} (z1 : Int) (s0 : Int) (h0 : am_R (s0 + z1)) (h1 : am_R ((s0 + z1) + 2)) (k1 : (90 < ((s0 + z1) + 2)) → am_wp sc 64 35 [.inr (.inl 1), .inl z1] [] σ Q) (k2 : ¬ (90 < ((s0 + z1) + 2)) → am_wp sc 64 31 [.inr (.inl 1), .inl z1] [] σ Q) : am_wp sc 64 22 [.inr (.inl 1), .inl z1] [.inl s0] σ Q := by
  refine am_wn rfl ?_
  refine ar_add rfl h0 ?_
  refine am_wn rfl ?_
  refine ar_add rfl h1 ?_
  refine am_wn rfl ?_
  exact ar_br (c := 90 < ((s0 + z1) + 2)) rfl k1 k2
theorem b_64_31 {sc : Int → Int} {σ : St} {Q : Ou → St → Nat → Prop} (z1 : Int) (k : am_wp sc 64 36 [.inr (.inl 1), .inl z1] [.inl 1] σ Q) : am_wp sc 64 31 [.inr (.inl 1), .inl z1] [] σ Q := by
  refine am_wn rfl ?_
  refine am_wn rfl ?_
  exact k
theorem b_64_35 {sc : Int → Int} {σ : St} {Q : Ou → St → Nat → Prop} (z1 : Int) (k : am_wp sc 64 36 [.inr (.inl 1), .inl z1] [.inl 0] σ Q) : am_wp sc 64 35 [.inr (.inl 1), .inl z1] [] σ Q := by
  refine am_wn rfl ?_
  exact k
theorem b_64_36 {sc : Int → Int} {σ : St} {Q : Ou → St → Nat → Prop} (z1 : Int) (s0 : Int) (h0 : s0 = 0 ∨ s0 = 1) (k : Q (.inl (some s0)) σ 0) : am_wp sc 64 36 [.inr (.inl 1), .inl z1] [.inl s0] σ Q := by
  exact am_w61 rfl h0 k
/-! SlidingHeapModel.alloc -/
theorem b_65_0 {sc : Int → Int} {σ : St} {Q : Ou → St → Nat → Prop} (z1 : Int) (v2 : AV) (v3 : AV) (v4 : AV) (k1 : (z1 < 0) → am_wp sc 65 14 [.inr (.inl 1), .inl z1, v2, v3, v4] [] σ Q) (k2 : ¬ (z1 < 0) → am_wp sc 65 4 [.inr (.inl 1), .inl z1, v2, v3, v4] [] σ Q) : am_wp sc 65 0 [.inr (.inl 1), .inl z1, v2, v3, v4] [] σ Q := by
  refine am_wn rfl ?_
  exact ar_br (c := z1 < 0) rfl k1 k2
theorem b_65_4 {sc : Int → Int} {σ : St} {Q : Ou → St → Nat → Prop} (z1 : Int) (v2 : AV) (v3 : AV) (v4 : AV) (k1 : (10 < z1) → am_wp sc 65 14 [.inr (.inl 1), .inl z1, v2, v3, v4] [] σ Q) (k2 : ¬ (10 < z1) → am_wp sc 65 10 [.inr (.inl 1), .inl z1, v2, v3, v4] [] σ Q) : am_wp sc 65 4 [.inr (.inl 1), .inl z1, v2, v3, v4] [] σ Q := by
  refine am_wn rfl ?_
  refine am_wn rfl ?_
  exact ar_br (c := 10 < z1) rfl k1 k2
theorem b_65_10 {sc : Int → Int} {σ : St} {Q : Ou → St → Nat → Prop} (z1 : Int) (v2 : AV) (v3 : AV) (v4 : AV) (k : am_wp sc 65 15 [.inr (.inl 1), .inl z1, v2, v3, v4] [.inl 1] σ Q) : am_wp sc 65 10 [.inr (.inl 1), .inl z1, v2, v3, v4] [] σ Q := by
  refine am_wn rfl ?_
  refine am_wn rfl ?_
  exact k
theorem b_65_14 {sc : Int → Int} {σ : St} {Q : Ou → St → Nat → Prop} (z1 : Int) (v2 : AV) (v3 : AV) (v4 : AV) (k : am_wp sc 65 15 [.inr (.inl 1), .inl z1, v2, v3, v4] [.inl 0] σ Q) : am_wp sc 65 14 [.inr (.inl 1), .inl z1, v2, v3, v4] [] σ Q := by
  refine am_wn rfl ?_
  exact k
theorem b_65_15 {sc : Int → Int} {σ : St} {Q : Ou → St → Nat → Prop} (z1 : Int) (v2 : AV) (v3 : AV) (v4 : AV) (s0 : Int) (k1 : (s0 ≠ 0) → am_wp sc 65 25 [.inr (.inl 1), .inl z1, .inl s0, v3, v4] [.inr (.inl 1)] σ Q) (k2 : ¬ (s0 ≠ 0) → am_wp sc 65 21 [.inr (.inl 1), .inl z1, .inl s0, v3, v4] [.inr (.inl 1)] σ Q) : am_wp sc 65 15 [.inr (.inl 1), .inl z1, v2, v3, v4] [.inl s0] σ Q := by
  refine am_wn rfl ?_
  refine am_wn rfl ?_
  refine am_wn rfl ?_
  exact ar_br (c := s0 ≠ 0) rfl k1 k2
theorem b_65_21 {sc : Int → Int} {σ : St} {Q : Ou → St → Nat → Prop} (z1 : Int) (z2 : Int) (v3 : AV) (v4 : AV) (k : am_wp sc 65 59 [.inr (.inl 1), .inl z1, .inl z2, v3, v4] [.inl 1, .inr (.inl 1)] σ Q) : am_wp sc 65 21 [.inr (.inl 1), .inl z1, .inl z2, v3, v4] [.inr (.inl 1)] σ Q := by
  refine am_wn rfl ?_
  refine am_wn rfl ?_
  exact k
theorem b_65_25 {sc : Int → Int} {σ : St} {Q : Ou → St → Nat → Prop} (z1 : Int) (z2 : Int) (v3 : AV) (v4 : AV) (k1 : ((σ 42 0) ≠ 10) → am_wp sc 65 38 [.inr (.inl 1), .inl z1, .inl z2, v3, v4] [.inr (.inl 1)] σ Q) (k2 : ¬ ((σ 42 0) ≠ 10) → am_wp sc 65 34 [.inr (.inl 1), .inl z1, .inl z2, v3, v4] [.inr (.inl 1)] σ Q) : am_wp sc 65 25 [.inr (.inl 1), .inl z1, .inl z2, v3, v4] [.inr (.inl 1)] σ Q := by
  refine am_wn rfl ?_
  refine am_wn rfl ?_
  refine am_wn rfl ?_
  exact ar_br (c := (σ 42 0) ≠ 10) rfl k1 k2
theorem b_65_34 {sc : Int → Int} {σ : St} {Q : Ou → St → Nat → Prop} (z1 : Int) (z2 : Int) (v3 : AV) (v4 : AV) (k : am_wp sc 65 59 [.inr (.inl 1), .inl z1, .inl z2, v3, v4] [.inl 2, .inr (.inl 1)] σ Q) : am_wp sc 65 34 [.inr (.inl 1), .inl z1, .inl z2, v3, v4] [.inr (.inl 1)] σ Q := by
  refine am_wn rfl ?_
  refine am_wn rfl ?_
  exact k
theorem b_65_38 {sc : Int → Int} {σ : St} {Q : Ou → St → Nat → Prop} (z1 : Int) (z2 : Int) (v3 : AV) (v4 : AV) (k : am_wp sc 63 0 [.inr (.inl 1), .inl z1] [] σ (am_bk sc 65 40 [.inr (.inl 1), .inl z1, .inl z2, v3, v4] [.inr (.inl 1)] Q)) : am_wp sc 65 38 [.inr (.inl 1), .inl z1, .inl z2, v3, v4] [.inr (.inl 1)] σ Q := by
  refine am_wn rfl ?_
  refine am_wn rfl ?_
  exact am_wc rfl (by decide) (by decide) rfl k
theorem b_65_43 {sc : Int → Int} {σ : St} {Q : Ou → St → Nat → Prop} (z1 : Int) (z2 : Int) (v3 : AV) (v4 : AV) (s1 : Int) (k1 : (s1 ≠ 0) → am_wp sc 65 54 [.inr (.inl 1), .inl z1, .inl z2, v3, v4] [.inr (.inl 1)] σ Q) (k2 : ¬ (s1 ≠ 0) → am_wp sc 65 46 [.inr (.inl 1), .inl z1, .inl z2, v3, v4] [.inr (.inl 1)] σ Q) : am_wp sc 65 43 [.inr (.inl 1), .inl z1, .inl z2, v3, v4] [.inl s1, .inr (.inl 1)] σ Q := by
  exact ar_br (c := s1 ≠ 0) rfl k1 k2
theorem b_65_46 {sc : Int → Int} {σ : St} {Q : Ou → St → Nat → Prop} (z1 : Int) (z2 : Int) (v3 : AV) (v4 : AV) (k : am_wp sc 64 0 [.inr (.inl 1), .inl z1] [] σ (am_bk sc 65 48 [.inr (.inl 1), .inl z1, .inl z2, v3, v4] [.inr (.inl 1)] Q)) : am_wp sc 65 46 [.inr (.inl 1), .inl z1, .inl z2, v3, v4] [.inr (.inl 1)] σ Q := by
  refine am_wn rfl ?_
  refine am_wn rfl ?_
  exact am_wc rfl (by decide) (by decide) rfl k
theorem b_65_51 {sc : Int → Int} {σ : St} {Q : Ou → St → Nat → Prop} (z1 : Int) (z2 : Int) (v3 : AV) (v4 : AV) (s1 : Int) (k1 : (s1 = 0) → am_wp sc 65 58 [.inr (.inl 1), .inl z1, .inl z2, v3, v4] [.inr (.inl 1)] σ Q) (k2 : ¬ (s1 = 0) → am_wp sc 65 54 [.inr (.inl 1), .inl z1, .inl z2, v3, v4] [.inr (.inl 1)] σ Q) : am_wp sc 65 51 [.inr (.inl 1), .inl z1, .inl z2, v3, v4] [.inl s1, .inr (.inl 1)] σ Q := by
  exact ar_br (c := s1 = 0) rfl k1 k2
theorem b_65_54 {sc : Int → Int} {σ : St} {Q : Ou → St → Nat → Prop} (z1 : Int) (z2 : Int) (v3 : AV) (v4 : AV) (k : am_wp sc 65 59 [.inr (.inl 1), .inl z1, .inl z2, v3, v4] [.inl 0, .inr (.inl 1)] σ Q) : am_wp sc 65 54 [.inr (.inl 1), .inl z1, .inl z2, v3, v4] [.inr (.inl 1)] σ Q := by
  refine am_wn rfl ?_
  refine am_wn rfl ?_
  exact k
theorem b_65_58 {sc : Int → Int} {σ : St} {Q : Ou → St → Nat → Prop} (z1 : Int) (z2 : Int) (v3 : AV) (v4 : AV) (k : am_wp sc 65 59 [.inr (.inl 1), .inl z1, .inl z2, v3, v4] [.inl 3, .inr (.inl 1)] σ Q) : am_wp sc 65 58 [.inr (.inl 1), .inl z1, .inl z2, v3, v4] [.inr (.inl 1)] σ Q := by
  refine am_wn rfl ?_
  exact k
theorem b_65_59 {sc : Int → Int} {σ : St} {Q : Ou → St → Nat → Prop} (z1 : Int) (z2 : Int) (v3 : AV) (v4 : AV) (s1 : Int) (k : am_wp sc 49 0 [.inr (.inl 1), .inl s1] [] σ (am_bk sc 65 59 [.inr (.inl 1), .inl z1, .inl z2, v3, v4] [] Q)) : am_wp sc 65 59 [.inr (.inl 1), .inl z1, .inl z2, v3, v4] [.inl s1, .inr (.inl 1)] σ Q := by
  exact am_wc rfl (by decide) (by decide) rfl k
theorem b_65_62 {sc : Int → Int} {σ : St} {Q : Ou → St → Nat → Prop} (z1 : Int) (z2 : Int) (v3 : AV) (v4 : AV) (s0 : Int) (k1 : (s0 = 0) → am_wp sc 65 67 [.inr (.inl 1), .inl z1, .inl z2, v3, v4] [] σ Q) (k2 : ¬ (s0 = 0) → am_wp sc 65 65 [.inr (.inl 1), .inl z1, .inl z2, v3, v4] [] σ Q) : am_wp sc 65 62 [.inr (.inl 1), .inl z1, .inl z2, v3, v4] [.inl s0] σ Q := by
  exact ar_br (c := s0 = 0) rfl k1 k2
theorem b_65_65 {sc : Int → Int} {σ : St} {Q : Ou → St → Nat → Prop} (z1 : Int) (z2 : Int) (v3 : AV) (v4 : AV) (k : Q (.inl (some 0)) σ 0) : am_wp sc 65 65 [.inr (.inl 1), .inl z1, .inl z2, v3, v4] [] σ Q := by
  refine am_wn rfl ?_
  exact am_w60 rfl k
theorem b_65_67 {sc : Int → Int} {σ : St} {Q : Ou → St → Nat → Prop} (z1 : Int) (z2 : Int) (v3 : AV) (v4 : AV) (k : am_wp sc 63 0 [.inr (.inl 1), .inl z1] [] σ (am_bk sc 65 69 [.inr (.inl 1), .inl z1, .inl z2, v3, v4] [] Q)) : am_wp sc 65 67 [.inr (.inl 1), .inl z1, .inl z2, v3, v4] [] σ Q := by
  refine am_wn rfl ?_
  refine am_wn rfl ?_
  exact am_wc rfl (by decide) (by decide) rfl k
theorem b_65_72 {sc : Int → Int} {σ : St} {Q : Ou → St → Nat → Prop} (z1 : Int) (z2 : Int) (v3 : AV) (v4 : AV) (s0 : Int) (k1 : (s0 ≠ 0) → am_wp sc 65 80 [.inr (.inl 1), .inl z1, .inl z2, v3, v4] [] σ Q) (k2 : ¬ (s0 ≠ 0) → am_wp sc 65 75 [.inr (.inl 1), .inl z1, .inl z2, v3, v4] [] σ Q) : am_wp sc 65 72 [.inr (.inl 1), .inl z1, .inl z2, v3, v4] [.inl s0] σ Q := by
  exact ar_br (c := s0 ≠ 0) rfl k1 k2
theorem b_65_75 {sc : Int → Int} {σ : St} {Q : Ou → St → Nat → Prop} (z1 : Int) (z2 : Int) (v3 : AV) (v4 : AV) (k : am_wp sc 60 0 [.inr (.inl 1), .inr (.inr 0), .inr (.inr 0), .inr (.inr 0), .inr (.inr 0)] [] σ (am_bk sc 65 76 [.inr (.inl 1), .inl z1, .inl z2, v3, v4] [] Q)) : am_wp sc 65 75 [.inr (.inl 1), .inl z1, .inl z2, v3, v4] [] σ Q := by
  refine am_wn rfl ?_
  exact am_wc rfl (by decide) (by decide) rfl k
theorem b_65_79 {sc : Int → Int} {σ : St} {Q : Ou → St → Nat → Prop} (z1 : Int) (z2 : Int) (v3 : AV) (v4 : AV) (s0 : Int) (k : am_wp sc 65 80 [.inr (.inl 1), .inl z1, .inl z2, v3, v4] [] σ Q) : am_wp sc 65 79 [.inr (.inl 1), .inl z1, .inl z2, v3, v4] [.inl s0] σ Q := by
  refine am_wn rfl ?_
  exact k
theorem b_65_80 {sc : Int → Int} {σ : St} {Q : Ou → St → Nat → Prop} (z1 : Int) (z2 : Int) (v3 : AV) (v4 : AV) (k : am_wp sc 62 0 [.inr (.inl 1), .inr (.inr 0), .inr (.inr 0)] [] σ (am_bk sc 65 81 [.inr (.inl 1), .inl z1, .inl z2, v3, v4] [] Q)) : am_wp sc 65 80 [.inr (.inl 1), .inl z1, .inl z2, v3, v4] [] σ Q := by
  refine am_wn rfl ?_
  exact am_wc rfl (by decide) (by decide) rfl k
theorem b_65_84 {sc : Int → Int} {σ : St} {Q : Ou → St → Nat → Prop} (z1 : Int) (z2 : Int) (v3 : AV) (v4 : AV) (s0 : Int) (h0 : 0 ≤ s0 ∧ s0 < 15) (h1 : 0 ≤ s0 ∧ s0 < 15) (h2 : 0 ≤ s0 ∧ s0 < 15) (h3 : 0 ≤ s0 ∧ s0 < 15) (k : am_wp sc 65 116 [.inr (.inl 1), .inl z1, .inl z2, .inl s0, .inl 0] [] (am_up (am_up (am_up (am_up σ 15 s0 1) 16 s0 z1) 17 s0 0) 18 s0 0) Q) : am_wp sc 65 84 [.inr (.inl 1), .inl z1, .inl z2, v3, v4] [.inl s0] σ Q := by
  refine am_wn rfl ?_
  refine am_wn rfl ?_
  refine am_wn rfl ?_
  refine am_wn rfl ?_
  refine am_wn rfl ?_
  refine ar_bast rfl rfl h0 (Or.inr rfl) ?_
  refine am_wn rfl ?_
  refine am_wn rfl ?_
  refine am_wn rfl ?_
  refine am_wn rfl ?_
  refine ar_iast rfl rfl h1 ?_
  refine am_wn rfl ?_
  refine am_wn rfl ?_
  refine am_wn rfl ?_
  refine am_wn rfl ?_
  refine ar_iast rfl rfl h2 ?_
  refine am_wn rfl ?_
  refine am_wn rfl ?_
  refine am_wn rfl ?_
  refine am_wn rfl ?_
  refine ar_bast rfl rfl h3 (Or.inl rfl) ?_
  refine am_wn rfl ?_
  refine am_wn rfl ?_
  exact k
theorem b_65_116 {sc : Int → Int} {σ : St} {Q : Ou → St → Nat → Prop} (z1 : Int) (z2 : Int) (z3 : Int) (z4 : Int) (k1 : (10 ≤ z4) → am_wp sc 65 155 [.inr (.inl 1), .inl z1, .inl z2, .inl z3, .inl z4] [] σ Q) (k2 : ¬ (10 ≤ z4) → am_wp sc 65 123 [.inr (.inl 1), .inl z1, .inl z2, .inl z3, .inl z4] [] σ Q) : am_wp sc 65 116 [.inr (.inl 1), .inl z1, .inl z2, .inl z3, .inl z4] [] σ Q := by
  refine am_wn rfl ?_
  refine am_wn rfl ?_
  exact ar_br (c := 10 ≤ z4) rfl k1 k2
theorem b_65_123 {sc : Int → Int} {σ : St} {Q : Ou → St → Nat → Prop} (z1 : Int) (z2 : Int) (z3 : Int) (z4 : Int) (h0 : am_R (10 * z3)) (h1 : am_R ((10 * z3) + z4)) (h2 : 0 ≤ ((10 * z3) + z4) ∧ ((10 * z3) + z4) < 150) (h3 : am_R (10 * z3)) (h4 : am_R ((10 * z3) + z4)) (h5 : 0 ≤ ((10 * z3) + z4) ∧ ((10 * z3) + z4) < 150) (h6 : am_R (z4 + 1)) (k : am_wp sc 65 116 [.inr (.inl 1), .inl z1, .inl z2, .inl z3, .inl (z4 + 1)] [] (am_up (am_up σ 19 ((10 * z3) + z4) 0) 20 ((10 * z3) + z4) 0) Q) : am_wp sc 65 123 [.inr (.inl 1), .inl z1, .inl z2, .inl z3, .inl z4] [] σ Q := by
  refine am_wn rfl ?_
  refine am_wn rfl ?_
  refine am_wn rfl ?_
  refine am_wn rfl ?_
  refine ar_mul rfl h0 ?_
  refine am_wn rfl ?_
  refine ar_add rfl h1 ?_
  refine am_wn rfl ?_
  refine ar_iast rfl rfl h2 ?_
  refine am_wn rfl ?_
  refine am_wn rfl ?_
  refine am_wn rfl ?_
  refine am_wn rfl ?_
  refine ar_mul rfl h3 ?_
  refine am_wn rfl ?_
  refine ar_add rfl h4 ?_
  refine am_wn rfl ?_
  refine ar_iast rfl rfl h5 ?_
  refine ar_inc (L' := [.inr (.inl 1), .inl z1, .inl z2, .inl z3, .inl (z4 + 1)]) rfl rfl h6 rfl ?_
  refine am_wn rfl ?_
  exact k
theorem b_65_155 {sc : Int → Int} {σ : St} {Q : Ou → St → Nat → Prop} (z1 : Int) (z2 : Int) (z3 : Int) (z4 : Int) (h0 : 0 ≤ (σ 41 0) ∧ (σ 41 0) < 15) (h1 : am_R ((σ 41 0) + 1)) (h2 : 0 ≤ (σ 42 0) ∧ (σ 42 0) < 10) (h3 : am_R ((σ 42 0) + 1)) (k : Q (.inl (some z3)) (am_up (am_up (am_up (am_up σ 14 (σ 41 0) z3) 41 0 ((σ 41 0) + 1)) 21 (σ 42 0) z3) 42 0 ((σ 42 0) + 1)) 0) : am_wp sc 65 155 [.inr (.inl 1), .inl z1, .inl z2, .inl z3, .inl z4] [] σ Q := by
  refine am_wn rfl ?_
  refine am_wn rfl ?_
  refine am_wn rfl ?_
  refine am_wn rfl ?_
  refine am_wn rfl ?_
  refine ar_iast rfl rfl h0 ?_
  refine am_wn rfl ?_
  refine am_wn rfl ?_
  refine am_wn rfl ?_
  refine am_wn rfl ?_
  refine ar_add rfl h1 ?_
  refine am_wn rfl ?_
  refine am_wn rfl ?_
  refine am_wn rfl ?_
  refine am_wn rfl ?_
  refine am_wn rfl ?_
  refine am_wn rfl ?_
  refine ar_iast rfl rfl h2 ?_
  refine am_wn rfl ?_
  refine am_wn rfl ?_
  refine am_wn rfl ?_
  refine am_wn rfl ?_
  refine ar_add rfl h3 ?_
  refine am_wn rfl ?_
  refine am_wn rfl ?_
  exact am_w60 rfl k
