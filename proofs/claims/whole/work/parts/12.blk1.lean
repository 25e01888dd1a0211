/-! SlidingHeap.setSlot -/
theorem b_24_0 {sc : Int → Int} {σ : St} {Q : Ou → St → Nat → Prop} (z1 : Int) (z2 : Int) (z3 : Int) (z4 : Int) (v5 : AV) (k : am_wp sc 21 0 [.inr (.inl 0), .inl z1] [] σ (am_bk sc 24 2 [.inr (.inl 0), .inl z1, .inl z2, .inl z3, .inl z4, v5] [] Q)) : am_wp sc 24 0 [.inr (.inl 0), .inl z1, .inl z2, .inl z3, .inl z4, v5] [] σ Q := by
  refine am_wn rfl ?_
  refine am_wn rfl ?_
  exact am_wc rfl (by decide) (by decide) rfl k
theorem b_24_5 {sc : Int → Int} {σ : St} {Q : Ou → St → Nat → Prop} (z1 : Int) (z2 : Int) (z3 : Int) (z4 : Int) (v5 : AV) (s0 : Int) (h0 : am_R (s0 + z2)) (h1 : 0 ≤ (s0 + z2) ∧ (s0 + z2) < 90) (h2 : 0 ≤ (s0 + z2) ∧ (s0 + z2) < 90) (k : Q (.inl none) (am_up (am_up σ 3 (s0 + z2) z3) 2 (s0 + z2) z4) 0) : am_wp sc 24 5 [.inr (.inl 0), .inl z1, .inl z2, .inl z3, .inl z4, v5] [.inl s0] σ Q := by
  refine am_wn rfl ?_
  refine ar_add rfl h0 ?_
  refine am_wn rfl ?_
  refine am_wn rfl ?_
  refine am_wn rfl ?_
  refine am_wn rfl ?_
  refine am_wn rfl ?_
  refine ar_iast rfl rfl h1 ?_
  refine am_wn rfl ?_
  refine am_wn rfl ?_
  refine am_wn rfl ?_
  refine am_wn rfl ?_
  refine ar_iast rfl rfl h2 ?_
  exact am_w62 rfl k
/-! SlidingHeap.fits -/
theorem b_25_0 {sc : Int → Int} {σ : St} {Q : Ou → St → Nat → Prop} (z0 : Int) (z1 : Int) (z2 : Int) (k1 : (14 ≤ z1) → am_wp sc 25 20 [.inl z0, .inl z1, .inl z2] [] σ Q) (k2 : ¬ (14 ≤ z1) → am_wp sc 25 6 [.inl z0, .inl z1, .inl z2] [] σ Q) : am_wp sc 25 0 [.inl z0, .inl z1, .inl z2] [] σ Q := by
  refine am_wn rfl ?_
  refine am_wn rfl ?_
  exact ar_br (c := 14 ≤ z1) rfl k1 k2
theorem b_25_6 {sc : Int → Int} {σ : St} {Q : Ou → St → Nat → Prop} (z0 : Int) (z1 : Int) (z2 : Int) (h0 : am_R (z2 + 2)) (h1 : am_R ((z2 + 2) + z0)) (k1 : (90 < ((z2 + 2) + z0)) → am_wp sc 25 20 [.inl z0, .inl z1, .inl z2] [] σ Q) (k2 : ¬ (90 < ((z2 + 2) + z0)) → am_wp sc 25 16 [.inl z0, .inl z1, .inl z2] [] σ Q) : am_wp sc 25 6 [.inl z0, .inl z1, .inl z2] [] σ Q := by
  refine am_wn rfl ?_
  refine am_wn rfl ?_
  refine ar_add rfl h0 ?_
  refine am_wn rfl ?_
  refine ar_add rfl h1 ?_
  refine am_wn rfl ?_
  exact ar_br (c := 90 < ((z2 + 2) + z0)) rfl k1 k2
theorem b_25_16 {sc : Int → Int} {σ : St} {Q : Ou → St → Nat → Prop} (z0 : Int) (z1 : Int) (z2 : Int) (k : am_wp sc 25 21 [.inl z0, .inl z1, .inl z2] [.inl 1] σ Q) : am_wp sc 25 16 [.inl z0, .inl z1, .inl z2] [] σ Q := by
  refine am_wn rfl ?_
  refine am_wn rfl ?_
  exact k
theorem b_25_20 {sc : Int → Int} {σ : St} {Q : Ou → St → Nat → Prop} (z0 : Int) (z1 : Int) (z2 : Int) (k : am_wp sc 25 21 [.inl z0, .inl z1, .inl z2] [.inl 0] σ Q) : am_wp sc 25 20 [.inl z0, .inl z1, .inl z2] [] σ Q := by
  refine am_wn rfl ?_
  exact k
theorem b_25_21 {sc : Int → Int} {σ : St} {Q : Ou → St → Nat → Prop} (z0 : Int) (z1 : Int) (z2 : Int) (s0 : Int) (h0 : s0 = 0 ∨ s0 = 1) (k : Q (.inl (some s0)) σ 0) : am_wp sc 25 21 [.inl z0, .inl z1, .inl z2] [.inl s0] σ Q := by
  exact am_w61 rfl h0 k
/-! SlidingHeap.leastFreeHandle -/
theorem b_26_0 {sc : Int → Int} {σ : St} {Q : Ou → St → Nat → Prop} (v1 : AV) (k : am_wp sc 26 2 [.inr (.inl 0), .inl 1] [] σ Q) : am_wp sc 26 0 [.inr (.inl 0), v1] [] σ Q := by
  refine am_wn rfl ?_
  refine am_wn rfl ?_
  exact k
theorem b_26_2 {sc : Int → Int} {σ : St} {Q : Ou → St → Nat → Prop} (z1 : Int) (k1 : (14 ≤ z1) → am_wp sc 26 24 [.inr (.inl 0), .inl z1] [] σ Q) (k2 : ¬ (14 ≤ z1) → am_wp sc 26 8 [.inr (.inl 0), .inl z1] [] σ Q) : am_wp sc 26 2 [.inr (.inl 0), .inl z1] [] σ Q := by
  refine am_wn rfl ?_
  refine am_wn rfl ?_
  exact ar_br (c := 14 ≤ z1) rfl k1 k2
theorem b_26_8 {sc : Int → Int} {σ : St} {Q : Ou → St → Nat → Prop} (z1 : Int) (h0 : 0 ≤ z1 ∧ z1 < 15) (k1 : ((σ 4 z1) = (-1)) → am_wp sc 26 24 [.inr (.inl 0), .inl z1] [] σ Q) (k2 : ¬ ((σ 4 z1) = (-1)) → am_wp sc 26 18 [.inr (.inl 0), .inl z1] [] σ Q) : am_wp sc 26 8 [.inr (.inl 0), .inl z1] [] σ Q := by
  refine am_wn rfl ?_
  refine am_wn rfl ?_
  refine am_wn rfl ?_
  refine ar_iald rfl rfl h0 ?_
  refine am_wn rfl ?_
  exact ar_br (c := (σ 4 z1) = (-1)) rfl k1 k2
theorem b_26_18 {sc : Int → Int} {σ : St} {Q : Ou → St → Nat → Prop} (z1 : Int) (h0 : am_R (z1 + 1)) (k : am_wp sc 26 2 [.inr (.inl 0), .inl (z1 + 1)] [] σ Q) : am_wp sc 26 18 [.inr (.inl 0), .inl z1] [] σ Q := by
  refine ar_inc (L' := [.inr (.inl 0), .inl (z1 + 1)]) rfl rfl h0 rfl ?_
  refine am_wn rfl ?_
  exact k
theorem b_26_24 {sc : Int → Int} {σ : St} {Q : Ou → St → Nat → Prop} (z1 : Int) (k : Q (.inl (some z1)) σ 0) : am_wp sc 26 24 [.inr (.inl 0), .inl z1] [] σ Q := by
  refine am_wn rfl ?_
  exact am_w60 rfl k
/-! SlidingHeap.place -/
theorem b_27_0 {sc : Int → Int} {σ : St} {Q : Ou → St → Nat → Prop} (z1 : Int) (z2 : Int) (h0 : 0 ≤ z1 ∧ z1 < 15) (h1 : 0 ≤ z1 ∧ z1 < 15) (h2 : 0 ≤ (σ 30 0) ∧ (σ 30 0) < 90) (h3 : am_R ((σ 30 0) + 1)) (h4 : 0 ≤ ((σ 30 0) + 1) ∧ ((σ 30 0) + 1) < 90) (k : am_wp sc 22 0 [.inr (.inl 0), .inl z1] [] (am_up (am_up (am_up (am_up σ 4 z1 (σ 30 0)) 5 z1 z2) 2 (σ 30 0) z2) 2 ((σ 30 0) + 1) z1) (am_bk sc 27 46 [.inr (.inl 0), .inl z1, .inl z2] [.inl (σ 30 0), .inr (.inl 0)] Q)) : am_wp sc 27 0 [.inr (.inl 0), .inl z1, .inl z2] [] σ Q := by
  refine am_wn rfl ?_
  refine am_wn rfl ?_
  refine am_wn rfl ?_
  refine am_wn rfl ?_
  refine am_wn rfl ?_
  refine ar_iast rfl rfl h0 ?_
  refine am_wn rfl ?_
  refine am_wn rfl ?_
  refine am_wn rfl ?_
  refine am_wn rfl ?_
  refine ar_iast rfl rfl h1 ?_
  refine am_wn rfl ?_
  refine am_wn rfl ?_
  refine am_wn rfl ?_
  refine am_wn rfl ?_
  refine am_wn rfl ?_
  refine ar_iast rfl rfl h2 ?_
  refine am_wn rfl ?_
  refine am_wn rfl ?_
  refine am_wn rfl ?_
  refine am_wn rfl ?_
  refine am_wn rfl ?_
  refine ar_add rfl h3 ?_
  refine am_wn rfl ?_
  refine ar_iast rfl rfl h4 ?_
  refine am_wn rfl ?_
  refine am_wn rfl ?_
  refine am_wn rfl ?_
  refine am_wn rfl ?_
  refine am_wn rfl ?_
  exact am_wc rfl (by decide) (by decide) rfl k
theorem b_27_49 {sc : Int → Int} {σ : St} {Q : Ou → St → Nat → Prop} (z1 : Int) (z2 : Int) (s1 : Int) (s2 : Int) (h0 : am_R (s1 + s2)) (h1 : 0 ≤ (σ 31 0) ∧ (σ 31 0) < 14) (h2 : am_R ((σ 31 0) + 1)) (k : Q (.inl none) (am_up (am_up (am_up σ 30 0 (s1 + s2)) 8 (σ 31 0) z1) 31 0 ((σ 31 0) + 1)) 0) : am_wp sc 27 49 [.inr (.inl 0), .inl z1, .inl z2] [.inl s2, .inl s1, .inr (.inl 0)] σ Q := by
  refine ar_add rfl h0 ?_
  refine am_wn rfl ?_
  refine am_wn rfl ?_
  refine am_wn rfl ?_
  refine am_wn rfl ?_
  refine am_wn rfl ?_
  refine am_wn rfl ?_
  refine ar_iast rfl rfl h1 ?_
  refine am_wn rfl ?_
  refine am_wn rfl ?_
  refine am_wn rfl ?_
  refine am_wn rfl ?_
  refine ar_add rfl h2 ?_
  refine am_wn rfl ?_
  exact am_w62 rfl k
/-! SlidingHeap.release -/
theorem b_28_0 {sc : Int → Int} {σ : St} {Q : Ou → St → Nat → Prop} (z1 : Int) (h0 : 0 ≤ z1 ∧ z1 < 15) (h1 : 0 ≤ z1 ∧ z1 < 15) (h2 : 0 ≤ z1 ∧ z1 < 15) (h3 : 0 ≤ z1 ∧ z1 < 15) (k : Q (.inl none) (am_up (am_up (am_up (am_up σ 4 z1 (-1)) 5 z1 0) 6 z1 0) 7 z1 0) 0) : am_wp sc 28 0 [.inr (.inl 0), .inl z1] [] σ Q := by
  refine am_wn rfl ?_
  refine am_wn rfl ?_
  refine am_wn rfl ?_
  refine am_wn rfl ?_
  refine ar_iast rfl rfl h0 ?_
  refine am_wn rfl ?_
  refine am_wn rfl ?_
  refine am_wn rfl ?_
  refine am_wn rfl ?_
  refine ar_iast rfl rfl h1 ?_
  refine am_wn rfl ?_
  refine am_wn rfl ?_
  refine am_wn rfl ?_
  refine am_wn rfl ?_
  refine ar_iast rfl rfl h2 ?_
  refine am_wn rfl ?_
  refine am_wn rfl ?_
  refine am_wn rfl ?_
  refine am_wn rfl ?_
  refine ar_bast rfl rfl h3 (Or.inl rfl) ?_
  exact am_w62 rfl k
/-! SlidingHeap.addRoot -/
theorem b_29_0 {sc : Int → Int} {σ : St} {Q : Ou → St → Nat → Prop} (z1 : Int) (h0 : 0 ≤ (σ 32 0) ∧ (σ 32 0) < 10) (h1 : am_R ((σ 32 0) + 1)) (k : Q (.inl none) (am_up (am_up σ 9 (σ 32 0) z1) 32 0 ((σ 32 0) + 1)) 0) : am_wp sc 29 0 [.inr (.inl 0), .inl z1] [] σ Q := by
  refine am_wn rfl ?_
  refine am_wn rfl ?_
  refine am_wn rfl ?_
  refine am_wn rfl ?_
  refine am_wn rfl ?_
  refine ar_iast rfl rfl h0 ?_
  refine am_wn rfl ?_
  refine am_wn rfl ?_
  refine am_wn rfl ?_
  refine am_wn rfl ?_
  refine ar_add rfl h1 ?_
  refine am_wn rfl ?_
  exact am_w62 rfl k
/-! SlidingHeap.removeFirstQueued -/
theorem b_30_0 {sc : Int → Int} {σ : St} {Q : Ou → St → Nat → Prop} (v1 : AV) (v2 : AV) (h0 : 0 ≤ (0 : Int) ∧ (0 : Int) < 14) (h1 : am_R ((σ 33 0) - 1)) (k : am_wp sc 30 19 [.inr (.inl 0), .inl (σ 10 0), .inl 0] [] (am_up σ 33 0 ((σ 33 0) - 1)) Q) : am_wp sc 30 0 [.inr (.inl 0), v1, v2] [] σ Q := by
  refine am_wn rfl ?_
  refine am_wn rfl ?_
  refine am_wn rfl ?_
  refine ar_iald rfl rfl h0 ?_
  refine am_wn rfl ?_
  refine am_wn rfl ?_
  refine am_wn rfl ?_
  refine am_wn rfl ?_
  refine am_wn rfl ?_
  refine ar_sub rfl h1 ?_
  refine am_wn rfl ?_
  refine am_wn rfl ?_
  refine am_wn rfl ?_
  exact k
theorem b_30_19 {sc : Int → Int} {σ : St} {Q : Ou → St → Nat → Prop} (z1 : Int) (z2 : Int) (k1 : ((σ 33 0) ≤ z2) → am_wp sc 30 47 [.inr (.inl 0), .inl z1, .inl z2] [] σ Q) (k2 : ¬ ((σ 33 0) ≤ z2) → am_wp sc 30 27 [.inr (.inl 0), .inl z1, .inl z2] [] σ Q) : am_wp sc 30 19 [.inr (.inl 0), .inl z1, .inl z2] [] σ Q := by
  refine am_wn rfl ?_
  refine am_wn rfl ?_
  refine am_wn rfl ?_
  exact ar_br (c := (σ 33 0) ≤ z2) rfl k1 k2
theorem b_30_27 {sc : Int → Int} {σ : St} {Q : Ou → St → Nat → Prop} (z1 : Int) (z2 : Int) (h0 : am_R (z2 + 1)) (h1 : 0 ≤ (z2 + 1) ∧ (z2 + 1) < 14) (h2 : 0 ≤ z2 ∧ z2 < 14) (h3 : am_R (z2 + 1)) (k : am_wp sc 30 19 [.inr (.inl 0), .inl z1, .inl (z2 + 1)] [] (am_up σ 10 z2 (σ 10 (z2 + 1))) Q) : am_wp sc 30 27 [.inr (.inl 0), .inl z1, .inl z2] [] σ Q := by
  refine am_wn rfl ?_
  refine am_wn rfl ?_
  refine am_wn rfl ?_
  refine am_wn rfl ?_
  refine am_wn rfl ?_
  refine am_wn rfl ?_
  refine am_wn rfl ?_
  refine ar_add rfl h0 ?_
  refine ar_iald rfl rfl h1 ?_
  refine ar_iast rfl rfl h2 ?_
  refine ar_inc (L' := [.inr (.inl 0), .inl z1, .inl (z2 + 1)]) rfl rfl h3 rfl ?_
  refine am_wn rfl ?_
  exact k
theorem b_30_47 {sc : Int → Int} {σ : St} {Q : Ou → St → Nat → Prop} (z1 : Int) (z2 : Int) (k : Q (.inl (some z1)) σ 0) : am_wp sc 30 47 [.inr (.inl 0), .inl z1, .inl z2] [] σ Q := by
  refine am_wn rfl ?_
  exact am_w60 rfl k
/-! SlidingHeap.markLive -/
theorem b_31_0 {sc : Int → Int} {σ : St} {Q : Ou → St → Nat → Prop} (v1 : AV) (k : am_wp sc 31 2 [.inr (.inl 0), .inl 1] [] σ Q) : am_wp sc 31 0 [.inr (.inl 0), v1] [] σ Q := by
  refine am_wn rfl ?_
  refine am_wn rfl ?_
  exact k
theorem b_31_2 {sc : Int → Int} {σ : St} {Q : Ou → St → Nat → Prop} (z1 : Int) (k1 : (14 < z1) → am_wp sc 31 21 [.inr (.inl 0), .inl z1] [] σ Q) (k2 : ¬ (14 < z1) → am_wp sc 31 8 [.inr (.inl 0), .inl z1] [] σ Q) : am_wp sc 31 2 [.inr (.inl 0), .inl z1] [] σ Q := by
  refine am_wn rfl ?_
  refine am_wn rfl ?_
  exact ar_br (c := 14 < z1) rfl k1 k2
theorem b_31_8 {sc : Int → Int} {σ : St} {Q : Ou → St → Nat → Prop} (z1 : Int) (h0 : 0 ≤ z1 ∧ z1 < 15) (h1 : am_R (z1 + 1)) (k : am_wp sc 31 2 [.inr (.inl 0), .inl (z1 + 1)] [] (am_up σ 11 z1 0) Q) : am_wp sc 31 8 [.inr (.inl 0), .inl z1] [] σ Q := by
  refine am_wn rfl ?_
  refine am_wn rfl ?_
  refine am_wn rfl ?_
  refine am_wn rfl ?_
  refine ar_bast rfl rfl h0 (Or.inl rfl) ?_
  refine ar_inc (L' := [.inr (.inl 0), .inl (z1 + 1)]) rfl rfl h1 rfl ?_
  refine am_wn rfl ?_
  exact k
theorem b_31_21 {sc : Int → Int} {σ : St} {Q : Ou → St → Nat → Prop} (z1 : Int) (k : am_wp sc 31 28 [.inr (.inl 0), .inl 0] [] (am_up σ 35 0 0) Q) : am_wp sc 31 21 [.inr (.inl 0), .inl z1] [] σ Q := by
  refine am_wn rfl ?_
  refine am_wn rfl ?_
  refine am_wn rfl ?_
  refine am_wn rfl ?_
  refine am_wn rfl ?_
  exact k
theorem b_31_28 {sc : Int → Int} {σ : St} {Q : Ou → St → Nat → Prop} (z1 : Int) (k1 : ((σ 32 0) ≤ z1) → am_wp sc 31 52 [.inr (.inl 0), .inl z1] [] σ Q) (k2 : ¬ ((σ 32 0) ≤ z1) → am_wp sc 31 36 [.inr (.inl 0), .inl z1] [] σ Q) : am_wp sc 31 28 [.inr (.inl 0), .inl z1] [] σ Q := by
  refine am_wn rfl ?_
  refine am_wn rfl ?_
  refine am_wn rfl ?_
  exact ar_br (c := (σ 32 0) ≤ z1) rfl k1 k2
theorem b_31_36 {sc : Int → Int} {σ : St} {Q : Ou → St → Nat → Prop} (z1 : Int) (h0 : 0 ≤ z1 ∧ z1 < 10) (k : am_wp sc 33 0 [.inr (.inl 0), .inl (σ 9 z1)] [] σ (am_bk sc 31 43 [.inr (.inl 0), .inl z1] [] Q)) : am_wp sc 31 36 [.inr (.inl 0), .inl z1] [] σ Q := by
  refine am_wn rfl ?_
  refine am_wn rfl ?_
  refine am_wn rfl ?_
  refine am_wn rfl ?_
  refine ar_iald rfl rfl h0 ?_
  exact am_wc rfl (by decide) (by decide) rfl k
theorem b_31_46 {sc : Int → Int} {σ : St} {Q : Ou → St → Nat → Prop} (z1 : Int) (h0 : am_R (z1 + 1)) (k : am_wp sc 31 28 [.inr (.inl 0), .inl (z1 + 1)] [] σ Q) : am_wp sc 31 46 [.inr (.inl 0), .inl z1] [] σ Q := by
  refine ar_inc (L' := [.inr (.inl 0), .inl (z1 + 1)]) rfl rfl h0 rfl ?_
  refine am_wn rfl ?_
  exact k
theorem b_31_52 {sc : Int → Int} {σ : St} {Q : Ou → St → Nat → Prop} (z1 : Int) (k : am_wp sc 31 54 [.inr (.inl 0), .inl 0] [] σ Q) : am_wp sc 31 52 [.inr (.inl 0), .inl z1] [] σ Q := by
  refine am_wn rfl ?_
  refine am_wn rfl ?_
  exact k
theorem b_31_54 {sc : Int → Int} {σ : St} {Q : Ou → St → Nat → Prop} (z1 : Int) (k1 : ((σ 33 0) ≤ z1) → am_wp sc 31 78 [.inr (.inl 0), .inl z1] [] σ Q) (k2 : ¬ ((σ 33 0) ≤ z1) → am_wp sc 31 62 [.inr (.inl 0), .inl z1] [] σ Q) : am_wp sc 31 54 [.inr (.inl 0), .inl z1] [] σ Q := by
  refine am_wn rfl ?_
  refine am_wn rfl ?_
  refine am_wn rfl ?_
  exact ar_br (c := (σ 33 0) ≤ z1) rfl k1 k2
theorem b_31_62 {sc : Int → Int} {σ : St} {Q : Ou → St → Nat → Prop} (z1 : Int) (h0 : 0 ≤ z1 ∧ z1 < 14) (k : am_wp sc 33 0 [.inr (.inl 0), .inl (σ 10 z1)] [] σ (am_bk sc 31 69 [.inr (.inl 0), .inl z1] [] Q)) : am_wp sc 31 62 [.inr (.inl 0), .inl z1] [] σ Q := by
  refine am_wn rfl ?_
  refine am_wn rfl ?_
  refine am_wn rfl ?_
  refine am_wn rfl ?_
  refine ar_iald rfl rfl h0 ?_
  exact am_wc rfl (by decide) (by decide) rfl k
theorem b_31_72 {sc : Int → Int} {σ : St} {Q : Ou → St → Nat → Prop} (z1 : Int) (h0 : am_R (z1 + 1)) (k : am_wp sc 31 54 [.inr (.inl 0), .inl (z1 + 1)] [] σ Q) : am_wp sc 31 72 [.inr (.inl 0), .inl z1] [] σ Q := by
  refine ar_inc (L' := [.inr (.inl 0), .inl (z1 + 1)]) rfl rfl h0 rfl ?_
  refine am_wn rfl ?_
  exact k
theorem b_31_78 {sc : Int → Int} {σ : St} {Q : Ou → St → Nat → Prop} (z1 : Int) (k : am_wp sc 34 0 [.inr (.inl 0), .inr (.inr 0), .inr (.inr 0), .inr (.inr 0)] [] σ (am_bk sc 31 79 [.inr (.inl 0), .inl z1] [] Q)) : am_wp sc 31 78 [.inr (.inl 0), .inl z1] [] σ Q := by
  refine am_wn rfl ?_
  exact am_wc rfl (by decide) (by decide) rfl k
theorem b_31_82 {sc : Int → Int} {σ : St} {Q : Ou → St → Nat → Prop} (z1 : Int) (k : Q (.inl none) σ 0) : am_wp sc 31 82 [.inr (.inl 0), .inl z1] [] σ Q := by
  exact am_w62 rfl k
/-! SlidingHeap.markSurvivors -/
theorem b_32_0 {sc : Int → Int} {σ : St} {Q : Ou → St → Nat → Prop} (v1 : AV) (k : am_wp sc 31 0 [.inr (.inl 0), .inr (.inr 0)] [] σ (am_bk sc 32 1 [.inr (.inl 0), v1] [] Q)) : am_wp sc 32 0 [.inr (.inl 0), v1] [] σ Q := by
  refine am_wn rfl ?_
  exact am_wc rfl (by decide) (by decide) rfl k
theorem b_32_4 {sc : Int → Int} {σ : St} {Q : Ou → St → Nat → Prop} (v1 : AV) (k : am_wp sc 32 6 [.inr (.inl 0), .inl 1] [] σ Q) : am_wp sc 32 4 [.inr (.inl 0), v1] [] σ Q := by
  refine am_wn rfl ?_
  refine am_wn rfl ?_
  exact k
theorem b_32_6 {sc : Int → Int} {σ : St} {Q : Ou → St → Nat → Prop} (z1 : Int) (k1 : (14 < z1) → am_wp sc 32 32 [.inr (.inl 0), .inl z1] [] σ Q) (k2 : ¬ (14 < z1) → am_wp sc 32 12 [.inr (.inl 0), .inl z1] [] σ Q) : am_wp sc 32 6 [.inr (.inl 0), .inl z1] [] σ Q := by
  refine am_wn rfl ?_
  refine am_wn rfl ?_
  exact ar_br (c := 14 < z1) rfl k1 k2
theorem b_32_12 {sc : Int → Int} {σ : St} {Q : Ou → St → Nat → Prop} (z1 : Int) (h0 : 0 ≤ z1 ∧ z1 < 15) (k1 : ((σ 7 z1) = 0) → am_wp sc 32 26 [.inr (.inl 0), .inl z1] [] σ Q) (k2 : ¬ ((σ 7 z1) = 0) → am_wp sc 32 21 [.inr (.inl 0), .inl z1] [] σ Q) : am_wp sc 32 12 [.inr (.inl 0), .inl z1] [] σ Q := by
  refine am_wn rfl ?_
  refine am_wn rfl ?_
  refine am_wn rfl ?_
  refine ar_bald rfl rfl h0 ?_
  exact ar_br (c := (σ 7 z1) = 0) rfl k1 k2
theorem b_32_21 {sc : Int → Int} {σ : St} {Q : Ou → St → Nat → Prop} (z1 : Int) (k : am_wp sc 33 0 [.inr (.inl 0), .inl z1] [] σ (am_bk sc 32 23 [.inr (.inl 0), .inl z1] [] Q)) : am_wp sc 32 21 [.inr (.inl 0), .inl z1] [] σ Q := by
  refine am_wn rfl ?_
  refine am_wn rfl ?_
  exact am_wc rfl (by decide) (by decide) rfl k
theorem b_32_26 {sc : Int → Int} {σ : St} {Q : Ou → St → Nat → Prop} (z1 : Int) (h0 : am_R (z1 + 1)) (k : am_wp sc 32 6 [.inr (.inl 0), .inl (z1 + 1)] [] σ Q) : am_wp sc 32 26 [.inr (.inl 0), .inl z1] [] σ Q := by
  refine ar_inc (L' := [.inr (.inl 0), .inl (z1 + 1)]) rfl rfl h0 rfl ?_
  refine am_wn rfl ?_
  exact k
theorem b_32_32 {sc : Int → Int} {σ : St} {Q : Ou → St → Nat → Prop} (z1 : Int) (k : am_wp sc 34 0 [.inr (.inl 0), .inr (.inr 0), .inr (.inr 0), .inr (.inr 0)] [] σ (am_bk sc 32 33 [.inr (.inl 0), .inl z1] [] Q)) : am_wp sc 32 32 [.inr (.inl 0), .inl z1] [] σ Q := by
  refine am_wn rfl ?_
  exact am_wc rfl (by decide) (by decide) rfl k
theorem b_32_36 {sc : Int → Int} {σ : St} {Q : Ou → St → Nat → Prop} (z1 : Int) (k : Q (.inl none) σ 0) : am_wp sc 32 36 [.inr (.inl 0), .inl z1] [] σ Q := by
  exact am_w62 rfl k
/-! SlidingHeap.mark -/
theorem b_33_0 {sc : Int → Int} {σ : St} {Q : Ou → St → Nat → Prop} (z1 : Int) (k : am_wp sc 20 0 [.inr (.inl 0), .inl z1] [] σ (am_bk sc 33 2 [.inr (.inl 0), .inl z1] [] Q)) : am_wp sc 33 0 [.inr (.inl 0), .inl z1] [] σ Q := by
  refine am_wn rfl ?_
  refine am_wn rfl ?_
  exact am_wc rfl (by decide) (by decide) rfl k
theorem b_33_5 {sc : Int → Int} {σ : St} {Q : Ou → St → Nat → Prop} (z1 : Int) (s0 : Int) (k1 : (s0 = 0) → am_wp sc 33 44 [.inr (.inl 0), .inl z1] [] σ Q) (k2 : ¬ (s0 = 0) → am_wp sc 33 8 [.inr (.inl 0), .inl z1] [] σ Q) : am_wp sc 33 5 [.inr (.inl 0), .inl z1] [.inl s0] σ Q := by
  exact ar_br (c := s0 = 0) rfl k1 k2
theorem b_33_8 {sc : Int → Int} {σ : St} {Q : Ou → St → Nat → Prop} (z1 : Int) (h0 : 0 ≤ z1 ∧ z1 < 15) (k1 : ((σ 11 z1) ≠ 0) → am_wp sc 33 44 [.inr (.inl 0), .inl z1] [] σ Q) (k2 : ¬ ((σ 11 z1) ≠ 0) → am_wp sc 33 17 [.inr (.inl 0), .inl z1] [] σ Q) : am_wp sc 33 8 [.inr (.inl 0), .inl z1] [] σ Q := by
  refine am_wn rfl ?_
  refine am_wn rfl ?_
  refine am_wn rfl ?_
  refine ar_bald rfl rfl h0 ?_
  exact ar_br (c := (σ 11 z1) ≠ 0) rfl k1 k2
theorem b_33_17 {sc : Int → Int} {σ : St} {Q : Ou → St → Nat → Prop} (z1 : Int) (h0 : 0 ≤ z1 ∧ z1 < 15) (h1 : 0 ≤ (σ 35 0) ∧ (σ 35 0) < 14) (h2 : am_R ((σ 35 0) + 1)) (k : am_wp sc 33 44 [.inr (.inl 0), .inl z1] [] (am_up (am_up (am_up σ 11 z1 1) 12 (σ 35 0) z1) 35 0 ((σ 35 0) + 1)) Q) : am_wp sc 33 17 [.inr (.inl 0), .inl z1] [] σ Q := by
  refine am_wn rfl ?_
  refine am_wn rfl ?_
  refine am_wn rfl ?_
  refine am_wn rfl ?_
  refine ar_bast rfl rfl h0 (Or.inr rfl) ?_
  refine am_wn rfl ?_
  refine am_wn rfl ?_
  refine am_wn rfl ?_
  refine am_wn rfl ?_
  refine am_wn rfl ?_
  refine ar_iast rfl rfl h1 ?_
  refine am_wn rfl ?_
  refine am_wn rfl ?_
  refine am_wn rfl ?_
  refine am_wn rfl ?_
  refine ar_add rfl h2 ?_
  refine am_wn rfl ?_
  exact k
theorem b_33_44 {sc : Int → Int} {σ : St} {Q : Ou → St → Nat → Prop} (z1 : Int) (k : Q (.inl none) σ 0) : am_wp sc 33 44 [.inr (.inl 0), .inl z1] [] σ Q := by
  exact am_w62 rfl k
/-! SlidingHeap.spreadMarks -/
theorem b_34_0 {sc : Int → Int} {σ : St} {Q : Ou → St → Nat → Prop} (v1 : AV) (v2 : AV) (v3 : AV) (k : am_wp sc 34 2 [.inr (.inl 0), .inl 0, v2, v3] [] σ Q) : am_wp sc 34 0 [.inr (.inl 0), v1, v2, v3] [] σ Q := by
  refine am_wn rfl ?_
  refine am_wn rfl ?_
  exact k
theorem b_34_2 {sc : Int → Int} {σ : St} {Q : Ou → St → Nat → Prop} (z1 : Int) (v2 : AV) (v3 : AV) (k1 : (14 ≤ z1) → am_wp sc 34 70 [.inr (.inl 0), .inl z1, v2, v3] [] σ Q) (k2 : ¬ (14 ≤ z1) → am_wp sc 34 8 [.inr (.inl 0), .inl z1, v2, v3] [] σ Q) : am_wp sc 34 2 [.inr (.inl 0), .inl z1, v2, v3] [] σ Q := by
  refine am_wn rfl ?_
  refine am_wn rfl ?_
  exact ar_br (c := 14 ≤ z1) rfl k1 k2
theorem b_34_8 {sc : Int → Int} {σ : St} {Q : Ou → St → Nat → Prop} (z1 : Int) (v2 : AV) (v3 : AV) (k1 : ((σ 35 0) ≤ z1) → am_wp sc 34 70 [.inr (.inl 0), .inl z1, v2, v3] [] σ Q) (k2 : ¬ ((σ 35 0) ≤ z1) → am_wp sc 34 16 [.inr (.inl 0), .inl z1, v2, v3] [] σ Q) : am_wp sc 34 8 [.inr (.inl 0), .inl z1, v2, v3] [] σ Q := by
  refine am_wn rfl ?_
  refine am_wn rfl ?_
  refine am_wn rfl ?_
  exact ar_br (c := (σ 35 0) ≤ z1) rfl k1 k2
theorem b_34_16 {sc : Int → Int} {σ : St} {Q : Ou → St → Nat → Prop} (z1 : Int) (v2 : AV) (v3 : AV) (h0 : 0 ≤ z1 ∧ z1 < 14) (k : am_wp sc 21 0 [.inr (.inl 0), .inl (σ 12 z1)] [] σ (am_bk sc 34 25 [.inr (.inl 0), .inl z1, .inl (σ 12 z1), v3] [] Q)) : am_wp sc 34 16 [.inr (.inl 0), .inl z1, v2, v3] [] σ Q := by
  refine am_wn rfl ?_
  refine am_wn rfl ?_
  refine am_wn rfl ?_
  refine ar_iald rfl rfl h0 ?_
  refine am_wn rfl ?_
  refine am_wn rfl ?_
  refine am_wn rfl ?_
  exact am_wc rfl (by decide) (by decide) rfl k
theorem b_34_28 {sc : Int → Int} {σ : St} {Q : Ou → St → Nat → Prop} (z1 : Int) (z2 : Int) (v3 : AV) (s0 : Int) (k : am_wp sc 34 29 [.inr (.inl 0), .inl z1, .inl z2, .inl s0] [] σ Q) : am_wp sc 34 28 [.inr (.inl 0), .inl z1, .inl z2, v3] [.inl s0] σ Q := by
  refine am_wn rfl ?_
  exact k
theorem b_34_29 {sc : Int → Int} {σ : St} {Q : Ou → St → Nat → Prop} (z1 : Int) (z2 : Int) (z3 : Int) (k : am_wp sc 23 0 [.inr (.inl 0), .inl z2] [] σ (am_bk sc 34 32 [.inr (.inl 0), .inl z1, .inl z2, .inl z3] [.inl z3] Q)) : am_wp sc 34 29 [.inr (.inl 0), .inl z1, .inl z2, .inl z3] [] σ Q := by
  refine am_wn rfl ?_
  refine am_wn rfl ?_
  refine am_wn rfl ?_
  exact am_wc rfl (by decide) (by decide) rfl k
theorem b_34_35 {sc : Int → Int} {σ : St} {Q : Ou → St → Nat → Prop} (z1 : Int) (z2 : Int) (z3 : Int) (s0 : Int) (s1 : Int) (k1 : (s1 ≤ s0) → am_wp sc 34 64 [.inr (.inl 0), .inl z1, .inl z2, .inl z3] [] σ Q) (k2 : ¬ (s1 ≤ s0) → am_wp sc 34 38 [.inr (.inl 0), .inl z1, .inl z2, .inl z3] [] σ Q) : am_wp sc 34 35 [.inr (.inl 0), .inl z1, .inl z2, .inl z3] [.inl s1, .inl s0] σ Q := by
  exact ar_br (c := s1 ≤ s0) rfl k1 k2
theorem b_34_38 {sc : Int → Int} {σ : St} {Q : Ou → St → Nat → Prop} (z1 : Int) (z2 : Int) (z3 : Int) (h0 : 0 ≤ z3 ∧ z3 < 90) (k1 : ((σ 3 z3) ≠ 1) → am_wp sc 34 58 [.inr (.inl 0), .inl z1, .inl z2, .inl z3] [] σ Q) (k2 : ¬ ((σ 3 z3) ≠ 1) → am_wp sc 34 48 [.inr (.inl 0), .inl z1, .inl z2, .inl z3] [] σ Q) : am_wp sc 34 38 [.inr (.inl 0), .inl z1, .inl z2, .inl z3] [] σ Q := by
  refine am_wn rfl ?_
  refine am_wn rfl ?_
  refine am_wn rfl ?_
  refine ar_iald rfl rfl h0 ?_
  refine am_wn rfl ?_
  exact ar_br (c := (σ 3 z3) ≠ 1) rfl k1 k2
theorem b_34_48 {sc : Int → Int} {σ : St} {Q : Ou → St → Nat → Prop} (z1 : Int) (z2 : Int) (z3 : Int) (h0 : 0 ≤ z3 ∧ z3 < 90) (k : am_wp sc 33 0 [.inr (.inl 0), .inl (σ 2 z3)] [] σ (am_bk sc 34 55 [.inr (.inl 0), .inl z1, .inl z2, .inl z3] [] Q)) : am_wp sc 34 48 [.inr (.inl 0), .inl z1, .inl z2, .inl z3] [] σ Q := by
  refine am_wn rfl ?_
  refine am_wn rfl ?_
  refine am_wn rfl ?_
  refine am_wn rfl ?_
  refine ar_iald rfl rfl h0 ?_
  exact am_wc rfl (by decide) (by decide) rfl k
theorem b_34_58 {sc : Int → Int} {σ : St} {Q : Ou → St → Nat → Prop} (z1 : Int) (z2 : Int) (z3 : Int) (h0 : am_R (z3 + 1)) (k : am_wp sc 34 29 [.inr (.inl 0), .inl z1, .inl z2, .inl (z3 + 1)] [] σ Q) : am_wp sc 34 58 [.inr (.inl 0), .inl z1, .inl z2, .inl z3] [] σ Q := by
  refine ar_inc (L' := [.inr (.inl 0), .inl z1, .inl z2, .inl (z3 + 1)]) rfl rfl h0 rfl ?_
  refine am_wn rfl ?_
  exact k
theorem b_34_64 {sc : Int → Int} {σ : St} {Q : Ou → St → Nat → Prop} (z1 : Int) (z2 : Int) (z3 : Int) (h0 : am_R (z1 + 1)) (k : am_wp sc 34 2 [.inr (.inl 0), .inl (z1 + 1), .inl z2, .inl z3] [] σ Q) : am_wp sc 34 64 [.inr (.inl 0), .inl z1, .inl z2, .inl z3] [] σ Q := by
  refine ar_inc (L' := [.inr (.inl 0), .inl (z1 + 1), .inl z2, .inl z3]) rfl rfl h0 rfl ?_
  refine am_wn rfl ?_
  exact k
theorem b_34_70 {sc : Int → Int} {σ : St} {Q : Ou → St → Nat → Prop} (z1 : Int) (v2 : AV) (v3 : AV) (k : Q (.inl none) σ 0) : am_wp sc 34 70 [.inr (.inl 0), .inl z1, v2, v3] [] σ Q := by
  exact am_w62 rfl k
/-! SlidingHeap.markedWords -/
theorem b_35_0 {sc : Int → Int} {σ : St} {Q : Ou → St → Nat → Prop} (v1 : AV) (v2 : AV) (k : am_wp sc 35 4 [.inr (.inl 0), .inl 0, .inl 0] [] σ Q) : am_wp sc 35 0 [.inr (.inl 0), v1, v2] [] σ Q := by
  refine am_wn rfl ?_
  refine am_wn rfl ?_
  refine am_wn rfl ?_
  refine am_wn rfl ?_
  exact k
theorem b_35_4 {sc : Int → Int} {σ : St} {Q : Ou → St → Nat → Prop} (z1 : Int) (z2 : Int) (k1 : ((σ 35 0) ≤ z2) → am_wp sc 35 31 [.inr (.inl 0), .inl z1, .inl z2] [] σ Q) (k2 : ¬ ((σ 35 0) ≤ z2) → am_wp sc 35 12 [.inr (.inl 0), .inl z1, .inl z2] [] σ Q) : am_wp sc 35 4 [.inr (.inl 0), .inl z1, .inl z2] [] σ Q := by
  refine am_wn rfl ?_
  refine am_wn rfl ?_
  refine am_wn rfl ?_
  exact ar_br (c := (σ 35 0) ≤ z2) rfl k1 k2
theorem b_35_12 {sc : Int → Int} {σ : St} {Q : Ou → St → Nat → Prop} (z1 : Int) (z2 : Int) (h0 : 0 ≤ z2 ∧ z2 < 14) (k : am_wp sc 22 0 [.inr (.inl 0), .inl (σ 12 z2)] [] σ (am_bk sc 35 20 [.inr (.inl 0), .inl z1, .inl z2] [.inl z1] Q)) : am_wp sc 35 12 [.inr (.inl 0), .inl z1, .inl z2] [] σ Q := by
  refine am_wn rfl ?_
  refine am_wn rfl ?_
  refine am_wn rfl ?_
  refine am_wn rfl ?_
  refine am_wn rfl ?_
  refine ar_iald rfl rfl h0 ?_
  exact am_wc rfl (by decide) (by decide) rfl k
theorem b_35_23 {sc : Int → Int} {σ : St} {Q : Ou → St → Nat → Prop} (z1 : Int) (z2 : Int) (s0 : Int) (s1 : Int) (h0 : am_R (s0 + s1)) (h1 : am_R (z2 + 1)) (k : am_wp sc 35 4 [.inr (.inl 0), .inl (s0 + s1), .inl (z2 + 1)] [] σ Q) : am_wp sc 35 23 [.inr (.inl 0), .inl z1, .inl z2] [.inl s1, .inl s0] σ Q := by
  refine ar_add rfl h0 ?_
  refine am_wn rfl ?_
  refine ar_inc (L' := [.inr (.inl 0), .inl (s0 + s1), .inl (z2 + 1)]) rfl rfl h1 rfl ?_
  refine am_wn rfl ?_
  exact k
theorem b_35_31 {sc : Int → Int} {σ : St} {Q : Ou → St → Nat → Prop} (z1 : Int) (z2 : Int) (k : Q (.inl (some z1)) σ 0) : am_wp sc 35 31 [.inr (.inl 0), .inl z1, .inl z2] [] σ Q := by
  refine am_wn rfl ?_
  exact am_w60 rfl k
/-! SlidingHeap.cutWeakSlots -/
theorem b_36_0 {sc : Int → Int} {σ : St} {Q : Ou → St → Nat → Prop} (v1 : AV) (v2 : AV) (v3 : AV) (k : am_wp sc 36 2 [.inr (.inl 0), .inl 0, v2, v3] [] σ Q) : am_wp sc 36 0 [.inr (.inl 0), v1, v2, v3] [] σ Q := by
  refine am_wn rfl ?_
  refine am_wn rfl ?_
  exact k
theorem b_36_2 {sc : Int → Int} {σ : St} {Q : Ou → St → Nat → Prop} (z1 : Int) (v2 : AV) (v3 : AV) (k1 : ((σ 35 0) ≤ z1) → am_wp sc 36 75 [.inr (.inl 0), .inl z1, v2, v3] [] σ Q) (k2 : ¬ ((σ 35 0) ≤ z1) → am_wp sc 36 10 [.inr (.inl 0), .inl z1, v2, v3] [] σ Q) : am_wp sc 36 2 [.inr (.inl 0), .inl z1, v2, v3] [] σ Q := by
  refine am_wn rfl ?_
  refine am_wn rfl ?_
  refine am_wn rfl ?_
  exact ar_br (c := (σ 35 0) ≤ z1) rfl k1 k2
theorem b_36_10 {sc : Int → Int} {σ : St} {Q : Ou → St → Nat → Prop} (z1 : Int) (v2 : AV) (v3 : AV) (h0 : 0 ≤ z1 ∧ z1 < 14) (k : am_wp sc 21 0 [.inr (.inl 0), .inl (σ 12 z1)] [] σ (am_bk sc 36 19 [.inr (.inl 0), .inl z1, .inl (σ 12 z1), v3] [] Q)) : am_wp sc 36 10 [.inr (.inl 0), .inl z1, v2, v3] [] σ Q := by
  refine am_wn rfl ?_
  refine am_wn rfl ?_
  refine am_wn rfl ?_
  refine ar_iald rfl rfl h0 ?_
  refine am_wn rfl ?_
  refine am_wn rfl ?_
  refine am_wn rfl ?_
  exact am_wc rfl (by decide) (by decide) rfl k
theorem b_36_22 {sc : Int → Int} {σ : St} {Q : Ou → St → Nat → Prop} (z1 : Int) (z2 : Int) (v3 : AV) (s0 : Int) (k : am_wp sc 36 23 [.inr (.inl 0), .inl z1, .inl z2, .inl s0] [] σ Q) : am_wp sc 36 22 [.inr (.inl 0), .inl z1, .inl z2, v3] [.inl s0] σ Q := by
  refine am_wn rfl ?_
  exact k
theorem b_36_23 {sc : Int → Int} {σ : St} {Q : Ou → St → Nat → Prop} (z1 : Int) (z2 : Int) (z3 : Int) (k : am_wp sc 23 0 [.inr (.inl 0), .inl z2] [] σ (am_bk sc 36 26 [.inr (.inl 0), .inl z1, .inl z2, .inl z3] [.inl z3] Q)) : am_wp sc 36 23 [.inr (.inl 0), .inl z1, .inl z2, .inl z3] [] σ Q := by
  refine am_wn rfl ?_
  refine am_wn rfl ?_
  refine am_wn rfl ?_
  exact am_wc rfl (by decide) (by decide) rfl k
theorem b_36_29 {sc : Int → Int} {σ : St} {Q : Ou → St → Nat → Prop} (z1 : Int) (z2 : Int) (z3 : Int) (s0 : Int) (s1 : Int) (k1 : (s1 ≤ s0) → am_wp sc 36 69 [.inr (.inl 0), .inl z1, .inl z2, .inl z3] [] σ Q) (k2 : ¬ (s1 ≤ s0) → am_wp sc 36 32 [.inr (.inl 0), .inl z1, .inl z2, .inl z3] [] σ Q) : am_wp sc 36 29 [.inr (.inl 0), .inl z1, .inl z2, .inl z3] [.inl s1, .inl s0] σ Q := by
  exact ar_br (c := s1 ≤ s0) rfl k1 k2
theorem b_36_32 {sc : Int → Int} {σ : St} {Q : Ou → St → Nat → Prop} (z1 : Int) (z2 : Int) (z3 : Int) (h0 : 0 ≤ z3 ∧ z3 < 90) (k1 : ((σ 3 z3) ≠ 2) → am_wp sc 36 63 [.inr (.inl 0), .inl z1, .inl z2, .inl z3] [] σ Q) (k2 : ¬ ((σ 3 z3) ≠ 2) → am_wp sc 36 42 [.inr (.inl 0), .inl z1, .inl z2, .inl z3] [] σ Q) : am_wp sc 36 32 [.inr (.inl 0), .inl z1, .inl z2, .inl z3] [] σ Q := by
  refine am_wn rfl ?_
  refine am_wn rfl ?_
  refine am_wn rfl ?_
  refine ar_iald rfl rfl h0 ?_
  refine am_wn rfl ?_
  exact ar_br (c := (σ 3 z3) ≠ 2) rfl k1 k2
theorem b_36_42 {sc : Int → Int} {σ : St} {Q : Ou → St → Nat → Prop} (z1 : Int) (z2 : Int) (z3 : Int) (h0 : 0 ≤ z3 ∧ z3 < 90) (h1 : 0 ≤ (σ 2 z3) ∧ (σ 2 z3) < 15) (k1 : ((σ 11 (σ 2 z3)) ≠ 0) → am_wp sc 36 63 [.inr (.inl 0), .inl z1, .inl z2, .inl z3] [] σ Q) (k2 : ¬ ((σ 11 (σ 2 z3)) ≠ 0) → am_wp sc 36 56 [.inr (.inl 0), .inl z1, .inl z2, .inl z3] [] σ Q) : am_wp sc 36 42 [.inr (.inl 0), .inl z1, .inl z2, .inl z3] [] σ Q := by
  refine am_wn rfl ?_
  refine am_wn rfl ?_
  refine am_wn rfl ?_
  refine am_wn rfl ?_
  refine am_wn rfl ?_
  refine ar_iald rfl rfl h0 ?_
  refine ar_bald rfl rfl h1 ?_
  exact ar_br (c := (σ 11 (σ 2 z3)) ≠ 0) rfl k1 k2
theorem b_36_56 {sc : Int → Int} {σ : St} {Q : Ou → St → Nat → Prop} (z1 : Int) (z2 : Int) (z3 : Int) (h0 : 0 ≤ z3 ∧ z3 < 90) (k : am_wp sc 36 63 [.inr (.inl 0), .inl z1, .inl z2, .inl z3] [] (am_up σ 2 z3 0) Q) : am_wp sc 36 56 [.inr (.inl 0), .inl z1, .inl z2, .inl z3] [] σ Q := by
  refine am_wn rfl ?_
  refine am_wn rfl ?_
  refine am_wn rfl ?_
  refine am_wn rfl ?_
  refine ar_iast rfl rfl h0 ?_
  exact k
theorem b_36_63 {sc : Int → Int} {σ : St} {Q : Ou → St → Nat → Prop} (z1 : Int) (z2 : Int) (z3 : Int) (h0 : am_R (z3 + 1)) (k : am_wp sc 36 23 [.inr (.inl 0), .inl z1, .inl z2, .inl (z3 + 1)] [] σ Q) : am_wp sc 36 63 [.inr (.inl 0), .inl z1, .inl z2, .inl z3] [] σ Q := by
  refine ar_inc (L' := [.inr (.inl 0), .inl z1, .inl z2, .inl (z3 + 1)]) rfl rfl h0 rfl ?_
  refine am_wn rfl ?_
  exact k
theorem b_36_69 {sc : Int → Int} {σ : St} {Q : Ou → St → Nat → Prop} (z1 : Int) (z2 : Int) (z3 : Int) (h0 : am_R (z1 + 1)) (k : am_wp sc 36 2 [.inr (.inl 0), .inl (z1 + 1), .inl z2, .inl z3] [] σ Q) : am_wp sc 36 69 [.inr (.inl 0), .inl z1, .inl z2, .inl z3] [] σ Q := by
  refine ar_inc (L' := [.inr (.inl 0), .inl (z1 + 1), .inl z2, .inl z3]) rfl rfl h0 rfl ?_
  refine am_wn rfl ?_
  exact k
theorem b_36_75 {sc : Int → Int} {σ : St} {Q : Ou → St → Nat → Prop} (z1 : Int) (v2 : AV) (v3 : AV) (k : Q (.inl none) σ 0) : am_wp sc 36 75 [.inr (.inl 0), .inl z1, v2, v3] [] σ Q := by
  exact am_w62 rfl k
/-! SlidingHeap.queueLost -/
theorem b_37_0 {sc : Int → Int} {σ : St} {Q : Ou → St → Nat → Prop} (v1 : AV) (k : am_wp sc 37 2 [.inr (.inl 0), .inl 1] [] σ Q) : am_wp sc 37 0 [.inr (.inl 0), v1] [] σ Q := by
  refine am_wn rfl ?_
  refine am_wn rfl ?_
  exact k
theorem b_37_2 {sc : Int → Int} {σ : St} {Q : Ou → St → Nat → Prop} (z1 : Int) (k1 : (14 < z1) → am_wp sc 37 59 [.inr (.inl 0), .inl z1] [] σ Q) (k2 : ¬ (14 < z1) → am_wp sc 37 8 [.inr (.inl 0), .inl z1] [] σ Q) : am_wp sc 37 2 [.inr (.inl 0), .inl z1] [] σ Q := by
  refine am_wn rfl ?_
  refine am_wn rfl ?_
  exact ar_br (c := 14 < z1) rfl k1 k2
theorem b_37_8 {sc : Int → Int} {σ : St} {Q : Ou → St → Nat → Prop} (z1 : Int) (h0 : 0 ≤ z1 ∧ z1 < 15) (k1 : ((σ 7 z1) = 0) → am_wp sc 37 53 [.inr (.inl 0), .inl z1] [] σ Q) (k2 : ¬ ((σ 7 z1) = 0) → am_wp sc 37 17 [.inr (.inl 0), .inl z1] [] σ Q) : am_wp sc 37 8 [.inr (.inl 0), .inl z1] [] σ Q := by
  refine am_wn rfl ?_
  refine am_wn rfl ?_
  refine am_wn rfl ?_
  refine ar_bald rfl rfl h0 ?_
  exact ar_br (c := (σ 7 z1) = 0) rfl k1 k2
theorem b_37_17 {sc : Int → Int} {σ : St} {Q : Ou → St → Nat → Prop} (z1 : Int) (h0 : 0 ≤ z1 ∧ z1 < 15) (k1 : ((σ 11 z1) ≠ 0) → am_wp sc 37 53 [.inr (.inl 0), .inl z1] [] σ Q) (k2 : ¬ ((σ 11 z1) ≠ 0) → am_wp sc 37 26 [.inr (.inl 0), .inl z1] [] σ Q) : am_wp sc 37 17 [.inr (.inl 0), .inl z1] [] σ Q := by
  refine am_wn rfl ?_
  refine am_wn rfl ?_
  refine am_wn rfl ?_
  refine ar_bald rfl rfl h0 ?_
  exact ar_br (c := (σ 11 z1) ≠ 0) rfl k1 k2
theorem b_37_26 {sc : Int → Int} {σ : St} {Q : Ou → St → Nat → Prop} (z1 : Int) (h0 : 0 ≤ (σ 33 0) ∧ (σ 33 0) < 14) (h1 : am_R ((σ 33 0) + 1)) (h2 : 0 ≤ z1 ∧ z1 < 15) (k : am_wp sc 37 53 [.inr (.inl 0), .inl z1] [] (am_up (am_up (am_up σ 10 (σ 33 0) z1) 33 0 ((σ 33 0) + 1)) 7 z1 0) Q) : am_wp sc 37 26 [.inr (.inl 0), .inl z1] [] σ Q := by
  refine am_wn rfl ?_
  refine am_wn rfl ?_
  refine am_wn rfl ?_
  refine am_wn rfl ?_
  refine am_wn rfl ?_
  refine ar_iast rfl rfl h0 ?_
  refine am_wn rfl ?_
  refine am_wn rfl ?_
  refine am_wn rfl ?_
  refine am_wn rfl ?_
  refine ar_add rfl h1 ?_
  refine am_wn rfl ?_
  refine am_wn rfl ?_
  refine am_wn rfl ?_
  refine am_wn rfl ?_
  refine am_wn rfl ?_
  refine ar_bast rfl rfl h2 (Or.inl rfl) ?_
  exact k
theorem b_37_53 {sc : Int → Int} {σ : St} {Q : Ou → St → Nat → Prop} (z1 : Int) (h0 : am_R (z1 + 1)) (k : am_wp sc 37 2 [.inr (.inl 0), .inl (z1 + 1)] [] σ Q) : am_wp sc 37 53 [.inr (.inl 0), .inl z1] [] σ Q := by
  refine ar_inc (L' := [.inr (.inl 0), .inl (z1 + 1)]) rfl rfl h0 rfl ?_
  refine am_wn rfl ?_
  exact k
theorem b_37_59 {sc : Int → Int} {σ : St} {Q : Ou → St → Nat → Prop} (z1 : Int) (k : Q (.inl none) σ 0) : am_wp sc 37 59 [.inr (.inl 0), .inl z1] [] σ Q := by
  exact am_w62 rfl k
/-! SlidingHeap.slideDown -/
theorem b_38_0 {sc : Int → Int} {σ : St} {Q : Ou → St → Nat → Prop} (v1 : AV) (v2 : AV) (v3 : AV) (v4 : AV) (k : am_wp sc 38 6 [.inr (.inl 0), .inl 0, .inl 0, .inl 0, v4] [] σ Q) : am_wp sc 38 0 [.inr (.inl 0), v1, v2, v3, v4] [] σ Q := by
  refine am_wn rfl ?_
  refine am_wn rfl ?_
  refine am_wn rfl ?_
  refine am_wn rfl ?_
  refine am_wn rfl ?_
  refine am_wn rfl ?_
  exact k
theorem b_38_6 {sc : Int → Int} {σ : St} {Q : Ou → St → Nat → Prop} (z1 : Int) (z2 : Int) (z3 : Int) (v4 : AV) (k1 : ((σ 31 0) ≤ z3) → am_wp sc 38 74 [.inr (.inl 0), .inl z1, .inl z2, .inl z3, v4] [] σ Q) (k2 : ¬ ((σ 31 0) ≤ z3) → am_wp sc 38 14 [.inr (.inl 0), .inl z1, .inl z2, .inl z3, v4] [] σ Q) : am_wp sc 38 6 [.inr (.inl 0), .inl z1, .inl z2, .inl z3, v4] [] σ Q := by
  refine am_wn rfl ?_
  refine am_wn rfl ?_
  refine am_wn rfl ?_
  exact ar_br (c := (σ 31 0) ≤ z3) rfl k1 k2
theorem b_38_14 {sc : Int → Int} {σ : St} {Q : Ou → St → Nat → Prop} (z1 : Int) (z2 : Int) (z3 : Int) (v4 : AV) (h0 : 0 ≤ z3 ∧ z3 < 14) (h1 : 0 ≤ (σ 8 z3) ∧ (σ 8 z3) < 15) (k1 : ((σ 11 (σ 8 z3)) = 0) → am_wp sc 38 62 [.inr (.inl 0), .inl z1, .inl z2, .inl z3, .inl (σ 8 z3)] [] σ Q) (k2 : ¬ ((σ 11 (σ 8 z3)) = 0) → am_wp sc 38 32 [.inr (.inl 0), .inl z1, .inl z2, .inl z3, .inl (σ 8 z3)] [] σ Q) : am_wp sc 38 14 [.inr (.inl 0), .inl z1, .inl z2, .inl z3, v4] [] σ Q := by
  refine am_wn rfl ?_
  refine am_wn rfl ?_
  refine am_wn rfl ?_
  refine ar_iald rfl rfl h0 ?_
  refine am_wn rfl ?_
  refine am_wn rfl ?_
  refine am_wn rfl ?_
  refine am_wn rfl ?_
  refine ar_bald rfl rfl h1 ?_
  exact ar_br (c := (σ 11 (σ 8 z3)) = 0) rfl k1 k2
theorem b_38_32 {sc : Int → Int} {σ : St} {Q : Ou → St → Nat → Prop} (z1 : Int) (z2 : Int) (z3 : Int) (z4 : Int) (k : am_wp sc 39 0 [.inr (.inl 0), .inl z4, .inl z1, .inr (.inr 0), .inr (.inr 0), .inr (.inr 0)] [] σ (am_bk sc 38 36 [.inr (.inl 0), .inl z1, .inl z2, .inl z3, .inl z4] [] Q)) : am_wp sc 38 32 [.inr (.inl 0), .inl z1, .inl z2, .inl z3, .inl z4] [] σ Q := by
  refine am_wn rfl ?_
  refine am_wn rfl ?_
  refine am_wn rfl ?_
  exact am_wc rfl (by decide) (by decide) rfl k
theorem b_38_39 {sc : Int → Int} {σ : St} {Q : Ou → St → Nat → Prop} (z1 : Int) (z2 : Int) (z3 : Int) (z4 : Int) (k : am_wp sc 22 0 [.inr (.inl 0), .inl z4] [] σ (am_bk sc 38 43 [.inr (.inl 0), .inl z1, .inl z2, .inl z3, .inl z4] [.inl z1] Q)) : am_wp sc 38 39 [.inr (.inl 0), .inl z1, .inl z2, .inl z3, .inl z4] [] σ Q := by
  refine am_wn rfl ?_
  refine am_wn rfl ?_
  refine am_wn rfl ?_
  exact am_wc rfl (by decide) (by decide) rfl k
theorem b_38_46 {sc : Int → Int} {σ : St} {Q : Ou → St → Nat → Prop} (z1 : Int) (z2 : Int) (z3 : Int) (z4 : Int) (s0 : Int) (s1 : Int) (h0 : am_R (s0 + s1)) (h1 : 0 ≤ z2 ∧ z2 < 14) (h2 : am_R (z2 + 1)) (k : am_wp sc 38 68 [.inr (.inl 0), .inl (s0 + s1), .inl (z2 + 1), .inl z3, .inl z4] [] (am_up σ 8 z2 z4) Q) : am_wp sc 38 46 [.inr (.inl 0), .inl z1, .inl z2, .inl z3, .inl z4] [.inl s1, .inl s0] σ Q := by
  refine ar_add rfl h0 ?_
  refine am_wn rfl ?_
  refine am_wn rfl ?_
  refine am_wn rfl ?_
  refine am_wn rfl ?_
  refine am_wn rfl ?_
  refine ar_iast rfl rfl h1 ?_
  refine ar_inc (L' := [.inr (.inl 0), .inl (s0 + s1), .inl (z2 + 1), .inl z3, .inl z4]) rfl rfl h2 rfl ?_
  refine am_wn rfl ?_
  exact k
theorem b_38_62 {sc : Int → Int} {σ : St} {Q : Ou → St → Nat → Prop} (z1 : Int) (z2 : Int) (z3 : Int) (z4 : Int) (k : am_wp sc 28 0 [.inr (.inl 0), .inl z4] [] σ (am_bk sc 38 65 [.inr (.inl 0), .inl z1, .inl z2, .inl z3, .inl z4] [] Q)) : am_wp sc 38 62 [.inr (.inl 0), .inl z1, .inl z2, .inl z3, .inl z4] [] σ Q := by
  refine am_wn rfl ?_
  refine am_wn rfl ?_
  exact am_wc rfl (by decide) (by decide) rfl k
theorem b_38_68 {sc : Int → Int} {σ : St} {Q : Ou → St → Nat → Prop} (z1 : Int) (z2 : Int) (z3 : Int) (z4 : Int) (h0 : am_R (z3 + 1)) (k : am_wp sc 38 6 [.inr (.inl 0), .inl z1, .inl z2, .inl (z3 + 1), .inl z4] [] σ Q) : am_wp sc 38 68 [.inr (.inl 0), .inl z1, .inl z2, .inl z3, .inl z4] [] σ Q := by
  refine ar_inc (L' := [.inr (.inl 0), .inl z1, .inl z2, .inl (z3 + 1), .inl z4]) rfl rfl h0 rfl ?_
  refine am_wn rfl ?_
  exact k
theorem b_38_74 {sc : Int → Int} {σ : St} {Q : Ou → St → Nat → Prop} (z1 : Int) (z2 : Int) (z3 : Int) (v4 : AV) (k : am_wp sc 40 0 [.inr (.inl 0), .inl z1, .inl (σ 30 0), .inr (.inr 0)] [] σ (am_bk sc 38 80 [.inr (.inl 0), .inl z1, .inl z2, .inl z3, v4] [] Q)) : am_wp sc 38 74 [.inr (.inl 0), .inl z1, .inl z2, .inl z3, v4] [] σ Q := by
  refine am_wn rfl ?_
  refine am_wn rfl ?_
  refine am_wn rfl ?_
  refine am_wn rfl ?_
  exact am_wc rfl (by decide) (by decide) rfl k
theorem b_38_83 {sc : Int → Int} {σ : St} {Q : Ou → St → Nat → Prop} (z1 : Int) (z2 : Int) (z3 : Int) (v4 : AV) (k : Q (.inl none) (am_up (am_up σ 30 0 z1) 31 0 z2) 0) : am_wp sc 38 83 [.inr (.inl 0), .inl z1, .inl z2, .inl z3, v4] [] σ Q := by
  refine am_wn rfl ?_
  refine am_wn rfl ?_
  refine am_wn rfl ?_
  refine am_wn rfl ?_
  refine am_wn rfl ?_
  refine am_wn rfl ?_
  exact am_w62 rfl k
/-! SlidingHeap.move -/
theorem b_39_0 {sc : Int → Int} {σ : St} {Q : Ou → St → Nat → Prop} (z1 : Int) (z2 : Int) (v3 : AV) (v4 : AV) (v5 : AV) (h0 : 0 ≤ z1 ∧ z1 < 15) (k : am_wp sc 22 0 [.inr (.inl 0), .inl z1] [] σ (am_bk sc 39 9 [.inr (.inl 0), .inl z1, .inl z2, .inl (σ 4 z1), v4, v5] [] Q)) : am_wp sc 39 0 [.inr (.inl 0), .inl z1, .inl z2, v3, v4, v5] [] σ Q := by
  refine am_wn rfl ?_
  refine am_wn rfl ?_
  refine am_wn rfl ?_
  refine ar_iald rfl rfl h0 ?_
  refine am_wn rfl ?_
  refine am_wn rfl ?_
  refine am_wn rfl ?_
  exact am_wc rfl (by decide) (by decide) rfl k
theorem b_39_12 {sc : Int → Int} {σ : St} {Q : Ou → St → Nat → Prop} (z1 : Int) (z2 : Int) (z3 : Int) (v4 : AV) (v5 : AV) (s0 : Int) (k : am_wp sc 39 17 [.inr (.inl 0), .inl z1, .inl z2, .inl z3, .inl s0, .inl 0] [] σ Q) : am_wp sc 39 12 [.inr (.inl 0), .inl z1, .inl z2, .inl z3, v4, v5] [.inl s0] σ Q := by
  refine am_wn rfl ?_
  refine am_wn rfl ?_
  refine am_wn rfl ?_
  exact k
theorem b_39_17 {sc : Int → Int} {σ : St} {Q : Ou → St → Nat → Prop} (z1 : Int) (z2 : Int) (z3 : Int) (z4 : Int) (z5 : Int) (k1 : (z4 ≤ z5) → am_wp sc 39 66 [.inr (.inl 0), .inl z1, .inl z2, .inl z3, .inl z4, .inl z5] [] σ Q) (k2 : ¬ (z4 ≤ z5) → am_wp sc 39 24 [.inr (.inl 0), .inl z1, .inl z2, .inl z3, .inl z4, .inl z5] [] σ Q) : am_wp sc 39 17 [.inr (.inl 0), .inl z1, .inl z2, .inl z3, .inl z4, .inl z5] [] σ Q := by
  refine am_wn rfl ?_
  refine am_wn rfl ?_
  exact ar_br (c := z4 ≤ z5) rfl k1 k2
theorem b_39_24 {sc : Int → Int} {σ : St} {Q : Ou → St → Nat → Prop} (z1 : Int) (z2 : Int) (z3 : Int) (z4 : Int) (z5 : Int) (h0 : am_R (z2 + z5)) (h1 : am_R (z3 + z5)) (h2 : 0 ≤ (z3 + z5) ∧ (z3 + z5) < 90) (h3 : 0 ≤ (z2 + z5) ∧ (z2 + z5) < 90) (h4 : am_R (z2 + z5)) (h5 : am_R (z3 + z5)) (h6 : 0 ≤ (z3 + z5) ∧ (z3 + z5) < 90) (h7 : 0 ≤ (z2 + z5) ∧ (z2 + z5) < 90) (h8 : am_R (z5 + 1)) (k : am_wp sc 39 17 [.inr (.inl 0), .inl z1, .inl z2, .inl z3, .inl z4, .inl (z5 + 1)] [] (am_up (am_up σ 2 (z2 + z5) (σ 2 (z3 + z5))) 3 (z2 + z5) (σ 3 (z3 + z5))) Q) : am_wp sc 39 24 [.inr (.inl 0), .inl z1, .inl z2, .inl z3, .inl z4, .inl z5] [] σ Q := by
  refine am_wn rfl ?_
  refine am_wn rfl ?_
  refine am_wn rfl ?_
  refine am_wn rfl ?_
  refine ar_add rfl h0 ?_
  refine am_wn rfl ?_
  refine am_wn rfl ?_
  refine am_wn rfl ?_
  refine am_wn rfl ?_
  refine ar_add rfl h1 ?_
  refine ar_iald rfl rfl h2 ?_
  refine ar_iast rfl rfl h3 ?_
  refine am_wn rfl ?_
  refine am_wn rfl ?_
  refine am_wn rfl ?_
  refine am_wn rfl ?_
  refine ar_add rfl h4 ?_
  refine am_wn rfl ?_
  refine am_wn rfl ?_
  refine am_wn rfl ?_
  refine am_wn rfl ?_
  refine ar_add rfl h5 ?_
  refine ar_iald rfl rfl h6 ?_
  refine ar_iast rfl rfl h7 ?_
  refine ar_inc (L' := [.inr (.inl 0), .inl z1, .inl z2, .inl z3, .inl z4, .inl (z5 + 1)]) rfl rfl h8 rfl ?_
  refine am_wn rfl ?_
  exact k
theorem b_39_66 {sc : Int → Int} {σ : St} {Q : Ou → St → Nat → Prop} (z1 : Int) (z2 : Int) (z3 : Int) (z4 : Int) (z5 : Int) (h0 : 0 ≤ z1 ∧ z1 < 15) (k : Q (.inl none) (am_up σ 4 z1 z2) 0) : am_wp sc 39 66 [.inr (.inl 0), .inl z1, .inl z2, .inl z3, .inl z4, .inl z5] [] σ Q := by
  refine am_wn rfl ?_
  refine am_wn rfl ?_
  refine am_wn rfl ?_
  refine am_wn rfl ?_
  refine ar_iast rfl rfl h0 ?_
  exact am_w62 rfl k
/-! SlidingHeap.wipe -/
theorem b_40_0 {sc : Int → Int} {σ : St} {Q : Ou → St → Nat → Prop} (z1 : Int) (z2 : Int) (v3 : AV) (k : am_wp sc 40 2 [.inr (.inl 0), .inl z1, .inl z2, .inl z1] [] σ Q) : am_wp sc 40 0 [.inr (.inl 0), .inl z1, .inl z2, v3] [] σ Q := by
  refine am_wn rfl ?_
  refine am_wn rfl ?_
  exact k
theorem b_40_2 {sc : Int → Int} {σ : St} {Q : Ou → St → Nat → Prop} (z1 : Int) (z2 : Int) (z3 : Int) (k1 : (z2 ≤ z3) → am_wp sc 40 27 [.inr (.inl 0), .inl z1, .inl z2, .inl z3] [] σ Q) (k2 : ¬ (z2 ≤ z3) → am_wp sc 40 7 [.inr (.inl 0), .inl z1, .inl z2, .inl z3] [] σ Q) : am_wp sc 40 2 [.inr (.inl 0), .inl z1, .inl z2, .inl z3] [] σ Q := by
  refine am_wn rfl ?_
  refine am_wn rfl ?_
  exact ar_br (c := z2 ≤ z3) rfl k1 k2
theorem b_40_7 {sc : Int → Int} {σ : St} {Q : Ou → St → Nat → Prop} (z1 : Int) (z2 : Int) (z3 : Int) (h0 : 0 ≤ z3 ∧ z3 < 90) (h1 : 0 ≤ z3 ∧ z3 < 90) (h2 : am_R (z3 + 1)) (k : am_wp sc 40 2 [.inr (.inl 0), .inl z1, .inl z2, .inl (z3 + 1)] [] (am_up (am_up σ 2 z3 0) 3 z3 0) Q) : am_wp sc 40 7 [.inr (.inl 0), .inl z1, .inl z2, .inl z3] [] σ Q := by
  refine am_wn rfl ?_
  refine am_wn rfl ?_
  refine am_wn rfl ?_
  refine am_wn rfl ?_
  refine ar_iast rfl rfl h0 ?_
  refine am_wn rfl ?_
  refine am_wn rfl ?_
  refine am_wn rfl ?_
  refine am_wn rfl ?_
  refine ar_iast rfl rfl h1 ?_
  refine ar_inc (L' := [.inr (.inl 0), .inl z1, .inl z2, .inl (z3 + 1)]) rfl rfl h2 rfl ?_
  refine am_wn rfl ?_
  exact k
theorem b_40_27 {sc : Int → Int} {σ : St} {Q : Ou → St → Nat → Prop} (z1 : Int) (z2 : Int) (z3 : Int) (k : Q (.inl none) σ 0) : am_wp sc 40 27 [.inr (.inl 0), .inl z1, .inl z2, .inl z3] [] σ Q := by
  exact am_w62 rfl k
/-! SlidingHeap.growOlder -/
theorem b_41_0 {sc : Int → Int} {σ : St} {Q : Ou → St → Nat → Prop} (v1 : AV) (v2 : AV) (k : am_wp sc 41 2 [.inr (.inl 0), .inl 0, v2] [] σ Q) : am_wp sc 41 0 [.inr (.inl 0), v1, v2] [] σ Q := by
  refine am_wn rfl ?_
  refine am_wn rfl ?_
  exact k
theorem b_41_2 {sc : Int → Int} {σ : St} {Q : Ou → St → Nat → Prop} (z1 : Int) (v2 : AV) (k1 : ((σ 31 0) ≤ z1) → am_wp sc 41 42 [.inr (.inl 0), .inl z1, v2] [] σ Q) (k2 : ¬ ((σ 31 0) ≤ z1) → am_wp sc 41 10 [.inr (.inl 0), .inl z1, v2] [] σ Q) : am_wp sc 41 2 [.inr (.inl 0), .inl z1, v2] [] σ Q := by
  refine am_wn rfl ?_
  refine am_wn rfl ?_
  refine am_wn rfl ?_
  exact ar_br (c := (σ 31 0) ≤ z1) rfl k1 k2
theorem b_41_10 {sc : Int → Int} {σ : St} {Q : Ou → St → Nat → Prop} (z1 : Int) (v2 : AV) (h0 : 0 ≤ z1 ∧ z1 < 14) (h1 : 0 ≤ (σ 8 z1) ∧ (σ 8 z1) < 15) (h2 : am_R ((σ 6 (σ 8 z1)) + 1)) (h3 : 0 ≤ (σ 8 z1) ∧ (σ 8 z1) < 15) (h4 : am_R (z1 + 1)) (k : am_wp sc 41 2 [.inr (.inl 0), .inl (z1 + 1), .inl (σ 8 z1)] [] (am_up σ 6 (σ 8 z1) (if 99 < ((σ 6 (σ 8 z1)) + 1) then 99 else ((σ 6 (σ 8 z1)) + 1))) Q) : am_wp sc 41 10 [.inr (.inl 0), .inl z1, v2] [] σ Q := by
  refine am_wn rfl ?_
  refine am_wn rfl ?_
  refine am_wn rfl ?_
  refine ar_iald rfl rfl h0 ?_
  refine am_wn rfl ?_
  refine am_wn rfl ?_
  refine am_wn rfl ?_
  refine am_wn rfl ?_
  refine am_wn rfl ?_
  refine am_wn rfl ?_
  refine am_wn rfl ?_
  refine ar_iald rfl rfl h1 ?_
  refine am_wn rfl ?_
  refine ar_add rfl h2 ?_
  refine am_wn rfl ?_
  refine am_wn rfl ?_
  refine ar_iast rfl rfl h3 ?_
  refine ar_inc (L' := [.inr (.inl 0), .inl (z1 + 1), .inl (σ 8 z1)]) rfl rfl h4 rfl ?_
  refine am_wn rfl ?_
  exact k
theorem b_41_42 {sc : Int → Int} {σ : St} {Q : Ou → St → Nat → Prop} (z1 : Int) (v2 : AV) (k : Q (.inl none) σ 0) : am_wp sc 41 42 [.inr (.inl 0), .inl z1, v2] [] σ Q := by
  exact am_w62 rfl k
/-! SlidingHeap.slotsThatShow -/
theorem b_42_0 {sc : Int → Int} {σ : St} {Q : Ou → St → Nat → Prop} (z1 : Int) (v2 : AV) (v3 : AV) (k : am_wp sc 42 4 [.inr (.inl 0), .inl z1, .inl 0, .inl 0] [] σ Q) : am_wp sc 42 0 [.inr (.inl 0), .inl z1, v2, v3] [] σ Q := by
  refine am_wn rfl ?_
  refine am_wn rfl ?_
  refine am_wn rfl ?_
  refine am_wn rfl ?_
  exact k
theorem b_42_4 {sc : Int → Int} {σ : St} {Q : Ou → St → Nat → Prop} (z1 : Int) (z2 : Int) (z3 : Int) (k1 : ((σ 30 0) ≤ z3) → am_wp sc 42 40 [.inr (.inl 0), .inl z1, .inl z2, .inl z3] [] σ Q) (k2 : ¬ ((σ 30 0) ≤ z3) → am_wp sc 42 12 [.inr (.inl 0), .inl z1, .inl z2, .inl z3] [] σ Q) : am_wp sc 42 4 [.inr (.inl 0), .inl z1, .inl z2, .inl z3] [] σ Q := by
  refine am_wn rfl ?_
  refine am_wn rfl ?_
  refine am_wn rfl ?_
  exact ar_br (c := (σ 30 0) ≤ z3) rfl k1 k2
theorem b_42_12 {sc : Int → Int} {σ : St} {Q : Ou → St → Nat → Prop} (z1 : Int) (z2 : Int) (z3 : Int) (h0 : 0 ≤ z3 ∧ z3 < 90) (k1 : ((σ 3 z3) = 0) → am_wp sc 42 34 [.inr (.inl 0), .inl z1, .inl z2, .inl z3] [] σ Q) (k2 : ¬ ((σ 3 z3) = 0) → am_wp sc 42 21 [.inr (.inl 0), .inl z1, .inl z2, .inl z3] [] σ Q) : am_wp sc 42 12 [.inr (.inl 0), .inl z1, .inl z2, .inl z3] [] σ Q := by
  refine am_wn rfl ?_
  refine am_wn rfl ?_
  refine am_wn rfl ?_
  refine ar_iald rfl rfl h0 ?_
  exact ar_br (c := (σ 3 z3) = 0) rfl k1 k2
theorem b_42_21 {sc : Int → Int} {σ : St} {Q : Ou → St → Nat → Prop} (z1 : Int) (z2 : Int) (z3 : Int) (h0 : 0 ≤ z3 ∧ z3 < 90) (k1 : ((σ 2 z3) ≠ z1) → am_wp sc 42 34 [.inr (.inl 0), .inl z1, .inl z2, .inl z3] [] σ Q) (k2 : ¬ ((σ 2 z3) ≠ z1) → am_wp sc 42 31 [.inr (.inl 0), .inl z1, .inl z2, .inl z3] [] σ Q) : am_wp sc 42 21 [.inr (.inl 0), .inl z1, .inl z2, .inl z3] [] σ Q := by
  refine am_wn rfl ?_
  refine am_wn rfl ?_
  refine am_wn rfl ?_
  refine ar_iald rfl rfl h0 ?_
  refine am_wn rfl ?_
  exact ar_br (c := (σ 2 z3) ≠ z1) rfl k1 k2
theorem b_42_31 {sc : Int → Int} {σ : St} {Q : Ou → St → Nat → Prop} (z1 : Int) (z2 : Int) (z3 : Int) (h0 : am_R (z2 + 1)) (k : am_wp sc 42 34 [.inr (.inl 0), .inl z1, .inl (z2 + 1), .inl z3] [] σ Q) : am_wp sc 42 31 [.inr (.inl 0), .inl z1, .inl z2, .inl z3] [] σ Q := by
  refine ar_inc (L' := [.inr (.inl 0), .inl z1, .inl (z2 + 1), .inl z3]) rfl rfl h0 rfl ?_
  exact k
theorem b_42_34 {sc : Int → Int} {σ : St} {Q : Ou → St → Nat → Prop} (z1 : Int) (z2 : Int) (z3 : Int) (h0 : am_R (z3 + 1)) (k : am_wp sc 42 4 [.inr (.inl 0), .inl z1, .inl z2, .inl (z3 + 1)] [] σ Q) : am_wp sc 42 34 [.inr (.inl 0), .inl z1, .inl z2, .inl z3] [] σ Q := by
  refine ar_inc (L' := [.inr (.inl 0), .inl z1, .inl z2, .inl (z3 + 1)]) rfl rfl h0 rfl ?_
  refine am_wn rfl ?_
  exact k
theorem b_42_40 {sc : Int → Int} {σ : St} {Q : Ou → St → Nat → Prop} (z1 : Int) (z2 : Int) (z3 : Int) (k : Q (.inl (some z2)) σ 0) : am_wp sc 42 40 [.inr (.inl 0), .inl z1, .inl z2, .inl z3] [] σ Q := by
  refine am_wn rfl ?_
  exact am_w60 rfl k
/-! SlidingHeap.measureTo -/
theorem b_43_0 {sc : Int → Int} {σ : St} {Q : Ou → St → Nat → Prop} (z1 : Int) (v2 : AV) (v3 : AV) (v4 : AV) (k : am_wp sc 87 0 [.inr (.inl 13), .inl (-1), .inr (.inr 0), .inr (.inr 0)] [] σ (am_bk sc 43 5 [.inr (.inl 0), .inl z1, v2, v3, v4] [] Q)) : am_wp sc 43 0 [.inr (.inl 0), .inl z1, v2, v3, v4] [] σ Q := by
  refine am_wn rfl ?_
  refine am_wn rfl ?_
  refine am_wn rfl ?_
  exact am_wc rfl (by decide) (by decide) rfl k
theorem b_43_8 {sc : Int → Int} {σ : St} {Q : Ou → St → Nat → Prop} (z1 : Int) (v2 : AV) (v3 : AV) (v4 : AV) (h0 : 0 ≤ z1 ∧ z1 < 15) (k : am_wp sc 43 17 [.inr (.inl 0), .inl z1, .inl 0, v3, v4] [] (am_up σ 13 z1 0) Q) : am_wp sc 43 8 [.inr (.inl 0), .inl z1, v2, v3, v4] [] σ Q := by
  refine am_wn rfl ?_
  refine am_wn rfl ?_
  refine am_wn rfl ?_
  refine am_wn rfl ?_
  refine ar_iast rfl rfl h0 ?_
  refine am_wn rfl ?_
  refine am_wn rfl ?_
  exact k
theorem b_43_17 {sc : Int → Int} {σ : St} {Q : Ou → St → Nat → Prop} (z1 : Int) (z2 : Int) (v3 : AV) (v4 : AV) (k1 : (14 ≤ z2) → am_wp sc 43 84 [.inr (.inl 0), .inl z1, .inl z2, v3, v4] [] σ Q) (k2 : ¬ (14 ≤ z2) → am_wp sc 43 23 [.inr (.inl 0), .inl z1, .inl z2, v3, v4] [] σ Q) : am_wp sc 43 17 [.inr (.inl 0), .inl z1, .inl z2, v3, v4] [] σ Q := by
  refine am_wn rfl ?_
  refine am_wn rfl ?_
  exact ar_br (c := 14 ≤ z2) rfl k1 k2
theorem b_43_23 {sc : Int → Int} {σ : St} {Q : Ou → St → Nat → Prop} (z1 : Int) (z2 : Int) (v3 : AV) (v4 : AV) (k : am_wp sc 43 25 [.inr (.inl 0), .inl z1, .inl z2, .inl 0, v4] [] σ Q) : am_wp sc 43 23 [.inr (.inl 0), .inl z1, .inl z2, v3, v4] [] σ Q := by
  refine am_wn rfl ?_
  refine am_wn rfl ?_
  exact k
theorem b_43_25 {sc : Int → Int} {σ : St} {Q : Ou → St → Nat → Prop} (z1 : Int) (z2 : Int) (z3 : Int) (v4 : AV) (k1 : ((σ 31 0) ≤ z3) → am_wp sc 43 78 [.inr (.inl 0), .inl z1, .inl z2, .inl z3, v4] [] σ Q) (k2 : ¬ ((σ 31 0) ≤ z3) → am_wp sc 43 33 [.inr (.inl 0), .inl z1, .inl z2, .inl z3, v4] [] σ Q) : am_wp sc 43 25 [.inr (.inl 0), .inl z1, .inl z2, .inl z3, v4] [] σ Q := by
  refine am_wn rfl ?_
  refine am_wn rfl ?_
  refine am_wn rfl ?_
  exact ar_br (c := (σ 31 0) ≤ z3) rfl k1 k2
theorem b_43_33 {sc : Int → Int} {σ : St} {Q : Ou → St → Nat → Prop} (z1 : Int) (z2 : Int) (z3 : Int) (v4 : AV) (h0 : 0 ≤ z3 ∧ z3 < 14) (h1 : 0 ≤ (σ 8 z3) ∧ (σ 8 z3) < 15) (k1 : ((σ 13 (σ 8 z3)) ≠ (-1)) → am_wp sc 43 72 [.inr (.inl 0), .inl z1, .inl z2, .inl z3, .inl (σ 8 z3)] [] σ Q) (k2 : ¬ ((σ 13 (σ 8 z3)) ≠ (-1)) → am_wp sc 43 52 [.inr (.inl 0), .inl z1, .inl z2, .inl z3, .inl (σ 8 z3)] [] σ Q) : am_wp sc 43 33 [.inr (.inl 0), .inl z1, .inl z2, .inl z3, v4] [] σ Q := by
  refine am_wn rfl ?_
  refine am_wn rfl ?_
  refine am_wn rfl ?_
  refine ar_iald rfl rfl h0 ?_
  refine am_wn rfl ?_
  refine am_wn rfl ?_
  refine am_wn rfl ?_
  refine am_wn rfl ?_
  refine ar_iald rfl rfl h1 ?_
  refine am_wn rfl ?_
  exact ar_br (c := (σ 13 (σ 8 z3)) ≠ (-1)) rfl k1 k2
theorem b_43_52 {sc : Int → Int} {σ : St} {Q : Ou → St → Nat → Prop} (z1 : Int) (z2 : Int) (z3 : Int) (z4 : Int) (k : am_wp sc 44 0 [.inr (.inl 0), .inl z4, .inl z2, .inr (.inr 0)] [] σ (am_bk sc 43 56 [.inr (.inl 0), .inl z1, .inl z2, .inl z3, .inl z4] [] Q)) : am_wp sc 43 52 [.inr (.inl 0), .inl z1, .inl z2, .inl z3, .inl z4] [] σ Q := by
  refine am_wn rfl ?_
  refine am_wn rfl ?_
  refine am_wn rfl ?_
  exact am_wc rfl (by decide) (by decide) rfl k
theorem b_43_59 {sc : Int → Int} {σ : St} {Q : Ou → St → Nat → Prop} (z1 : Int) (z2 : Int) (z3 : Int) (z4 : Int) (s0 : Int) (k1 : (s0 = 0) → am_wp sc 43 72 [.inr (.inl 0), .inl z1, .inl z2, .inl z3, .inl z4] [] σ Q) (k2 : ¬ (s0 = 0) → am_wp sc 43 62 [.inr (.inl 0), .inl z1, .inl z2, .inl z3, .inl z4] [] σ Q) : am_wp sc 43 59 [.inr (.inl 0), .inl z1, .inl z2, .inl z3, .inl z4] [.inl s0] σ Q := by
  exact ar_br (c := s0 = 0) rfl k1 k2
theorem b_43_62 {sc : Int → Int} {σ : St} {Q : Ou → St → Nat → Prop} (z1 : Int) (z2 : Int) (z3 : Int) (z4 : Int) (h0 : am_R (z2 + 1)) (h1 : 0 ≤ z4 ∧ z4 < 15) (k : am_wp sc 43 72 [.inr (.inl 0), .inl z1, .inl z2, .inl z3, .inl z4] [] (am_up σ 13 z4 (z2 + 1)) Q) : am_wp sc 43 62 [.inr (.inl 0), .inl z1, .inl z2, .inl z3, .inl z4] [] σ Q := by
  refine am_wn rfl ?_
  refine am_wn rfl ?_
  refine am_wn rfl ?_
  refine am_wn rfl ?_
  refine am_wn rfl ?_
  refine ar_add rfl h0 ?_
  refine ar_iast rfl rfl h1 ?_
  exact k
theorem b_43_72 {sc : Int → Int} {σ : St} {Q : Ou → St → Nat → Prop} (z1 : Int) (z2 : Int) (z3 : Int) (z4 : Int) (h0 : am_R (z3 + 1)) (k : am_wp sc 43 25 [.inr (.inl 0), .inl z1, .inl z2, .inl (z3 + 1), .inl z4] [] σ Q) : am_wp sc 43 72 [.inr (.inl 0), .inl z1, .inl z2, .inl z3, .inl z4] [] σ Q := by
  refine ar_inc (L' := [.inr (.inl 0), .inl z1, .inl z2, .inl (z3 + 1), .inl z4]) rfl rfl h0 rfl ?_
  refine am_wn rfl ?_
  exact k
theorem b_43_78 {sc : Int → Int} {σ : St} {Q : Ou → St → Nat → Prop} (z1 : Int) (z2 : Int) (z3 : Int) (v4 : AV) (h0 : am_R (z2 + 1)) (k : am_wp sc 43 17 [.inr (.inl 0), .inl z1, .inl (z2 + 1), .inl z3, v4] [] σ Q) : am_wp sc 43 78 [.inr (.inl 0), .inl z1, .inl z2, .inl z3, v4] [] σ Q := by
  refine ar_inc (L' := [.inr (.inl 0), .inl z1, .inl (z2 + 1), .inl z3, v4]) rfl rfl h0 rfl ?_
  refine am_wn rfl ?_
  exact k
theorem b_43_84 {sc : Int → Int} {σ : St} {Q : Ou → St → Nat → Prop} (z1 : Int) (z2 : Int) (v3 : AV) (v4 : AV) (k : Q (.inl none) σ 0) : am_wp sc 43 84 [.inr (.inl 0), .inl z1, .inl z2, v3, v4] [] σ Q := by
  exact am_w62 rfl k
/-! SlidingHeap.refersToDistance -/
theorem b_44_0 {sc : Int → Int} {σ : St} {Q : Ou → St → Nat → Prop} (z1 : Int) (z2 : Int) (v3 : AV) (k : am_wp sc 21 0 [.inr (.inl 0), .inl z1] [] σ (am_bk sc 44 2 [.inr (.inl 0), .inl z1, .inl z2, v3] [] Q)) : am_wp sc 44 0 [.inr (.inl 0), .inl z1, .inl z2, v3] [] σ Q := by
  refine am_wn rfl ?_
  refine am_wn rfl ?_
  exact am_wc rfl (by decide) (by decide) rfl k
theorem b_44_5 {sc : Int → Int} {σ : St} {Q : Ou → St → Nat → Prop} (z1 : Int) (z2 : Int) (v3 : AV) (s0 : Int) (k : am_wp sc 44 6 [.inr (.inl 0), .inl z1, .inl z2, .inl s0] [] σ Q) : am_wp sc 44 5 [.inr (.inl 0), .inl z1, .inl z2, v3] [.inl s0] σ Q := by
  refine am_wn rfl ?_
  exact k
theorem b_44_6 {sc : Int → Int} {σ : St} {Q : Ou → St → Nat → Prop} (z1 : Int) (z2 : Int) (z3 : Int) (k : am_wp sc 23 0 [.inr (.inl 0), .inl z1] [] σ (am_bk sc 44 9 [.inr (.inl 0), .inl z1, .inl z2, .inl z3] [.inl z3] Q)) : am_wp sc 44 6 [.inr (.inl 0), .inl z1, .inl z2, .inl z3] [] σ Q := by
  refine am_wn rfl ?_
  refine am_wn rfl ?_
  refine am_wn rfl ?_
  exact am_wc rfl (by decide) (by decide) rfl k
theorem b_44_12 {sc : Int → Int} {σ : St} {Q : Ou → St → Nat → Prop} (z1 : Int) (z2 : Int) (z3 : Int) (s0 : Int) (s1 : Int) (k1 : (s1 ≤ s0) → am_wp sc 44 48 [.inr (.inl 0), .inl z1, .inl z2, .inl z3] [] σ Q) (k2 : ¬ (s1 ≤ s0) → am_wp sc 44 15 [.inr (.inl 0), .inl z1, .inl z2, .inl z3] [] σ Q) : am_wp sc 44 12 [.inr (.inl 0), .inl z1, .inl z2, .inl z3] [.inl s1, .inl s0] σ Q := by
  exact ar_br (c := s1 ≤ s0) rfl k1 k2
theorem b_44_15 {sc : Int → Int} {σ : St} {Q : Ou → St → Nat → Prop} (z1 : Int) (z2 : Int) (z3 : Int) (h0 : 0 ≤ z3 ∧ z3 < 90) (k1 : ((σ 3 z3) ≠ 1) → am_wp sc 44 42 [.inr (.inl 0), .inl z1, .inl z2, .inl z3] [] σ Q) (k2 : ¬ ((σ 3 z3) ≠ 1) → am_wp sc 44 25 [.inr (.inl 0), .inl z1, .inl z2, .inl z3] [] σ Q) : am_wp sc 44 15 [.inr (.inl 0), .inl z1, .inl z2, .inl z3] [] σ Q := by
  refine am_wn rfl ?_
  refine am_wn rfl ?_
  refine am_wn rfl ?_
  refine ar_iald rfl rfl h0 ?_
  refine am_wn rfl ?_
  exact ar_br (c := (σ 3 z3) ≠ 1) rfl k1 k2
theorem b_44_25 {sc : Int → Int} {σ : St} {Q : Ou → St → Nat → Prop} (z1 : Int) (z2 : Int) (z3 : Int) (h0 : 0 ≤ z3 ∧ z3 < 90) (h1 : 0 ≤ (σ 2 z3) ∧ (σ 2 z3) < 15) (k1 : ((σ 13 (σ 2 z3)) ≠ z2) → am_wp sc 44 42 [.inr (.inl 0), .inl z1, .inl z2, .inl z3] [] σ Q) (k2 : ¬ ((σ 13 (σ 2 z3)) ≠ z2) → am_wp sc 44 40 [.inr (.inl 0), .inl z1, .inl z2, .inl z3] [] σ Q) : am_wp sc 44 25 [.inr (.inl 0), .inl z1, .inl z2, .inl z3] [] σ Q := by
  refine am_wn rfl ?_
  refine am_wn rfl ?_
  refine am_wn rfl ?_
  refine am_wn rfl ?_
  refine am_wn rfl ?_
  refine ar_iald rfl rfl h0 ?_
  refine ar_iald rfl rfl h1 ?_
  refine am_wn rfl ?_
  exact ar_br (c := (σ 13 (σ 2 z3)) ≠ z2) rfl k1 k2
theorem b_44_40 {sc : Int → Int} {σ : St} {Q : Ou → St → Nat → Prop} (z1 : Int) (z2 : Int) (z3 : Int) (k : Q (.inl (some 1)) σ 0) : am_wp sc 44 40 [.inr (.inl 0), .inl z1, .inl z2, .inl z3] [] σ Q := by
  refine am_wn rfl ?_
  exact am_w61 rfl (Or.inr rfl) k
theorem b_44_42 {sc : Int → Int} {σ : St} {Q : Ou → St → Nat → Prop} (z1 : Int) (z2 : Int) (z3 : Int) (h0 : am_R (z3 + 1)) (k : am_wp sc 44 6 [.inr (.inl 0), .inl z1, .inl z2, .inl (z3 + 1)] [] σ Q) : am_wp sc 44 42 [.inr (.inl 0), .inl z1, .inl z2, .inl z3] [] σ Q := by
  refine ar_inc (L' := [.inr (.inl 0), .inl z1, .inl z2, .inl (z3 + 1)]) rfl rfl h0 rfl ?_
  refine am_wn rfl ?_
  exact k
theorem b_44_48 {sc : Int → Int} {σ : St} {Q : Ou → St → Nat → Prop} (z1 : Int) (z2 : Int) (z3 : Int) (k : Q (.inl (some 0)) σ 0) : am_wp sc 44 48 [.inr (.inl 0), .inl z1, .inl z2, .inl z3] [] σ Q := by
  refine am_wn rfl ?_
  exact am_w61 rfl (Or.inl rfl) k
/-! SlidingHeap.nearestStart -/
theorem b_45_0 {sc : Int → Int} {σ : St} {Q : Ou → St → Nat → Prop} (v1 : AV) (v2 : AV) (k : am_wp sc 45 4 [.inr (.inl 0), .inl (-1), .inl 0] [] σ Q) : am_wp sc 45 0 [.inr (.inl 0), v1, v2] [] σ Q := by
  refine am_wn rfl ?_
  refine am_wn rfl ?_
  refine am_wn rfl ?_
  refine am_wn rfl ?_
  exact k
theorem b_45_4 {sc : Int → Int} {σ : St} {Q : Ou → St → Nat → Prop} (z1 : Int) (z2 : Int) (k1 : ((σ 32 0) ≤ z2) → am_wp sc 45 30 [.inr (.inl 0), .inl z1, .inl z2] [] σ Q) (k2 : ¬ ((σ 32 0) ≤ z2) → am_wp sc 45 12 [.inr (.inl 0), .inl z1, .inl z2] [] σ Q) : am_wp sc 45 4 [.inr (.inl 0), .inl z1, .inl z2] [] σ Q := by
  refine am_wn rfl ?_
  refine am_wn rfl ?_
  refine am_wn rfl ?_
  exact ar_br (c := (σ 32 0) ≤ z2) rfl k1 k2
theorem b_45_12 {sc : Int → Int} {σ : St} {Q : Ou → St → Nat → Prop} (z1 : Int) (z2 : Int) (h0 : 0 ≤ z2 ∧ z2 < 10) (k : am_wp sc 46 0 [.inr (.inl 0), .inl z1, .inl (σ 9 z2)] [] σ (am_bk sc 45 20 [.inr (.inl 0), .inl z1, .inl z2] [] Q)) : am_wp sc 45 12 [.inr (.inl 0), .inl z1, .inl z2] [] σ Q := by
  refine am_wn rfl ?_
  refine am_wn rfl ?_
  refine am_wn rfl ?_
  refine am_wn rfl ?_
  refine am_wn rfl ?_
  refine ar_iald rfl rfl h0 ?_
  exact am_wc rfl (by decide) (by decide) rfl k
theorem b_45_23 {sc : Int → Int} {σ : St} {Q : Ou → St → Nat → Prop} (z1 : Int) (z2 : Int) (s0 : Int) (h0 : am_R (z2 + 1)) (k : am_wp sc 45 4 [.inr (.inl 0), .inl s0, .inl (z2 + 1)] [] σ Q) : am_wp sc 45 23 [.inr (.inl 0), .inl z1, .inl z2] [.inl s0] σ Q := by
  refine am_wn rfl ?_
  refine ar_inc (L' := [.inr (.inl 0), .inl s0, .inl (z2 + 1)]) rfl rfl h0 rfl ?_
  refine am_wn rfl ?_
  exact k
theorem b_45_30 {sc : Int → Int} {σ : St} {Q : Ou → St → Nat → Prop} (z1 : Int) (z2 : Int) (k : am_wp sc 45 32 [.inr (.inl 0), .inl z1, .inl 0] [] σ Q) : am_wp sc 45 30 [.inr (.inl 0), .inl z1, .inl z2] [] σ Q := by
  refine am_wn rfl ?_
  refine am_wn rfl ?_
  exact k
theorem b_45_32 {sc : Int → Int} {σ : St} {Q : Ou → St → Nat → Prop} (z1 : Int) (z2 : Int) (k1 : ((σ 33 0) ≤ z2) → am_wp sc 45 58 [.inr (.inl 0), .inl z1, .inl z2] [] σ Q) (k2 : ¬ ((σ 33 0) ≤ z2) → am_wp sc 45 40 [.inr (.inl 0), .inl z1, .inl z2] [] σ Q) : am_wp sc 45 32 [.inr (.inl 0), .inl z1, .inl z2] [] σ Q := by
  refine am_wn rfl ?_
  refine am_wn rfl ?_
  refine am_wn rfl ?_
  exact ar_br (c := (σ 33 0) ≤ z2) rfl k1 k2
theorem b_45_40 {sc : Int → Int} {σ : St} {Q : Ou → St → Nat → Prop} (z1 : Int) (z2 : Int) (h0 : 0 ≤ z2 ∧ z2 < 14) (k : am_wp sc 46 0 [.inr (.inl 0), .inl z1, .inl (σ 10 z2)] [] σ (am_bk sc 45 48 [.inr (.inl 0), .inl z1, .inl z2] [] Q)) : am_wp sc 45 40 [.inr (.inl 0), .inl z1, .inl z2] [] σ Q := by
  refine am_wn rfl ?_
  refine am_wn rfl ?_
  refine am_wn rfl ?_
  refine am_wn rfl ?_
  refine am_wn rfl ?_
  refine ar_iald rfl rfl h0 ?_
  exact am_wc rfl (by decide) (by decide) rfl k
theorem b_45_51 {sc : Int → Int} {σ : St} {Q : Ou → St → Nat → Prop} (z1 : Int) (z2 : Int) (s0 : Int) (h0 : am_R (z2 + 1)) (k : am_wp sc 45 32 [.inr (.inl 0), .inl s0, .inl (z2 + 1)] [] σ Q) : am_wp sc 45 51 [.inr (.inl 0), .inl z1, .inl z2] [.inl s0] σ Q := by
  refine am_wn rfl ?_
  refine ar_inc (L' := [.inr (.inl 0), .inl s0, .inl (z2 + 1)]) rfl rfl h0 rfl ?_
  refine am_wn rfl ?_
  exact k
theorem b_45_58 {sc : Int → Int} {σ : St} {Q : Ou → St → Nat → Prop} (z1 : Int) (z2 : Int) (k : Q (.inl (some z1)) σ 0) : am_wp sc 45 58 [.inr (.inl 0), .inl z1, .inl z2] [] σ Q := by
  refine am_wn rfl ?_
  exact am_w60 rfl k
/-! SlidingHeap.nearer -/
theorem b_46_0 {sc : Int → Int} {σ : St} {Q : Ou → St → Nat → Prop} (z1 : Int) (z2 : Int) (h0 : 0 ≤ z2 ∧ z2 < 15) (k1 : ((σ 13 z2) ≠ (-1)) → am_wp sc 46 12 [.inr (.inl 0), .inl z1, .inl z2] [] σ Q) (k2 : ¬ ((σ 13 z2) ≠ (-1)) → am_wp sc 46 10 [.inr (.inl 0), .inl z1, .inl z2] [] σ Q) : am_wp sc 46 0 [.inr (.inl 0), .inl z1, .inl z2] [] σ Q := by
  refine am_wn rfl ?_
  refine am_wn rfl ?_
  refine am_wn rfl ?_
  refine ar_iald rfl rfl h0 ?_
  refine am_wn rfl ?_
  exact ar_br (c := (σ 13 z2) ≠ (-1)) rfl k1 k2
theorem b_46_10 {sc : Int → Int} {σ : St} {Q : Ou → St → Nat → Prop} (z1 : Int) (z2 : Int) (k : Q (.inl (some z1)) σ 0) : am_wp sc 46 10 [.inr (.inl 0), .inl z1, .inl z2] [] σ Q := by
  refine am_wn rfl ?_
  exact am_w60 rfl k
theorem b_46_12 {sc : Int → Int} {σ : St} {Q : Ou → St → Nat → Prop} (z1 : Int) (z2 : Int) (k1 : (z1 = (-1)) → am_wp sc 46 32 [.inr (.inl 0), .inl z1, .inl z2] [] σ Q) (k2 : ¬ (z1 = (-1)) → am_wp sc 46 17 [.inr (.inl 0), .inl z1, .inl z2] [] σ Q) : am_wp sc 46 12 [.inr (.inl 0), .inl z1, .inl z2] [] σ Q := by
  refine am_wn rfl ?_
  refine am_wn rfl ?_
  exact ar_br (c := z1 = (-1)) rfl k1 k2
theorem b_46_17 {sc : Int → Int} {σ : St} {Q : Ou → St → Nat → Prop} (z1 : Int) (z2 : Int) (h0 : 0 ≤ z2 ∧ z2 < 15) (h1 : 0 ≤ z1 ∧ z1 < 15) (k1 : ((σ 13 z1) ≤ (σ 13 z2)) → am_wp sc 46 34 [.inr (.inl 0), .inl z1, .inl z2] [] σ Q) (k2 : ¬ ((σ 13 z1) ≤ (σ 13 z2)) → am_wp sc 46 32 [.inr (.inl 0), .inl z1, .inl z2] [] σ Q) : am_wp sc 46 17 [.inr (.inl 0), .inl z1, .inl z2] [] σ Q := by
  refine am_wn rfl ?_
  refine am_wn rfl ?_
  refine am_wn rfl ?_
  refine ar_iald rfl rfl h0 ?_
  refine am_wn rfl ?_
  refine am_wn rfl ?_
  refine am_wn rfl ?_
  refine ar_iald rfl rfl h1 ?_
  exact ar_br (c := (σ 13 z1) ≤ (σ 13 z2)) rfl k1 k2
theorem b_46_32 {sc : Int → Int} {σ : St} {Q : Ou → St → Nat → Prop} (z1 : Int) (z2 : Int) (k : Q (.inl (some z2)) σ 0) : am_wp sc 46 32 [.inr (.inl 0), .inl z1, .inl z2] [] σ Q := by
  refine am_wn rfl ?_
  exact am_w60 rfl k
theorem b_46_34 {sc : Int → Int} {σ : St} {Q : Ou → St → Nat → Prop} (z1 : Int) (z2 : Int) (h0 : 0 ≤ z2 ∧ z2 < 15) (h1 : 0 ≤ z1 ∧ z1 < 15) (k1 : ((σ 13 z2) ≠ (σ 13 z1)) → am_wp sc 46 57 [.inr (.inl 0), .inl z1, .inl z2] [] σ Q) (k2 : ¬ ((σ 13 z2) ≠ (σ 13 z1)) → am_wp sc 46 49 [.inr (.inl 0), .inl z1, .inl z2] [] σ Q) : am_wp sc 46 34 [.inr (.inl 0), .inl z1, .inl z2] [] σ Q := by
  refine am_wn rfl ?_
  refine am_wn rfl ?_
  refine am_wn rfl ?_
  refine ar_iald rfl rfl h0 ?_
  refine am_wn rfl ?_
  refine am_wn rfl ?_
  refine am_wn rfl ?_
  refine ar_iald rfl rfl h1 ?_
  exact ar_br (c := (σ 13 z2) ≠ (σ 13 z1)) rfl k1 k2
theorem b_46_49 {sc : Int → Int} {σ : St} {Q : Ou → St → Nat → Prop} (z1 : Int) (z2 : Int) (k : am_wp sc 46 58 [.inr (.inl 0), .inl z1, .inl z2] [.inl (if z2 < z1 then z2 else z1)] σ Q) : am_wp sc 46 49 [.inr (.inl 0), .inl z1, .inl z2] [] σ Q := by
  refine am_wn rfl ?_
  refine am_wn rfl ?_
  refine am_wn rfl ?_
  refine am_wn rfl ?_
  exact k
theorem b_46_57 {sc : Int → Int} {σ : St} {Q : Ou → St → Nat → Prop} (z1 : Int) (z2 : Int) (k : am_wp sc 46 58 [.inr (.inl 0), .inl z1, .inl z2] [.inl z1] σ Q) : am_wp sc 46 57 [.inr (.inl 0), .inl z1, .inl z2] [] σ Q := by
  refine am_wn rfl ?_
  exact k
theorem b_46_58 {sc : Int → Int} {σ : St} {Q : Ou → St → Nat → Prop} (z1 : Int) (z2 : Int) (s0 : Int) (k : Q (.inl (some s0)) σ 0) : am_wp sc 46 58 [.inr (.inl 0), .inl z1, .inl z2] [.inl s0] σ Q := by
  exact am_w60 rfl k
/-! SlidingHeap.nextOnWay -/
theorem b_47_0 {sc : Int → Int} {σ : St} {Q : Ou → St → Nat → Prop} (z1 : Int) (v2 : AV) (v3 : AV) (k : am_wp sc 21 0 [.inr (.inl 0), .inl z1] [] σ (am_bk sc 47 4 [.inr (.inl 0), .inl z1, .inl (-1), v3] [] Q)) : am_wp sc 47 0 [.inr (.inl 0), .inl z1, v2, v3] [] σ Q := by
  refine am_wn rfl ?_
  refine am_wn rfl ?_
  refine am_wn rfl ?_
  refine am_wn rfl ?_
  exact am_wc rfl (by decide) (by decide) rfl k
theorem b_47_7 {sc : Int → Int} {σ : St} {Q : Ou → St → Nat → Prop} (z1 : Int) (z2 : Int) (v3 : AV) (s0 : Int) (k : am_wp sc 47 8 [.inr (.inl 0), .inl z1, .inl z2, .inl s0] [] σ Q) : am_wp sc 47 7 [.inr (.inl 0), .inl z1, .inl z2, v3] [.inl s0] σ Q := by
  refine am_wn rfl ?_
  exact k
theorem b_47_8 {sc : Int → Int} {σ : St} {Q : Ou → St → Nat → Prop} (z1 : Int) (z2 : Int) (z3 : Int) (k : am_wp sc 23 0 [.inr (.inl 0), .inl z1] [] σ (am_bk sc 47 11 [.inr (.inl 0), .inl z1, .inl z2, .inl z3] [.inl z3] Q)) : am_wp sc 47 8 [.inr (.inl 0), .inl z1, .inl z2, .inl z3] [] σ Q := by
  refine am_wn rfl ?_
  refine am_wn rfl ?_
  refine am_wn rfl ?_
  exact am_wc rfl (by decide) (by decide) rfl k
theorem b_47_14 {sc : Int → Int} {σ : St} {Q : Ou → St → Nat → Prop} (z1 : Int) (z2 : Int) (z3 : Int) (s0 : Int) (s1 : Int) (k1 : (s1 ≤ s0) → am_wp sc 47 80 [.inr (.inl 0), .inl z1, .inl z2, .inl z3] [] σ Q) (k2 : ¬ (s1 ≤ s0) → am_wp sc 47 17 [.inr (.inl 0), .inl z1, .inl z2, .inl z3] [] σ Q) : am_wp sc 47 14 [.inr (.inl 0), .inl z1, .inl z2, .inl z3] [.inl s1, .inl s0] σ Q := by
  exact ar_br (c := s1 ≤ s0) rfl k1 k2
theorem b_47_17 {sc : Int → Int} {σ : St} {Q : Ou → St → Nat → Prop} (z1 : Int) (z2 : Int) (z3 : Int) (h0 : 0 ≤ z3 ∧ z3 < 90) (k1 : ((σ 3 z3) ≠ 1) → am_wp sc 47 74 [.inr (.inl 0), .inl z1, .inl z2, .inl z3] [] σ Q) (k2 : ¬ ((σ 3 z3) ≠ 1) → am_wp sc 47 27 [.inr (.inl 0), .inl z1, .inl z2, .inl z3] [] σ Q) : am_wp sc 47 17 [.inr (.inl 0), .inl z1, .inl z2, .inl z3] [] σ Q := by
  refine am_wn rfl ?_
  refine am_wn rfl ?_
  refine am_wn rfl ?_
  refine ar_iald rfl rfl h0 ?_
  refine am_wn rfl ?_
  exact ar_br (c := (σ 3 z3) ≠ 1) rfl k1 k2
theorem b_47_27 {sc : Int → Int} {σ : St} {Q : Ou → St → Nat → Prop} (z1 : Int) (z2 : Int) (z3 : Int) (h0 : 0 ≤ z3 ∧ z3 < 90) (h1 : 0 ≤ (σ 2 z3) ∧ (σ 2 z3) < 15) (h2 : 0 ≤ z1 ∧ z1 < 15) (h3 : am_R ((σ 13 z1) - 1)) (k1 : ((σ 13 (σ 2 z3)) ≠ ((σ 13 z1) - 1)) → am_wp sc 47 74 [.inr (.inl 0), .inl z1, .inl z2, .inl z3] [] σ Q) (k2 : ¬ ((σ 13 (σ 2 z3)) ≠ ((σ 13 z1) - 1)) → am_wp sc 47 49 [.inr (.inl 0), .inl z1, .inl z2, .inl z3] [] σ Q) : am_wp sc 47 27 [.inr (.inl 0), .inl z1, .inl z2, .inl z3] [] σ Q := by
  refine am_wn rfl ?_
  refine am_wn rfl ?_
  refine am_wn rfl ?_
  refine am_wn rfl ?_
  refine am_wn rfl ?_
  refine ar_iald rfl rfl h0 ?_
  refine ar_iald rfl rfl h1 ?_
  refine am_wn rfl ?_
  refine am_wn rfl ?_
  refine am_wn rfl ?_
  refine ar_iald rfl rfl h2 ?_
  refine am_wn rfl ?_
  refine ar_sub rfl h3 ?_
  exact ar_br (c := (σ 13 (σ 2 z3)) ≠ ((σ 13 z1) - 1)) rfl k1 k2
theorem b_47_49 {sc : Int → Int} {σ : St} {Q : Ou → St → Nat → Prop} (z1 : Int) (z2 : Int) (z3 : Int) (k1 : (z2 ≠ (-1)) → am_wp sc 47 63 [.inr (.inl 0), .inl z1, .inl z2, .inl z3] [] σ Q) (k2 : ¬ (z2 ≠ (-1)) → am_wp sc 47 54 [.inr (.inl 0), .inl z1, .inl z2, .inl z3] [] σ Q) : am_wp sc 47 49 [.inr (.inl 0), .inl z1, .inl z2, .inl z3] [] σ Q := by
  refine am_wn rfl ?_
  refine am_wn rfl ?_
  exact ar_br (c := z2 ≠ (-1)) rfl k1 k2
theorem b_47_54 {sc : Int → Int} {σ : St} {Q : Ou → St → Nat → Prop} (z1 : Int) (z2 : Int) (z3 : Int) (h0 : 0 ≤ z3 ∧ z3 < 90) (k : am_wp sc 47 73 [.inr (.inl 0), .inl z1, .inl z2, .inl z3] [.inl (σ 2 z3)] σ Q) : am_wp sc 47 54 [.inr (.inl 0), .inl z1, .inl z2, .inl z3] [] σ Q := by
  refine am_wn rfl ?_
  refine am_wn rfl ?_
  refine am_wn rfl ?_
  refine ar_iald rfl rfl h0 ?_
  refine am_wn rfl ?_
  exact k
theorem b_47_63 {sc : Int → Int} {σ : St} {Q : Ou → St → Nat → Prop} (z1 : Int) (z2 : Int) (z3 : Int) (h0 : 0 ≤ z3 ∧ z3 < 90) (k : am_wp sc 47 73 [.inr (.inl 0), .inl z1, .inl z2, .inl z3] [.inl (if (σ 2 z3) < z2 then (σ 2 z3) else z2)] σ Q) : am_wp sc 47 63 [.inr (.inl 0), .inl z1, .inl z2, .inl z3] [] σ Q := by
  refine am_wn rfl ?_
  refine am_wn rfl ?_
  refine am_wn rfl ?_
  refine am_wn rfl ?_
  refine ar_iald rfl rfl h0 ?_
  refine am_wn rfl ?_
  exact k
theorem b_47_73 {sc : Int → Int} {σ : St} {Q : Ou → St → Nat → Prop} (z1 : Int) (z2 : Int) (z3 : Int) (s0 : Int) (k : am_wp sc 47 74 [.inr (.inl 0), .inl z1, .inl s0, .inl z3] [] σ Q) : am_wp sc 47 73 [.inr (.inl 0), .inl z1, .inl z2, .inl z3] [.inl s0] σ Q := by
  refine am_wn rfl ?_
  exact k
theorem b_47_74 {sc : Int → Int} {σ : St} {Q : Ou → St → Nat → Prop} (z1 : Int) (z2 : Int) (z3 : Int) (h0 : am_R (z3 + 1)) (k : am_wp sc 47 8 [.inr (.inl 0), .inl z1, .inl z2, .inl (z3 + 1)] [] σ Q) : am_wp sc 47 74 [.inr (.inl 0), .inl z1, .inl z2, .inl z3] [] σ Q := by
  refine ar_inc (L' := [.inr (.inl 0), .inl z1, .inl z2, .inl (z3 + 1)]) rfl rfl h0 rfl ?_
  refine am_wn rfl ?_
  exact k
theorem b_47_80 {sc : Int → Int} {σ : St} {Q : Ou → St → Nat → Prop} (z1 : Int) (z2 : Int) (z3 : Int) (k : Q (.inl (some z2)) σ 0) : am_wp sc 47 80 [.inr (.inl 0), .inl z1, .inl z2, .inl z3] [] σ Q := by
  refine am_wn rfl ?_
  exact am_w60 rfl k
