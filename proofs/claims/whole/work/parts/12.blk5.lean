/-! SlidingHeapLaw.law -/
set_option maxRecDepth 100000 in
theorem b_law_20 {sc : Int → Int} {σ : St} {Q : Ou → St → Nat → Prop} (v4 : AV) (v5 : AV) (v6 : AV) (k : am_wp sc am_law 23 [.inr (.inl 28), .inr (.inl 0), .inr (.inl 1), .inr (.inl 26), .inl 0, v5, v6] [] σ Q) : am_wp sc am_law 20 [.inr (.inl 28), .inr (.inl 0), .inr (.inl 1), .inr (.inl 26), v4, v5, v6] [] σ Q := by
  refine am_wn rfl ?_
  refine am_wn rfl ?_
  exact k
set_option maxRecDepth 100000 in
theorem b_law_23 {sc : Int → Int} {σ : St} {Q : Ou → St → Nat → Prop} (z4 : Int) (v5 : AV) (v6 : AV) (h0 : am_R ((sc (-1)) - 5)) (k1 : (((sc (-1)) - 5) < z4) → am_wp sc am_law 1025 [.inr (.inl 28), .inr (.inl 0), .inr (.inl 1), .inr (.inl 26), .inl z4, v5, v6] [] σ Q) (k2 : ¬ (((sc (-1)) - 5) < z4) → am_wp sc am_law 32 [.inr (.inl 28), .inr (.inl 0), .inr (.inl 1), .inr (.inl 26), .inl z4, v5, v6] [] σ Q) : am_wp sc am_law 23 [.inr (.inl 28), .inr (.inl 0), .inr (.inl 1), .inr (.inl 26), .inl z4, v5, v6] [] σ Q := by
  refine am_wn rfl ?_
  refine am_wn rfl ?_
  refine am_wn rfl ?_
  refine am_wn rfl ?_
  refine ar_sub rfl h0 ?_
  exact ar_br (c := ((sc (-1)) - 5) < z4) rfl k1 k2
set_option maxRecDepth 100000 in
theorem b_law_32_c0 {sc : Int → Int} {σ : St} {Q : Ou → St → Nat → Prop} (z4 : Int) (v5 : AV) (v6 : AV) (h0 : 0 ≤ z4 ∧ z4 < sc (-1)) (hz : ((sc z4) % 32) = 0) (k : am_wp sc am_law 124 [.inr (.inl 28), .inr (.inl 0), .inr (.inl 1), .inr (.inl 26), .inl z4, v5, v6] [] σ Q) : am_wp sc am_law 32 [.inr (.inl 28), .inr (.inl 0), .inr (.inl 1), .inr (.inl 26), .inl z4, v5, v6] [] σ Q := by
  refine am_wn rfl ?_
  refine am_wn rfl ?_
  refine ar_sald rfl h0 ?_
  refine am_wn rfl ?_
  refine am_wn rfl ?_
  exact ar_sw hz rfl k
set_option maxRecDepth 100000 in
theorem b_law_32_c1 {sc : Int → Int} {σ : St} {Q : Ou → St → Nat → Prop} (z4 : Int) (v5 : AV) (v6 : AV) (h0 : 0 ≤ z4 ∧ z4 < sc (-1)) (hz : ((sc z4) % 32) = 1) (k : am_wp sc am_law 180 [.inr (.inl 28), .inr (.inl 0), .inr (.inl 1), .inr (.inl 26), .inl z4, v5, v6] [] σ Q) : am_wp sc am_law 32 [.inr (.inl 28), .inr (.inl 0), .inr (.inl 1), .inr (.inl 26), .inl z4, v5, v6] [] σ Q := by
  refine am_wn rfl ?_
  refine am_wn rfl ?_
  refine ar_sald rfl h0 ?_
  refine am_wn rfl ?_
  refine am_wn rfl ?_
  exact ar_sw hz rfl k
set_option maxRecDepth 100000 in
theorem b_law_32_c2 {sc : Int → Int} {σ : St} {Q : Ou → St → Nat → Prop} (z4 : Int) (v5 : AV) (v6 : AV) (h0 : 0 ≤ z4 ∧ z4 < sc (-1)) (hz : ((sc z4) % 32) = 2) (k : am_wp sc am_law 240 [.inr (.inl 28), .inr (.inl 0), .inr (.inl 1), .inr (.inl 26), .inl z4, v5, v6] [] σ Q) : am_wp sc am_law 32 [.inr (.inl 28), .inr (.inl 0), .inr (.inl 1), .inr (.inl 26), .inl z4, v5, v6] [] σ Q := by
  refine am_wn rfl ?_
  refine am_wn rfl ?_
  refine ar_sald rfl h0 ?_
  refine am_wn rfl ?_
  refine am_wn rfl ?_
  exact ar_sw hz rfl k
set_option maxRecDepth 100000 in
theorem b_law_32_c3 {sc : Int → Int} {σ : St} {Q : Ou → St → Nat → Prop} (z4 : Int) (v5 : AV) (v6 : AV) (h0 : 0 ≤ z4 ∧ z4 < sc (-1)) (hz : ((sc z4) % 32) = 3) (k : am_wp sc am_law 328 [.inr (.inl 28), .inr (.inl 0), .inr (.inl 1), .inr (.inl 26), .inl z4, v5, v6] [] σ Q) : am_wp sc am_law 32 [.inr (.inl 28), .inr (.inl 0), .inr (.inl 1), .inr (.inl 26), .inl z4, v5, v6] [] σ Q := by
  refine am_wn rfl ?_
  refine am_wn rfl ?_
  refine ar_sald rfl h0 ?_
  refine am_wn rfl ?_
  refine am_wn rfl ?_
  exact ar_sw hz rfl k
set_option maxRecDepth 100000 in
theorem b_law_32_c4 {sc : Int → Int} {σ : St} {Q : Ou → St → Nat → Prop} (z4 : Int) (v5 : AV) (v6 : AV) (h0 : 0 ≤ z4 ∧ z4 < sc (-1)) (hz : ((sc z4) % 32) = 4) (k : am_wp sc am_law 396 [.inr (.inl 28), .inr (.inl 0), .inr (.inl 1), .inr (.inl 26), .inl z4, v5, v6] [] σ Q) : am_wp sc am_law 32 [.inr (.inl 28), .inr (.inl 0), .inr (.inl 1), .inr (.inl 26), .inl z4, v5, v6] [] σ Q := by
  refine am_wn rfl ?_
  refine am_wn rfl ?_
  refine ar_sald rfl h0 ?_
  refine am_wn rfl ?_
  refine am_wn rfl ?_
  exact ar_sw hz rfl k
set_option maxRecDepth 100000 in
theorem b_law_32_c5 {sc : Int → Int} {σ : St} {Q : Ou → St → Nat → Prop} (z4 : Int) (v5 : AV) (v6 : AV) (h0 : 0 ≤ z4 ∧ z4 < sc (-1)) (hz : ((sc z4) % 32) = 5) (k : am_wp sc am_law 464 [.inr (.inl 28), .inr (.inl 0), .inr (.inl 1), .inr (.inl 26), .inl z4, v5, v6] [] σ Q) : am_wp sc am_law 32 [.inr (.inl 28), .inr (.inl 0), .inr (.inl 1), .inr (.inl 26), .inl z4, v5, v6] [] σ Q := by
  refine am_wn rfl ?_
  refine am_wn rfl ?_
  refine ar_sald rfl h0 ?_
  refine am_wn rfl ?_
  refine am_wn rfl ?_
  exact ar_sw hz rfl k
set_option maxRecDepth 100000 in
theorem b_law_32_c6 {sc : Int → Int} {σ : St} {Q : Ou → St → Nat → Prop} (z4 : Int) (v5 : AV) (v6 : AV) (h0 : 0 ≤ z4 ∧ z4 < sc (-1)) (hz : ((sc z4) % 32) = 6) (k : am_wp sc am_law 520 [.inr (.inl 28), .inr (.inl 0), .inr (.inl 1), .inr (.inl 26), .inl z4, v5, v6] [] σ Q) : am_wp sc am_law 32 [.inr (.inl 28), .inr (.inl 0), .inr (.inl 1), .inr (.inl 26), .inl z4, v5, v6] [] σ Q := by
  refine am_wn rfl ?_
  refine am_wn rfl ?_
  refine ar_sald rfl h0 ?_
  refine am_wn rfl ?_
  refine am_wn rfl ?_
  exact ar_sw hz rfl k
set_option maxRecDepth 100000 in
theorem b_law_32_c7 {sc : Int → Int} {σ : St} {Q : Ou → St → Nat → Prop} (z4 : Int) (v5 : AV) (v6 : AV) (h0 : 0 ≤ z4 ∧ z4 < sc (-1)) (hz : ((sc z4) % 32) = 7) (k : am_wp sc am_law 533 [.inr (.inl 28), .inr (.inl 0), .inr (.inl 1), .inr (.inl 26), .inl z4, v5, v6] [] σ Q) : am_wp sc am_law 32 [.inr (.inl 28), .inr (.inl 0), .inr (.inl 1), .inr (.inl 26), .inl z4, v5, v6] [] σ Q := by
  refine am_wn rfl ?_
  refine am_wn rfl ?_
  refine ar_sald rfl h0 ?_
  refine am_wn rfl ?_
  refine am_wn rfl ?_
  exact ar_sw hz rfl k
set_option maxRecDepth 100000 in
theorem b_law_32_c8 {sc : Int → Int} {σ : St} {Q : Ou → St → Nat → Prop} (z4 : Int) (v5 : AV) (v6 : AV) (h0 : 0 ≤ z4 ∧ z4 < sc (-1)) (hz : ((sc z4) % 32) = 8) (k : am_wp sc am_law 558 [.inr (.inl 28), .inr (.inl 0), .inr (.inl 1), .inr (.inl 26), .inl z4, v5, v6] [] σ Q) : am_wp sc am_law 32 [.inr (.inl 28), .inr (.inl 0), .inr (.inl 1), .inr (.inl 26), .inl z4, v5, v6] [] σ Q := by
  refine am_wn rfl ?_
  refine am_wn rfl ?_
  refine ar_sald rfl h0 ?_
  refine am_wn rfl ?_
  refine am_wn rfl ?_
  exact ar_sw hz rfl k
set_option maxRecDepth 100000 in
theorem b_law_32_c9 {sc : Int → Int} {σ : St} {Q : Ou → St → Nat → Prop} (z4 : Int) (v5 : AV) (v6 : AV) (h0 : 0 ≤ z4 ∧ z4 < sc (-1)) (hz : ((sc z4) % 32) = 9) (k : am_wp sc am_law 622 [.inr (.inl 28), .inr (.inl 0), .inr (.inl 1), .inr (.inl 26), .inl z4, v5, v6] [] σ Q) : am_wp sc am_law 32 [.inr (.inl 28), .inr (.inl 0), .inr (.inl 1), .inr (.inl 26), .inl z4, v5, v6] [] σ Q := by
  refine am_wn rfl ?_
  refine am_wn rfl ?_
  refine ar_sald rfl h0 ?_
  refine am_wn rfl ?_
  refine am_wn rfl ?_
  exact ar_sw hz rfl k
set_option maxRecDepth 100000 in
theorem b_law_32_c10 {sc : Int → Int} {σ : St} {Q : Ou → St → Nat → Prop} (z4 : Int) (v5 : AV) (v6 : AV) (h0 : 0 ≤ z4 ∧ z4 < sc (-1)) (hz : ((sc z4) % 32) = 10) (k : am_wp sc am_law 666 [.inr (.inl 28), .inr (.inl 0), .inr (.inl 1), .inr (.inl 26), .inl z4, v5, v6] [] σ Q) : am_wp sc am_law 32 [.inr (.inl 28), .inr (.inl 0), .inr (.inl 1), .inr (.inl 26), .inl z4, v5, v6] [] σ Q := by
  refine am_wn rfl ?_
  refine am_wn rfl ?_
  refine ar_sald rfl h0 ?_
  refine am_wn rfl ?_
  refine am_wn rfl ?_
  exact ar_sw hz rfl k
set_option maxRecDepth 100000 in
theorem b_law_32_c11 {sc : Int → Int} {σ : St} {Q : Ou → St → Nat → Prop} (z4 : Int) (v5 : AV) (v6 : AV) (h0 : 0 ≤ z4 ∧ z4 < sc (-1)) (hz : ((sc z4) % 32) = 11) (k : am_wp sc am_law 691 [.inr (.inl 28), .inr (.inl 0), .inr (.inl 1), .inr (.inl 26), .inl z4, v5, v6] [] σ Q) : am_wp sc am_law 32 [.inr (.inl 28), .inr (.inl 0), .inr (.inl 1), .inr (.inl 26), .inl z4, v5, v6] [] σ Q := by
  refine am_wn rfl ?_
  refine am_wn rfl ?_
  refine ar_sald rfl h0 ?_
  refine am_wn rfl ?_
  refine am_wn rfl ?_
  exact ar_sw hz rfl k
set_option maxRecDepth 100000 in
theorem b_law_32_c12 {sc : Int → Int} {σ : St} {Q : Ou → St → Nat → Prop} (z4 : Int) (v5 : AV) (v6 : AV) (h0 : 0 ≤ z4 ∧ z4 < sc (-1)) (hz : ((sc z4) % 32) = 12) (k : am_wp sc am_law 704 [.inr (.inl 28), .inr (.inl 0), .inr (.inl 1), .inr (.inl 26), .inl z4, v5, v6] [] σ Q) : am_wp sc am_law 32 [.inr (.inl 28), .inr (.inl 0), .inr (.inl 1), .inr (.inl 26), .inl z4, v5, v6] [] σ Q := by
  refine am_wn rfl ?_
  refine am_wn rfl ?_
  refine ar_sald rfl h0 ?_
  refine am_wn rfl ?_
  refine am_wn rfl ?_
  exact ar_sw hz rfl k
set_option maxRecDepth 100000 in
theorem b_law_32_c13 {sc : Int → Int} {σ : St} {Q : Ou → St → Nat → Prop} (z4 : Int) (v5 : AV) (v6 : AV) (h0 : 0 ≤ z4 ∧ z4 < sc (-1)) (hz : ((sc z4) % 32) = 13) (k : am_wp sc am_law 760 [.inr (.inl 28), .inr (.inl 0), .inr (.inl 1), .inr (.inl 26), .inl z4, v5, v6] [] σ Q) : am_wp sc am_law 32 [.inr (.inl 28), .inr (.inl 0), .inr (.inl 1), .inr (.inl 26), .inl z4, v5, v6] [] σ Q := by
  refine am_wn rfl ?_
  refine am_wn rfl ?_
  refine ar_sald rfl h0 ?_
  refine am_wn rfl ?_
  refine am_wn rfl ?_
  exact ar_sw hz rfl k
set_option maxRecDepth 100000 in
theorem b_law_32_c14 {sc : Int → Int} {σ : St} {Q : Ou → St → Nat → Prop} (z4 : Int) (v5 : AV) (v6 : AV) (h0 : 0 ≤ z4 ∧ z4 < sc (-1)) (hz : ((sc z4) % 32) = 14) (k : am_wp sc am_law 828 [.inr (.inl 28), .inr (.inl 0), .inr (.inl 1), .inr (.inl 26), .inl z4, v5, v6] [] σ Q) : am_wp sc am_law 32 [.inr (.inl 28), .inr (.inl 0), .inr (.inl 1), .inr (.inl 26), .inl z4, v5, v6] [] σ Q := by
  refine am_wn rfl ?_
  refine am_wn rfl ?_
  refine ar_sald rfl h0 ?_
  refine am_wn rfl ?_
  refine am_wn rfl ?_
  exact ar_sw hz rfl k
set_option maxRecDepth 100000 in
theorem b_law_32_c15 {sc : Int → Int} {σ : St} {Q : Ou → St → Nat → Prop} (z4 : Int) (v5 : AV) (v6 : AV) (h0 : 0 ≤ z4 ∧ z4 < sc (-1)) (hz : ((sc z4) % 32) = 15) (k : am_wp sc am_law 884 [.inr (.inl 28), .inr (.inl 0), .inr (.inl 1), .inr (.inl 26), .inl z4, v5, v6] [] σ Q) : am_wp sc am_law 32 [.inr (.inl 28), .inr (.inl 0), .inr (.inl 1), .inr (.inl 26), .inl z4, v5, v6] [] σ Q := by
  refine am_wn rfl ?_
  refine am_wn rfl ?_
  refine ar_sald rfl h0 ?_
  refine am_wn rfl ?_
  refine am_wn rfl ?_
  exact ar_sw hz rfl k
set_option maxRecDepth 100000 in
theorem b_law_32_c16 {sc : Int → Int} {σ : St} {Q : Ou → St → Nat → Prop} (z4 : Int) (v5 : AV) (v6 : AV) (h0 : 0 ≤ z4 ∧ z4 < sc (-1)) (hz : ((sc z4) % 32) = 16) (k : am_wp sc am_law 952 [.inr (.inl 28), .inr (.inl 0), .inr (.inl 1), .inr (.inl 26), .inl z4, v5, v6] [] σ Q) : am_wp sc am_law 32 [.inr (.inl 28), .inr (.inl 0), .inr (.inl 1), .inr (.inl 26), .inl z4, v5, v6] [] σ Q := by
  refine am_wn rfl ?_
  refine am_wn rfl ?_
  refine ar_sald rfl h0 ?_
  refine am_wn rfl ?_
  refine am_wn rfl ?_
  exact ar_sw hz rfl k
set_option maxRecDepth 100000 in
theorem b_law_32_c17 {sc : Int → Int} {σ : St} {Q : Ou → St → Nat → Prop} (z4 : Int) (v5 : AV) (v6 : AV) (h0 : 0 ≤ z4 ∧ z4 < sc (-1)) (hz : ((sc z4) % 32) = 17) (k : am_wp sc am_law 1008 [.inr (.inl 28), .inr (.inl 0), .inr (.inl 1), .inr (.inl 26), .inl z4, v5, v6] [] σ Q) : am_wp sc am_law 32 [.inr (.inl 28), .inr (.inl 0), .inr (.inl 1), .inr (.inl 26), .inl z4, v5, v6] [] σ Q := by
  refine am_wn rfl ?_
  refine am_wn rfl ?_
  refine ar_sald rfl h0 ?_
  refine am_wn rfl ?_
  refine am_wn rfl ?_
  exact ar_sw hz rfl k
set_option maxRecDepth 100000 in
theorem b_law_32_d {sc : Int → Int} {σ : St} {Q : Ou → St → Nat → Prop} (z4 : Int) (v5 : AV) (v6 : AV) (h0 : 0 ≤ z4 ∧ z4 < sc (-1)) (hz : ((sc z4) % 32) < 0 ∨ 18 ≤ ((sc z4) % 32)) (k : am_wp sc am_law 1019 [.inr (.inl 28), .inr (.inl 0), .inr (.inl 1), .inr (.inl 26), .inl z4, v5, v6] [] σ Q) : am_wp sc am_law 32 [.inr (.inl 28), .inr (.inl 0), .inr (.inl 1), .inr (.inl 26), .inl z4, v5, v6] [] σ Q := by
  refine am_wn rfl ?_
  refine am_wn rfl ?_
  refine ar_sald rfl h0 ?_
  refine am_wn rfl ?_
  refine am_wn rfl ?_
  exact ar_swd rfl hz k
set_option maxRecDepth 100000 in
theorem b_law_124 {sc : Int → Int} {σ : St} {Q : Ou → St → Nat → Prop} (z4 : Int) (v5 : AV) (v6 : AV) (h0 : am_R (z4 + 1)) (h1 : 0 ≤ (z4 + 1) ∧ (z4 + 1) < sc (-1)) (k : am_wp sc 88 0 [.inr (.inl 0), .inl (sc (z4 + 1)), .inr (.inl 26), .inr (.inr 0)] [] σ (am_bk sc am_law 132 [.inr (.inl 28), .inr (.inl 0), .inr (.inl 1), .inr (.inl 26), .inl z4, v5, v6] [] Q)) : am_wp sc am_law 124 [.inr (.inl 28), .inr (.inl 0), .inr (.inl 1), .inr (.inl 26), .inl z4, v5, v6] [] σ Q := by
  refine am_wn rfl ?_
  refine am_wn rfl ?_
  refine am_wn rfl ?_
  refine am_wn rfl ?_
  refine ar_add rfl h0 ?_
  refine ar_sald rfl h1 ?_
  refine am_wn rfl ?_
  exact am_wc rfl (by decide) (by decide) rfl k
set_option maxRecDepth 100000 in
theorem b_law_135 {sc : Int → Int} {σ : St} {Q : Ou → St → Nat → Prop} (z4 : Int) (v5 : AV) (v6 : AV) (s0 : Int) (h0 : am_R (z4 + 1)) (h1 : 0 ≤ (z4 + 1) ∧ (z4 + 1) < sc (-1)) (k : am_wp sc 65 0 [.inr (.inl 1), .inl (sc (z4 + 1)), .inr (.inr 0), .inr (.inr 0), .inr (.inr 0)] [] σ (am_bk sc am_law 144 [.inr (.inl 28), .inr (.inl 0), .inr (.inl 1), .inr (.inl 26), .inl z4, .inl s0, v6] [] Q)) : am_wp sc am_law 135 [.inr (.inl 28), .inr (.inl 0), .inr (.inl 1), .inr (.inl 26), .inl z4, v5, v6] [.inl s0] σ Q := by
  refine am_wn rfl ?_
  refine am_wn rfl ?_
  refine am_wn rfl ?_
  refine am_wn rfl ?_
  refine am_wn rfl ?_
  refine ar_add rfl h0 ?_
  refine ar_sald rfl h1 ?_
  exact am_wc rfl (by decide) (by decide) rfl k
set_option maxRecDepth 100000 in
theorem b_law_147 {sc : Int → Int} {σ : St} {Q : Ou → St → Nat → Prop} (z4 : Int) (z5 : Int) (v6 : AV) (s0 : Int) (k : am_wp sc 48 0 [.inr (.inl 1)] [] σ (am_bk sc am_law 150 [.inr (.inl 28), .inr (.inl 0), .inr (.inl 1), .inr (.inl 26), .inl z4, .inl z5, .inl s0] [] Q)) : am_wp sc am_law 147 [.inr (.inl 28), .inr (.inl 0), .inr (.inl 1), .inr (.inl 26), .inl z4, .inl z5, v6] [.inl s0] σ Q := by
  refine am_wn rfl ?_
  refine am_wn rfl ?_
  exact am_wc rfl (by decide) (by decide) rfl k
set_option maxRecDepth 100000 in
theorem b_law_153 {sc : Int → Int} {σ : St} {Q : Ou → St → Nat → Prop} (z4 : Int) (z5 : Int) (z6 : Int) (s0 : Int) (k1 : (s0 = z5) → am_wp sc am_law 160 [.inr (.inl 28), .inr (.inl 0), .inr (.inl 1), .inr (.inl 26), .inl z4, .inl z5, .inl z6] [] σ Q) (k2 : ¬ (s0 = z5) → am_wp sc am_law 158 [.inr (.inl 28), .inr (.inl 0), .inr (.inl 1), .inr (.inl 26), .inl z4, .inl z5, .inl z6] [] σ Q) : am_wp sc am_law 153 [.inr (.inl 28), .inr (.inl 0), .inr (.inl 1), .inr (.inl 26), .inl z4, .inl z5, .inl z6] [.inl s0] σ Q := by
  refine am_wn rfl ?_
  exact ar_br (c := s0 = z5) rfl k1 k2
set_option maxRecDepth 100000 in
theorem b_law_158 {sc : Int → Int} {σ : St} {Q : Ou → St → Nat → Prop} (z4 : Int) (z5 : Int) (z6 : Int) (k : Q (.inl (some 0)) σ 0) : am_wp sc am_law 158 [.inr (.inl 28), .inr (.inl 0), .inr (.inl 1), .inr (.inl 26), .inl z4, .inl z5, .inl z6] [] σ Q := by
  refine am_wn rfl ?_
  exact am_w61 rfl (Or.inl rfl) k
set_option maxRecDepth 100000 in
theorem b_law_160 {sc : Int → Int} {σ : St} {Q : Ou → St → Nat → Prop} (z4 : Int) (z5 : Int) (z6 : Int) (k1 : (z5 ≠ 0) → am_wp sc am_law 177 [.inr (.inl 28), .inr (.inl 0), .inr (.inl 1), .inr (.inl 26), .inl z4, .inl z5, .inl z6] [] σ Q) (k2 : ¬ (z5 ≠ 0) → am_wp sc am_law 165 [.inr (.inl 28), .inr (.inl 0), .inr (.inl 1), .inr (.inl 26), .inl z4, .inl z5, .inl z6] [] σ Q) : am_wp sc am_law 160 [.inr (.inl 28), .inr (.inl 0), .inr (.inl 1), .inr (.inl 26), .inl z4, .inl z5, .inl z6] [] σ Q := by
  refine am_wn rfl ?_
  exact ar_br (c := z5 ≠ 0) rfl k1 k2
set_option maxRecDepth 100000 in
theorem b_law_165 {sc : Int → Int} {σ : St} {Q : Ou → St → Nat → Prop} (z4 : Int) (z5 : Int) (z6 : Int) (k1 : ((if z6 < (σ 26 0) then 1 else if (σ 26 0) = z6 then 0 else -1) = 0) → am_wp sc am_law 177 [.inr (.inl 28), .inr (.inl 0), .inr (.inl 1), .inr (.inl 26), .inl z4, .inl z5, .inl z6] [] σ Q) (k2 : ¬ ((if z6 < (σ 26 0) then 1 else if (σ 26 0) = z6 then 0 else -1) = 0) → am_wp sc am_law 175 [.inr (.inl 28), .inr (.inl 0), .inr (.inl 1), .inr (.inl 26), .inl z4, .inl z5, .inl z6] [] σ Q) : am_wp sc am_law 165 [.inr (.inl 28), .inr (.inl 0), .inr (.inl 1), .inr (.inl 26), .inl z4, .inl z5, .inl z6] [] σ Q := by
  refine am_wn rfl ?_
  refine am_wn rfl ?_
  refine am_wn rfl ?_
  refine am_wn rfl ?_
  refine am_wn rfl ?_
  refine am_wn rfl ?_
  exact ar_br (c := (if z6 < (σ 26 0) then 1 else if (σ 26 0) = z6 then 0 else -1) = 0) rfl k1 k2
set_option maxRecDepth 100000 in
theorem b_law_175 {sc : Int → Int} {σ : St} {Q : Ou → St → Nat → Prop} (z4 : Int) (z5 : Int) (z6 : Int) (k : Q (.inl (some 0)) σ 0) : am_wp sc am_law 175 [.inr (.inl 28), .inr (.inl 0), .inr (.inl 1), .inr (.inl 26), .inl z4, .inl z5, .inl z6] [] σ Q := by
  refine am_wn rfl ?_
  exact am_w61 rfl (Or.inl rfl) k
set_option maxRecDepth 100000 in
theorem b_law_177 {sc : Int → Int} {σ : St} {Q : Ou → St → Nat → Prop} (z4 : Int) (z5 : Int) (z6 : Int) (k : am_wp sc am_law 1019 [.inr (.inl 28), .inr (.inl 0), .inr (.inl 1), .inr (.inl 26), .inl z4, .inl z5, .inl z6] [] σ Q) : am_wp sc am_law 177 [.inr (.inl 28), .inr (.inl 0), .inr (.inl 1), .inr (.inl 26), .inl z4, .inl z5, .inl z6] [] σ Q := by
  refine am_wn rfl ?_
  exact k
set_option maxRecDepth 100000 in
theorem b_law_180 {sc : Int → Int} {σ : St} {Q : Ou → St → Nat → Prop} (z4 : Int) (v5 : AV) (v6 : AV) (h0 : am_R (z4 + 1)) (h1 : 0 ≤ (z4 + 1) ∧ (z4 + 1) < sc (-1)) (h2 : am_R (z4 + 2)) (h3 : 0 ≤ (z4 + 2) ∧ (z4 + 2) < sc (-1)) (h4 : am_R (z4 + 3)) (h5 : 0 ≤ (z4 + 3) ∧ (z4 + 3) < sc (-1)) (k : am_wp sc 89 0 [.inr (.inl 0), .inl (sc (z4 + 1)), .inl (sc (z4 + 2)), .inl (sc (z4 + 3)), .inr (.inr 0)] [] σ (am_bk sc am_law 199 [.inr (.inl 28), .inr (.inl 0), .inr (.inl 1), .inr (.inl 26), .inl z4, v5, v6] [] Q)) : am_wp sc am_law 180 [.inr (.inl 28), .inr (.inl 0), .inr (.inl 1), .inr (.inl 26), .inl z4, v5, v6] [] σ Q := by
  refine am_wn rfl ?_
  refine am_wn rfl ?_
  refine am_wn rfl ?_
  refine am_wn rfl ?_
  refine ar_add rfl h0 ?_
  refine ar_sald rfl h1 ?_
  refine am_wn rfl ?_
  refine am_wn rfl ?_
  refine am_wn rfl ?_
  refine ar_add rfl h2 ?_
  refine ar_sald rfl h3 ?_
  refine am_wn rfl ?_
  refine am_wn rfl ?_
  refine am_wn rfl ?_
  refine ar_add rfl h4 ?_
  refine ar_sald rfl h5 ?_
  exact am_wc rfl (by decide) (by decide) rfl k
set_option maxRecDepth 100000 in
theorem b_law_202 {sc : Int → Int} {σ : St} {Q : Ou → St → Nat → Prop} (z4 : Int) (v5 : AV) (v6 : AV) (s0 : Int) (h0 : am_R (z4 + 1)) (h1 : 0 ≤ (z4 + 1) ∧ (z4 + 1) < sc (-1)) (h2 : am_R (z4 + 2)) (h3 : 0 ≤ (z4 + 2) ∧ (z4 + 2) < sc (-1)) (h4 : am_R (z4 + 3)) (h5 : 0 ≤ (z4 + 3) ∧ (z4 + 3) < sc (-1)) (k : am_wp sc 66 0 [.inr (.inl 1), .inl (sc (z4 + 1)), .inl (sc (z4 + 2)), .inl (sc (z4 + 3))] [] σ (am_bk sc am_law 223 [.inr (.inl 28), .inr (.inl 0), .inr (.inl 1), .inr (.inl 26), .inl z4, .inl s0, v6] [] Q)) : am_wp sc am_law 202 [.inr (.inl 28), .inr (.inl 0), .inr (.inl 1), .inr (.inl 26), .inl z4, v5, v6] [.inl s0] σ Q := by
  refine am_wn rfl ?_
  refine am_wn rfl ?_
  refine am_wn rfl ?_
  refine am_wn rfl ?_
  refine am_wn rfl ?_
  refine ar_add rfl h0 ?_
  refine ar_sald rfl h1 ?_
  refine am_wn rfl ?_
  refine am_wn rfl ?_
  refine am_wn rfl ?_
  refine ar_add rfl h2 ?_
  refine ar_sald rfl h3 ?_
  refine am_wn rfl ?_
  refine am_wn rfl ?_
  refine am_wn rfl ?_
  refine ar_add rfl h4 ?_
  refine ar_sald rfl h5 ?_
  exact am_wc rfl (by decide) (by decide) rfl k
set_option maxRecDepth 100000 in
theorem b_law_226 {sc : Int → Int} {σ : St} {Q : Ou → St → Nat → Prop} (z4 : Int) (z5 : Int) (v6 : AV) (k : am_wp sc 48 0 [.inr (.inl 1)] [] σ (am_bk sc am_law 227 [.inr (.inl 28), .inr (.inl 0), .inr (.inl 1), .inr (.inl 26), .inl z4, .inl z5, v6] [] Q)) : am_wp sc am_law 226 [.inr (.inl 28), .inr (.inl 0), .inr (.inl 1), .inr (.inl 26), .inl z4, .inl z5, v6] [] σ Q := by
  refine am_wn rfl ?_
  exact am_wc rfl (by decide) (by decide) rfl k
set_option maxRecDepth 100000 in
theorem b_law_230 {sc : Int → Int} {σ : St} {Q : Ou → St → Nat → Prop} (z4 : Int) (z5 : Int) (v6 : AV) (s0 : Int) (k1 : (s0 = z5) → am_wp sc am_law 237 [.inr (.inl 28), .inr (.inl 0), .inr (.inl 1), .inr (.inl 26), .inl z4, .inl z5, v6] [] σ Q) (k2 : ¬ (s0 = z5) → am_wp sc am_law 235 [.inr (.inl 28), .inr (.inl 0), .inr (.inl 1), .inr (.inl 26), .inl z4, .inl z5, v6] [] σ Q) : am_wp sc am_law 230 [.inr (.inl 28), .inr (.inl 0), .inr (.inl 1), .inr (.inl 26), .inl z4, .inl z5, v6] [.inl s0] σ Q := by
  refine am_wn rfl ?_
  exact ar_br (c := s0 = z5) rfl k1 k2
set_option maxRecDepth 100000 in
theorem b_law_235 {sc : Int → Int} {σ : St} {Q : Ou → St → Nat → Prop} (z4 : Int) (z5 : Int) (v6 : AV) (k : Q (.inl (some 0)) σ 0) : am_wp sc am_law 235 [.inr (.inl 28), .inr (.inl 0), .inr (.inl 1), .inr (.inl 26), .inl z4, .inl z5, v6] [] σ Q := by
  refine am_wn rfl ?_
  exact am_w61 rfl (Or.inl rfl) k
set_option maxRecDepth 100000 in
theorem b_law_237 {sc : Int → Int} {σ : St} {Q : Ou → St → Nat → Prop} (z4 : Int) (z5 : Int) (v6 : AV) (k : am_wp sc am_law 1019 [.inr (.inl 28), .inr (.inl 0), .inr (.inl 1), .inr (.inl 26), .inl z4, .inl z5, v6] [] σ Q) : am_wp sc am_law 237 [.inr (.inl 28), .inr (.inl 0), .inr (.inl 1), .inr (.inl 26), .inl z4, .inl z5, v6] [] σ Q := by
  refine am_wn rfl ?_
  exact k
set_option maxRecDepth 100000 in
theorem b_law_240 {sc : Int → Int} {σ : St} {Q : Ou → St → Nat → Prop} (z4 : Int) (v5 : AV) (v6 : AV) (h0 : am_R (z4 + 1)) (h1 : 0 ≤ (z4 + 1) ∧ (z4 + 1) < sc (-1)) (h2 : am_R (z4 + 2)) (h3 : 0 ≤ (z4 + 2) ∧ (z4 + 2) < sc (-1)) (h4 : am_R (z4 + 3)) (h5 : 0 ≤ (z4 + 3) ∧ (z4 + 3) < sc (-1)) (h6 : am_R (z4 + 4)) (h7 : 0 ≤ (z4 + 4) ∧ (z4 + 4) < sc (-1)) (k1 : ((sc (z4 + 4)) = 0) → am_wp sc am_law 272 [.inr (.inl 28), .inr (.inl 0), .inr (.inl 1), .inr (.inl 26), .inl z4, v5, v6] [.inl (sc (z4 + 3)), .inl (sc (z4 + 2)), .inl (sc (z4 + 1)), .inr (.inl 0)] σ Q) (k2 : ¬ ((sc (z4 + 4)) = 0) → am_wp sc am_law 268 [.inr (.inl 28), .inr (.inl 0), .inr (.inl 1), .inr (.inl 26), .inl z4, v5, v6] [.inl (sc (z4 + 3)), .inl (sc (z4 + 2)), .inl (sc (z4 + 1)), .inr (.inl 0)] σ Q) : am_wp sc am_law 240 [.inr (.inl 28), .inr (.inl 0), .inr (.inl 1), .inr (.inl 26), .inl z4, v5, v6] [] σ Q := by
  refine am_wn rfl ?_
  refine am_wn rfl ?_
  refine am_wn rfl ?_
  refine am_wn rfl ?_
  refine ar_add rfl h0 ?_
  refine ar_sald rfl h1 ?_
  refine am_wn rfl ?_
  refine am_wn rfl ?_
  refine am_wn rfl ?_
  refine ar_add rfl h2 ?_
  refine ar_sald rfl h3 ?_
  refine am_wn rfl ?_
  refine am_wn rfl ?_
  refine am_wn rfl ?_
  refine ar_add rfl h4 ?_
  refine ar_sald rfl h5 ?_
  refine am_wn rfl ?_
  refine am_wn rfl ?_
  refine am_wn rfl ?_
  refine ar_add rfl h6 ?_
  refine ar_sald rfl h7 ?_
  exact ar_br (c := (sc (z4 + 4)) = 0) rfl k1 k2
set_option maxRecDepth 100000 in
theorem b_law_268 {sc : Int → Int} {σ : St} {Q : Ou → St → Nat → Prop} (z4 : Int) (v5 : AV) (v6 : AV) (s1 : Int) (s2 : Int) (s3 : Int) (k : am_wp sc am_law 273 [.inr (.inl 28), .inr (.inl 0), .inr (.inl 1), .inr (.inl 26), .inl z4, v5, v6] [.inl 1, .inl s3, .inl s2, .inl s1, .inr (.inl 0)] σ Q) : am_wp sc am_law 268 [.inr (.inl 28), .inr (.inl 0), .inr (.inl 1), .inr (.inl 26), .inl z4, v5, v6] [.inl s3, .inl s2, .inl s1, .inr (.inl 0)] σ Q := by
  refine am_wn rfl ?_
  refine am_wn rfl ?_
  exact k
set_option maxRecDepth 100000 in
theorem b_law_272 {sc : Int → Int} {σ : St} {Q : Ou → St → Nat → Prop} (z4 : Int) (v5 : AV) (v6 : AV) (s1 : Int) (s2 : Int) (s3 : Int) (k : am_wp sc am_law 273 [.inr (.inl 28), .inr (.inl 0), .inr (.inl 1), .inr (.inl 26), .inl z4, v5, v6] [.inl 0, .inl s3, .inl s2, .inl s1, .inr (.inl 0)] σ Q) : am_wp sc am_law 272 [.inr (.inl 28), .inr (.inl 0), .inr (.inl 1), .inr (.inl 26), .inl z4, v5, v6] [.inl s3, .inl s2, .inl s1, .inr (.inl 0)] σ Q := by
  refine am_wn rfl ?_
  exact k
set_option maxRecDepth 100000 in
theorem b_law_273 {sc : Int → Int} {σ : St} {Q : Ou → St → Nat → Prop} (z4 : Int) (v5 : AV) (v6 : AV) (s1 : Int) (s2 : Int) (s3 : Int) (s4 : Int) (k : am_wp sc 90 0 [.inr (.inl 0), .inl s1, .inl s2, .inl s3, .inl s4, .inr (.inr 0)] [] σ (am_bk sc am_law 273 [.inr (.inl 28), .inr (.inl 0), .inr (.inl 1), .inr (.inl 26), .inl z4, v5, v6] [] Q)) : am_wp sc am_law 273 [.inr (.inl 28), .inr (.inl 0), .inr (.inl 1), .inr (.inl 26), .inl z4, v5, v6] [.inl s4, .inl s3, .inl s2, .inl s1, .inr (.inl 0)] σ Q := by
  exact am_wc rfl (by decide) (by decide) rfl k
set_option maxRecDepth 100000 in
theorem b_law_276 {sc : Int → Int} {σ : St} {Q : Ou → St → Nat → Prop} (z4 : Int) (v5 : AV) (v6 : AV) (s0 : Int) (h0 : am_R (z4 + 1)) (h1 : 0 ≤ (z4 + 1) ∧ (z4 + 1) < sc (-1)) (h2 : am_R (z4 + 2)) (h3 : 0 ≤ (z4 + 2) ∧ (z4 + 2) < sc (-1)) (h4 : am_R (z4 + 3)) (h5 : 0 ≤ (z4 + 3) ∧ (z4 + 3) < sc (-1)) (h6 : am_R (z4 + 4)) (h7 : 0 ≤ (z4 + 4) ∧ (z4 + 4) < sc (-1)) (k1 : ((sc (z4 + 4)) = 0) → am_wp sc am_law 310 [.inr (.inl 28), .inr (.inl 0), .inr (.inl 1), .inr (.inl 26), .inl z4, .inl s0, v6] [.inl (sc (z4 + 3)), .inl (sc (z4 + 2)), .inl (sc (z4 + 1)), .inr (.inl 1)] σ Q) (k2 : ¬ ((sc (z4 + 4)) = 0) → am_wp sc am_law 306 [.inr (.inl 28), .inr (.inl 0), .inr (.inl 1), .inr (.inl 26), .inl z4, .inl s0, v6] [.inl (sc (z4 + 3)), .inl (sc (z4 + 2)), .inl (sc (z4 + 1)), .inr (.inl 1)] σ Q) : am_wp sc am_law 276 [.inr (.inl 28), .inr (.inl 0), .inr (.inl 1), .inr (.inl 26), .inl z4, v5, v6] [.inl s0] σ Q := by
  refine am_wn rfl ?_
  refine am_wn rfl ?_
  refine am_wn rfl ?_
  refine am_wn rfl ?_
  refine am_wn rfl ?_
  refine ar_add rfl h0 ?_
  refine ar_sald rfl h1 ?_
  refine am_wn rfl ?_
  refine am_wn rfl ?_
  refine am_wn rfl ?_
  refine ar_add rfl h2 ?_
  refine ar_sald rfl h3 ?_
  refine am_wn rfl ?_
  refine am_wn rfl ?_
  refine am_wn rfl ?_
  refine ar_add rfl h4 ?_
  refine ar_sald rfl h5 ?_
  refine am_wn rfl ?_
  refine am_wn rfl ?_
  refine am_wn rfl ?_
  refine ar_add rfl h6 ?_
  refine ar_sald rfl h7 ?_
  exact ar_br (c := (sc (z4 + 4)) = 0) rfl k1 k2
set_option maxRecDepth 100000 in
theorem b_law_306 {sc : Int → Int} {σ : St} {Q : Ou → St → Nat → Prop} (z4 : Int) (z5 : Int) (v6 : AV) (s1 : Int) (s2 : Int) (s3 : Int) (k : am_wp sc am_law 311 [.inr (.inl 28), .inr (.inl 0), .inr (.inl 1), .inr (.inl 26), .inl z4, .inl z5, v6] [.inl 1, .inl s3, .inl s2, .inl s1, .inr (.inl 1)] σ Q) : am_wp sc am_law 306 [.inr (.inl 28), .inr (.inl 0), .inr (.inl 1), .inr (.inl 26), .inl z4, .inl z5, v6] [.inl s3, .inl s2, .inl s1, .inr (.inl 1)] σ Q := by
  refine am_wn rfl ?_
  refine am_wn rfl ?_
  exact k
set_option maxRecDepth 100000 in
theorem b_law_310 {sc : Int → Int} {σ : St} {Q : Ou → St → Nat → Prop} (z4 : Int) (z5 : Int) (v6 : AV) (s1 : Int) (s2 : Int) (s3 : Int) (k : am_wp sc am_law 311 [.inr (.inl 28), .inr (.inl 0), .inr (.inl 1), .inr (.inl 26), .inl z4, .inl z5, v6] [.inl 0, .inl s3, .inl s2, .inl s1, .inr (.inl 1)] σ Q) : am_wp sc am_law 310 [.inr (.inl 28), .inr (.inl 0), .inr (.inl 1), .inr (.inl 26), .inl z4, .inl z5, v6] [.inl s3, .inl s2, .inl s1, .inr (.inl 1)] σ Q := by
  refine am_wn rfl ?_
  exact k
set_option maxRecDepth 100000 in
theorem b_law_311 {sc : Int → Int} {σ : St} {Q : Ou → St → Nat → Prop} (z4 : Int) (z5 : Int) (v6 : AV) (s1 : Int) (s2 : Int) (s3 : Int) (s4 : Int) (k : am_wp sc 67 0 [.inr (.inl 1), .inl s1, .inl s2, .inl s3, .inl s4] [] σ (am_bk sc am_law 311 [.inr (.inl 28), .inr (.inl 0), .inr (.inl 1), .inr (.inl 26), .inl z4, .inl z5, v6] [] Q)) : am_wp sc am_law 311 [.inr (.inl 28), .inr (.inl 0), .inr (.inl 1), .inr (.inl 26), .inl z4, .inl z5, v6] [.inl s4, .inl s3, .inl s2, .inl s1, .inr (.inl 1)] σ Q := by
  exact am_wc rfl (by decide) (by decide) rfl k
set_option maxRecDepth 100000 in
theorem b_law_314 {sc : Int → Int} {σ : St} {Q : Ou → St → Nat → Prop} (z4 : Int) (z5 : Int) (v6 : AV) (k : am_wp sc 48 0 [.inr (.inl 1)] [] σ (am_bk sc am_law 315 [.inr (.inl 28), .inr (.inl 0), .inr (.inl 1), .inr (.inl 26), .inl z4, .inl z5, v6] [] Q)) : am_wp sc am_law 314 [.inr (.inl 28), .inr (.inl 0), .inr (.inl 1), .inr (.inl 26), .inl z4, .inl z5, v6] [] σ Q := by
  refine am_wn rfl ?_
  exact am_wc rfl (by decide) (by decide) rfl k
set_option maxRecDepth 100000 in
theorem b_law_318 {sc : Int → Int} {σ : St} {Q : Ou → St → Nat → Prop} (z4 : Int) (z5 : Int) (v6 : AV) (s0 : Int) (k1 : (s0 = z5) → am_wp sc am_law 325 [.inr (.inl 28), .inr (.inl 0), .inr (.inl 1), .inr (.inl 26), .inl z4, .inl z5, v6] [] σ Q) (k2 : ¬ (s0 = z5) → am_wp sc am_law 323 [.inr (.inl 28), .inr (.inl 0), .inr (.inl 1), .inr (.inl 26), .inl z4, .inl z5, v6] [] σ Q) : am_wp sc am_law 318 [.inr (.inl 28), .inr (.inl 0), .inr (.inl 1), .inr (.inl 26), .inl z4, .inl z5, v6] [.inl s0] σ Q := by
  refine am_wn rfl ?_
  exact ar_br (c := s0 = z5) rfl k1 k2
set_option maxRecDepth 100000 in
theorem b_law_323 {sc : Int → Int} {σ : St} {Q : Ou → St → Nat → Prop} (z4 : Int) (z5 : Int) (v6 : AV) (k : Q (.inl (some 0)) σ 0) : am_wp sc am_law 323 [.inr (.inl 28), .inr (.inl 0), .inr (.inl 1), .inr (.inl 26), .inl z4, .inl z5, v6] [] σ Q := by
  refine am_wn rfl ?_
  exact am_w61 rfl (Or.inl rfl) k
set_option maxRecDepth 100000 in
theorem b_law_325 {sc : Int → Int} {σ : St} {Q : Ou → St → Nat → Prop} (z4 : Int) (z5 : Int) (v6 : AV) (k : am_wp sc am_law 1019 [.inr (.inl 28), .inr (.inl 0), .inr (.inl 1), .inr (.inl 26), .inl z4, .inl z5, v6] [] σ Q) : am_wp sc am_law 325 [.inr (.inl 28), .inr (.inl 0), .inr (.inl 1), .inr (.inl 26), .inl z4, .inl z5, v6] [] σ Q := by
  refine am_wn rfl ?_
  exact k
set_option maxRecDepth 100000 in
theorem b_law_328 {sc : Int → Int} {σ : St} {Q : Ou → St → Nat → Prop} (z4 : Int) (v5 : AV) (v6 : AV) (h0 : am_R (z4 + 1)) (h1 : 0 ≤ (z4 + 1) ∧ (z4 + 1) < sc (-1)) (h2 : am_R (z4 + 2)) (h3 : 0 ≤ (z4 + 2) ∧ (z4 + 2) < sc (-1)) (k : am_wp sc 91 0 [.inr (.inl 0), .inl (sc (z4 + 1)), .inl (sc (z4 + 2)), .inr (.inl 26), .inr (.inr 0)] [] σ (am_bk sc am_law 342 [.inr (.inl 28), .inr (.inl 0), .inr (.inl 1), .inr (.inl 26), .inl z4, v5, v6] [] Q)) : am_wp sc am_law 328 [.inr (.inl 28), .inr (.inl 0), .inr (.inl 1), .inr (.inl 26), .inl z4, v5, v6] [] σ Q := by
  refine am_wn rfl ?_
  refine am_wn rfl ?_
  refine am_wn rfl ?_
  refine am_wn rfl ?_
  refine ar_add rfl h0 ?_
  refine ar_sald rfl h1 ?_
  refine am_wn rfl ?_
  refine am_wn rfl ?_
  refine am_wn rfl ?_
  refine ar_add rfl h2 ?_
  refine ar_sald rfl h3 ?_
  refine am_wn rfl ?_
  exact am_wc rfl (by decide) (by decide) rfl k
set_option maxRecDepth 100000 in
theorem b_law_345 {sc : Int → Int} {σ : St} {Q : Ou → St → Nat → Prop} (z4 : Int) (v5 : AV) (v6 : AV) (s0 : Int) (h0 : am_R (z4 + 1)) (h1 : 0 ≤ (z4 + 1) ∧ (z4 + 1) < sc (-1)) (h2 : am_R (z4 + 2)) (h3 : 0 ≤ (z4 + 2) ∧ (z4 + 2) < sc (-1)) (k : am_wp sc 68 0 [.inr (.inl 1), .inl (sc (z4 + 1)), .inl (sc (z4 + 2))] [] σ (am_bk sc am_law 360 [.inr (.inl 28), .inr (.inl 0), .inr (.inl 1), .inr (.inl 26), .inl z4, .inl s0, v6] [] Q)) : am_wp sc am_law 345 [.inr (.inl 28), .inr (.inl 0), .inr (.inl 1), .inr (.inl 26), .inl z4, v5, v6] [.inl s0] σ Q := by
  refine am_wn rfl ?_
  refine am_wn rfl ?_
  refine am_wn rfl ?_
  refine am_wn rfl ?_
  refine am_wn rfl ?_
  refine ar_add rfl h0 ?_
  refine ar_sald rfl h1 ?_
  refine am_wn rfl ?_
  refine am_wn rfl ?_
  refine am_wn rfl ?_
  refine ar_add rfl h2 ?_
  refine ar_sald rfl h3 ?_
  exact am_wc rfl (by decide) (by decide) rfl k
set_option maxRecDepth 100000 in
theorem b_law_363 {sc : Int → Int} {σ : St} {Q : Ou → St → Nat → Prop} (z4 : Int) (z5 : Int) (v6 : AV) (s0 : Int) (k : am_wp sc 48 0 [.inr (.inl 1)] [] σ (am_bk sc am_law 366 [.inr (.inl 28), .inr (.inl 0), .inr (.inl 1), .inr (.inl 26), .inl z4, .inl z5, .inl s0] [] Q)) : am_wp sc am_law 363 [.inr (.inl 28), .inr (.inl 0), .inr (.inl 1), .inr (.inl 26), .inl z4, .inl z5, v6] [.inl s0] σ Q := by
  refine am_wn rfl ?_
  refine am_wn rfl ?_
  exact am_wc rfl (by decide) (by decide) rfl k
set_option maxRecDepth 100000 in
theorem b_law_369 {sc : Int → Int} {σ : St} {Q : Ou → St → Nat → Prop} (z4 : Int) (z5 : Int) (z6 : Int) (s0 : Int) (k1 : (s0 = z5) → am_wp sc am_law 376 [.inr (.inl 28), .inr (.inl 0), .inr (.inl 1), .inr (.inl 26), .inl z4, .inl z5, .inl z6] [] σ Q) (k2 : ¬ (s0 = z5) → am_wp sc am_law 374 [.inr (.inl 28), .inr (.inl 0), .inr (.inl 1), .inr (.inl 26), .inl z4, .inl z5, .inl z6] [] σ Q) : am_wp sc am_law 369 [.inr (.inl 28), .inr (.inl 0), .inr (.inl 1), .inr (.inl 26), .inl z4, .inl z5, .inl z6] [.inl s0] σ Q := by
  refine am_wn rfl ?_
  exact ar_br (c := s0 = z5) rfl k1 k2
set_option maxRecDepth 100000 in
theorem b_law_374 {sc : Int → Int} {σ : St} {Q : Ou → St → Nat → Prop} (z4 : Int) (z5 : Int) (z6 : Int) (k : Q (.inl (some 0)) σ 0) : am_wp sc am_law 374 [.inr (.inl 28), .inr (.inl 0), .inr (.inl 1), .inr (.inl 26), .inl z4, .inl z5, .inl z6] [] σ Q := by
  refine am_wn rfl ?_
  exact am_w61 rfl (Or.inl rfl) k
set_option maxRecDepth 100000 in
theorem b_law_376 {sc : Int → Int} {σ : St} {Q : Ou → St → Nat → Prop} (z4 : Int) (z5 : Int) (z6 : Int) (k1 : (z5 ≠ 0) → am_wp sc am_law 393 [.inr (.inl 28), .inr (.inl 0), .inr (.inl 1), .inr (.inl 26), .inl z4, .inl z5, .inl z6] [] σ Q) (k2 : ¬ (z5 ≠ 0) → am_wp sc am_law 381 [.inr (.inl 28), .inr (.inl 0), .inr (.inl 1), .inr (.inl 26), .inl z4, .inl z5, .inl z6] [] σ Q) : am_wp sc am_law 376 [.inr (.inl 28), .inr (.inl 0), .inr (.inl 1), .inr (.inl 26), .inl z4, .inl z5, .inl z6] [] σ Q := by
  refine am_wn rfl ?_
  exact ar_br (c := z5 ≠ 0) rfl k1 k2
set_option maxRecDepth 100000 in
theorem b_law_381 {sc : Int → Int} {σ : St} {Q : Ou → St → Nat → Prop} (z4 : Int) (z5 : Int) (z6 : Int) (k1 : ((if z6 < (σ 26 0) then 1 else if (σ 26 0) = z6 then 0 else -1) = 0) → am_wp sc am_law 393 [.inr (.inl 28), .inr (.inl 0), .inr (.inl 1), .inr (.inl 26), .inl z4, .inl z5, .inl z6] [] σ Q) (k2 : ¬ ((if z6 < (σ 26 0) then 1 else if (σ 26 0) = z6 then 0 else -1) = 0) → am_wp sc am_law 391 [.inr (.inl 28), .inr (.inl 0), .inr (.inl 1), .inr (.inl 26), .inl z4, .inl z5, .inl z6] [] σ Q) : am_wp sc am_law 381 [.inr (.inl 28), .inr (.inl 0), .inr (.inl 1), .inr (.inl 26), .inl z4, .inl z5, .inl z6] [] σ Q := by
  refine am_wn rfl ?_
  refine am_wn rfl ?_
  refine am_wn rfl ?_
  refine am_wn rfl ?_
  refine am_wn rfl ?_
  refine am_wn rfl ?_
  exact ar_br (c := (if z6 < (σ 26 0) then 1 else if (σ 26 0) = z6 then 0 else -1) = 0) rfl k1 k2
set_option maxRecDepth 100000 in
theorem b_law_391 {sc : Int → Int} {σ : St} {Q : Ou → St → Nat → Prop} (z4 : Int) (z5 : Int) (z6 : Int) (k : Q (.inl (some 0)) σ 0) : am_wp sc am_law 391 [.inr (.inl 28), .inr (.inl 0), .inr (.inl 1), .inr (.inl 26), .inl z4, .inl z5, .inl z6] [] σ Q := by
  refine am_wn rfl ?_
  exact am_w61 rfl (Or.inl rfl) k
set_option maxRecDepth 100000 in
theorem b_law_393 {sc : Int → Int} {σ : St} {Q : Ou → St → Nat → Prop} (z4 : Int) (z5 : Int) (z6 : Int) (k : am_wp sc am_law 1019 [.inr (.inl 28), .inr (.inl 0), .inr (.inl 1), .inr (.inl 26), .inl z4, .inl z5, .inl z6] [] σ Q) : am_wp sc am_law 393 [.inr (.inl 28), .inr (.inl 0), .inr (.inl 1), .inr (.inl 26), .inl z4, .inl z5, .inl z6] [] σ Q := by
  refine am_wn rfl ?_
  exact k
set_option maxRecDepth 100000 in
theorem b_law_396 {sc : Int → Int} {σ : St} {Q : Ou → St → Nat → Prop} (z4 : Int) (v5 : AV) (v6 : AV) (h0 : am_R (z4 + 1)) (h1 : 0 ≤ (z4 + 1) ∧ (z4 + 1) < sc (-1)) (h2 : am_R (z4 + 2)) (h3 : 0 ≤ (z4 + 2) ∧ (z4 + 2) < sc (-1)) (k : am_wp sc 92 0 [.inr (.inl 0), .inl (sc (z4 + 1)), .inl (sc (z4 + 2)), .inr (.inl 26), .inr (.inr 0)] [] σ (am_bk sc am_law 410 [.inr (.inl 28), .inr (.inl 0), .inr (.inl 1), .inr (.inl 26), .inl z4, v5, v6] [] Q)) : am_wp sc am_law 396 [.inr (.inl 28), .inr (.inl 0), .inr (.inl 1), .inr (.inl 26), .inl z4, v5, v6] [] σ Q := by
  refine am_wn rfl ?_
  refine am_wn rfl ?_
  refine am_wn rfl ?_
  refine am_wn rfl ?_
  refine ar_add rfl h0 ?_
  refine ar_sald rfl h1 ?_
  refine am_wn rfl ?_
  refine am_wn rfl ?_
  refine am_wn rfl ?_
  refine ar_add rfl h2 ?_
  refine ar_sald rfl h3 ?_
  refine am_wn rfl ?_
  exact am_wc rfl (by decide) (by decide) rfl k
set_option maxRecDepth 100000 in
theorem b_law_413 {sc : Int → Int} {σ : St} {Q : Ou → St → Nat → Prop} (z4 : Int) (v5 : AV) (v6 : AV) (s0 : Int) (h0 : am_R (z4 + 1)) (h1 : 0 ≤ (z4 + 1) ∧ (z4 + 1) < sc (-1)) (h2 : am_R (z4 + 2)) (h3 : 0 ≤ (z4 + 2) ∧ (z4 + 2) < sc (-1)) (k : am_wp sc 69 0 [.inr (.inl 1), .inl (sc (z4 + 1)), .inl (sc (z4 + 2))] [] σ (am_bk sc am_law 428 [.inr (.inl 28), .inr (.inl 0), .inr (.inl 1), .inr (.inl 26), .inl z4, .inl s0, v6] [] Q)) : am_wp sc am_law 413 [.inr (.inl 28), .inr (.inl 0), .inr (.inl 1), .inr (.inl 26), .inl z4, v5, v6] [.inl s0] σ Q := by
  refine am_wn rfl ?_
  refine am_wn rfl ?_
  refine am_wn rfl ?_
  refine am_wn rfl ?_
  refine am_wn rfl ?_
  refine ar_add rfl h0 ?_
  refine ar_sald rfl h1 ?_
  refine am_wn rfl ?_
  refine am_wn rfl ?_
  refine am_wn rfl ?_
  refine ar_add rfl h2 ?_
  refine ar_sald rfl h3 ?_
  exact am_wc rfl (by decide) (by decide) rfl k
set_option maxRecDepth 100000 in
theorem b_law_431 {sc : Int → Int} {σ : St} {Q : Ou → St → Nat → Prop} (z4 : Int) (z5 : Int) (v6 : AV) (s0 : Int) (k : am_wp sc 48 0 [.inr (.inl 1)] [] σ (am_bk sc am_law 434 [.inr (.inl 28), .inr (.inl 0), .inr (.inl 1), .inr (.inl 26), .inl z4, .inl z5, .inl s0] [] Q)) : am_wp sc am_law 431 [.inr (.inl 28), .inr (.inl 0), .inr (.inl 1), .inr (.inl 26), .inl z4, .inl z5, v6] [.inl s0] σ Q := by
  refine am_wn rfl ?_
  refine am_wn rfl ?_
  exact am_wc rfl (by decide) (by decide) rfl k
set_option maxRecDepth 100000 in
theorem b_law_437 {sc : Int → Int} {σ : St} {Q : Ou → St → Nat → Prop} (z4 : Int) (z5 : Int) (z6 : Int) (s0 : Int) (k1 : (s0 = z5) → am_wp sc am_law 444 [.inr (.inl 28), .inr (.inl 0), .inr (.inl 1), .inr (.inl 26), .inl z4, .inl z5, .inl z6] [] σ Q) (k2 : ¬ (s0 = z5) → am_wp sc am_law 442 [.inr (.inl 28), .inr (.inl 0), .inr (.inl 1), .inr (.inl 26), .inl z4, .inl z5, .inl z6] [] σ Q) : am_wp sc am_law 437 [.inr (.inl 28), .inr (.inl 0), .inr (.inl 1), .inr (.inl 26), .inl z4, .inl z5, .inl z6] [.inl s0] σ Q := by
  refine am_wn rfl ?_
  exact ar_br (c := s0 = z5) rfl k1 k2
set_option maxRecDepth 100000 in
theorem b_law_442 {sc : Int → Int} {σ : St} {Q : Ou → St → Nat → Prop} (z4 : Int) (z5 : Int) (z6 : Int) (k : Q (.inl (some 0)) σ 0) : am_wp sc am_law 442 [.inr (.inl 28), .inr (.inl 0), .inr (.inl 1), .inr (.inl 26), .inl z4, .inl z5, .inl z6] [] σ Q := by
  refine am_wn rfl ?_
  exact am_w61 rfl (Or.inl rfl) k
set_option maxRecDepth 100000 in
theorem b_law_444 {sc : Int → Int} {σ : St} {Q : Ou → St → Nat → Prop} (z4 : Int) (z5 : Int) (z6 : Int) (k1 : (z5 ≠ 0) → am_wp sc am_law 461 [.inr (.inl 28), .inr (.inl 0), .inr (.inl 1), .inr (.inl 26), .inl z4, .inl z5, .inl z6] [] σ Q) (k2 : ¬ (z5 ≠ 0) → am_wp sc am_law 449 [.inr (.inl 28), .inr (.inl 0), .inr (.inl 1), .inr (.inl 26), .inl z4, .inl z5, .inl z6] [] σ Q) : am_wp sc am_law 444 [.inr (.inl 28), .inr (.inl 0), .inr (.inl 1), .inr (.inl 26), .inl z4, .inl z5, .inl z6] [] σ Q := by
  refine am_wn rfl ?_
  exact ar_br (c := z5 ≠ 0) rfl k1 k2
set_option maxRecDepth 100000 in
theorem b_law_449 {sc : Int → Int} {σ : St} {Q : Ou → St → Nat → Prop} (z4 : Int) (z5 : Int) (z6 : Int) (k1 : ((if z6 < (σ 26 0) then 1 else if (σ 26 0) = z6 then 0 else -1) = 0) → am_wp sc am_law 461 [.inr (.inl 28), .inr (.inl 0), .inr (.inl 1), .inr (.inl 26), .inl z4, .inl z5, .inl z6] [] σ Q) (k2 : ¬ ((if z6 < (σ 26 0) then 1 else if (σ 26 0) = z6 then 0 else -1) = 0) → am_wp sc am_law 459 [.inr (.inl 28), .inr (.inl 0), .inr (.inl 1), .inr (.inl 26), .inl z4, .inl z5, .inl z6] [] σ Q) : am_wp sc am_law 449 [.inr (.inl 28), .inr (.inl 0), .inr (.inl 1), .inr (.inl 26), .inl z4, .inl z5, .inl z6] [] σ Q := by
  refine am_wn rfl ?_
  refine am_wn rfl ?_
  refine am_wn rfl ?_
  refine am_wn rfl ?_
  refine am_wn rfl ?_
  refine am_wn rfl ?_
  exact ar_br (c := (if z6 < (σ 26 0) then 1 else if (σ 26 0) = z6 then 0 else -1) = 0) rfl k1 k2
set_option maxRecDepth 100000 in
theorem b_law_459 {sc : Int → Int} {σ : St} {Q : Ou → St → Nat → Prop} (z4 : Int) (z5 : Int) (z6 : Int) (k : Q (.inl (some 0)) σ 0) : am_wp sc am_law 459 [.inr (.inl 28), .inr (.inl 0), .inr (.inl 1), .inr (.inl 26), .inl z4, .inl z5, .inl z6] [] σ Q := by
  refine am_wn rfl ?_
  exact am_w61 rfl (Or.inl rfl) k
set_option maxRecDepth 100000 in
theorem b_law_461 {sc : Int → Int} {σ : St} {Q : Ou → St → Nat → Prop} (z4 : Int) (z5 : Int) (z6 : Int) (k : am_wp sc am_law 1019 [.inr (.inl 28), .inr (.inl 0), .inr (.inl 1), .inr (.inl 26), .inl z4, .inl z5, .inl z6] [] σ Q) : am_wp sc am_law 461 [.inr (.inl 28), .inr (.inl 0), .inr (.inl 1), .inr (.inl 26), .inl z4, .inl z5, .inl z6] [] σ Q := by
  refine am_wn rfl ?_
  exact k
set_option maxRecDepth 100000 in
theorem b_law_464 {sc : Int → Int} {σ : St} {Q : Ou → St → Nat → Prop} (z4 : Int) (v5 : AV) (v6 : AV) (h0 : am_R (z4 + 1)) (h1 : 0 ≤ (z4 + 1) ∧ (z4 + 1) < sc (-1)) (k : am_wp sc 93 0 [.inr (.inl 0), .inl (sc (z4 + 1)), .inr (.inl 26), .inr (.inr 0)] [] σ (am_bk sc am_law 472 [.inr (.inl 28), .inr (.inl 0), .inr (.inl 1), .inr (.inl 26), .inl z4, v5, v6] [] Q)) : am_wp sc am_law 464 [.inr (.inl 28), .inr (.inl 0), .inr (.inl 1), .inr (.inl 26), .inl z4, v5, v6] [] σ Q := by
  refine am_wn rfl ?_
  refine am_wn rfl ?_
  refine am_wn rfl ?_
  refine am_wn rfl ?_
  refine ar_add rfl h0 ?_
  refine ar_sald rfl h1 ?_
  refine am_wn rfl ?_
  exact am_wc rfl (by decide) (by decide) rfl k
set_option maxRecDepth 100000 in
theorem b_law_475 {sc : Int → Int} {σ : St} {Q : Ou → St → Nat → Prop} (z4 : Int) (v5 : AV) (v6 : AV) (s0 : Int) (h0 : am_R (z4 + 1)) (h1 : 0 ≤ (z4 + 1) ∧ (z4 + 1) < sc (-1)) (k : am_wp sc 70 0 [.inr (.inl 1), .inl (sc (z4 + 1))] [] σ (am_bk sc am_law 484 [.inr (.inl 28), .inr (.inl 0), .inr (.inl 1), .inr (.inl 26), .inl z4, .inl s0, v6] [] Q)) : am_wp sc am_law 475 [.inr (.inl 28), .inr (.inl 0), .inr (.inl 1), .inr (.inl 26), .inl z4, v5, v6] [.inl s0] σ Q := by
  refine am_wn rfl ?_
  refine am_wn rfl ?_
  refine am_wn rfl ?_
  refine am_wn rfl ?_
  refine am_wn rfl ?_
  refine ar_add rfl h0 ?_
  refine ar_sald rfl h1 ?_
  exact am_wc rfl (by decide) (by decide) rfl k
set_option maxRecDepth 100000 in
theorem b_law_487 {sc : Int → Int} {σ : St} {Q : Ou → St → Nat → Prop} (z4 : Int) (z5 : Int) (v6 : AV) (s0 : Int) (k : am_wp sc 48 0 [.inr (.inl 1)] [] σ (am_bk sc am_law 490 [.inr (.inl 28), .inr (.inl 0), .inr (.inl 1), .inr (.inl 26), .inl z4, .inl z5, .inl s0] [] Q)) : am_wp sc am_law 487 [.inr (.inl 28), .inr (.inl 0), .inr (.inl 1), .inr (.inl 26), .inl z4, .inl z5, v6] [.inl s0] σ Q := by
  refine am_wn rfl ?_
  refine am_wn rfl ?_
  exact am_wc rfl (by decide) (by decide) rfl k
set_option maxRecDepth 100000 in
theorem b_law_493 {sc : Int → Int} {σ : St} {Q : Ou → St → Nat → Prop} (z4 : Int) (z5 : Int) (z6 : Int) (s0 : Int) (k1 : (s0 = z5) → am_wp sc am_law 500 [.inr (.inl 28), .inr (.inl 0), .inr (.inl 1), .inr (.inl 26), .inl z4, .inl z5, .inl z6] [] σ Q) (k2 : ¬ (s0 = z5) → am_wp sc am_law 498 [.inr (.inl 28), .inr (.inl 0), .inr (.inl 1), .inr (.inl 26), .inl z4, .inl z5, .inl z6] [] σ Q) : am_wp sc am_law 493 [.inr (.inl 28), .inr (.inl 0), .inr (.inl 1), .inr (.inl 26), .inl z4, .inl z5, .inl z6] [.inl s0] σ Q := by
  refine am_wn rfl ?_
  exact ar_br (c := s0 = z5) rfl k1 k2
set_option maxRecDepth 100000 in
theorem b_law_498 {sc : Int → Int} {σ : St} {Q : Ou → St → Nat → Prop} (z4 : Int) (z5 : Int) (z6 : Int) (k : Q (.inl (some 0)) σ 0) : am_wp sc am_law 498 [.inr (.inl 28), .inr (.inl 0), .inr (.inl 1), .inr (.inl 26), .inl z4, .inl z5, .inl z6] [] σ Q := by
  refine am_wn rfl ?_
  exact am_w61 rfl (Or.inl rfl) k
set_option maxRecDepth 100000 in
theorem b_law_500 {sc : Int → Int} {σ : St} {Q : Ou → St → Nat → Prop} (z4 : Int) (z5 : Int) (z6 : Int) (k1 : (z5 ≠ 0) → am_wp sc am_law 517 [.inr (.inl 28), .inr (.inl 0), .inr (.inl 1), .inr (.inl 26), .inl z4, .inl z5, .inl z6] [] σ Q) (k2 : ¬ (z5 ≠ 0) → am_wp sc am_law 505 [.inr (.inl 28), .inr (.inl 0), .inr (.inl 1), .inr (.inl 26), .inl z4, .inl z5, .inl z6] [] σ Q) : am_wp sc am_law 500 [.inr (.inl 28), .inr (.inl 0), .inr (.inl 1), .inr (.inl 26), .inl z4, .inl z5, .inl z6] [] σ Q := by
  refine am_wn rfl ?_
  exact ar_br (c := z5 ≠ 0) rfl k1 k2
set_option maxRecDepth 100000 in
theorem b_law_505 {sc : Int → Int} {σ : St} {Q : Ou → St → Nat → Prop} (z4 : Int) (z5 : Int) (z6 : Int) (k1 : ((if z6 < (σ 26 0) then 1 else if (σ 26 0) = z6 then 0 else -1) = 0) → am_wp sc am_law 517 [.inr (.inl 28), .inr (.inl 0), .inr (.inl 1), .inr (.inl 26), .inl z4, .inl z5, .inl z6] [] σ Q) (k2 : ¬ ((if z6 < (σ 26 0) then 1 else if (σ 26 0) = z6 then 0 else -1) = 0) → am_wp sc am_law 515 [.inr (.inl 28), .inr (.inl 0), .inr (.inl 1), .inr (.inl 26), .inl z4, .inl z5, .inl z6] [] σ Q) : am_wp sc am_law 505 [.inr (.inl 28), .inr (.inl 0), .inr (.inl 1), .inr (.inl 26), .inl z4, .inl z5, .inl z6] [] σ Q := by
  refine am_wn rfl ?_
  refine am_wn rfl ?_
  refine am_wn rfl ?_
  refine am_wn rfl ?_
  refine am_wn rfl ?_
  refine am_wn rfl ?_
  exact ar_br (c := (if z6 < (σ 26 0) then 1 else if (σ 26 0) = z6 then 0 else -1) = 0) rfl k1 k2
set_option maxRecDepth 100000 in
theorem b_law_515 {sc : Int → Int} {σ : St} {Q : Ou → St → Nat → Prop} (z4 : Int) (z5 : Int) (z6 : Int) (k : Q (.inl (some 0)) σ 0) : am_wp sc am_law 515 [.inr (.inl 28), .inr (.inl 0), .inr (.inl 1), .inr (.inl 26), .inl z4, .inl z5, .inl z6] [] σ Q := by
  refine am_wn rfl ?_
  exact am_w61 rfl (Or.inl rfl) k
set_option maxRecDepth 100000 in
theorem b_law_517 {sc : Int → Int} {σ : St} {Q : Ou → St → Nat → Prop} (z4 : Int) (z5 : Int) (z6 : Int) (k : am_wp sc am_law 1019 [.inr (.inl 28), .inr (.inl 0), .inr (.inl 1), .inr (.inl 26), .inl z4, .inl z5, .inl z6] [] σ Q) : am_wp sc am_law 517 [.inr (.inl 28), .inr (.inl 0), .inr (.inl 1), .inr (.inl 26), .inl z4, .inl z5, .inl z6] [] σ Q := by
  refine am_wn rfl ?_
  exact k
set_option maxRecDepth 100000 in
theorem b_law_520 {sc : Int → Int} {σ : St} {Q : Ou → St → Nat → Prop} (z4 : Int) (v5 : AV) (v6 : AV) (k : am_wp sc 6 0 [.inr (.inl 0)] [] σ (am_bk sc am_law 521 [.inr (.inl 28), .inr (.inl 0), .inr (.inl 1), .inr (.inl 26), .inl z4, v5, v6] [] Q)) : am_wp sc am_law 520 [.inr (.inl 28), .inr (.inl 0), .inr (.inl 1), .inr (.inl 26), .inl z4, v5, v6] [] σ Q := by
  refine am_wn rfl ?_
  exact am_wc rfl (by decide) (by decide) rfl k
set_option maxRecDepth 100000 in
theorem b_law_524 {sc : Int → Int} {σ : St} {Q : Ou → St → Nat → Prop} (z4 : Int) (v5 : AV) (v6 : AV) (s0 : Int) (k : am_wp sc 71 0 [.inr (.inl 1), .inr (.inr 0)] [] σ (am_bk sc am_law 525 [.inr (.inl 28), .inr (.inl 0), .inr (.inl 1), .inr (.inl 26), .inl z4, v5, v6] [.inl s0] Q)) : am_wp sc am_law 524 [.inr (.inl 28), .inr (.inl 0), .inr (.inl 1), .inr (.inl 26), .inl z4, v5, v6] [.inl s0] σ Q := by
  refine am_wn rfl ?_
  exact am_wc rfl (by decide) (by decide) rfl k
set_option maxRecDepth 100000 in
theorem b_law_528 {sc : Int → Int} {σ : St} {Q : Ou → St → Nat → Prop} (z4 : Int) (v5 : AV) (v6 : AV) (s0 : Int) (s1 : Int) (k1 : (s0 = s1) → am_wp sc am_law 1019 [.inr (.inl 28), .inr (.inl 0), .inr (.inl 1), .inr (.inl 26), .inl z4, v5, v6] [] σ Q) (k2 : ¬ (s0 = s1) → am_wp sc am_law 531 [.inr (.inl 28), .inr (.inl 0), .inr (.inl 1), .inr (.inl 26), .inl z4, v5, v6] [] σ Q) : am_wp sc am_law 528 [.inr (.inl 28), .inr (.inl 0), .inr (.inl 1), .inr (.inl 26), .inl z4, v5, v6] [.inl s1, .inl s0] σ Q := by
  exact ar_br (c := s0 = s1) rfl k1 k2
set_option maxRecDepth 100000 in
theorem b_law_531 {sc : Int → Int} {σ : St} {Q : Ou → St → Nat → Prop} (z4 : Int) (v5 : AV) (v6 : AV) (k : Q (.inl (some 0)) σ 0) : am_wp sc am_law 531 [.inr (.inl 28), .inr (.inl 0), .inr (.inl 1), .inr (.inl 26), .inl z4, v5, v6] [] σ Q := by
  refine am_wn rfl ?_
  exact am_w61 rfl (Or.inl rfl) k
set_option maxRecDepth 100000 in
theorem b_law_533 {sc : Int → Int} {σ : St} {Q : Ou → St → Nat → Prop} (z4 : Int) (v5 : AV) (v6 : AV) (h0 : am_R (z4 + 1)) (h1 : 0 ≤ (z4 + 1) ∧ (z4 + 1) < sc (-1)) (k : am_wp sc 7 0 [.inr (.inl 0), .inl (sc (z4 + 1))] [] σ (am_bk sc am_law 540 [.inr (.inl 28), .inr (.inl 0), .inr (.inl 1), .inr (.inl 26), .inl z4, v5, v6] [] Q)) : am_wp sc am_law 533 [.inr (.inl 28), .inr (.inl 0), .inr (.inl 1), .inr (.inl 26), .inl z4, v5, v6] [] σ Q := by
  refine am_wn rfl ?_
  refine am_wn rfl ?_
  refine am_wn rfl ?_
  refine am_wn rfl ?_
  refine ar_add rfl h0 ?_
  refine ar_sald rfl h1 ?_
  exact am_wc rfl (by decide) (by decide) rfl k
set_option maxRecDepth 100000 in
theorem b_law_543 {sc : Int → Int} {σ : St} {Q : Ou → St → Nat → Prop} (z4 : Int) (v5 : AV) (v6 : AV) (s0 : Int) (h0 : am_R (z4 + 1)) (h1 : 0 ≤ (z4 + 1) ∧ (z4 + 1) < sc (-1)) (k : am_wp sc 72 0 [.inr (.inl 1), .inl (sc (z4 + 1))] [] σ (am_bk sc am_law 550 [.inr (.inl 28), .inr (.inl 0), .inr (.inl 1), .inr (.inl 26), .inl z4, v5, v6] [.inl s0] Q)) : am_wp sc am_law 543 [.inr (.inl 28), .inr (.inl 0), .inr (.inl 1), .inr (.inl 26), .inl z4, v5, v6] [.inl s0] σ Q := by
  refine am_wn rfl ?_
  refine am_wn rfl ?_
  refine am_wn rfl ?_
  refine am_wn rfl ?_
  refine ar_add rfl h0 ?_
  refine ar_sald rfl h1 ?_
  exact am_wc rfl (by decide) (by decide) rfl k
set_option maxRecDepth 100000 in
theorem b_law_553 {sc : Int → Int} {σ : St} {Q : Ou → St → Nat → Prop} (z4 : Int) (v5 : AV) (v6 : AV) (s0 : Int) (s1 : Int) (k1 : (s0 = s1) → am_wp sc am_law 1019 [.inr (.inl 28), .inr (.inl 0), .inr (.inl 1), .inr (.inl 26), .inl z4, v5, v6] [] σ Q) (k2 : ¬ (s0 = s1) → am_wp sc am_law 556 [.inr (.inl 28), .inr (.inl 0), .inr (.inl 1), .inr (.inl 26), .inl z4, v5, v6] [] σ Q) : am_wp sc am_law 553 [.inr (.inl 28), .inr (.inl 0), .inr (.inl 1), .inr (.inl 26), .inl z4, v5, v6] [.inl s1, .inl s0] σ Q := by
  exact ar_br (c := s0 = s1) rfl k1 k2
set_option maxRecDepth 100000 in
theorem b_law_556 {sc : Int → Int} {σ : St} {Q : Ou → St → Nat → Prop} (z4 : Int) (v5 : AV) (v6 : AV) (k : Q (.inl (some 0)) σ 0) : am_wp sc am_law 556 [.inr (.inl 28), .inr (.inl 0), .inr (.inl 1), .inr (.inl 26), .inl z4, v5, v6] [] σ Q := by
  refine am_wn rfl ?_
  exact am_w61 rfl (Or.inl rfl) k
set_option maxRecDepth 100000 in
theorem b_law_558 {sc : Int → Int} {σ : St} {Q : Ou → St → Nat → Prop} (z4 : Int) (v5 : AV) (v6 : AV) (h0 : am_R (z4 + 1)) (h1 : 0 ≤ (z4 + 1) ∧ (z4 + 1) < sc (-1)) (h2 : am_R (z4 + 2)) (h3 : 0 ≤ (z4 + 2) ∧ (z4 + 2) < sc (-1)) (k1 : ((sc (z4 + 2)) = 0) → am_wp sc am_law 578 [.inr (.inl 28), .inr (.inl 0), .inr (.inl 1), .inr (.inl 26), .inl z4, v5, v6] [.inl (sc (z4 + 1)), .inr (.inl 0)] σ Q) (k2 : ¬ ((sc (z4 + 2)) = 0) → am_wp sc am_law 574 [.inr (.inl 28), .inr (.inl 0), .inr (.inl 1), .inr (.inl 26), .inl z4, v5, v6] [.inl (sc (z4 + 1)), .inr (.inl 0)] σ Q) : am_wp sc am_law 558 [.inr (.inl 28), .inr (.inl 0), .inr (.inl 1), .inr (.inl 26), .inl z4, v5, v6] [] σ Q := by
  refine am_wn rfl ?_
  refine am_wn rfl ?_
  refine am_wn rfl ?_
  refine am_wn rfl ?_
  refine ar_add rfl h0 ?_
  refine ar_sald rfl h1 ?_
  refine am_wn rfl ?_
  refine am_wn rfl ?_
  refine am_wn rfl ?_
  refine ar_add rfl h2 ?_
  refine ar_sald rfl h3 ?_
  exact ar_br (c := (sc (z4 + 2)) = 0) rfl k1 k2
set_option maxRecDepth 100000 in
theorem b_law_574 {sc : Int → Int} {σ : St} {Q : Ou → St → Nat → Prop} (z4 : Int) (v5 : AV) (v6 : AV) (s1 : Int) (k : am_wp sc am_law 579 [.inr (.inl 28), .inr (.inl 0), .inr (.inl 1), .inr (.inl 26), .inl z4, v5, v6] [.inl 1, .inl s1, .inr (.inl 0)] σ Q) : am_wp sc am_law 574 [.inr (.inl 28), .inr (.inl 0), .inr (.inl 1), .inr (.inl 26), .inl z4, v5, v6] [.inl s1, .inr (.inl 0)] σ Q := by
  refine am_wn rfl ?_
  refine am_wn rfl ?_
  exact k
set_option maxRecDepth 100000 in
theorem b_law_578 {sc : Int → Int} {σ : St} {Q : Ou → St → Nat → Prop} (z4 : Int) (v5 : AV) (v6 : AV) (s1 : Int) (k : am_wp sc am_law 579 [.inr (.inl 28), .inr (.inl 0), .inr (.inl 1), .inr (.inl 26), .inl z4, v5, v6] [.inl 0, .inl s1, .inr (.inl 0)] σ Q) : am_wp sc am_law 578 [.inr (.inl 28), .inr (.inl 0), .inr (.inl 1), .inr (.inl 26), .inl z4, v5, v6] [.inl s1, .inr (.inl 0)] σ Q := by
  refine am_wn rfl ?_
  exact k
set_option maxRecDepth 100000 in
theorem b_law_579 {sc : Int → Int} {σ : St} {Q : Ou → St → Nat → Prop} (z4 : Int) (v5 : AV) (v6 : AV) (s1 : Int) (s2 : Int) (k : am_wp sc 94 0 [.inr (.inl 0), .inl s1, .inl s2, .inr (.inr 0)] [] σ (am_bk sc am_law 579 [.inr (.inl 28), .inr (.inl 0), .inr (.inl 1), .inr (.inl 26), .inl z4, v5, v6] [] Q)) : am_wp sc am_law 579 [.inr (.inl 28), .inr (.inl 0), .inr (.inl 1), .inr (.inl 26), .inl z4, v5, v6] [.inl s2, .inl s1, .inr (.inl 0)] σ Q := by
  exact am_wc rfl (by decide) (by decide) rfl k
set_option maxRecDepth 100000 in
theorem b_law_582 {sc : Int → Int} {σ : St} {Q : Ou → St → Nat → Prop} (z4 : Int) (v5 : AV) (v6 : AV) (s0 : Int) (h0 : am_R (z4 + 1)) (h1 : 0 ≤ (z4 + 1) ∧ (z4 + 1) < sc (-1)) (h2 : am_R (z4 + 2)) (h3 : 0 ≤ (z4 + 2) ∧ (z4 + 2) < sc (-1)) (k1 : ((sc (z4 + 2)) = 0) → am_wp sc am_law 604 [.inr (.inl 28), .inr (.inl 0), .inr (.inl 1), .inr (.inl 26), .inl z4, .inl s0, v6] [.inl (sc (z4 + 1)), .inr (.inl 1)] σ Q) (k2 : ¬ ((sc (z4 + 2)) = 0) → am_wp sc am_law 600 [.inr (.inl 28), .inr (.inl 0), .inr (.inl 1), .inr (.inl 26), .inl z4, .inl s0, v6] [.inl (sc (z4 + 1)), .inr (.inl 1)] σ Q) : am_wp sc am_law 582 [.inr (.inl 28), .inr (.inl 0), .inr (.inl 1), .inr (.inl 26), .inl z4, v5, v6] [.inl s0] σ Q := by
  refine am_wn rfl ?_
  refine am_wn rfl ?_
  refine am_wn rfl ?_
  refine am_wn rfl ?_
  refine am_wn rfl ?_
  refine ar_add rfl h0 ?_
  refine ar_sald rfl h1 ?_
  refine am_wn rfl ?_
  refine am_wn rfl ?_
  refine am_wn rfl ?_
  refine ar_add rfl h2 ?_
  refine ar_sald rfl h3 ?_
  exact ar_br (c := (sc (z4 + 2)) = 0) rfl k1 k2
set_option maxRecDepth 100000 in
theorem b_law_600 {sc : Int → Int} {σ : St} {Q : Ou → St → Nat → Prop} (z4 : Int) (z5 : Int) (v6 : AV) (s1 : Int) (k : am_wp sc am_law 605 [.inr (.inl 28), .inr (.inl 0), .inr (.inl 1), .inr (.inl 26), .inl z4, .inl z5, v6] [.inl 1, .inl s1, .inr (.inl 1)] σ Q) : am_wp sc am_law 600 [.inr (.inl 28), .inr (.inl 0), .inr (.inl 1), .inr (.inl 26), .inl z4, .inl z5, v6] [.inl s1, .inr (.inl 1)] σ Q := by
  refine am_wn rfl ?_
  refine am_wn rfl ?_
  exact k
set_option maxRecDepth 100000 in
theorem b_law_604 {sc : Int → Int} {σ : St} {Q : Ou → St → Nat → Prop} (z4 : Int) (z5 : Int) (v6 : AV) (s1 : Int) (k : am_wp sc am_law 605 [.inr (.inl 28), .inr (.inl 0), .inr (.inl 1), .inr (.inl 26), .inl z4, .inl z5, v6] [.inl 0, .inl s1, .inr (.inl 1)] σ Q) : am_wp sc am_law 604 [.inr (.inl 28), .inr (.inl 0), .inr (.inl 1), .inr (.inl 26), .inl z4, .inl z5, v6] [.inl s1, .inr (.inl 1)] σ Q := by
  refine am_wn rfl ?_
  exact k
set_option maxRecDepth 100000 in
theorem b_law_605 {sc : Int → Int} {σ : St} {Q : Ou → St → Nat → Prop} (z4 : Int) (z5 : Int) (v6 : AV) (s1 : Int) (s2 : Int) (k : am_wp sc 73 0 [.inr (.inl 1), .inl s1, .inl s2] [] σ (am_bk sc am_law 605 [.inr (.inl 28), .inr (.inl 0), .inr (.inl 1), .inr (.inl 26), .inl z4, .inl z5, v6] [] Q)) : am_wp sc am_law 605 [.inr (.inl 28), .inr (.inl 0), .inr (.inl 1), .inr (.inl 26), .inl z4, .inl z5, v6] [.inl s2, .inl s1, .inr (.inl 1)] σ Q := by
  exact am_wc rfl (by decide) (by decide) rfl k
set_option maxRecDepth 100000 in
theorem b_law_608 {sc : Int → Int} {σ : St} {Q : Ou → St → Nat → Prop} (z4 : Int) (z5 : Int) (v6 : AV) (k : am_wp sc 48 0 [.inr (.inl 1)] [] σ (am_bk sc am_law 609 [.inr (.inl 28), .inr (.inl 0), .inr (.inl 1), .inr (.inl 26), .inl z4, .inl z5, v6] [] Q)) : am_wp sc am_law 608 [.inr (.inl 28), .inr (.inl 0), .inr (.inl 1), .inr (.inl 26), .inl z4, .inl z5, v6] [] σ Q := by
  refine am_wn rfl ?_
  exact am_wc rfl (by decide) (by decide) rfl k
set_option maxRecDepth 100000 in
theorem b_law_612 {sc : Int → Int} {σ : St} {Q : Ou → St → Nat → Prop} (z4 : Int) (z5 : Int) (v6 : AV) (s0 : Int) (k1 : (s0 = z5) → am_wp sc am_law 619 [.inr (.inl 28), .inr (.inl 0), .inr (.inl 1), .inr (.inl 26), .inl z4, .inl z5, v6] [] σ Q) (k2 : ¬ (s0 = z5) → am_wp sc am_law 617 [.inr (.inl 28), .inr (.inl 0), .inr (.inl 1), .inr (.inl 26), .inl z4, .inl z5, v6] [] σ Q) : am_wp sc am_law 612 [.inr (.inl 28), .inr (.inl 0), .inr (.inl 1), .inr (.inl 26), .inl z4, .inl z5, v6] [.inl s0] σ Q := by
  refine am_wn rfl ?_
  exact ar_br (c := s0 = z5) rfl k1 k2
set_option maxRecDepth 100000 in
theorem b_law_617 {sc : Int → Int} {σ : St} {Q : Ou → St → Nat → Prop} (z4 : Int) (z5 : Int) (v6 : AV) (k : Q (.inl (some 0)) σ 0) : am_wp sc am_law 617 [.inr (.inl 28), .inr (.inl 0), .inr (.inl 1), .inr (.inl 26), .inl z4, .inl z5, v6] [] σ Q := by
  refine am_wn rfl ?_
  exact am_w61 rfl (Or.inl rfl) k
set_option maxRecDepth 100000 in
theorem b_law_619 {sc : Int → Int} {σ : St} {Q : Ou → St → Nat → Prop} (z4 : Int) (z5 : Int) (v6 : AV) (k : am_wp sc am_law 1019 [.inr (.inl 28), .inr (.inl 0), .inr (.inl 1), .inr (.inl 26), .inl z4, .inl z5, v6] [] σ Q) : am_wp sc am_law 619 [.inr (.inl 28), .inr (.inl 0), .inr (.inl 1), .inr (.inl 26), .inl z4, .inl z5, v6] [] σ Q := by
  refine am_wn rfl ?_
  exact k
set_option maxRecDepth 100000 in
theorem b_law_622 {sc : Int → Int} {σ : St} {Q : Ou → St → Nat → Prop} (z4 : Int) (v5 : AV) (v6 : AV) (k : am_wp sc 95 0 [.inr (.inl 0), .inr (.inl 26), .inr (.inr 0)] [] σ (am_bk sc am_law 624 [.inr (.inl 28), .inr (.inl 0), .inr (.inl 1), .inr (.inl 26), .inl z4, v5, v6] [] Q)) : am_wp sc am_law 622 [.inr (.inl 28), .inr (.inl 0), .inr (.inl 1), .inr (.inl 26), .inl z4, v5, v6] [] σ Q := by
  refine am_wn rfl ?_
  refine am_wn rfl ?_
  exact am_wc rfl (by decide) (by decide) rfl k
set_option maxRecDepth 100000 in
theorem b_law_627 {sc : Int → Int} {σ : St} {Q : Ou → St → Nat → Prop} (z4 : Int) (v5 : AV) (v6 : AV) (s0 : Int) (k : am_wp sc 74 0 [.inr (.inl 1), .inr (.inr 0), .inr (.inr 0)] [] σ (am_bk sc am_law 630 [.inr (.inl 28), .inr (.inl 0), .inr (.inl 1), .inr (.inl 26), .inl z4, .inl s0, v6] [] Q)) : am_wp sc am_law 627 [.inr (.inl 28), .inr (.inl 0), .inr (.inl 1), .inr (.inl 26), .inl z4, v5, v6] [.inl s0] σ Q := by
  refine am_wn rfl ?_
  refine am_wn rfl ?_
  exact am_wc rfl (by decide) (by decide) rfl k
set_option maxRecDepth 100000 in
theorem b_law_633 {sc : Int → Int} {σ : St} {Q : Ou → St → Nat → Prop} (z4 : Int) (z5 : Int) (v6 : AV) (s0 : Int) (k : am_wp sc 48 0 [.inr (.inl 1)] [] σ (am_bk sc am_law 636 [.inr (.inl 28), .inr (.inl 0), .inr (.inl 1), .inr (.inl 26), .inl z4, .inl z5, .inl s0] [] Q)) : am_wp sc am_law 633 [.inr (.inl 28), .inr (.inl 0), .inr (.inl 1), .inr (.inl 26), .inl z4, .inl z5, v6] [.inl s0] σ Q := by
  refine am_wn rfl ?_
  refine am_wn rfl ?_
  exact am_wc rfl (by decide) (by decide) rfl k
set_option maxRecDepth 100000 in
theorem b_law_639 {sc : Int → Int} {σ : St} {Q : Ou → St → Nat → Prop} (z4 : Int) (z5 : Int) (z6 : Int) (s0 : Int) (k1 : (s0 = z5) → am_wp sc am_law 646 [.inr (.inl 28), .inr (.inl 0), .inr (.inl 1), .inr (.inl 26), .inl z4, .inl z5, .inl z6] [] σ Q) (k2 : ¬ (s0 = z5) → am_wp sc am_law 644 [.inr (.inl 28), .inr (.inl 0), .inr (.inl 1), .inr (.inl 26), .inl z4, .inl z5, .inl z6] [] σ Q) : am_wp sc am_law 639 [.inr (.inl 28), .inr (.inl 0), .inr (.inl 1), .inr (.inl 26), .inl z4, .inl z5, .inl z6] [.inl s0] σ Q := by
  refine am_wn rfl ?_
  exact ar_br (c := s0 = z5) rfl k1 k2
set_option maxRecDepth 100000 in
theorem b_law_644 {sc : Int → Int} {σ : St} {Q : Ou → St → Nat → Prop} (z4 : Int) (z5 : Int) (z6 : Int) (k : Q (.inl (some 0)) σ 0) : am_wp sc am_law 644 [.inr (.inl 28), .inr (.inl 0), .inr (.inl 1), .inr (.inl 26), .inl z4, .inl z5, .inl z6] [] σ Q := by
  refine am_wn rfl ?_
  exact am_w61 rfl (Or.inl rfl) k
set_option maxRecDepth 100000 in
theorem b_law_646 {sc : Int → Int} {σ : St} {Q : Ou → St → Nat → Prop} (z4 : Int) (z5 : Int) (z6 : Int) (k1 : (z5 ≠ 0) → am_wp sc am_law 663 [.inr (.inl 28), .inr (.inl 0), .inr (.inl 1), .inr (.inl 26), .inl z4, .inl z5, .inl z6] [] σ Q) (k2 : ¬ (z5 ≠ 0) → am_wp sc am_law 651 [.inr (.inl 28), .inr (.inl 0), .inr (.inl 1), .inr (.inl 26), .inl z4, .inl z5, .inl z6] [] σ Q) : am_wp sc am_law 646 [.inr (.inl 28), .inr (.inl 0), .inr (.inl 1), .inr (.inl 26), .inl z4, .inl z5, .inl z6] [] σ Q := by
  refine am_wn rfl ?_
  exact ar_br (c := z5 ≠ 0) rfl k1 k2
set_option maxRecDepth 100000 in
theorem b_law_651 {sc : Int → Int} {σ : St} {Q : Ou → St → Nat → Prop} (z4 : Int) (z5 : Int) (z6 : Int) (k1 : ((if z6 < (σ 26 0) then 1 else if (σ 26 0) = z6 then 0 else -1) = 0) → am_wp sc am_law 663 [.inr (.inl 28), .inr (.inl 0), .inr (.inl 1), .inr (.inl 26), .inl z4, .inl z5, .inl z6] [] σ Q) (k2 : ¬ ((if z6 < (σ 26 0) then 1 else if (σ 26 0) = z6 then 0 else -1) = 0) → am_wp sc am_law 661 [.inr (.inl 28), .inr (.inl 0), .inr (.inl 1), .inr (.inl 26), .inl z4, .inl z5, .inl z6] [] σ Q) : am_wp sc am_law 651 [.inr (.inl 28), .inr (.inl 0), .inr (.inl 1), .inr (.inl 26), .inl z4, .inl z5, .inl z6] [] σ Q := by
  refine am_wn rfl ?_
  refine am_wn rfl ?_
  refine am_wn rfl ?_
  refine am_wn rfl ?_
  refine am_wn rfl ?_
  refine am_wn rfl ?_
  exact ar_br (c := (if z6 < (σ 26 0) then 1 else if (σ 26 0) = z6 then 0 else -1) = 0) rfl k1 k2
set_option maxRecDepth 100000 in
theorem b_law_661 {sc : Int → Int} {σ : St} {Q : Ou → St → Nat → Prop} (z4 : Int) (z5 : Int) (z6 : Int) (k : Q (.inl (some 0)) σ 0) : am_wp sc am_law 661 [.inr (.inl 28), .inr (.inl 0), .inr (.inl 1), .inr (.inl 26), .inl z4, .inl z5, .inl z6] [] σ Q := by
  refine am_wn rfl ?_
  exact am_w61 rfl (Or.inl rfl) k
set_option maxRecDepth 100000 in
theorem b_law_663 {sc : Int → Int} {σ : St} {Q : Ou → St → Nat → Prop} (z4 : Int) (z5 : Int) (z6 : Int) (k : am_wp sc am_law 1019 [.inr (.inl 28), .inr (.inl 0), .inr (.inl 1), .inr (.inl 26), .inl z4, .inl z5, .inl z6] [] σ Q) : am_wp sc am_law 663 [.inr (.inl 28), .inr (.inl 0), .inr (.inl 1), .inr (.inl 26), .inl z4, .inl z5, .inl z6] [] σ Q := by
  refine am_wn rfl ?_
  exact k
set_option maxRecDepth 100000 in
theorem b_law_666 {sc : Int → Int} {σ : St} {Q : Ou → St → Nat → Prop} (z4 : Int) (v5 : AV) (v6 : AV) (h0 : am_R (z4 + 1)) (h1 : 0 ≤ (z4 + 1) ∧ (z4 + 1) < sc (-1)) (k : am_wp sc 10 0 [.inr (.inl 0), .inl (sc (z4 + 1))] [] σ (am_bk sc am_law 673 [.inr (.inl 28), .inr (.inl 0), .inr (.inl 1), .inr (.inl 26), .inl z4, v5, v6] [] Q)) : am_wp sc am_law 666 [.inr (.inl 28), .inr (.inl 0), .inr (.inl 1), .inr (.inl 26), .inl z4, v5, v6] [] σ Q := by
  refine am_wn rfl ?_
  refine am_wn rfl ?_
  refine am_wn rfl ?_
  refine am_wn rfl ?_
  refine ar_add rfl h0 ?_
  refine ar_sald rfl h1 ?_
  exact am_wc rfl (by decide) (by decide) rfl k
set_option maxRecDepth 100000 in
theorem b_law_676 {sc : Int → Int} {σ : St} {Q : Ou → St → Nat → Prop} (z4 : Int) (v5 : AV) (v6 : AV) (s0 : Int) (h0 : am_R (z4 + 1)) (h1 : 0 ≤ (z4 + 1) ∧ (z4 + 1) < sc (-1)) (k : am_wp sc 75 0 [.inr (.inl 1), .inl (sc (z4 + 1))] [] σ (am_bk sc am_law 683 [.inr (.inl 28), .inr (.inl 0), .inr (.inl 1), .inr (.inl 26), .inl z4, v5, v6] [.inl s0] Q)) : am_wp sc am_law 676 [.inr (.inl 28), .inr (.inl 0), .inr (.inl 1), .inr (.inl 26), .inl z4, v5, v6] [.inl s0] σ Q := by
  refine am_wn rfl ?_
  refine am_wn rfl ?_
  refine am_wn rfl ?_
  refine am_wn rfl ?_
  refine ar_add rfl h0 ?_
  refine ar_sald rfl h1 ?_
  exact am_wc rfl (by decide) (by decide) rfl k
set_option maxRecDepth 100000 in
theorem b_law_686 {sc : Int → Int} {σ : St} {Q : Ou → St → Nat → Prop} (z4 : Int) (v5 : AV) (v6 : AV) (s0 : Int) (s1 : Int) (k1 : (s0 = s1) → am_wp sc am_law 1019 [.inr (.inl 28), .inr (.inl 0), .inr (.inl 1), .inr (.inl 26), .inl z4, v5, v6] [] σ Q) (k2 : ¬ (s0 = s1) → am_wp sc am_law 689 [.inr (.inl 28), .inr (.inl 0), .inr (.inl 1), .inr (.inl 26), .inl z4, v5, v6] [] σ Q) : am_wp sc am_law 686 [.inr (.inl 28), .inr (.inl 0), .inr (.inl 1), .inr (.inl 26), .inl z4, v5, v6] [.inl s1, .inl s0] σ Q := by
  exact ar_br (c := s0 = s1) rfl k1 k2
set_option maxRecDepth 100000 in
theorem b_law_689 {sc : Int → Int} {σ : St} {Q : Ou → St → Nat → Prop} (z4 : Int) (v5 : AV) (v6 : AV) (k : Q (.inl (some 0)) σ 0) : am_wp sc am_law 689 [.inr (.inl 28), .inr (.inl 0), .inr (.inl 1), .inr (.inl 26), .inl z4, v5, v6] [] σ Q := by
  refine am_wn rfl ?_
  exact am_w61 rfl (Or.inl rfl) k
set_option maxRecDepth 100000 in
theorem b_law_691 {sc : Int → Int} {σ : St} {Q : Ou → St → Nat → Prop} (z4 : Int) (v5 : AV) (v6 : AV) (k : am_wp sc 11 0 [.inr (.inl 0), .inr (.inr 0)] [] σ (am_bk sc am_law 692 [.inr (.inl 28), .inr (.inl 0), .inr (.inl 1), .inr (.inl 26), .inl z4, v5, v6] [] Q)) : am_wp sc am_law 691 [.inr (.inl 28), .inr (.inl 0), .inr (.inl 1), .inr (.inl 26), .inl z4, v5, v6] [] σ Q := by
  refine am_wn rfl ?_
  exact am_wc rfl (by decide) (by decide) rfl k
set_option maxRecDepth 100000 in
theorem b_law_695 {sc : Int → Int} {σ : St} {Q : Ou → St → Nat → Prop} (z4 : Int) (v5 : AV) (v6 : AV) (s0 : Int) (k : am_wp sc 61 0 [.inr (.inl 1)] [] σ (am_bk sc am_law 696 [.inr (.inl 28), .inr (.inl 0), .inr (.inl 1), .inr (.inl 26), .inl z4, v5, v6] [.inl s0] Q)) : am_wp sc am_law 695 [.inr (.inl 28), .inr (.inl 0), .inr (.inl 1), .inr (.inl 26), .inl z4, v5, v6] [.inl s0] σ Q := by
  refine am_wn rfl ?_
  exact am_wc rfl (by decide) (by decide) rfl k
set_option maxRecDepth 100000 in
theorem b_law_699 {sc : Int → Int} {σ : St} {Q : Ou → St → Nat → Prop} (z4 : Int) (v5 : AV) (v6 : AV) (s0 : Int) (s1 : Int) (k1 : (s0 = s1) → am_wp sc am_law 1019 [.inr (.inl 28), .inr (.inl 0), .inr (.inl 1), .inr (.inl 26), .inl z4, v5, v6] [] σ Q) (k2 : ¬ (s0 = s1) → am_wp sc am_law 702 [.inr (.inl 28), .inr (.inl 0), .inr (.inl 1), .inr (.inl 26), .inl z4, v5, v6] [] σ Q) : am_wp sc am_law 699 [.inr (.inl 28), .inr (.inl 0), .inr (.inl 1), .inr (.inl 26), .inl z4, v5, v6] [.inl s1, .inl s0] σ Q := by
  exact ar_br (c := s0 = s1) rfl k1 k2
set_option maxRecDepth 100000 in
theorem b_law_702 {sc : Int → Int} {σ : St} {Q : Ou → St → Nat → Prop} (z4 : Int) (v5 : AV) (v6 : AV) (k : Q (.inl (some 0)) σ 0) : am_wp sc am_law 702 [.inr (.inl 28), .inr (.inl 0), .inr (.inl 1), .inr (.inl 26), .inl z4, v5, v6] [] σ Q := by
  refine am_wn rfl ?_
  exact am_w61 rfl (Or.inl rfl) k
set_option maxRecDepth 100000 in
theorem b_law_704 {sc : Int → Int} {σ : St} {Q : Ou → St → Nat → Prop} (z4 : Int) (v5 : AV) (v6 : AV) (h0 : am_R (z4 + 1)) (h1 : 0 ≤ (z4 + 1) ∧ (z4 + 1) < sc (-1)) (k : am_wp sc 96 0 [.inr (.inl 0), .inl (sc (z4 + 1)), .inr (.inl 26), .inr (.inr 0)] [] σ (am_bk sc am_law 712 [.inr (.inl 28), .inr (.inl 0), .inr (.inl 1), .inr (.inl 26), .inl z4, v5, v6] [] Q)) : am_wp sc am_law 704 [.inr (.inl 28), .inr (.inl 0), .inr (.inl 1), .inr (.inl 26), .inl z4, v5, v6] [] σ Q := by
  refine am_wn rfl ?_
  refine am_wn rfl ?_
  refine am_wn rfl ?_
  refine am_wn rfl ?_
  refine ar_add rfl h0 ?_
  refine ar_sald rfl h1 ?_
  refine am_wn rfl ?_
  exact am_wc rfl (by decide) (by decide) rfl k
set_option maxRecDepth 100000 in
theorem b_law_715 {sc : Int → Int} {σ : St} {Q : Ou → St → Nat → Prop} (z4 : Int) (v5 : AV) (v6 : AV) (s0 : Int) (h0 : am_R (z4 + 1)) (h1 : 0 ≤ (z4 + 1) ∧ (z4 + 1) < sc (-1)) (k : am_wp sc 76 0 [.inr (.inl 1), .inl (sc (z4 + 1)), .inr (.inr 0), .inr (.inr 0), .inr (.inr 0), .inr (.inr 0), .inr (.inr 0), .inr (.inr 0)] [] σ (am_bk sc am_law 724 [.inr (.inl 28), .inr (.inl 0), .inr (.inl 1), .inr (.inl 26), .inl z4, .inl s0, v6] [] Q)) : am_wp sc am_law 715 [.inr (.inl 28), .inr (.inl 0), .inr (.inl 1), .inr (.inl 26), .inl z4, v5, v6] [.inl s0] σ Q := by
  refine am_wn rfl ?_
  refine am_wn rfl ?_
  refine am_wn rfl ?_
  refine am_wn rfl ?_
  refine am_wn rfl ?_
  refine ar_add rfl h0 ?_
  refine ar_sald rfl h1 ?_
  exact am_wc rfl (by decide) (by decide) rfl k
set_option maxRecDepth 100000 in
theorem b_law_727 {sc : Int → Int} {σ : St} {Q : Ou → St → Nat → Prop} (z4 : Int) (z5 : Int) (v6 : AV) (s0 : Int) (k : am_wp sc 48 0 [.inr (.inl 1)] [] σ (am_bk sc am_law 730 [.inr (.inl 28), .inr (.inl 0), .inr (.inl 1), .inr (.inl 26), .inl z4, .inl z5, .inl s0] [] Q)) : am_wp sc am_law 727 [.inr (.inl 28), .inr (.inl 0), .inr (.inl 1), .inr (.inl 26), .inl z4, .inl z5, v6] [.inl s0] σ Q := by
  refine am_wn rfl ?_
  refine am_wn rfl ?_
  exact am_wc rfl (by decide) (by decide) rfl k
set_option maxRecDepth 100000 in
theorem b_law_733 {sc : Int → Int} {σ : St} {Q : Ou → St → Nat → Prop} (z4 : Int) (z5 : Int) (z6 : Int) (s0 : Int) (k1 : (s0 = z5) → am_wp sc am_law 740 [.inr (.inl 28), .inr (.inl 0), .inr (.inl 1), .inr (.inl 26), .inl z4, .inl z5, .inl z6] [] σ Q) (k2 : ¬ (s0 = z5) → am_wp sc am_law 738 [.inr (.inl 28), .inr (.inl 0), .inr (.inl 1), .inr (.inl 26), .inl z4, .inl z5, .inl z6] [] σ Q) : am_wp sc am_law 733 [.inr (.inl 28), .inr (.inl 0), .inr (.inl 1), .inr (.inl 26), .inl z4, .inl z5, .inl z6] [.inl s0] σ Q := by
  refine am_wn rfl ?_
  exact ar_br (c := s0 = z5) rfl k1 k2
set_option maxRecDepth 100000 in
theorem b_law_738 {sc : Int → Int} {σ : St} {Q : Ou → St → Nat → Prop} (z4 : Int) (z5 : Int) (z6 : Int) (k : Q (.inl (some 0)) σ 0) : am_wp sc am_law 738 [.inr (.inl 28), .inr (.inl 0), .inr (.inl 1), .inr (.inl 26), .inl z4, .inl z5, .inl z6] [] σ Q := by
  refine am_wn rfl ?_
  exact am_w61 rfl (Or.inl rfl) k
set_option maxRecDepth 100000 in
theorem b_law_740 {sc : Int → Int} {σ : St} {Q : Ou → St → Nat → Prop} (z4 : Int) (z5 : Int) (z6 : Int) (k1 : (z5 ≠ 0) → am_wp sc am_law 757 [.inr (.inl 28), .inr (.inl 0), .inr (.inl 1), .inr (.inl 26), .inl z4, .inl z5, .inl z6] [] σ Q) (k2 : ¬ (z5 ≠ 0) → am_wp sc am_law 745 [.inr (.inl 28), .inr (.inl 0), .inr (.inl 1), .inr (.inl 26), .inl z4, .inl z5, .inl z6] [] σ Q) : am_wp sc am_law 740 [.inr (.inl 28), .inr (.inl 0), .inr (.inl 1), .inr (.inl 26), .inl z4, .inl z5, .inl z6] [] σ Q := by
  refine am_wn rfl ?_
  exact ar_br (c := z5 ≠ 0) rfl k1 k2
set_option maxRecDepth 100000 in
theorem b_law_745 {sc : Int → Int} {σ : St} {Q : Ou → St → Nat → Prop} (z4 : Int) (z5 : Int) (z6 : Int) (k1 : ((if z6 < (σ 26 0) then 1 else if (σ 26 0) = z6 then 0 else -1) = 0) → am_wp sc am_law 757 [.inr (.inl 28), .inr (.inl 0), .inr (.inl 1), .inr (.inl 26), .inl z4, .inl z5, .inl z6] [] σ Q) (k2 : ¬ ((if z6 < (σ 26 0) then 1 else if (σ 26 0) = z6 then 0 else -1) = 0) → am_wp sc am_law 755 [.inr (.inl 28), .inr (.inl 0), .inr (.inl 1), .inr (.inl 26), .inl z4, .inl z5, .inl z6] [] σ Q) : am_wp sc am_law 745 [.inr (.inl 28), .inr (.inl 0), .inr (.inl 1), .inr (.inl 26), .inl z4, .inl z5, .inl z6] [] σ Q := by
  refine am_wn rfl ?_
  refine am_wn rfl ?_
  refine am_wn rfl ?_
  refine am_wn rfl ?_
  refine am_wn rfl ?_
  refine am_wn rfl ?_
  exact ar_br (c := (if z6 < (σ 26 0) then 1 else if (σ 26 0) = z6 then 0 else -1) = 0) rfl k1 k2
set_option maxRecDepth 100000 in
theorem b_law_755 {sc : Int → Int} {σ : St} {Q : Ou → St → Nat → Prop} (z4 : Int) (z5 : Int) (z6 : Int) (k : Q (.inl (some 0)) σ 0) : am_wp sc am_law 755 [.inr (.inl 28), .inr (.inl 0), .inr (.inl 1), .inr (.inl 26), .inl z4, .inl z5, .inl z6] [] σ Q := by
  refine am_wn rfl ?_
  exact am_w61 rfl (Or.inl rfl) k
set_option maxRecDepth 100000 in
theorem b_law_757 {sc : Int → Int} {σ : St} {Q : Ou → St → Nat → Prop} (z4 : Int) (z5 : Int) (z6 : Int) (k : am_wp sc am_law 1019 [.inr (.inl 28), .inr (.inl 0), .inr (.inl 1), .inr (.inl 26), .inl z4, .inl z5, .inl z6] [] σ Q) : am_wp sc am_law 757 [.inr (.inl 28), .inr (.inl 0), .inr (.inl 1), .inr (.inl 26), .inl z4, .inl z5, .inl z6] [] σ Q := by
  refine am_wn rfl ?_
  exact k
set_option maxRecDepth 100000 in
theorem b_law_760 {sc : Int → Int} {σ : St} {Q : Ou → St → Nat → Prop} (z4 : Int) (v5 : AV) (v6 : AV) (h0 : am_R (z4 + 1)) (h1 : 0 ≤ (z4 + 1) ∧ (z4 + 1) < sc (-1)) (h2 : am_R (z4 + 2)) (h3 : 0 ≤ (z4 + 2) ∧ (z4 + 2) < sc (-1)) (k : am_wp sc 97 0 [.inr (.inl 0), .inl (sc (z4 + 1)), .inl (sc (z4 + 2)), .inr (.inl 26), .inr (.inr 0)] [] σ (am_bk sc am_law 774 [.inr (.inl 28), .inr (.inl 0), .inr (.inl 1), .inr (.inl 26), .inl z4, v5, v6] [] Q)) : am_wp sc am_law 760 [.inr (.inl 28), .inr (.inl 0), .inr (.inl 1), .inr (.inl 26), .inl z4, v5, v6] [] σ Q := by
  refine am_wn rfl ?_
  refine am_wn rfl ?_
  refine am_wn rfl ?_
  refine am_wn rfl ?_
  refine ar_add rfl h0 ?_
  refine ar_sald rfl h1 ?_
  refine am_wn rfl ?_
  refine am_wn rfl ?_
  refine am_wn rfl ?_
  refine ar_add rfl h2 ?_
  refine ar_sald rfl h3 ?_
  refine am_wn rfl ?_
  exact am_wc rfl (by decide) (by decide) rfl k
set_option maxRecDepth 100000 in
theorem b_law_777 {sc : Int → Int} {σ : St} {Q : Ou → St → Nat → Prop} (z4 : Int) (v5 : AV) (v6 : AV) (s0 : Int) (h0 : am_R (z4 + 1)) (h1 : 0 ≤ (z4 + 1) ∧ (z4 + 1) < sc (-1)) (h2 : am_R (z4 + 2)) (h3 : 0 ≤ (z4 + 2) ∧ (z4 + 2) < sc (-1)) (k : am_wp sc 79 0 [.inr (.inl 1), .inl (sc (z4 + 1)), .inl (sc (z4 + 2))] [] σ (am_bk sc am_law 792 [.inr (.inl 28), .inr (.inl 0), .inr (.inl 1), .inr (.inl 26), .inl z4, .inl s0, v6] [] Q)) : am_wp sc am_law 777 [.inr (.inl 28), .inr (.inl 0), .inr (.inl 1), .inr (.inl 26), .inl z4, v5, v6] [.inl s0] σ Q := by
  refine am_wn rfl ?_
  refine am_wn rfl ?_
  refine am_wn rfl ?_
  refine am_wn rfl ?_
  refine am_wn rfl ?_
  refine ar_add rfl h0 ?_
  refine ar_sald rfl h1 ?_
  refine am_wn rfl ?_
  refine am_wn rfl ?_
  refine am_wn rfl ?_
  refine ar_add rfl h2 ?_
  refine ar_sald rfl h3 ?_
  exact am_wc rfl (by decide) (by decide) rfl k
set_option maxRecDepth 100000 in
theorem b_law_795 {sc : Int → Int} {σ : St} {Q : Ou → St → Nat → Prop} (z4 : Int) (z5 : Int) (v6 : AV) (s0 : Int) (k : am_wp sc 48 0 [.inr (.inl 1)] [] σ (am_bk sc am_law 798 [.inr (.inl 28), .inr (.inl 0), .inr (.inl 1), .inr (.inl 26), .inl z4, .inl z5, .inl s0] [] Q)) : am_wp sc am_law 795 [.inr (.inl 28), .inr (.inl 0), .inr (.inl 1), .inr (.inl 26), .inl z4, .inl z5, v6] [.inl s0] σ Q := by
  refine am_wn rfl ?_
  refine am_wn rfl ?_
  exact am_wc rfl (by decide) (by decide) rfl k
set_option maxRecDepth 100000 in
theorem b_law_801 {sc : Int → Int} {σ : St} {Q : Ou → St → Nat → Prop} (z4 : Int) (z5 : Int) (z6 : Int) (s0 : Int) (k1 : (s0 = z5) → am_wp sc am_law 808 [.inr (.inl 28), .inr (.inl 0), .inr (.inl 1), .inr (.inl 26), .inl z4, .inl z5, .inl z6] [] σ Q) (k2 : ¬ (s0 = z5) → am_wp sc am_law 806 [.inr (.inl 28), .inr (.inl 0), .inr (.inl 1), .inr (.inl 26), .inl z4, .inl z5, .inl z6] [] σ Q) : am_wp sc am_law 801 [.inr (.inl 28), .inr (.inl 0), .inr (.inl 1), .inr (.inl 26), .inl z4, .inl z5, .inl z6] [.inl s0] σ Q := by
  refine am_wn rfl ?_
  exact ar_br (c := s0 = z5) rfl k1 k2
set_option maxRecDepth 100000 in
theorem b_law_806 {sc : Int → Int} {σ : St} {Q : Ou → St → Nat → Prop} (z4 : Int) (z5 : Int) (z6 : Int) (k : Q (.inl (some 0)) σ 0) : am_wp sc am_law 806 [.inr (.inl 28), .inr (.inl 0), .inr (.inl 1), .inr (.inl 26), .inl z4, .inl z5, .inl z6] [] σ Q := by
  refine am_wn rfl ?_
  exact am_w61 rfl (Or.inl rfl) k
set_option maxRecDepth 100000 in
theorem b_law_808 {sc : Int → Int} {σ : St} {Q : Ou → St → Nat → Prop} (z4 : Int) (z5 : Int) (z6 : Int) (k1 : (z5 ≠ 0) → am_wp sc am_law 825 [.inr (.inl 28), .inr (.inl 0), .inr (.inl 1), .inr (.inl 26), .inl z4, .inl z5, .inl z6] [] σ Q) (k2 : ¬ (z5 ≠ 0) → am_wp sc am_law 813 [.inr (.inl 28), .inr (.inl 0), .inr (.inl 1), .inr (.inl 26), .inl z4, .inl z5, .inl z6] [] σ Q) : am_wp sc am_law 808 [.inr (.inl 28), .inr (.inl 0), .inr (.inl 1), .inr (.inl 26), .inl z4, .inl z5, .inl z6] [] σ Q := by
  refine am_wn rfl ?_
  exact ar_br (c := z5 ≠ 0) rfl k1 k2
set_option maxRecDepth 100000 in
theorem b_law_813 {sc : Int → Int} {σ : St} {Q : Ou → St → Nat → Prop} (z4 : Int) (z5 : Int) (z6 : Int) (k1 : ((if z6 < (σ 26 0) then 1 else if (σ 26 0) = z6 then 0 else -1) = 0) → am_wp sc am_law 825 [.inr (.inl 28), .inr (.inl 0), .inr (.inl 1), .inr (.inl 26), .inl z4, .inl z5, .inl z6] [] σ Q) (k2 : ¬ ((if z6 < (σ 26 0) then 1 else if (σ 26 0) = z6 then 0 else -1) = 0) → am_wp sc am_law 823 [.inr (.inl 28), .inr (.inl 0), .inr (.inl 1), .inr (.inl 26), .inl z4, .inl z5, .inl z6] [] σ Q) : am_wp sc am_law 813 [.inr (.inl 28), .inr (.inl 0), .inr (.inl 1), .inr (.inl 26), .inl z4, .inl z5, .inl z6] [] σ Q := by
  refine am_wn rfl ?_
  refine am_wn rfl ?_
  refine am_wn rfl ?_
  refine am_wn rfl ?_
  refine am_wn rfl ?_
  refine am_wn rfl ?_
  exact ar_br (c := (if z6 < (σ 26 0) then 1 else if (σ 26 0) = z6 then 0 else -1) = 0) rfl k1 k2
set_option maxRecDepth 100000 in
theorem b_law_823 {sc : Int → Int} {σ : St} {Q : Ou → St → Nat → Prop} (z4 : Int) (z5 : Int) (z6 : Int) (k : Q (.inl (some 0)) σ 0) : am_wp sc am_law 823 [.inr (.inl 28), .inr (.inl 0), .inr (.inl 1), .inr (.inl 26), .inl z4, .inl z5, .inl z6] [] σ Q := by
  refine am_wn rfl ?_
  exact am_w61 rfl (Or.inl rfl) k
set_option maxRecDepth 100000 in
theorem b_law_825 {sc : Int → Int} {σ : St} {Q : Ou → St → Nat → Prop} (z4 : Int) (z5 : Int) (z6 : Int) (k : am_wp sc am_law 1019 [.inr (.inl 28), .inr (.inl 0), .inr (.inl 1), .inr (.inl 26), .inl z4, .inl z5, .inl z6] [] σ Q) : am_wp sc am_law 825 [.inr (.inl 28), .inr (.inl 0), .inr (.inl 1), .inr (.inl 26), .inl z4, .inl z5, .inl z6] [] σ Q := by
  refine am_wn rfl ?_
  exact k
set_option maxRecDepth 100000 in
theorem b_law_828 {sc : Int → Int} {σ : St} {Q : Ou → St → Nat → Prop} (z4 : Int) (v5 : AV) (v6 : AV) (h0 : am_R (z4 + 1)) (h1 : 0 ≤ (z4 + 1) ∧ (z4 + 1) < sc (-1)) (k : am_wp sc 98 0 [.inr (.inl 0), .inl (sc (z4 + 1)), .inr (.inl 26), .inr (.inr 0)] [] σ (am_bk sc am_law 836 [.inr (.inl 28), .inr (.inl 0), .inr (.inl 1), .inr (.inl 26), .inl z4, v5, v6] [] Q)) : am_wp sc am_law 828 [.inr (.inl 28), .inr (.inl 0), .inr (.inl 1), .inr (.inl 26), .inl z4, v5, v6] [] σ Q := by
  refine am_wn rfl ?_
  refine am_wn rfl ?_
  refine am_wn rfl ?_
  refine am_wn rfl ?_
  refine ar_add rfl h0 ?_
  refine ar_sald rfl h1 ?_
  refine am_wn rfl ?_
  exact am_wc rfl (by decide) (by decide) rfl k
set_option maxRecDepth 100000 in
theorem b_law_839 {sc : Int → Int} {σ : St} {Q : Ou → St → Nat → Prop} (z4 : Int) (v5 : AV) (v6 : AV) (s0 : Int) (h0 : am_R (z4 + 1)) (h1 : 0 ≤ (z4 + 1) ∧ (z4 + 1) < sc (-1)) (k : am_wp sc 83 0 [.inr (.inl 1), .inl (sc (z4 + 1)), .inr (.inr 0)] [] σ (am_bk sc am_law 848 [.inr (.inl 28), .inr (.inl 0), .inr (.inl 1), .inr (.inl 26), .inl z4, .inl s0, v6] [] Q)) : am_wp sc am_law 839 [.inr (.inl 28), .inr (.inl 0), .inr (.inl 1), .inr (.inl 26), .inl z4, v5, v6] [.inl s0] σ Q := by
  refine am_wn rfl ?_
  refine am_wn rfl ?_
  refine am_wn rfl ?_
  refine am_wn rfl ?_
  refine am_wn rfl ?_
  refine ar_add rfl h0 ?_
  refine ar_sald rfl h1 ?_
  exact am_wc rfl (by decide) (by decide) rfl k
set_option maxRecDepth 100000 in
theorem b_law_851 {sc : Int → Int} {σ : St} {Q : Ou → St → Nat → Prop} (z4 : Int) (z5 : Int) (v6 : AV) (s0 : Int) (k : am_wp sc 48 0 [.inr (.inl 1)] [] σ (am_bk sc am_law 854 [.inr (.inl 28), .inr (.inl 0), .inr (.inl 1), .inr (.inl 26), .inl z4, .inl z5, .inl s0] [] Q)) : am_wp sc am_law 851 [.inr (.inl 28), .inr (.inl 0), .inr (.inl 1), .inr (.inl 26), .inl z4, .inl z5, v6] [.inl s0] σ Q := by
  refine am_wn rfl ?_
  refine am_wn rfl ?_
  exact am_wc rfl (by decide) (by decide) rfl k
set_option maxRecDepth 100000 in
theorem b_law_857 {sc : Int → Int} {σ : St} {Q : Ou → St → Nat → Prop} (z4 : Int) (z5 : Int) (z6 : Int) (s0 : Int) (k1 : (s0 = z5) → am_wp sc am_law 864 [.inr (.inl 28), .inr (.inl 0), .inr (.inl 1), .inr (.inl 26), .inl z4, .inl z5, .inl z6] [] σ Q) (k2 : ¬ (s0 = z5) → am_wp sc am_law 862 [.inr (.inl 28), .inr (.inl 0), .inr (.inl 1), .inr (.inl 26), .inl z4, .inl z5, .inl z6] [] σ Q) : am_wp sc am_law 857 [.inr (.inl 28), .inr (.inl 0), .inr (.inl 1), .inr (.inl 26), .inl z4, .inl z5, .inl z6] [.inl s0] σ Q := by
  refine am_wn rfl ?_
  exact ar_br (c := s0 = z5) rfl k1 k2
set_option maxRecDepth 100000 in
theorem b_law_862 {sc : Int → Int} {σ : St} {Q : Ou → St → Nat → Prop} (z4 : Int) (z5 : Int) (z6 : Int) (k : Q (.inl (some 0)) σ 0) : am_wp sc am_law 862 [.inr (.inl 28), .inr (.inl 0), .inr (.inl 1), .inr (.inl 26), .inl z4, .inl z5, .inl z6] [] σ Q := by
  refine am_wn rfl ?_
  exact am_w61 rfl (Or.inl rfl) k
set_option maxRecDepth 100000 in
theorem b_law_864 {sc : Int → Int} {σ : St} {Q : Ou → St → Nat → Prop} (z4 : Int) (z5 : Int) (z6 : Int) (k1 : (z5 ≠ 0) → am_wp sc am_law 881 [.inr (.inl 28), .inr (.inl 0), .inr (.inl 1), .inr (.inl 26), .inl z4, .inl z5, .inl z6] [] σ Q) (k2 : ¬ (z5 ≠ 0) → am_wp sc am_law 869 [.inr (.inl 28), .inr (.inl 0), .inr (.inl 1), .inr (.inl 26), .inl z4, .inl z5, .inl z6] [] σ Q) : am_wp sc am_law 864 [.inr (.inl 28), .inr (.inl 0), .inr (.inl 1), .inr (.inl 26), .inl z4, .inl z5, .inl z6] [] σ Q := by
  refine am_wn rfl ?_
  exact ar_br (c := z5 ≠ 0) rfl k1 k2
set_option maxRecDepth 100000 in
theorem b_law_869 {sc : Int → Int} {σ : St} {Q : Ou → St → Nat → Prop} (z4 : Int) (z5 : Int) (z6 : Int) (k1 : ((if z6 < (σ 26 0) then 1 else if (σ 26 0) = z6 then 0 else -1) = 0) → am_wp sc am_law 881 [.inr (.inl 28), .inr (.inl 0), .inr (.inl 1), .inr (.inl 26), .inl z4, .inl z5, .inl z6] [] σ Q) (k2 : ¬ ((if z6 < (σ 26 0) then 1 else if (σ 26 0) = z6 then 0 else -1) = 0) → am_wp sc am_law 879 [.inr (.inl 28), .inr (.inl 0), .inr (.inl 1), .inr (.inl 26), .inl z4, .inl z5, .inl z6] [] σ Q) : am_wp sc am_law 869 [.inr (.inl 28), .inr (.inl 0), .inr (.inl 1), .inr (.inl 26), .inl z4, .inl z5, .inl z6] [] σ Q := by
  refine am_wn rfl ?_
  refine am_wn rfl ?_
  refine am_wn rfl ?_
  refine am_wn rfl ?_
  refine am_wn rfl ?_
  refine am_wn rfl ?_
  exact ar_br (c := (if z6 < (σ 26 0) then 1 else if (σ 26 0) = z6 then 0 else -1) = 0) rfl k1 k2
set_option maxRecDepth 100000 in
theorem b_law_879 {sc : Int → Int} {σ : St} {Q : Ou → St → Nat → Prop} (z4 : Int) (z5 : Int) (z6 : Int) (k : Q (.inl (some 0)) σ 0) : am_wp sc am_law 879 [.inr (.inl 28), .inr (.inl 0), .inr (.inl 1), .inr (.inl 26), .inl z4, .inl z5, .inl z6] [] σ Q := by
  refine am_wn rfl ?_
  exact am_w61 rfl (Or.inl rfl) k
set_option maxRecDepth 100000 in
theorem b_law_881 {sc : Int → Int} {σ : St} {Q : Ou → St → Nat → Prop} (z4 : Int) (z5 : Int) (z6 : Int) (k : am_wp sc am_law 1019 [.inr (.inl 28), .inr (.inl 0), .inr (.inl 1), .inr (.inl 26), .inl z4, .inl z5, .inl z6] [] σ Q) : am_wp sc am_law 881 [.inr (.inl 28), .inr (.inl 0), .inr (.inl 1), .inr (.inl 26), .inl z4, .inl z5, .inl z6] [] σ Q := by
  refine am_wn rfl ?_
  exact k
set_option maxRecDepth 100000 in
theorem b_law_884 {sc : Int → Int} {σ : St} {Q : Ou → St → Nat → Prop} (z4 : Int) (v5 : AV) (v6 : AV) (h0 : am_R (z4 + 1)) (h1 : 0 ≤ (z4 + 1) ∧ (z4 + 1) < sc (-1)) (h2 : am_R (z4 + 2)) (h3 : 0 ≤ (z4 + 2) ∧ (z4 + 2) < sc (-1)) (k : am_wp sc 99 0 [.inr (.inl 0), .inl (sc (z4 + 1)), .inl (sc (z4 + 2)), .inr (.inl 26), .inr (.inr 0)] [] σ (am_bk sc am_law 898 [.inr (.inl 28), .inr (.inl 0), .inr (.inl 1), .inr (.inl 26), .inl z4, v5, v6] [] Q)) : am_wp sc am_law 884 [.inr (.inl 28), .inr (.inl 0), .inr (.inl 1), .inr (.inl 26), .inl z4, v5, v6] [] σ Q := by
  refine am_wn rfl ?_
  refine am_wn rfl ?_
  refine am_wn rfl ?_
  refine am_wn rfl ?_
  refine ar_add rfl h0 ?_
  refine ar_sald rfl h1 ?_
  refine am_wn rfl ?_
  refine am_wn rfl ?_
  refine am_wn rfl ?_
  refine ar_add rfl h2 ?_
  refine ar_sald rfl h3 ?_
  refine am_wn rfl ?_
  exact am_wc rfl (by decide) (by decide) rfl k
set_option maxRecDepth 100000 in
theorem b_law_901 {sc : Int → Int} {σ : St} {Q : Ou → St → Nat → Prop} (z4 : Int) (v5 : AV) (v6 : AV) (s0 : Int) (h0 : am_R (z4 + 1)) (h1 : 0 ≤ (z4 + 1) ∧ (z4 + 1) < sc (-1)) (h2 : am_R (z4 + 2)) (h3 : 0 ≤ (z4 + 2) ∧ (z4 + 2) < sc (-1)) (k : am_wp sc 84 0 [.inr (.inl 1), .inl (sc (z4 + 1)), .inl (sc (z4 + 2)), .inr (.inr 0), .inr (.inr 0), .inr (.inr 0), .inr (.inr 0)] [] σ (am_bk sc am_law 916 [.inr (.inl 28), .inr (.inl 0), .inr (.inl 1), .inr (.inl 26), .inl z4, .inl s0, v6] [] Q)) : am_wp sc am_law 901 [.inr (.inl 28), .inr (.inl 0), .inr (.inl 1), .inr (.inl 26), .inl z4, v5, v6] [.inl s0] σ Q := by
  refine am_wn rfl ?_
  refine am_wn rfl ?_
  refine am_wn rfl ?_
  refine am_wn rfl ?_
  refine am_wn rfl ?_
  refine ar_add rfl h0 ?_
  refine ar_sald rfl h1 ?_
  refine am_wn rfl ?_
  refine am_wn rfl ?_
  refine am_wn rfl ?_
  refine ar_add rfl h2 ?_
  refine ar_sald rfl h3 ?_
  exact am_wc rfl (by decide) (by decide) rfl k
set_option maxRecDepth 100000 in
theorem b_law_919 {sc : Int → Int} {σ : St} {Q : Ou → St → Nat → Prop} (z4 : Int) (z5 : Int) (v6 : AV) (s0 : Int) (k : am_wp sc 48 0 [.inr (.inl 1)] [] σ (am_bk sc am_law 922 [.inr (.inl 28), .inr (.inl 0), .inr (.inl 1), .inr (.inl 26), .inl z4, .inl z5, .inl s0] [] Q)) : am_wp sc am_law 919 [.inr (.inl 28), .inr (.inl 0), .inr (.inl 1), .inr (.inl 26), .inl z4, .inl z5, v6] [.inl s0] σ Q := by
  refine am_wn rfl ?_
  refine am_wn rfl ?_
  exact am_wc rfl (by decide) (by decide) rfl k
set_option maxRecDepth 100000 in
theorem b_law_925 {sc : Int → Int} {σ : St} {Q : Ou → St → Nat → Prop} (z4 : Int) (z5 : Int) (z6 : Int) (s0 : Int) (k1 : (s0 = z5) → am_wp sc am_law 932 [.inr (.inl 28), .inr (.inl 0), .inr (.inl 1), .inr (.inl 26), .inl z4, .inl z5, .inl z6] [] σ Q) (k2 : ¬ (s0 = z5) → am_wp sc am_law 930 [.inr (.inl 28), .inr (.inl 0), .inr (.inl 1), .inr (.inl 26), .inl z4, .inl z5, .inl z6] [] σ Q) : am_wp sc am_law 925 [.inr (.inl 28), .inr (.inl 0), .inr (.inl 1), .inr (.inl 26), .inl z4, .inl z5, .inl z6] [.inl s0] σ Q := by
  refine am_wn rfl ?_
  exact ar_br (c := s0 = z5) rfl k1 k2
set_option maxRecDepth 100000 in
theorem b_law_930 {sc : Int → Int} {σ : St} {Q : Ou → St → Nat → Prop} (z4 : Int) (z5 : Int) (z6 : Int) (k : Q (.inl (some 0)) σ 0) : am_wp sc am_law 930 [.inr (.inl 28), .inr (.inl 0), .inr (.inl 1), .inr (.inl 26), .inl z4, .inl z5, .inl z6] [] σ Q := by
  refine am_wn rfl ?_
  exact am_w61 rfl (Or.inl rfl) k
set_option maxRecDepth 100000 in
theorem b_law_932 {sc : Int → Int} {σ : St} {Q : Ou → St → Nat → Prop} (z4 : Int) (z5 : Int) (z6 : Int) (k1 : (z5 ≠ 0) → am_wp sc am_law 949 [.inr (.inl 28), .inr (.inl 0), .inr (.inl 1), .inr (.inl 26), .inl z4, .inl z5, .inl z6] [] σ Q) (k2 : ¬ (z5 ≠ 0) → am_wp sc am_law 937 [.inr (.inl 28), .inr (.inl 0), .inr (.inl 1), .inr (.inl 26), .inl z4, .inl z5, .inl z6] [] σ Q) : am_wp sc am_law 932 [.inr (.inl 28), .inr (.inl 0), .inr (.inl 1), .inr (.inl 26), .inl z4, .inl z5, .inl z6] [] σ Q := by
  refine am_wn rfl ?_
  exact ar_br (c := z5 ≠ 0) rfl k1 k2
set_option maxRecDepth 100000 in
theorem b_law_937 {sc : Int → Int} {σ : St} {Q : Ou → St → Nat → Prop} (z4 : Int) (z5 : Int) (z6 : Int) (k1 : ((if z6 < (σ 26 0) then 1 else if (σ 26 0) = z6 then 0 else -1) = 0) → am_wp sc am_law 949 [.inr (.inl 28), .inr (.inl 0), .inr (.inl 1), .inr (.inl 26), .inl z4, .inl z5, .inl z6] [] σ Q) (k2 : ¬ ((if z6 < (σ 26 0) then 1 else if (σ 26 0) = z6 then 0 else -1) = 0) → am_wp sc am_law 947 [.inr (.inl 28), .inr (.inl 0), .inr (.inl 1), .inr (.inl 26), .inl z4, .inl z5, .inl z6] [] σ Q) : am_wp sc am_law 937 [.inr (.inl 28), .inr (.inl 0), .inr (.inl 1), .inr (.inl 26), .inl z4, .inl z5, .inl z6] [] σ Q := by
  refine am_wn rfl ?_
  refine am_wn rfl ?_
  refine am_wn rfl ?_
  refine am_wn rfl ?_
  refine am_wn rfl ?_
  refine am_wn rfl ?_
  exact ar_br (c := (if z6 < (σ 26 0) then 1 else if (σ 26 0) = z6 then 0 else -1) = 0) rfl k1 k2
set_option maxRecDepth 100000 in
theorem b_law_947 {sc : Int → Int} {σ : St} {Q : Ou → St → Nat → Prop} (z4 : Int) (z5 : Int) (z6 : Int) (k : Q (.inl (some 0)) σ 0) : am_wp sc am_law 947 [.inr (.inl 28), .inr (.inl 0), .inr (.inl 1), .inr (.inl 26), .inl z4, .inl z5, .inl z6] [] σ Q := by
  refine am_wn rfl ?_
  exact am_w61 rfl (Or.inl rfl) k
set_option maxRecDepth 100000 in
theorem b_law_949 {sc : Int → Int} {σ : St} {Q : Ou → St → Nat → Prop} (z4 : Int) (z5 : Int) (z6 : Int) (k : am_wp sc am_law 1019 [.inr (.inl 28), .inr (.inl 0), .inr (.inl 1), .inr (.inl 26), .inl z4, .inl z5, .inl z6] [] σ Q) : am_wp sc am_law 949 [.inr (.inl 28), .inr (.inl 0), .inr (.inl 1), .inr (.inl 26), .inl z4, .inl z5, .inl z6] [] σ Q := by
  refine am_wn rfl ?_
  exact k
set_option maxRecDepth 100000 in
theorem b_law_952 {sc : Int → Int} {σ : St} {Q : Ou → St → Nat → Prop} (z4 : Int) (v5 : AV) (v6 : AV) (h0 : am_R (z4 + 1)) (h1 : 0 ≤ (z4 + 1) ∧ (z4 + 1) < sc (-1)) (k : am_wp sc 100 0 [.inr (.inl 0), .inl (sc (z4 + 1)), .inr (.inl 26), .inr (.inr 0)] [] σ (am_bk sc am_law 960 [.inr (.inl 28), .inr (.inl 0), .inr (.inl 1), .inr (.inl 26), .inl z4, v5, v6] [] Q)) : am_wp sc am_law 952 [.inr (.inl 28), .inr (.inl 0), .inr (.inl 1), .inr (.inl 26), .inl z4, v5, v6] [] σ Q := by
  refine am_wn rfl ?_
  refine am_wn rfl ?_
  refine am_wn rfl ?_
  refine am_wn rfl ?_
  refine ar_add rfl h0 ?_
  refine ar_sald rfl h1 ?_
  refine am_wn rfl ?_
  exact am_wc rfl (by decide) (by decide) rfl k
set_option maxRecDepth 100000 in
theorem b_law_963 {sc : Int → Int} {σ : St} {Q : Ou → St → Nat → Prop} (z4 : Int) (v5 : AV) (v6 : AV) (s0 : Int) (h0 : am_R (z4 + 1)) (h1 : 0 ≤ (z4 + 1) ∧ (z4 + 1) < sc (-1)) (k : am_wp sc 85 0 [.inr (.inl 1), .inl (sc (z4 + 1))] [] σ (am_bk sc am_law 972 [.inr (.inl 28), .inr (.inl 0), .inr (.inl 1), .inr (.inl 26), .inl z4, .inl s0, v6] [] Q)) : am_wp sc am_law 963 [.inr (.inl 28), .inr (.inl 0), .inr (.inl 1), .inr (.inl 26), .inl z4, v5, v6] [.inl s0] σ Q := by
  refine am_wn rfl ?_
  refine am_wn rfl ?_
  refine am_wn rfl ?_
  refine am_wn rfl ?_
  refine am_wn rfl ?_
  refine ar_add rfl h0 ?_
  refine ar_sald rfl h1 ?_
  exact am_wc rfl (by decide) (by decide) rfl k
set_option maxRecDepth 100000 in
theorem b_law_975 {sc : Int → Int} {σ : St} {Q : Ou → St → Nat → Prop} (z4 : Int) (z5 : Int) (v6 : AV) (s0 : Int) (k : am_wp sc 48 0 [.inr (.inl 1)] [] σ (am_bk sc am_law 978 [.inr (.inl 28), .inr (.inl 0), .inr (.inl 1), .inr (.inl 26), .inl z4, .inl z5, .inl s0] [] Q)) : am_wp sc am_law 975 [.inr (.inl 28), .inr (.inl 0), .inr (.inl 1), .inr (.inl 26), .inl z4, .inl z5, v6] [.inl s0] σ Q := by
  refine am_wn rfl ?_
  refine am_wn rfl ?_
  exact am_wc rfl (by decide) (by decide) rfl k
set_option maxRecDepth 100000 in
theorem b_law_981 {sc : Int → Int} {σ : St} {Q : Ou → St → Nat → Prop} (z4 : Int) (z5 : Int) (z6 : Int) (s0 : Int) (k1 : (s0 = z5) → am_wp sc am_law 988 [.inr (.inl 28), .inr (.inl 0), .inr (.inl 1), .inr (.inl 26), .inl z4, .inl z5, .inl z6] [] σ Q) (k2 : ¬ (s0 = z5) → am_wp sc am_law 986 [.inr (.inl 28), .inr (.inl 0), .inr (.inl 1), .inr (.inl 26), .inl z4, .inl z5, .inl z6] [] σ Q) : am_wp sc am_law 981 [.inr (.inl 28), .inr (.inl 0), .inr (.inl 1), .inr (.inl 26), .inl z4, .inl z5, .inl z6] [.inl s0] σ Q := by
  refine am_wn rfl ?_
  exact ar_br (c := s0 = z5) rfl k1 k2
set_option maxRecDepth 100000 in
theorem b_law_986 {sc : Int → Int} {σ : St} {Q : Ou → St → Nat → Prop} (z4 : Int) (z5 : Int) (z6 : Int) (k : Q (.inl (some 0)) σ 0) : am_wp sc am_law 986 [.inr (.inl 28), .inr (.inl 0), .inr (.inl 1), .inr (.inl 26), .inl z4, .inl z5, .inl z6] [] σ Q := by
  refine am_wn rfl ?_
  exact am_w61 rfl (Or.inl rfl) k
set_option maxRecDepth 100000 in
theorem b_law_988 {sc : Int → Int} {σ : St} {Q : Ou → St → Nat → Prop} (z4 : Int) (z5 : Int) (z6 : Int) (k1 : (z5 ≠ 0) → am_wp sc am_law 1005 [.inr (.inl 28), .inr (.inl 0), .inr (.inl 1), .inr (.inl 26), .inl z4, .inl z5, .inl z6] [] σ Q) (k2 : ¬ (z5 ≠ 0) → am_wp sc am_law 993 [.inr (.inl 28), .inr (.inl 0), .inr (.inl 1), .inr (.inl 26), .inl z4, .inl z5, .inl z6] [] σ Q) : am_wp sc am_law 988 [.inr (.inl 28), .inr (.inl 0), .inr (.inl 1), .inr (.inl 26), .inl z4, .inl z5, .inl z6] [] σ Q := by
  refine am_wn rfl ?_
  exact ar_br (c := z5 ≠ 0) rfl k1 k2
set_option maxRecDepth 100000 in
theorem b_law_993 {sc : Int → Int} {σ : St} {Q : Ou → St → Nat → Prop} (z4 : Int) (z5 : Int) (z6 : Int) (k1 : ((if z6 < (σ 26 0) then 1 else if (σ 26 0) = z6 then 0 else -1) = 0) → am_wp sc am_law 1005 [.inr (.inl 28), .inr (.inl 0), .inr (.inl 1), .inr (.inl 26), .inl z4, .inl z5, .inl z6] [] σ Q) (k2 : ¬ ((if z6 < (σ 26 0) then 1 else if (σ 26 0) = z6 then 0 else -1) = 0) → am_wp sc am_law 1003 [.inr (.inl 28), .inr (.inl 0), .inr (.inl 1), .inr (.inl 26), .inl z4, .inl z5, .inl z6] [] σ Q) : am_wp sc am_law 993 [.inr (.inl 28), .inr (.inl 0), .inr (.inl 1), .inr (.inl 26), .inl z4, .inl z5, .inl z6] [] σ Q := by
  refine am_wn rfl ?_
  refine am_wn rfl ?_
  refine am_wn rfl ?_
  refine am_wn rfl ?_
  refine am_wn rfl ?_
  refine am_wn rfl ?_
  exact ar_br (c := (if z6 < (σ 26 0) then 1 else if (σ 26 0) = z6 then 0 else -1) = 0) rfl k1 k2
set_option maxRecDepth 100000 in
theorem b_law_1003 {sc : Int → Int} {σ : St} {Q : Ou → St → Nat → Prop} (z4 : Int) (z5 : Int) (z6 : Int) (k : Q (.inl (some 0)) σ 0) : am_wp sc am_law 1003 [.inr (.inl 28), .inr (.inl 0), .inr (.inl 1), .inr (.inl 26), .inl z4, .inl z5, .inl z6] [] σ Q := by
  refine am_wn rfl ?_
  exact am_w61 rfl (Or.inl rfl) k
set_option maxRecDepth 100000 in
theorem b_law_1005 {sc : Int → Int} {σ : St} {Q : Ou → St → Nat → Prop} (z4 : Int) (z5 : Int) (z6 : Int) (k : am_wp sc am_law 1019 [.inr (.inl 28), .inr (.inl 0), .inr (.inl 1), .inr (.inl 26), .inl z4, .inl z5, .inl z6] [] σ Q) : am_wp sc am_law 1005 [.inr (.inl 28), .inr (.inl 0), .inr (.inl 1), .inr (.inl 26), .inl z4, .inl z5, .inl z6] [] σ Q := by
  refine am_wn rfl ?_
  exact k
set_option maxRecDepth 100000 in
theorem b_law_1008 {sc : Int → Int} {σ : St} {Q : Ou → St → Nat → Prop} (z4 : Int) (v5 : AV) (v6 : AV) (k : am_wp sc 17 0 [.inr (.inl 0), .inr (.inr 0)] [] σ (am_bk sc am_law 1009 [.inr (.inl 28), .inr (.inl 0), .inr (.inl 1), .inr (.inl 26), .inl z4, v5, v6] [] Q)) : am_wp sc am_law 1008 [.inr (.inl 28), .inr (.inl 0), .inr (.inl 1), .inr (.inl 26), .inl z4, v5, v6] [] σ Q := by
  refine am_wn rfl ?_
  exact am_wc rfl (by decide) (by decide) rfl k
set_option maxRecDepth 100000 in
theorem b_law_1012 {sc : Int → Int} {σ : St} {Q : Ou → St → Nat → Prop} (z4 : Int) (v5 : AV) (v6 : AV) (k : am_wp sc 86 0 [.inr (.inl 1), .inr (.inr 0)] [] σ (am_bk sc am_law 1013 [.inr (.inl 28), .inr (.inl 0), .inr (.inl 1), .inr (.inl 26), .inl z4, v5, v6] [] Q)) : am_wp sc am_law 1012 [.inr (.inl 28), .inr (.inl 0), .inr (.inl 1), .inr (.inl 26), .inl z4, v5, v6] [] σ Q := by
  refine am_wn rfl ?_
  exact am_wc rfl (by decide) (by decide) rfl k
set_option maxRecDepth 100000 in
theorem b_law_1016 {sc : Int → Int} {σ : St} {Q : Ou → St → Nat → Prop} (z4 : Int) (v5 : AV) (v6 : AV) (k : am_wp sc am_law 1019 [.inr (.inl 28), .inr (.inl 0), .inr (.inl 1), .inr (.inl 26), .inl z4, v5, v6] [] σ Q) : am_wp sc am_law 1016 [.inr (.inl 28), .inr (.inl 0), .inr (.inl 1), .inr (.inl 26), .inl z4, v5, v6] [] σ Q := by
  refine am_wn rfl ?_
  exact k
set_option maxRecDepth 100000 in
theorem b_law_1019 {sc : Int → Int} {σ : St} {Q : Ou → St → Nat → Prop} (z4 : Int) (v5 : AV) (v6 : AV) (h0 : am_R (z4 + 5)) (k : am_wp sc am_law 23 [.inr (.inl 28), .inr (.inl 0), .inr (.inl 1), .inr (.inl 26), .inl (z4 + 5), v5, v6] [] σ Q) : am_wp sc am_law 1019 [.inr (.inl 28), .inr (.inl 0), .inr (.inl 1), .inr (.inl 26), .inl z4, v5, v6] [] σ Q := by
  refine ar_inc (L' := [.inr (.inl 28), .inr (.inl 0), .inr (.inl 1), .inr (.inl 26), .inl (z4 + 5), v5, v6]) rfl rfl h0 rfl ?_
  refine am_wn rfl ?_
  exact k
set_option maxRecDepth 100000 in
theorem b_law_1025 {sc : Int → Int} {σ : St} {Q : Ou → St → Nat → Prop} (z4 : Int) (v5 : AV) (v6 : AV) (k : Q (.inl (some 1)) σ 0) : am_wp sc am_law 1025 [.inr (.inl 28), .inr (.inl 0), .inr (.inl 1), .inr (.inl 26), .inl z4, v5, v6] [] σ Q := by
  refine am_wn rfl ?_
  exact am_w61 rfl (Or.inr rfl) k
