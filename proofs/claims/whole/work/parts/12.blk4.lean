/-! SlidingHeapLaw.alloc -/
theorem b_88_0 {sc : Int → Int} {σ : St} {Q : Ou → St → Nat → Prop} (z1 : Int) (v3 : AV) (k : am_wp sc 0 0 [.inr (.inl 0), .inl z1, .inr (.inr 0)] [] σ (am_bk sc 88 4 [.inr (.inl 0), .inl z1, .inr (.inl 26), v3] [.inl 0, .inr (.inl 26)] Q)) : am_wp sc 88 0 [.inr (.inl 0), .inl z1, .inr (.inl 26), v3] [] σ Q := by
  refine am_wn rfl ?_
  refine am_wn rfl ?_
  refine am_wn rfl ?_
  refine am_wn rfl ?_
  exact am_wc rfl (by decide) (by decide) rfl k
theorem b_88_7 {sc : Int → Int} {σ : St} {Q : Ou → St → Nat → Prop} (z1 : Int) (v3 : AV) (s1 : Int) (s2 : Int) (h0 : s1 = 0) (k : am_wp sc 88 21 [.inr (.inl 0), .inl z1, .inr (.inl 26), v3] [] (am_up σ 26 0 s2) Q) : am_wp sc 88 7 [.inr (.inl 0), .inl z1, .inr (.inl 26), v3] [.inl s2, .inl s1, .inr (.inl 26)] σ Q := by
  refine am_wn rfl ?_
  refine ar_last rfl h0 ?_
  refine am_wn rfl ?_
  exact k
theorem b_88_12 {sc : Int → Int} {σ : St} {Q : Ou → St → Nat → Prop} (z1 : Int) (v3 : AV) (k : Q (.inl (some 1)) σ 0) : am_wp sc 88 12 [.inr (.inl 0), .inl z1, .inr (.inl 26), v3] [.inr (.inl 27)] σ Q := by
  refine am_wn rfl ?_
  refine am_wn rfl ?_
  exact am_w60 rfl k
theorem b_88_15 {sc : Int → Int} {σ : St} {Q : Ou → St → Nat → Prop} (z1 : Int) (v3 : AV) (k : Q (.inl (some 2)) σ 0) : am_wp sc 88 15 [.inr (.inl 0), .inl z1, .inr (.inl 26), v3] [.inr (.inl 27)] σ Q := by
  refine am_wn rfl ?_
  refine am_wn rfl ?_
  exact am_w60 rfl k
theorem b_88_18 {sc : Int → Int} {σ : St} {Q : Ou → St → Nat → Prop} (z1 : Int) (v3 : AV) (k : Q (.inl (some 3)) σ 0) : am_wp sc 88 18 [.inr (.inl 0), .inl z1, .inr (.inl 26), v3] [.inr (.inl 27)] σ Q := by
  refine am_wn rfl ?_
  refine am_wn rfl ?_
  exact am_w60 rfl k
theorem b_88_21 {sc : Int → Int} {σ : St} {Q : Ou → St → Nat → Prop} (z1 : Int) (v3 : AV) (k : Q (.inl (some 0)) σ 0) : am_wp sc 88 21 [.inr (.inl 0), .inl z1, .inr (.inl 26), v3] [] σ Q := by
  refine am_wn rfl ?_
  exact am_w60 rfl k
/-! SlidingHeapLaw.number -/
theorem b_89_0 {sc : Int → Int} {σ : St} {Q : Ou → St → Nat → Prop} (z1 : Int) (z2 : Int) (z3 : Int) (v4 : AV) (k : am_wp sc 1 0 [.inr (.inl 0), .inl z1, .inl z2, .inl z3] [] σ (am_bk sc 89 4 [.inr (.inl 0), .inl z1, .inl z2, .inl z3, v4] [] Q)) : am_wp sc 89 0 [.inr (.inl 0), .inl z1, .inl z2, .inl z3, v4] [] σ Q := by
  refine am_wn rfl ?_
  refine am_wn rfl ?_
  refine am_wn rfl ?_
  refine am_wn rfl ?_
  exact am_wc rfl (by decide) (by decide) rfl k
theorem b_89_7 {sc : Int → Int} {σ : St} {Q : Ou → St → Nat → Prop} (z1 : Int) (z2 : Int) (z3 : Int) (v4 : AV) (k : am_wp sc 89 14 [.inr (.inl 0), .inl z1, .inl z2, .inl z3, v4] [] σ Q) : am_wp sc 89 7 [.inr (.inl 0), .inl z1, .inl z2, .inl z3, v4] [] σ Q := by
  refine am_wn rfl ?_
  exact k
theorem b_89_10 {sc : Int → Int} {σ : St} {Q : Ou → St → Nat → Prop} (z1 : Int) (z2 : Int) (z3 : Int) (v4 : AV) (k : Q (.inl (some 1)) σ 0) : am_wp sc 89 10 [.inr (.inl 0), .inl z1, .inl z2, .inl z3, v4] [.inr (.inl 27)] σ Q := by
  refine am_wn rfl ?_
  refine am_wn rfl ?_
  exact am_w60 rfl k
theorem b_89_14 {sc : Int → Int} {σ : St} {Q : Ou → St → Nat → Prop} (z1 : Int) (z2 : Int) (z3 : Int) (v4 : AV) (k : Q (.inl (some 0)) σ 0) : am_wp sc 89 14 [.inr (.inl 0), .inl z1, .inl z2, .inl z3, v4] [] σ Q := by
  refine am_wn rfl ?_
  exact am_w60 rfl k
/-! SlidingHeapLaw.refer -/
theorem b_90_0 {sc : Int → Int} {σ : St} {Q : Ou → St → Nat → Prop} (z1 : Int) (z2 : Int) (z3 : Int) (z4 : Int) (v5 : AV) (k : am_wp sc 2 0 [.inr (.inl 0), .inl z1, .inl z2, .inl z3, .inl z4] [] σ (am_bk sc 90 6 [.inr (.inl 0), .inl z1, .inl z2, .inl z3, .inl z4, v5] [] Q)) : am_wp sc 90 0 [.inr (.inl 0), .inl z1, .inl z2, .inl z3, .inl z4, v5] [] σ Q := by
  refine am_wn rfl ?_
  refine am_wn rfl ?_
  refine am_wn rfl ?_
  refine am_wn rfl ?_
  refine am_wn rfl ?_
  exact am_wc rfl (by decide) (by decide) rfl k
theorem b_90_9 {sc : Int → Int} {σ : St} {Q : Ou → St → Nat → Prop} (z1 : Int) (z2 : Int) (z3 : Int) (z4 : Int) (v5 : AV) (k : am_wp sc 90 20 [.inr (.inl 0), .inl z1, .inl z2, .inl z3, .inl z4, v5] [] σ Q) : am_wp sc 90 9 [.inr (.inl 0), .inl z1, .inl z2, .inl z3, .inl z4, v5] [] σ Q := by
  refine am_wn rfl ?_
  exact k
theorem b_90_12 {sc : Int → Int} {σ : St} {Q : Ou → St → Nat → Prop} (z1 : Int) (z2 : Int) (z3 : Int) (z4 : Int) (v5 : AV) (k : Q (.inl (some 1)) σ 0) : am_wp sc 90 12 [.inr (.inl 0), .inl z1, .inl z2, .inl z3, .inl z4, v5] [.inr (.inl 27)] σ Q := by
  refine am_wn rfl ?_
  refine am_wn rfl ?_
  exact am_w60 rfl k
theorem b_90_16 {sc : Int → Int} {σ : St} {Q : Ou → St → Nat → Prop} (z1 : Int) (z2 : Int) (z3 : Int) (z4 : Int) (v5 : AV) (k : Q (.inl (some 2)) σ 0) : am_wp sc 90 16 [.inr (.inl 0), .inl z1, .inl z2, .inl z3, .inl z4, v5] [.inr (.inl 27)] σ Q := by
  refine am_wn rfl ?_
  refine am_wn rfl ?_
  exact am_w60 rfl k
theorem b_90_20 {sc : Int → Int} {σ : St} {Q : Ou → St → Nat → Prop} (z1 : Int) (z2 : Int) (z3 : Int) (z4 : Int) (v5 : AV) (k : Q (.inl (some 0)) σ 0) : am_wp sc 90 20 [.inr (.inl 0), .inl z1, .inl z2, .inl z3, .inl z4, v5] [] σ Q := by
  refine am_wn rfl ?_
  exact am_w60 rfl k
/-! SlidingHeapLaw.get -/
theorem b_91_0 {sc : Int → Int} {σ : St} {Q : Ou → St → Nat → Prop} (z1 : Int) (z2 : Int) (v4 : AV) (k : am_wp sc 3 0 [.inr (.inl 0), .inl z1, .inl z2] [] σ (am_bk sc 91 5 [.inr (.inl 0), .inl z1, .inl z2, .inr (.inl 26), v4] [.inl 0, .inr (.inl 26)] Q)) : am_wp sc 91 0 [.inr (.inl 0), .inl z1, .inl z2, .inr (.inl 26), v4] [] σ Q := by
  refine am_wn rfl ?_
  refine am_wn rfl ?_
  refine am_wn rfl ?_
  refine am_wn rfl ?_
  refine am_wn rfl ?_
  exact am_wc rfl (by decide) (by decide) rfl k
theorem b_91_8 {sc : Int → Int} {σ : St} {Q : Ou → St → Nat → Prop} (z1 : Int) (z2 : Int) (v4 : AV) (s1 : Int) (s2 : Int) (h0 : s1 = 0) (k : am_wp sc 91 17 [.inr (.inl 0), .inl z1, .inl z2, .inr (.inl 26), v4] [] (am_up σ 26 0 s2) Q) : am_wp sc 91 8 [.inr (.inl 0), .inl z1, .inl z2, .inr (.inl 26), v4] [.inl s2, .inl s1, .inr (.inl 26)] σ Q := by
  refine am_wn rfl ?_
  refine ar_last rfl h0 ?_
  refine am_wn rfl ?_
  exact k
theorem b_91_13 {sc : Int → Int} {σ : St} {Q : Ou → St → Nat → Prop} (z1 : Int) (z2 : Int) (v4 : AV) (k : Q (.inl (some 1)) σ 0) : am_wp sc 91 13 [.inr (.inl 0), .inl z1, .inl z2, .inr (.inl 26), v4] [.inr (.inl 27)] σ Q := by
  refine am_wn rfl ?_
  refine am_wn rfl ?_
  exact am_w60 rfl k
theorem b_91_17 {sc : Int → Int} {σ : St} {Q : Ou → St → Nat → Prop} (z1 : Int) (z2 : Int) (v4 : AV) (k : Q (.inl (some 0)) σ 0) : am_wp sc 91 17 [.inr (.inl 0), .inl z1, .inl z2, .inr (.inl 26), v4] [] σ Q := by
  refine am_wn rfl ?_
  exact am_w60 rfl k
/-! SlidingHeapLaw.kind -/
theorem b_92_0 {sc : Int → Int} {σ : St} {Q : Ou → St → Nat → Prop} (z1 : Int) (z2 : Int) (v4 : AV) (k : am_wp sc 4 0 [.inr (.inl 0), .inl z1, .inl z2] [] σ (am_bk sc 92 5 [.inr (.inl 0), .inl z1, .inl z2, .inr (.inl 26), v4] [.inl 0, .inr (.inl 26)] Q)) : am_wp sc 92 0 [.inr (.inl 0), .inl z1, .inl z2, .inr (.inl 26), v4] [] σ Q := by
  refine am_wn rfl ?_
  refine am_wn rfl ?_
  refine am_wn rfl ?_
  refine am_wn rfl ?_
  refine am_wn rfl ?_
  exact am_wc rfl (by decide) (by decide) rfl k
theorem b_92_8 {sc : Int → Int} {σ : St} {Q : Ou → St → Nat → Prop} (z1 : Int) (z2 : Int) (v4 : AV) (s1 : Int) (s2 : Int) (h0 : s1 = 0) (k : am_wp sc 92 17 [.inr (.inl 0), .inl z1, .inl z2, .inr (.inl 26), v4] [] (am_up σ 26 0 s2) Q) : am_wp sc 92 8 [.inr (.inl 0), .inl z1, .inl z2, .inr (.inl 26), v4] [.inl s2, .inl s1, .inr (.inl 26)] σ Q := by
  refine am_wn rfl ?_
  refine ar_last rfl h0 ?_
  refine am_wn rfl ?_
  exact k
theorem b_92_13 {sc : Int → Int} {σ : St} {Q : Ou → St → Nat → Prop} (z1 : Int) (z2 : Int) (v4 : AV) (k : Q (.inl (some 1)) σ 0) : am_wp sc 92 13 [.inr (.inl 0), .inl z1, .inl z2, .inr (.inl 26), v4] [.inr (.inl 27)] σ Q := by
  refine am_wn rfl ?_
  refine am_wn rfl ?_
  exact am_w60 rfl k
theorem b_92_17 {sc : Int → Int} {σ : St} {Q : Ou → St → Nat → Prop} (z1 : Int) (z2 : Int) (v4 : AV) (k : Q (.inl (some 0)) σ 0) : am_wp sc 92 17 [.inr (.inl 0), .inl z1, .inl z2, .inr (.inl 26), v4] [] σ Q := by
  refine am_wn rfl ?_
  exact am_w60 rfl k
/-! SlidingHeapLaw.push -/
theorem b_93_0 {sc : Int → Int} {σ : St} {Q : Ou → St → Nat → Prop} (z1 : Int) (v3 : AV) (k : am_wp sc 5 0 [.inr (.inl 0), .inl z1] [] σ (am_bk sc 93 4 [.inr (.inl 0), .inl z1, .inr (.inl 26), v3] [.inl 0, .inr (.inl 26)] Q)) : am_wp sc 93 0 [.inr (.inl 0), .inl z1, .inr (.inl 26), v3] [] σ Q := by
  refine am_wn rfl ?_
  refine am_wn rfl ?_
  refine am_wn rfl ?_
  refine am_wn rfl ?_
  exact am_wc rfl (by decide) (by decide) rfl k
theorem b_93_7 {sc : Int → Int} {σ : St} {Q : Ou → St → Nat → Prop} (z1 : Int) (v3 : AV) (s1 : Int) (s2 : Int) (h0 : s1 = 0) (k : am_wp sc 93 18 [.inr (.inl 0), .inl z1, .inr (.inl 26), v3] [] (am_up σ 26 0 s2) Q) : am_wp sc 93 7 [.inr (.inl 0), .inl z1, .inr (.inl 26), v3] [.inl s2, .inl s1, .inr (.inl 26)] σ Q := by
  refine am_wn rfl ?_
  refine ar_last rfl h0 ?_
  refine am_wn rfl ?_
  exact k
theorem b_93_12 {sc : Int → Int} {σ : St} {Q : Ou → St → Nat → Prop} (z1 : Int) (v3 : AV) (k : Q (.inl (some 1)) σ 0) : am_wp sc 93 12 [.inr (.inl 0), .inl z1, .inr (.inl 26), v3] [.inr (.inl 27)] σ Q := by
  refine am_wn rfl ?_
  refine am_wn rfl ?_
  exact am_w60 rfl k
theorem b_93_15 {sc : Int → Int} {σ : St} {Q : Ou → St → Nat → Prop} (z1 : Int) (v3 : AV) (k : Q (.inl (some 2)) σ 0) : am_wp sc 93 15 [.inr (.inl 0), .inl z1, .inr (.inl 26), v3] [.inr (.inl 27)] σ Q := by
  refine am_wn rfl ?_
  refine am_wn rfl ?_
  exact am_w60 rfl k
theorem b_93_18 {sc : Int → Int} {σ : St} {Q : Ou → St → Nat → Prop} (z1 : Int) (v3 : AV) (k : Q (.inl (some 0)) σ 0) : am_wp sc 93 18 [.inr (.inl 0), .inl z1, .inr (.inl 26), v3] [] σ Q := by
  refine am_wn rfl ?_
  exact am_w60 rfl k
/-! SlidingHeapLaw.rites -/
theorem b_94_0 {sc : Int → Int} {σ : St} {Q : Ou → St → Nat → Prop} (z1 : Int) (z2 : Int) (v3 : AV) (k : am_wp sc 8 0 [.inr (.inl 0), .inl z1, .inl z2] [] σ (am_bk sc 94 3 [.inr (.inl 0), .inl z1, .inl z2, v3] [] Q)) : am_wp sc 94 0 [.inr (.inl 0), .inl z1, .inl z2, v3] [] σ Q := by
  refine am_wn rfl ?_
  refine am_wn rfl ?_
  refine am_wn rfl ?_
  exact am_wc rfl (by decide) (by decide) rfl k
theorem b_94_6 {sc : Int → Int} {σ : St} {Q : Ou → St → Nat → Prop} (z1 : Int) (z2 : Int) (v3 : AV) (k : am_wp sc 94 12 [.inr (.inl 0), .inl z1, .inl z2, v3] [] σ Q) : am_wp sc 94 6 [.inr (.inl 0), .inl z1, .inl z2, v3] [] σ Q := by
  refine am_wn rfl ?_
  exact k
theorem b_94_9 {sc : Int → Int} {σ : St} {Q : Ou → St → Nat → Prop} (z1 : Int) (z2 : Int) (v3 : AV) (k : Q (.inl (some 1)) σ 0) : am_wp sc 94 9 [.inr (.inl 0), .inl z1, .inl z2, v3] [.inr (.inl 27)] σ Q := by
  refine am_wn rfl ?_
  refine am_wn rfl ?_
  exact am_w60 rfl k
theorem b_94_12 {sc : Int → Int} {σ : St} {Q : Ou → St → Nat → Prop} (z1 : Int) (z2 : Int) (v3 : AV) (k : Q (.inl (some 0)) σ 0) : am_wp sc 94 12 [.inr (.inl 0), .inl z1, .inl z2, v3] [] σ Q := by
  refine am_wn rfl ?_
  exact am_w60 rfl k
/-! SlidingHeapLaw.take -/
theorem b_95_0 {sc : Int → Int} {σ : St} {Q : Ou → St → Nat → Prop} (v2 : AV) (k : am_wp sc 9 0 [.inr (.inl 0), .inr (.inr 0)] [] σ (am_bk sc 95 3 [.inr (.inl 0), .inr (.inl 26), v2] [.inl 0, .inr (.inl 26)] Q)) : am_wp sc 95 0 [.inr (.inl 0), .inr (.inl 26), v2] [] σ Q := by
  refine am_wn rfl ?_
  refine am_wn rfl ?_
  refine am_wn rfl ?_
  exact am_wc rfl (by decide) (by decide) rfl k
theorem b_95_6 {sc : Int → Int} {σ : St} {Q : Ou → St → Nat → Prop} (v2 : AV) (s1 : Int) (s2 : Int) (h0 : s1 = 0) (k : am_wp sc 95 14 [.inr (.inl 0), .inr (.inl 26), v2] [] (am_up σ 26 0 s2) Q) : am_wp sc 95 6 [.inr (.inl 0), .inr (.inl 26), v2] [.inl s2, .inl s1, .inr (.inl 26)] σ Q := by
  refine am_wn rfl ?_
  refine ar_last rfl h0 ?_
  refine am_wn rfl ?_
  exact k
theorem b_95_11 {sc : Int → Int} {σ : St} {Q : Ou → St → Nat → Prop} (v2 : AV) (k : Q (.inl (some 1)) σ 0) : am_wp sc 95 11 [.inr (.inl 0), .inr (.inl 26), v2] [.inr (.inl 27)] σ Q := by
  refine am_wn rfl ?_
  refine am_wn rfl ?_
  exact am_w60 rfl k
theorem b_95_14 {sc : Int → Int} {σ : St} {Q : Ou → St → Nat → Prop} (v2 : AV) (k : Q (.inl (some 0)) σ 0) : am_wp sc 95 14 [.inr (.inl 0), .inr (.inl 26), v2] [] σ Q := by
  refine am_wn rfl ?_
  exact am_w60 rfl k
/-! SlidingHeapLaw.word -/
theorem b_96_0 {sc : Int → Int} {σ : St} {Q : Ou → St → Nat → Prop} (z1 : Int) (v3 : AV) (k : am_wp sc 12 0 [.inr (.inl 0), .inl z1] [] σ (am_bk sc 96 4 [.inr (.inl 0), .inl z1, .inr (.inl 26), v3] [.inl 0, .inr (.inl 26)] Q)) : am_wp sc 96 0 [.inr (.inl 0), .inl z1, .inr (.inl 26), v3] [] σ Q := by
  refine am_wn rfl ?_
  refine am_wn rfl ?_
  refine am_wn rfl ?_
  refine am_wn rfl ?_
  exact am_wc rfl (by decide) (by decide) rfl k
theorem b_96_7 {sc : Int → Int} {σ : St} {Q : Ou → St → Nat → Prop} (z1 : Int) (v3 : AV) (s1 : Int) (s2 : Int) (h0 : s1 = 0) (k : am_wp sc 96 15 [.inr (.inl 0), .inl z1, .inr (.inl 26), v3] [] (am_up σ 26 0 s2) Q) : am_wp sc 96 7 [.inr (.inl 0), .inl z1, .inr (.inl 26), v3] [.inl s2, .inl s1, .inr (.inl 26)] σ Q := by
  refine am_wn rfl ?_
  refine ar_last rfl h0 ?_
  refine am_wn rfl ?_
  exact k
theorem b_96_12 {sc : Int → Int} {σ : St} {Q : Ou → St → Nat → Prop} (z1 : Int) (v3 : AV) (k : Q (.inl (some 1)) σ 0) : am_wp sc 96 12 [.inr (.inl 0), .inl z1, .inr (.inl 26), v3] [.inr (.inl 27)] σ Q := by
  refine am_wn rfl ?_
  refine am_wn rfl ?_
  exact am_w60 rfl k
theorem b_96_15 {sc : Int → Int} {σ : St} {Q : Ou → St → Nat → Prop} (z1 : Int) (v3 : AV) (k : Q (.inl (some 0)) σ 0) : am_wp sc 96 15 [.inr (.inl 0), .inl z1, .inr (.inl 26), v3] [] σ Q := by
  refine am_wn rfl ?_
  exact am_w60 rfl k
/-! SlidingHeapLaw.about -/
theorem b_97_0 {sc : Int → Int} {σ : St} {Q : Ou → St → Nat → Prop} (z1 : Int) (z2 : Int) (v4 : AV) (k : am_wp sc 13 0 [.inr (.inl 0), .inl z1, .inl z2] [] σ (am_bk sc 97 5 [.inr (.inl 0), .inl z1, .inl z2, .inr (.inl 26), v4] [.inl 0, .inr (.inl 26)] Q)) : am_wp sc 97 0 [.inr (.inl 0), .inl z1, .inl z2, .inr (.inl 26), v4] [] σ Q := by
  refine am_wn rfl ?_
  refine am_wn rfl ?_
  refine am_wn rfl ?_
  refine am_wn rfl ?_
  refine am_wn rfl ?_
  exact am_wc rfl (by decide) (by decide) rfl k
theorem b_97_8 {sc : Int → Int} {σ : St} {Q : Ou → St → Nat → Prop} (z1 : Int) (z2 : Int) (v4 : AV) (s1 : Int) (s2 : Int) (h0 : s1 = 0) (k : am_wp sc 97 21 [.inr (.inl 0), .inl z1, .inl z2, .inr (.inl 26), v4] [] (am_up σ 26 0 s2) Q) : am_wp sc 97 8 [.inr (.inl 0), .inl z1, .inl z2, .inr (.inl 26), v4] [.inl s2, .inl s1, .inr (.inl 26)] σ Q := by
  refine am_wn rfl ?_
  refine ar_last rfl h0 ?_
  refine am_wn rfl ?_
  exact k
theorem b_97_13 {sc : Int → Int} {σ : St} {Q : Ou → St → Nat → Prop} (z1 : Int) (z2 : Int) (v4 : AV) (k : Q (.inl (some 1)) σ 0) : am_wp sc 97 13 [.inr (.inl 0), .inl z1, .inl z2, .inr (.inl 26), v4] [.inr (.inl 27)] σ Q := by
  refine am_wn rfl ?_
  refine am_wn rfl ?_
  exact am_w60 rfl k
theorem b_97_17 {sc : Int → Int} {σ : St} {Q : Ou → St → Nat → Prop} (z1 : Int) (z2 : Int) (v4 : AV) (k : Q (.inl (some 2)) σ 0) : am_wp sc 97 17 [.inr (.inl 0), .inl z1, .inl z2, .inr (.inl 26), v4] [.inr (.inl 27)] σ Q := by
  refine am_wn rfl ?_
  refine am_wn rfl ?_
  exact am_w60 rfl k
theorem b_97_21 {sc : Int → Int} {σ : St} {Q : Ou → St → Nat → Prop} (z1 : Int) (z2 : Int) (v4 : AV) (k : Q (.inl (some 0)) σ 0) : am_wp sc 97 21 [.inr (.inl 0), .inl z1, .inl z2, .inr (.inl 26), v4] [] σ Q := by
  refine am_wn rfl ?_
  exact am_w60 rfl k
/-! SlidingHeapLaw.far -/
theorem b_98_0 {sc : Int → Int} {σ : St} {Q : Ou → St → Nat → Prop} (z1 : Int) (v3 : AV) (k : am_wp sc 14 0 [.inr (.inl 0), .inl z1, .inr (.inr 0)] [] σ (am_bk sc 98 4 [.inr (.inl 0), .inl z1, .inr (.inl 26), v3] [.inl 0, .inr (.inl 26)] Q)) : am_wp sc 98 0 [.inr (.inl 0), .inl z1, .inr (.inl 26), v3] [] σ Q := by
  refine am_wn rfl ?_
  refine am_wn rfl ?_
  refine am_wn rfl ?_
  refine am_wn rfl ?_
  exact am_wc rfl (by decide) (by decide) rfl k
theorem b_98_7 {sc : Int → Int} {σ : St} {Q : Ou → St → Nat → Prop} (z1 : Int) (v3 : AV) (s1 : Int) (s2 : Int) (h0 : s1 = 0) (k : am_wp sc 98 15 [.inr (.inl 0), .inl z1, .inr (.inl 26), v3] [] (am_up σ 26 0 s2) Q) : am_wp sc 98 7 [.inr (.inl 0), .inl z1, .inr (.inl 26), v3] [.inl s2, .inl s1, .inr (.inl 26)] σ Q := by
  refine am_wn rfl ?_
  refine ar_last rfl h0 ?_
  refine am_wn rfl ?_
  exact k
theorem b_98_12 {sc : Int → Int} {σ : St} {Q : Ou → St → Nat → Prop} (z1 : Int) (v3 : AV) (k : Q (.inl (some 1)) σ 0) : am_wp sc 98 12 [.inr (.inl 0), .inl z1, .inr (.inl 26), v3] [.inr (.inl 27)] σ Q := by
  refine am_wn rfl ?_
  refine am_wn rfl ?_
  exact am_w60 rfl k
theorem b_98_15 {sc : Int → Int} {σ : St} {Q : Ou → St → Nat → Prop} (z1 : Int) (v3 : AV) (k : Q (.inl (some 0)) σ 0) : am_wp sc 98 15 [.inr (.inl 0), .inl z1, .inr (.inl 26), v3] [] σ Q := by
  refine am_wn rfl ?_
  exact am_w60 rfl k
/-! SlidingHeapLaw.way -/
theorem b_99_0 {sc : Int → Int} {σ : St} {Q : Ou → St → Nat → Prop} (z1 : Int) (z2 : Int) (v4 : AV) (k : am_wp sc 15 0 [.inr (.inl 0), .inl z1, .inl z2, .inr (.inr 0), .inr (.inr 0)] [] σ (am_bk sc 99 5 [.inr (.inl 0), .inl z1, .inl z2, .inr (.inl 26), v4] [.inl 0, .inr (.inl 26)] Q)) : am_wp sc 99 0 [.inr (.inl 0), .inl z1, .inl z2, .inr (.inl 26), v4] [] σ Q := by
  refine am_wn rfl ?_
  refine am_wn rfl ?_
  refine am_wn rfl ?_
  refine am_wn rfl ?_
  refine am_wn rfl ?_
  exact am_wc rfl (by decide) (by decide) rfl k
theorem b_99_8 {sc : Int → Int} {σ : St} {Q : Ou → St → Nat → Prop} (z1 : Int) (z2 : Int) (v4 : AV) (s1 : Int) (s2 : Int) (h0 : s1 = 0) (k : am_wp sc 99 17 [.inr (.inl 0), .inl z1, .inl z2, .inr (.inl 26), v4] [] (am_up σ 26 0 s2) Q) : am_wp sc 99 8 [.inr (.inl 0), .inl z1, .inl z2, .inr (.inl 26), v4] [.inl s2, .inl s1, .inr (.inl 26)] σ Q := by
  refine am_wn rfl ?_
  refine ar_last rfl h0 ?_
  refine am_wn rfl ?_
  exact k
theorem b_99_13 {sc : Int → Int} {σ : St} {Q : Ou → St → Nat → Prop} (z1 : Int) (z2 : Int) (v4 : AV) (k : Q (.inl (some 1)) σ 0) : am_wp sc 99 13 [.inr (.inl 0), .inl z1, .inl z2, .inr (.inl 26), v4] [.inr (.inl 27)] σ Q := by
  refine am_wn rfl ?_
  refine am_wn rfl ?_
  exact am_w60 rfl k
theorem b_99_17 {sc : Int → Int} {σ : St} {Q : Ou → St → Nat → Prop} (z1 : Int) (z2 : Int) (v4 : AV) (k : Q (.inl (some 0)) σ 0) : am_wp sc 99 17 [.inr (.inl 0), .inl z1, .inl z2, .inr (.inl 26), v4] [] σ Q := by
  refine am_wn rfl ?_
  exact am_w60 rfl k
/-! SlidingHeapLaw.count -/
theorem b_100_0 {sc : Int → Int} {σ : St} {Q : Ou → St → Nat → Prop} (z1 : Int) (v3 : AV) (k : am_wp sc 16 0 [.inr (.inl 0), .inl z1] [] σ (am_bk sc 100 4 [.inr (.inl 0), .inl z1, .inr (.inl 26), v3] [.inl 0, .inr (.inl 26)] Q)) : am_wp sc 100 0 [.inr (.inl 0), .inl z1, .inr (.inl 26), v3] [] σ Q := by
  refine am_wn rfl ?_
  refine am_wn rfl ?_
  refine am_wn rfl ?_
  refine am_wn rfl ?_
  exact am_wc rfl (by decide) (by decide) rfl k
theorem b_100_7 {sc : Int → Int} {σ : St} {Q : Ou → St → Nat → Prop} (z1 : Int) (v3 : AV) (s1 : Int) (s2 : Int) (h0 : s1 = 0) (k : am_wp sc 100 15 [.inr (.inl 0), .inl z1, .inr (.inl 26), v3] [] (am_up σ 26 0 s2) Q) : am_wp sc 100 7 [.inr (.inl 0), .inl z1, .inr (.inl 26), v3] [.inl s2, .inl s1, .inr (.inl 26)] σ Q := by
  refine am_wn rfl ?_
  refine ar_last rfl h0 ?_
  refine am_wn rfl ?_
  exact k
theorem b_100_12 {sc : Int → Int} {σ : St} {Q : Ou → St → Nat → Prop} (z1 : Int) (v3 : AV) (k : Q (.inl (some 1)) σ 0) : am_wp sc 100 12 [.inr (.inl 0), .inl z1, .inr (.inl 26), v3] [.inr (.inl 27)] σ Q := by
  refine am_wn rfl ?_
  refine am_wn rfl ?_
  exact am_w60 rfl k
theorem b_100_15 {sc : Int → Int} {σ : St} {Q : Ou → St → Nat → Prop} (z1 : Int) (v3 : AV) (k : Q (.inl (some 0)) σ 0) : am_wp sc 100 15 [.inr (.inl 0), .inl z1, .inr (.inl 26), v3] [] σ Q := by
  refine am_wn rfl ?_
  exact am_w60 rfl k
