section LG
variable {sc : Int → Int} {σ : St} {Q : Ou → St → Nat → Prop} {z m : Int} {v5 v6 : AV}
theorem lc_2 (hz : 0 ≤ z) (hz2 : z + 5 ≤ sc (-1)) (hL : sc (-1) ≤ 2560) (hV : Iv σ m) (hm : m ≤ 600) (nx : ∀ (σ' : St) (v5 v6 : AV) (t : Nat), t ≤ 1 → Iv σ' (m + 1) → am_wp sc am_law 1019 [.inr (.inl 28), .inr (.inl 0), .inr (.inl 1), .inr (.inl 26), .inl z, v5, v6] [] σ' (fun o σ2 t2 => Q o σ2 (t2 + t))) : am_wp sc am_law 240 [.inr (.inl 28), .inr (.inl 0), .inr (.inl 1), .inr (.inl 26), .inl z, v5, v6] [] σ Q := by
  obtain ⟨n, hI, hR, h34, h34'⟩ := hV
  have hR11 := hR.2.2.2.2.2.2.2.2.2.2
  have r42 := hR.2.2.2.2.2.1
  have r43 := hR.2.2.2.2.2.2.2.1
  have i8 := hI.2.2.2.2.2.2.2.1
  have i9 := hI.2.2.2.2.2.2.2.2.1
  have hbx : ∀ h s, xS σ h s → 0 ≤ σ 4 h + 2 + s ∧ σ 4 h + 2 + s < 90 := fun h s q => by have := hI.geo h q.1; have := q.2.1; have := q.2.2; omega
  have hfx : ∀ h s, xS σ h s → am_R (σ 4 h + 2) := fun h s q => by have := hI.geo h q.1; exact ⟨by omega, by omega⟩
  have hsx : ∀ (α : St), RM σ α n → ∀ h s, mS α h s → s < 10 := fun α hA h s q => by have q := hA.sl.mp q; have := hI.geo h q.1; have := q.2.2; omega
  have go : ∀ w : Int, (w = 0 ∨ w = 1) → (w = 0 ↔ sc (z + 4) = 0) → am_wp sc am_law 273 [.inr (.inl 28), .inr (.inl 0), .inr (.inl 1), .inr (.inl 26), .inl z, v5, v6] [.inl w, .inl (sc (z + 3)), .inl (sc (z + 2)), .inl (sc (z + 1)), .inr (.inl 0)] σ Q := by
    intro w hw hw2
    have hRs : ∀ a kd v, RM σ (am_up (am_up σ 3 a kd) 2 a v) n := fun a kd v => hR.m (fun k hk => by unfold isM at hk; rw [am_up_n (by omega), am_up_n (by omega)])
    have sec : ∀ (k : Int) (σ1 : St) (Q' : Ou → St → Nat → Prop), am_wp sc 67 0 [.inr (.inl 1), .inl (sc (z + 1)), .inl (sc (z + 2)), .inl (sc (z + 3)), .inl w] [] σ1 (am_bk sc am_law 311 [.inr (.inl 28), .inr (.inl 0), .inr (.inl 1), .inr (.inl 26), .inl z, .inl k, v6] [] Q') → am_wp sc am_law 276 [.inr (.inl 28), .inr (.inl 0), .inr (.inl 1), .inr (.inl 26), .inl z, v5, v6] [.inl k] σ1 Q' := by
      intro k σ1 Q' hh
      refine b_law_276 z v5 v6 k ⟨by omega, by omega⟩ ⟨by omega, by omega⟩ ⟨by omega, by omega⟩ ⟨by omega, by omega⟩ ⟨by omega, by omega⟩ ⟨by omega, by omega⟩ ⟨by omega, by omega⟩ ⟨by omega, by omega⟩ (fun h3 => b_law_310 _ _ _ _ _ _ (b_law_311 _ _ _ _ _ _ _ ?_)) (fun h3 => b_law_306 _ _ _ _ _ _ (b_law_311 _ _ _ _ _ _ _ ?_))
      · rw [hw2.mpr h3] at hh; exact hh
      · rw [show w = 1 from hw.elim (fun q => absurd (hw2.mp q) h3) id] at hh; exact hh
    have tt : ∀ α : St, RM σ α n → ((sc (z + 3) = 0 ∨ mO α (sc (z + 3))) ↔ (sc (z + 3) = 0 ∨ xO σ (sc (z + 3)))) := fun α hA => by rw [hA.o]
    refine b_law_273 z v5 v6 _ _ _ _ (b_90_0 _ _ _ _ _ (x_refer (hbx _ _) (hfx _ _) (fun h1 h2 => am_bi (b_90_9 _ _ _ _ _ (b_90_20 _ _ _ _ _ (am_bi (sec _ _ _ (m_refer (hsx _ (hRs _ _ _) _ _) (fun _ _ => am_bi (lz_2 rfl (fun _ _ => nx _ _ _ 0 (by omega) (Iv.set hI hR h34 h34' h1 (Or.inr ⟨by split <;> simp, h2⟩))))) (fun h3 => absurd ((hRs _ _ _).sl.mpr h1) h3) (fun _ h3 => absurd ((tt _ (hRs _ _ _)).mpr h2) h3))))))) (fun h1 => am_bh rfl rfl (b_90_12 _ _ _ _ _ (am_bj (sec _ _ _ (m_refer (hsx _ hR _ _) (fun h2 => absurd (hR.sl.mp h2) h1) (fun _ => am_bi (lz_2 rfl (fun _ _ => nx _ _ _ 1 (by omega) (Iv.flt hI hR h34 h34')))) (fun h2 => absurd (hR.sl.mp h2) h1)))))) (fun h1 h2 => am_bh rfl rfl (b_90_16 _ _ _ _ _ (am_bj (sec _ _ _ (m_refer (hsx _ hR _ _) (fun _ h3 => absurd ((tt _ hR).mp h3) h2) (fun h3 => absurd (hR.sl.mpr h1) h3) (fun _ _ => am_bi (lz_2 rfl (fun _ _ => nx _ _ _ 1 (by omega) (Iv.flt hI hR h34 h34')))))))))))
  exact b_law_240 z v5 v6 ⟨by omega, by omega⟩ ⟨by omega, by omega⟩ ⟨by omega, by omega⟩ ⟨by omega, by omega⟩ ⟨by omega, by omega⟩ ⟨by omega, by omega⟩ ⟨by omega, by omega⟩ ⟨by omega, by omega⟩ (fun h => b_law_272 z v5 v6 _ _ _ (go 0 (Or.inl rfl) ⟨fun _ => h, fun _ => rfl⟩)) (fun h => b_law_268 z v5 v6 _ _ _ (go 1 (Or.inr rfl) ⟨fun q => absurd q (by decide), fun q => absurd q h⟩))
theorem xNx.uniq {γ : St} {e a t t' : Int} (h : xNx γ e a t) (h' : xNx γ e a t') : t = t' := by
  obtain ⟨d, a1, a2, a3, a4⟩ := h
  obtain ⟨d', b1, b2, b3, b4⟩ := h'
  have := a1.uniq b1
  have hd : d = d' := by omega
  subst hd
  have := a4 t' b2 b3
  have := b4 t a2 a3
  omega
theorem xWy.uniq {γ : St} {e : Int} : ∀ (k : Nat) (a v v' : Int), xWy γ e k a v → xWy γ e k a v' → v = v' := by
  intro k
  induction k with
  | zero => intro a v v' h h'; rw [show v = a from h, show v' = a from h']
  | succ k ih =>
    intro a v v' h h'
    obtain ⟨t, x, y⟩ := h
    obtain ⟨t', x', y'⟩ := h'
    have := x.uniq x'
    subst this
    exact ih t v v' y y' 
theorem lc_15 (hz : 0 ≤ z) (hz2 : z + 5 ≤ sc (-1)) (hL : sc (-1) ≤ 2560) (hV : Iv σ m) (hm : m ≤ 600) (nx : ∀ (σ' : St) (v5 v6 : AV) (t : Nat), t ≤ 1 → Iv σ' (m + 1) → am_wp sc am_law 1019 [.inr (.inl 28), .inr (.inl 0), .inr (.inl 1), .inr (.inl 26), .inl z, v5, v6] [] σ' (fun o σ2 t2 => Q o σ2 (t2 + t))) : am_wp sc am_law 884 [.inr (.inl 28), .inr (.inl 0), .inr (.inl 1), .inr (.inl 26), .inl z, v5, v6] [] σ Q := by
  obtain ⟨n, hI, hR, h34, h34'⟩ := hV
  have hR11 := hR.2.2.2.2.2.2.2.2.2.2
  have r42 := hR.2.2.2.2.2.1
  have r43 := hR.2.2.2.2.2.2.2.1
  have i8 := hI.2.2.2.2.2.2.2.1
  have i9 := hI.2.2.2.2.2.2.2.2.1
  have same : ∀ (σ1 α' : St), (∀ k, k ≠ 13 → σ1 k = σ k) → (∀ v : Int, (∀ k, k ≠ 25 → k ≠ 40 → α' k = am_up σ1 26 0 v k) → Iv α' (m + 1)) := by
    intro σ1 α' f1 v f2
    refine Iv.same (γ := σ1) (hI.c (fun k _ h13 => f1 k h13)) hR (fun k _ _ _ h13 _ => f1 k h13) (fun k hk _ => by unfold isC at hk; rw [f2 k (by omega) (by omega), am_up_n (by omega)]) (fun k hk _ _ h25 h40 => by unfold isM at hk; rw [f2 k h25 h40, am_up_n (by omega)]; exact f1 k (by omega)) (by rw [f2 23 (by decide) (by decide)]; show σ1 23 0 = 0; rw [f1 23 (by decide)]; exact hR11) h34 (by omega)
  have hRo : ∀ (σ1 : St) (v : Int), (∀ k, k ≠ 13 → σ1 k = σ k) → RM σ (am_up σ1 26 0 v) n := fun σ1 v f1 => hR.m (fun k hk => by unfold isM at hk; rw [am_up_n (by omega)]; exact f1 k (by omega))
  have ub : ∀ b d b' d', xBe σ (sc (z + 1)) b d → xBe σ (sc (z + 1)) b' d' → d = d' ∧ b = b' := fun b d b' d' h h' => by
    rcases h.2.2 b' h'.1 d' h'.2.1 with q | q <;> rcases h'.2.2 b h.1 d h.2.1 with w | w <;> omega
  have cf : ∀ b d, xBe σ (sc (z + 1)) b d → 0 ≤ sc (z + 2) → sc (z + 2) ≤ (d : Int) → (xNo σ (sc (z + 1)) ∨ ∃ b d, xBe σ (sc (z + 1)) b d ∧ ¬ (0 ≤ sc (z + 2) ∧ sc (z + 2) ≤ (d : Int))) → False := by
    intro b d hb a1 a2 hn
    rcases hn with hn | ⟨b', d', hb', hn⟩
    · exact hn b hb.1 d hb.2.1.1
    · have := ub b d b' d' hb hb'; omega
  refine b_law_884 z v5 v6 ⟨by omega, by omega⟩ ⟨by omega, by omega⟩ ⟨by omega, by omega⟩ ⟨by omega, by omega⟩ (b_99_0 _ _ _ (x_way hI (fun h1 => am_bh rfl rfl (b_99_13 _ _ _ (am_bj (b_law_901 z v5 v6 _ ⟨by omega, by omega⟩ ⟨by omega, by omega⟩ ⟨by omega, by omega⟩ ⟨by omega, by omega⟩ (m_way hI hR (fun _ => am_bi (lz_15 rfl (fun h9 => absurd h9 (by decide)) (fun _ _ => nx _ _ _ 1 (by omega) (Iv.flt hI hR h34 h34')))) (fun h2 => absurd h2 h1) (fun h2 => absurd h2 h1)))))) (fun h1 hn σ1 f1 => am_bi (b_99_8 _ _ _ _ _ rfl (b_99_17 _ _ _ (am_bi (b_law_901 z v5 v6 _ ⟨by omega, by omega⟩ ⟨by omega, by omega⟩ ⟨by omega, by omega⟩ ⟨by omega, by omega⟩ (m_way hI (hRo σ1 _ f1) (fun h2 => absurd h1 h2) (fun _ _ α' f2 h40 => am_bi (lz_15 h40 (fun _ => by rw [f2 26 (by decide) (by decide)]; rfl) (fun _ _ => nx _ _ _ 0 (by omega) (same σ1 α' f1 _ f2)))) (fun _ b d hb a1 a2 => absurd hn (cf b d hb a1 a2)))))))) (fun h1 b d hb a1 a2 v hv σ1 f1 => am_bi (b_99_8 _ _ _ _ _ rfl (b_99_17 _ _ _ (am_bi (b_law_901 z v5 v6 _ ⟨by omega, by omega⟩ ⟨by omega, by omega⟩ ⟨by omega, by omega⟩ ⟨by omega, by omega⟩ (m_way hI (hRo σ1 _ f1) (fun h2 => absurd h1 h2) (fun _ hn => absurd hn (cf b d hb a1 a2)) (fun _ b' d' hb' _ _ v' hv' α' f2 h40 => am_bi (lz_15 h40 (fun _ => by rw [f2 26 (by decide) (by decide)]; rw [← (ub b d b' d' hb hb').2] at hv'; exact xWy.uniq _ _ _ _ hv hv') (fun _ _ => nx _ _ _ 0 (by omega) (same σ1 α' f1 _ f2))))))))))))
theorem lc_9 (hz : 0 ≤ z) (hz2 : z + 5 ≤ sc (-1)) (hL : sc (-1) ≤ 2560) (hV : Iv σ m) (hm : m ≤ 600) (nx : ∀ (σ' : St) (v5 v6 : AV) (t : Nat), t ≤ 1 → Iv σ' (m + 1) → am_wp sc am_law 1019 [.inr (.inl 28), .inr (.inl 0), .inr (.inl 1), .inr (.inl 26), .inl z, v5, v6] [] σ' (fun o σ2 t2 => Q o σ2 (t2 + t))) : am_wp sc am_law 622 [.inr (.inl 28), .inr (.inl 0), .inr (.inl 1), .inr (.inl 26), .inl z, v5, v6] [] σ Q := by
  obtain ⟨n, hI, hR, h34, h34'⟩ := hV
  have hR11 := hR.2.2.2.2.2.2.2.2.2.2
  have r42 := hR.2.2.2.2.2.1
  have r43 := hR.2.2.2.2.2.2.2.1
  have i8 := hI.2.2.2.2.2.2.2.1
  have i9 := hI.2.2.2.2.2.2.2.2.1
  have r7 := hR.2.2.2.2.2.2.1
  have r9 := hR.2.2.2.2.2.2.2.2.1
  refine b_law_622 z v5 v6 (b_95_0 _ (x_take i8 i9 (fun h1 => am_bi (b_95_6 _ _ _ rfl (b_95_14 _ (am_bi (b_law_627 z v5 v6 _ (m_take (show 0 ≤ σ 42 0 ∧ σ 42 0 ≤ 10 by omega) (show 0 ≤ σ 43 0 ∧ σ 43 0 ≤ 14 by omega) (fun _ => am_bi (lz_9 rfl (fun _ => rfl) (fun _ _ => nx _ _ _ 0 (by omega) (Iv.flo hI hR h34 h34')))) (fun h2 => absurd (show σ 43 0 = 0 by omega) h2) (fun h2 => absurd (show σ 43 0 = 0 by omega) h2))))))) (fun h1 h2 => am_bh rfl rfl (b_95_11 _ (am_bj (b_law_627 z v5 v6 _ (m_take (by omega) (by omega) (fun h3 => absurd (show σ 33 0 = 0 by omega) h1) (fun _ _ => am_bi (lz_9 rfl (fun h9 => absurd h9 (by decide)) (fun _ _ => nx _ _ _ 1 (by omega) (Iv.flt hI hR h34 h34')))) (fun _ h3 => absurd (show σ 32 0 < 10 by omega) h2)))))) (fun h1 h2 σ1 f1 e33 e10 e9 e32 => am_bi (b_95_6 _ _ _ rfl (b_95_14 _ (am_bi (b_law_627 z v5 v6 _ ?_)))))))
  have g42 : σ1 42 0 = σ 42 0 := by rw [f1 42 (by decide) (by decide) (by decide) (by decide)]
  have g43 : σ1 43 0 = σ 43 0 := by rw [f1 43 (by decide) (by decide) (by decide) (by decide)]
  have g21 : σ1 21 = σ 21 := f1 21 (by decide) (by decide) (by decide) (by decide)
  have g22 : σ1 22 = σ 22 := f1 22 (by decide) (by decide) (by decide) (by decide)
  have hq0 : σ 22 0 = σ 10 0 := r9 0 (by omega) (by omega)
  have hsrc := hI.2.2.2.2.2.2.2.2.2.1
  refine m_take (show 0 ≤ σ1 42 0 ∧ σ1 42 0 ≤ 10 by omega) (show 0 ≤ σ1 43 0 ∧ σ1 43 0 ≤ 14 by omega) (fun h3 => absurd (show σ 33 0 = 0 by have h3 : σ1 43 0 = 0 := h3; omega) h1) (fun _ h3 => absurd (show σ1 42 0 < 10 by omega) h3) (fun _ _ α' f2 k40 k43 k22 k21 k42 => am_bi (lz_9 k40 (fun _ => ?_) (fun _ _ => nx _ _ _ 0 (by omega) ?_)))
  · rw [f2 26 (by decide) (by decide) (by decide) (by decide) (by decide)]
    show σ 10 0 = σ1 22 0
    rw [g22, hq0]
  · have k43 : α' 43 0 = σ1 43 0 - 1 := k43
    have k42 : α' 42 0 = σ1 42 0 + 1 := k42
    have k22 : ∀ i : Int, 0 ≤ i → i < σ1 43 0 - 1 → α' 22 i = σ1 22 (i + 1) := k22
    have k21 : α' 21 = am_u1 (σ1 21) (σ1 42 0) (σ1 22 0) := k21
    refine Iv.mk (γ := σ1) (CI_rq hI (fun k a b c d _ _ => f1 k a b c d) (fun x => Or.inl (by rw [f1 7 (by decide) (by decide) (by decide) (by decide)])) (by omega) (by omega) (fun x hx => ?_) (fun i j a b a' b' he => ?_)) (RM_rq hR (fun k a b c d _ _ => f1 k a b c d) (fun k a b c d _ e hk => ?_) (fun x hx => ?_) (by omega) (fun i a b => ?_) (by omega) (fun i a b => ?_)) (fun k hk _ => ?_) (by rw [f1 34 (by decide) (by decide) (by decide) (by decide)]; exact h34) (by rw [f1 34 (by decide) (by decide) (by decide) (by decide)]; omega)
    · rcases hx with ⟨i, a, b, c⟩ | ⟨i, a, b, c⟩
      · rw [e9] at c
        by_cases hi : i = σ 32 0
        · rw [hi, am_u1_s] at c; rw [← c]; exact hsrc _ (Or.inr ⟨0, by omega, by omega, rfl⟩)
        · rw [am_u1_n hi] at c; exact hsrc x (Or.inl ⟨i, a, by omega, c⟩)
      · rw [e10 i a (by omega)] at c; exact hsrc x (Or.inr ⟨i + 1, by omega, by omega, c⟩)
    · rw [e10 i a (by omega), e10 j a' (by omega)] at he
      have := hI.2.2.2.2.2.2.2.2.2.2.1 (i + 1) (j + 1) (by omega) (by omega) (by omega) (by omega) he
      omega
    · unfold isM at hk
      rw [f2 k a b e c d, am_up_n (by omega)]; exact f1 k (by omega) (by omega) (by omega) (by omega)
    · rw [f2 18 (by decide) (by decide) (by decide) (by decide) (by decide), am_up_n (by decide), f1 18 (by decide) (by decide) (by decide) (by decide), f1 7 (by decide) (by decide) (by decide) (by decide)]; exact (hR.2.2.2.1 x hx).2.2
    · rw [k21, e9, g21, g22, g42, hq0, r42]
      by_cases hi : i = σ 32 0
      · rw [hi, am_u1_s, am_u1_s]
      · rw [am_u1_n hi, am_u1_n hi]; exact r7 i a (by omega)
    · rw [k22 i a (by omega), g22, e10 i a (by omega)]; exact r9 (i + 1) (by omega) (by omega)
    · unfold isC at hk
      rw [f2 k (by omega) (by omega) (by omega) (by omega) (by omega), am_up_n (by omega)]
end LG
