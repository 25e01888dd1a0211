section LC
variable {sc : Int → Int} {σ : St} {Q : Ou → St → Nat → Prop} {z m : Int} {v5 v6 : AV}
theorem Iv.flt {n : Nat} {f : Int} (hI : CI σ n) (hR : RM σ σ n) (h0 : 0 ≤ σ 34 0) (h1 : σ 34 0 ≤ m) : Iv (am_up σ 40 0 f) (m + 1) :=
  Iv.same hI hR (fun _ _ _ _ _ _ => rfl) (fun k hk _ => am_up_n (by unfold isC at hk; omega)) (fun k _ _ _ _ h4 => am_up_n h4) hR.2.2.2.2.2.2.2.2.2.2 h0 (by omega)
theorem Iv.flo {n : Nat} {f v : Int} (hI : CI σ n) (hR : RM σ σ n) (h0 : 0 ≤ σ 34 0) (h1 : σ 34 0 ≤ m) : Iv (am_up (am_up σ 26 0 v) 40 0 f) (m + 1) :=
  Iv.same hI hR (fun _ _ _ _ _ _ => rfl) (fun k hk _ => by unfold isC at hk; rw [am_up_n (by omega), am_up_n (by omega)]) (fun k hk _ _ _ h4 => by unfold isM at hk; rw [am_up_n h4, am_up_n (by omega)]) hR.2.2.2.2.2.2.2.2.2.2 h0 (by omega)
theorem RM.out {n : Nat} {v : Int} (hR : RM σ σ n) : RM σ (am_up σ 26 0 v) n := hR.m (fun k hk => by unfold isM at hk; exact am_up_n (by omega))
theorem RM.sl {n : Nat} {α : St} (hR : RM σ α n) {h s : Int} : mS α h s ↔ xS σ h s := by
  unfold mS xS
  rw [hR.o]
  constructor
  · rintro ⟨a, b, c⟩; exact ⟨a, b, by rw [← (hR.2.2.2.1 h a).1]; exact c⟩
  · rintro ⟨a, b, c⟩; exact ⟨a, b, by rw [(hR.2.2.2.1 h a).1]; exact c⟩
theorem lc_7 (hz : 0 ≤ z) (hz2 : z + 5 ≤ sc (-1)) (hL : sc (-1) ≤ 2560) (hV : Iv σ m) (hm : m ≤ 600) (nx : ∀ (σ' : St) (v5 v6 : AV) (t : Nat), t ≤ 1 → Iv σ' (m + 1) → am_wp sc am_law 1019 [.inr (.inl 28), .inr (.inl 0), .inr (.inl 1), .inr (.inl 26), .inl z, v5, v6] [] σ' (fun o σ2 t2 => Q o σ2 (t2 + t))) : am_wp sc am_law 533 [.inr (.inl 28), .inr (.inl 0), .inr (.inl 1), .inr (.inl 26), .inl z, v5, v6] [] σ Q := by
  obtain ⟨n, hI, hR, h34, h34'⟩ := hV
  have hR11 := hR.2.2.2.2.2.2.2.2.2.2
  have r42 := hR.2.2.2.2.2.1
  have r43 := hR.2.2.2.2.2.2.2.1
  have i8 := hI.2.2.2.2.2.2.2.1
  have i9 := hI.2.2.2.2.2.2.2.2.1
  refine b_law_533 z v5 v6 ⟨by omega, by omega⟩ ⟨by omega, by omega⟩ (x_root i8 (fun h1 => am_bi (b_law_543 z v5 v6 _ ⟨by omega, by omega⟩ ⟨by omega, by omega⟩ (m_root (by rw [r42]; exact i8) (fun h2 => am_bi (b_law_553 z v5 v6 _ _ (fun _ => nx _ _ _ 0 (by omega) (Iv.flt hI hR h34 h34')) (fun h9 => absurd (hR.2.2.2.2.2.2.1 _ h1.1 h1.2).symm h9))) (fun h2 => absurd (by rw [r42]; exact h1) h2)))) (fun h1 => am_bi (b_law_543 z v5 v6 _ ⟨by omega, by omega⟩ ⟨by omega, by omega⟩ (m_root (by rw [r42]; exact i8) (fun h2 => absurd (by rw [r42] at h2; exact h2) h1) (fun h2 => am_bi (b_law_553 z v5 v6 _ _ (fun _ => nx _ _ _ 0 (by omega) (Iv.flt hI hR h34 h34')) (fun h9 => absurd rfl h9)))))))
theorem lc_10 (hz : 0 ≤ z) (hz2 : z + 5 ≤ sc (-1)) (hL : sc (-1) ≤ 2560) (hV : Iv σ m) (hm : m ≤ 600) (nx : ∀ (σ' : St) (v5 v6 : AV) (t : Nat), t ≤ 1 → Iv σ' (m + 1) → am_wp sc am_law 1019 [.inr (.inl 28), .inr (.inl 0), .inr (.inl 1), .inr (.inl 26), .inl z, v5, v6] [] σ' (fun o σ2 t2 => Q o σ2 (t2 + t))) : am_wp sc am_law 666 [.inr (.inl 28), .inr (.inl 0), .inr (.inl 1), .inr (.inl 26), .inl z, v5, v6] [] σ Q := by
  obtain ⟨n, hI, hR, h34, h34'⟩ := hV
  have hR11 := hR.2.2.2.2.2.2.2.2.2.2
  have r42 := hR.2.2.2.2.2.1
  have r43 := hR.2.2.2.2.2.2.2.1
  have i8 := hI.2.2.2.2.2.2.2.1
  have i9 := hI.2.2.2.2.2.2.2.2.1
  refine b_law_666 z v5 v6 ⟨by omega, by omega⟩ ⟨by omega, by omega⟩ (x_queued i9 (fun h1 => am_bi (b_law_676 z v5 v6 _ ⟨by omega, by omega⟩ ⟨by omega, by omega⟩ (m_queued (by rw [r43]; exact i9) (fun h2 => am_bi (b_law_686 z v5 v6 _ _ (fun _ => nx _ _ _ 0 (by omega) (Iv.flt hI hR h34 h34')) (fun h9 => absurd (hR.2.2.2.2.2.2.2.2.1 _ h1.1 h1.2).symm h9))) (fun h2 => absurd (by rw [r43]; exact h1) h2)))) (fun h1 => am_bi (b_law_676 z v5 v6 _ ⟨by omega, by omega⟩ ⟨by omega, by omega⟩ (m_queued (by rw [r43]; exact i9) (fun h2 => absurd (by rw [r43] at h2; exact h2) h1) (fun h2 => am_bi (b_law_686 z v5 v6 _ _ (fun _ => nx _ _ _ 0 (by omega) (Iv.flt hI hR h34 h34')) (fun h9 => absurd rfl h9)))))))
theorem lc_12 (hz : 0 ≤ z) (hz2 : z + 5 ≤ sc (-1)) (hL : sc (-1) ≤ 2560) (hV : Iv σ m) (hm : m ≤ 600) (nx : ∀ (σ' : St) (v5 v6 : AV) (t : Nat), t ≤ 1 → Iv σ' (m + 1) → am_wp sc am_law 1019 [.inr (.inl 28), .inr (.inl 0), .inr (.inl 1), .inr (.inl 26), .inl z, v5, v6] [] σ' (fun o σ2 t2 => Q o σ2 (t2 + t))) : am_wp sc am_law 704 [.inr (.inl 28), .inr (.inl 0), .inr (.inl 1), .inr (.inl 26), .inl z, v5, v6] [] σ Q := by
  obtain ⟨n, hI, hR, h34, h34'⟩ := hV
  have hR11 := hR.2.2.2.2.2.2.2.2.2.2
  have r42 := hR.2.2.2.2.2.1
  have r43 := hR.2.2.2.2.2.2.2.1
  have i8 := hI.2.2.2.2.2.2.2.1
  have i9 := hI.2.2.2.2.2.2.2.2.1
  refine b_law_704 z v5 v6 ⟨by omega, by omega⟩ ⟨by omega, by omega⟩ (b_96_0 _ _ (x_word (fun h1 => am_bi (b_96_7 _ _ _ _ rfl (b_96_15 _ _ (am_bi (b_law_715 z v5 v6 _ ⟨by omega, by omega⟩ ⟨by omega, by omega⟩ (m_word hI hR.out (fun _ => am_bi (lz_12 rfl (fun _ => rfl) (fun _ _ => nx _ _ _ 0 (by omega) (Iv.flo hI hR h34 h34')))) (fun h2 => absurd h1 h2))))))) (fun h1 => am_bh rfl rfl (b_96_12 _ _ (am_bj (b_law_715 z v5 v6 _ ⟨by omega, by omega⟩ ⟨by omega, by omega⟩ (m_word hI hR (fun h2 => absurd h2 h1) (fun _ => am_bi (lz_12 rfl (fun h9 => absurd h9 (by decide)) (fun _ _ => nx _ _ _ 1 (by omega) (Iv.flt hI hR h34 h34')))))))))))
theorem lc_3 (hz : 0 ≤ z) (hz2 : z + 5 ≤ sc (-1)) (hL : sc (-1) ≤ 2560) (hV : Iv σ m) (hm : m ≤ 600) (nx : ∀ (σ' : St) (v5 v6 : AV) (t : Nat), t ≤ 1 → Iv σ' (m + 1) → am_wp sc am_law 1019 [.inr (.inl 28), .inr (.inl 0), .inr (.inl 1), .inr (.inl 26), .inl z, v5, v6] [] σ' (fun o σ2 t2 => Q o σ2 (t2 + t))) : am_wp sc am_law 328 [.inr (.inl 28), .inr (.inl 0), .inr (.inl 1), .inr (.inl 26), .inl z, v5, v6] [] σ Q := by
  obtain ⟨n, hI, hR, h34, h34'⟩ := hV
  have hR11 := hR.2.2.2.2.2.2.2.2.2.2
  have r42 := hR.2.2.2.2.2.1
  have r43 := hR.2.2.2.2.2.2.2.1
  have i8 := hI.2.2.2.2.2.2.2.1
  have i9 := hI.2.2.2.2.2.2.2.2.1
  have hbx : ∀ h s, xS σ h s → 0 ≤ σ 4 h + 2 + s ∧ σ 4 h + 2 + s < 90 := fun h s q => by have := hI.geo h q.1; have := q.2.1; have := q.2.2; omega
  have hfx : ∀ h s, xS σ h s → am_R (σ 4 h + 2) := fun h s q => by have := hI.geo h q.1; exact ⟨by omega, by omega⟩
  have hsx : ∀ (α : St), RM σ α n → ∀ h s, mS α h s → s < 10 := fun α hA h s q => by have q := hA.sl.mp q; have := hI.geo h q.1; have := q.2.2; omega
  refine b_law_328 z v5 v6 ⟨by omega, by omega⟩ ⟨by omega, by omega⟩ ⟨by omega, by omega⟩ ⟨by omega, by omega⟩ (b_91_0 _ _ _ (x_get (hbx _ _) (hfx _ _) (fun h1 => am_bi (b_91_8 _ _ _ _ _ rfl (b_91_17 _ _ _ (am_bi (b_law_345 z v5 v6 _ ⟨by omega, by omega⟩ ⟨by omega, by omega⟩ ⟨by omega, by omega⟩ ⟨by omega, by omega⟩ (m_get (hsx _ hR.out _ _) (fun h2 => am_bi (lz_3 rfl (fun _ => (hR.2.2.2.2.1 _ _ h1.1 h1.2.1 h1.2.2).1.symm) (fun _ _ => nx _ _ _ 0 (by omega) (Iv.flo hI hR h34 h34')))) (fun h2 => absurd (hR.out.sl.mpr h1) h2))))))) (fun h1 => am_bh rfl rfl (b_91_13 _ _ _ (am_bj (b_law_345 z v5 v6 _ ⟨by omega, by omega⟩ ⟨by omega, by omega⟩ ⟨by omega, by omega⟩ ⟨by omega, by omega⟩ (m_get (hsx _ hR _ _) (fun h2 => absurd (hR.sl.mp h2) h1) (fun _ => am_bi (lz_3 rfl (fun h9 => absurd h9 (by decide)) (fun _ _ => nx _ _ _ 1 (by omega) (Iv.flt hI hR h34 h34')))))))))))
theorem lc_4 (hz : 0 ≤ z) (hz2 : z + 5 ≤ sc (-1)) (hL : sc (-1) ≤ 2560) (hV : Iv σ m) (hm : m ≤ 600) (nx : ∀ (σ' : St) (v5 v6 : AV) (t : Nat), t ≤ 1 → Iv σ' (m + 1) → am_wp sc am_law 1019 [.inr (.inl 28), .inr (.inl 0), .inr (.inl 1), .inr (.inl 26), .inl z, v5, v6] [] σ' (fun o σ2 t2 => Q o σ2 (t2 + t))) : am_wp sc am_law 396 [.inr (.inl 28), .inr (.inl 0), .inr (.inl 1), .inr (.inl 26), .inl z, v5, v6] [] σ Q := by
  obtain ⟨n, hI, hR, h34, h34'⟩ := hV
  have hR11 := hR.2.2.2.2.2.2.2.2.2.2
  have r42 := hR.2.2.2.2.2.1
  have r43 := hR.2.2.2.2.2.2.2.1
  have i8 := hI.2.2.2.2.2.2.2.1
  have i9 := hI.2.2.2.2.2.2.2.2.1
  have hbx : ∀ h s, xS σ h s → 0 ≤ σ 4 h + 2 + s ∧ σ 4 h + 2 + s < 90 := fun h s q => by have := hI.geo h q.1; have := q.2.1; have := q.2.2; omega
  have hfx : ∀ h s, xS σ h s → am_R (σ 4 h + 2) := fun h s q => by have := hI.geo h q.1; exact ⟨by omega, by omega⟩
  have hsx : ∀ (α : St), RM σ α n → ∀ h s, mS α h s → s < 10 := fun α hA h s q => by have q := hA.sl.mp q; have := hI.geo h q.1; have := q.2.2; omega
  refine b_law_396 z v5 v6 ⟨by omega, by omega⟩ ⟨by omega, by omega⟩ ⟨by omega, by omega⟩ ⟨by omega, by omega⟩ (b_92_0 _ _ _ (x_kind (hbx _ _) (hfx _ _) (fun h1 => am_bi (b_92_8 _ _ _ _ _ rfl (b_92_17 _ _ _ (am_bi (b_law_413 z v5 v6 _ ⟨by omega, by omega⟩ ⟨by omega, by omega⟩ ⟨by omega, by omega⟩ ⟨by omega, by omega⟩ (m_kind (hsx _ hR.out _ _) (fun h2 => am_bi (lz_4 rfl (fun _ => (hR.2.2.2.2.1 _ _ h1.1 h1.2.1 h1.2.2).2.symm) (fun _ _ => nx _ _ _ 0 (by omega) (Iv.flo hI hR h34 h34')))) (fun h2 => absurd (hR.out.sl.mpr h1) h2))))))) (fun h1 => am_bh rfl rfl (b_92_13 _ _ _ (am_bj (b_law_413 z v5 v6 _ ⟨by omega, by omega⟩ ⟨by omega, by omega⟩ ⟨by omega, by omega⟩ ⟨by omega, by omega⟩ (m_kind (hsx _ hR _ _) (fun h2 => absurd (hR.sl.mp h2) h1) (fun _ => am_bi (lz_4 rfl (fun h9 => absurd h9 (by decide)) (fun _ _ => nx _ _ _ 1 (by omega) (Iv.flt hI hR h34 h34')))))))))))
theorem lc_17 (hz : 0 ≤ z) (hz2 : z + 5 ≤ sc (-1)) (hL : sc (-1) ≤ 2560) (hV : Iv σ m) (hm : m ≤ 600) (nx : ∀ (σ' : St) (v5 v6 : AV) (t : Nat), t ≤ 1 → Iv σ' (m + 1) → am_wp sc am_law 1019 [.inr (.inl 28), .inr (.inl 0), .inr (.inl 1), .inr (.inl 26), .inl z, v5, v6] [] σ' (fun o σ2 t2 => Q o σ2 (t2 + t))) : am_wp sc am_law 1008 [.inr (.inl 28), .inr (.inl 0), .inr (.inl 1), .inr (.inl 26), .inl z, v5, v6] [] σ Q := by
  obtain ⟨n, hI, hR, h34, h34'⟩ := hV
  have hR11 := hR.2.2.2.2.2.2.2.2.2.2
  have r42 := hR.2.2.2.2.2.1
  have r43 := hR.2.2.2.2.2.2.2.1
  have i8 := hI.2.2.2.2.2.2.2.1
  have i9 := hI.2.2.2.2.2.2.2.2.1
  refine b_law_1008 z v5 v6 (x_clear hI (fun σ1 f1 hI1 hno e32 e33 e34 => am_bi (b_law_1012 z v5 v6 (m_clear (γ' := σ1) (by rw [f1 23 (by decide) (by decide) (by decide) (by decide) (by decide) (by decide) (by decide) (by decide) (by decide) (by decide) (by decide)]; exact hR11) hno e32 e33 e34 (fun α' f2 hR2 => am_bi (b_law_1016 z v5 v6 (nx _ _ _ 0 (by omega) (Iv.mk hI1 hR2 (fun k hk _ => f2 k (by unfold isC at hk; unfold isM; omega)) (by omega) (by omega)))))))))
theorem lc_14 (hz : 0 ≤ z) (hz2 : z + 5 ≤ sc (-1)) (hL : sc (-1) ≤ 2560) (hV : Iv σ m) (hm : m ≤ 600) (nx : ∀ (σ' : St) (v5 v6 : AV) (t : Nat), t ≤ 1 → Iv σ' (m + 1) → am_wp sc am_law 1019 [.inr (.inl 28), .inr (.inl 0), .inr (.inl 1), .inr (.inl 26), .inl z, v5, v6] [] σ' (fun o σ2 t2 => Q o σ2 (t2 + t))) : am_wp sc am_law 828 [.inr (.inl 28), .inr (.inl 0), .inr (.inl 1), .inr (.inl 26), .inl z, v5, v6] [] σ Q := by
  obtain ⟨n, hI, hR, h34, h34'⟩ := hV
  have hR11 := hR.2.2.2.2.2.2.2.2.2.2
  have r42 := hR.2.2.2.2.2.1
  have r43 := hR.2.2.2.2.2.2.2.1
  have i8 := hI.2.2.2.2.2.2.2.1
  have i9 := hI.2.2.2.2.2.2.2.2.1
  have same : ∀ (σ1 α' : St), (∀ k, k ≠ 13 → σ1 k = σ k) → (∀ v : Int, (∀ k, k ≠ 25 → k ≠ 40 → α' k = am_up σ1 26 0 v k) → Iv α' (m + 1)) := by
    intro σ1 α' f1 v f2
    refine Iv.same (γ := σ1) (hI.c (fun k _ h13 => f1 k h13)) hR (fun k _ _ _ h13 _ => f1 k h13) (fun k hk _ => by unfold isC at hk; rw [f2 k (by omega) (by omega), am_up_n (by omega)]) (fun k hk _ _ h25 h40 => by unfold isM at hk; rw [f2 k h25 h40, am_up_n (by omega)]; exact f1 k (by omega)) (by rw [f2 23 (by decide) (by decide)]; show σ1 23 0 = 0; rw [f1 23 (by decide)]; exact hR11) h34 (by omega)
  have hRo : ∀ (σ1 : St) (v : Int), (∀ k, k ≠ 13 → σ1 k = σ k) → RM σ (am_up σ1 26 0 v) n := fun σ1 v f1 => hR.m (fun k hk => by unfold isM at hk; rw [am_up_n (by omega)]; exact f1 k (by omega))
  have ub : ∀ b d b' d', xBe σ (sc (z + 1)) b d → xBe σ (sc (z + 1)) b' d' → d = d' := fun b d b' d' h h' => by
    rcases h.2.2 b' h'.1 d' h'.2.1 with q | q <;> rcases h'.2.2 b h.1 d h.2.1 with w | w <;> omega
  refine b_law_828 z v5 v6 ⟨by omega, by omega⟩ ⟨by omega, by omega⟩ (b_98_0 _ _ (x_far hI (fun h1 => am_bh rfl rfl (b_98_12 _ _ (am_bj (b_law_839 z v5 v6 _ ⟨by omega, by omega⟩ ⟨by omega, by omega⟩ (m_far hI hR (fun _ => am_bi (lz_14 rfl (fun h9 => absurd h9 (by decide)) (fun _ _ => nx _ _ _ 1 (by omega) (Iv.flt hI hR h34 h34')))) (fun h2 => absurd h2 h1) (fun h2 => absurd h2 h1)))))) (fun h1 hn σ1 f1 => am_bi (b_98_7 _ _ _ _ rfl (b_98_15 _ _ (am_bi (b_law_839 z v5 v6 _ ⟨by omega, by omega⟩ ⟨by omega, by omega⟩ (m_far hI (hRo σ1 _ f1) (fun h2 => absurd h1 h2) (fun _ _ α' f2 h40 => am_bi (lz_14 h40 (fun _ => by rw [f2 26 (by decide) (by decide)]; rfl) (fun _ _ => nx _ _ _ 0 (by omega) (same σ1 α' f1 _ f2)))) (fun _ b d hb => absurd hb.2.1.1 (hn b hb.1 d)))))))) (fun h1 b d hb σ1 f1 => am_bi (b_98_7 _ _ _ _ rfl (b_98_15 _ _ (am_bi (b_law_839 z v5 v6 _ ⟨by omega, by omega⟩ ⟨by omega, by omega⟩ (m_far hI (hRo σ1 _ f1) (fun h2 => absurd h1 h2) (fun _ hn => absurd hb.2.1.1 (hn b hb.1 d)) (fun _ b' d' hb' α' f2 h40 => am_bi (lz_14 h40 (fun _ => by rw [f2 26 (by decide) (by decide), ← ub b d b' d' hb hb']; rfl) (fun _ _ => nx _ _ _ 0 (by omega) (same σ1 α' f1 _ f2))))))))))))
end LC
