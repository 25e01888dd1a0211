section LE
variable {sc : Int → Int} {σ : St} {Q : Ou → St → Nat → Prop} {z m : Int} {v5 v6 : AV}
theorem lc_13 (hz : 0 ≤ z) (hz2 : z + 5 ≤ sc (-1)) (hL : sc (-1) ≤ 2560) (hV : Iv σ m) (hm : m ≤ 600) (nx : ∀ (σ' : St) (v5 v6 : AV) (t : Nat), t ≤ 1 → Iv σ' (m + 1) → am_wp sc am_law 1019 [.inr (.inl 28), .inr (.inl 0), .inr (.inl 1), .inr (.inl 26), .inl z, v5, v6] [] σ' (fun o σ2 t2 => Q o σ2 (t2 + t))) : am_wp sc am_law 760 [.inr (.inl 28), .inr (.inl 0), .inr (.inl 1), .inr (.inl 26), .inl z, v5, v6] [] σ Q := by
  obtain ⟨n, hI, hR, h34, h34'⟩ := hV
  have hR11 := hR.2.2.2.2.2.2.2.2.2.2
  have r42 := hR.2.2.2.2.2.1
  have r43 := hR.2.2.2.2.2.2.2.1
  have i8 := hI.2.2.2.2.2.2.2.1
  have i9 := hI.2.2.2.2.2.2.2.2.1
  have fin : ∀ (σm : St) (v : Int), (∀ k, k ≠ 11 → k ≠ 12 → k ≠ 35 → σm k = σ k) → CI σm n → xO σ (sc (z + 1)) → (0 ≤ sc (z + 2) ∧ sc (z + 2) ≤ 5) → (sc (z + 2) = 0 → v = σ 4 (sc (z + 1))) → (sc (z + 2) = 1 → v = σ 5 (sc (z + 1))) → (sc (z + 2) = 2 → v = σ 6 (sc (z + 1))) → (sc (z + 2) = 3 → v = σ 7 (sc (z + 1))) → (sc (z + 2) = 4 → ∀ c, xK σ (xsrc σ) c → v = c (sc (z + 1))) → (sc (z + 2) = 5 → v = pu_h (xob σ) (fun x => pu_s (fun s => xSh σ (sc (z + 1)) (σ 4 x + 2 + s)) (σ 5 x).toNat)) → am_bk sc 97 5 [.inr (.inl 0), .inl (sc (z + 1)), .inl (sc (z + 2)), .inr (.inl 26), .inr (.inr 0)] [.inl 0, .inr (.inl 26)] (am_bk sc am_law 774 [.inr (.inl 28), .inr (.inl 0), .inr (.inl 1), .inr (.inl 26), .inl z, v5, v6] [] Q) (.inl (some v)) σm 0 := by
    intro σm v f1 hIm ho hw e0 e1 e2 e3 e4 e5
    have hRo : RM σ (am_up σm 26 0 v) n := hR.m (fun k hk => by unfold isM at hk; rw [am_up_n (by omega)]; exact f1 k (by omega) (by omega) (by omega))
    have done : Iv (am_up (am_up σm 26 0 v) 40 0 0) (m + 1) := Iv.wrk hR h34 h34' f1 hIm (fun k _ b => am_up_n b) (show σm 23 0 = 0 by rw [f1 23 (by decide) (by decide) (by decide)]; exact hR11)
    refine am_bi (b_97_8 _ _ _ _ _ rfl (b_97_21 _ _ _ (am_bi (b_law_777 z v5 v6 _ ⟨by omega, by omega⟩ ⟨by omega, by omega⟩ ⟨by omega, by omega⟩ ⟨by omega, by omega⟩ (m_about hI hRo (fun h2 => absurd ho h2) (fun _ h2 => absurd hw h2) (fun _ e => am_bi (lz_13 rfl (fun _ => e0 e) (fun _ _ => nx _ _ _ 0 (by omega) done))) (fun _ e => am_bi (lz_13 rfl (fun _ => e1 e) (fun _ _ => nx _ _ _ 0 (by omega) done))) (fun _ e => am_bi (lz_13 rfl (fun _ => e2 e) (fun _ _ => nx _ _ _ 0 (by omega) done))) (fun _ e => am_bi (lz_13 rfl (fun _ => e3 e) (fun _ _ => nx _ _ _ 0 (by omega) done))) (fun _ e α' f2 h40 K => am_bi (lz_13 h40 (fun _ => by rw [f2 26 (by decide) (by decide)]; exact e4 e _ K) (fun _ _ => nx _ _ _ 0 (by omega) (Iv.wrk hR h34 h34' f1 hIm f2 K.1)))) (fun _ e => am_bi (lz_13 rfl (fun _ => e5 e) (fun _ _ => nx _ _ _ 0 (by omega) done))))))))
  refine b_law_760 z v5 v6 ⟨by omega, by omega⟩ ⟨by omega, by omega⟩ ⟨by omega, by omega⟩ ⟨by omega, by omega⟩ (b_97_0 _ _ _ (x_about hI (fun h1 => am_bh rfl rfl (b_97_13 _ _ _ (am_bj (b_law_777 z v5 v6 _ ⟨by omega, by omega⟩ ⟨by omega, by omega⟩ ⟨by omega, by omega⟩ ⟨by omega, by omega⟩ (m_about hI hR (fun _ => am_bi (lz_13 rfl (fun h9 => absurd h9 (by decide)) (fun _ _ => nx _ _ _ 1 (by omega) (Iv.flt hI hR h34 h34')))) (fun h2 => absurd h2 h1) (fun h2 => absurd h2 h1) (fun h2 => absurd h2 h1) (fun h2 => absurd h2 h1) (fun h2 => absurd h2 h1) (fun h2 => absurd h2 h1) (fun h2 => absurd h2 h1)))))) (fun h1 hw => am_bh rfl rfl (b_97_17 _ _ _ (am_bj (b_law_777 z v5 v6 _ ⟨by omega, by omega⟩ ⟨by omega, by omega⟩ ⟨by omega, by omega⟩ ⟨by omega, by omega⟩ (m_about hI hR (fun h2 => absurd h1 h2) (fun _ _ => am_bi (lz_13 rfl (fun h9 => absurd h9 (by decide)) (fun _ _ => nx _ _ _ 1 (by omega) (Iv.flt hI hR h34 h34')))) (fun _ e => absurd (by omega) hw) (fun _ e => absurd (by omega) hw) (fun _ e => absurd (by omega) hw) (fun _ e => absurd (by omega) hw) (fun _ e => absurd (by omega) hw) (fun _ e => absurd (by omega) hw)))))) (fun ho e => fin σ _ (fun _ _ _ _ => rfl) hI ho (by omega) (fun _ => rfl) (fun _ => by omega) (fun _ => by omega) (fun _ => by omega) (fun _ => by omega) (fun _ => by omega)) (fun ho e => fin σ _ (fun _ _ _ _ => rfl) hI ho (by omega) (fun _ => by omega) (fun _ => rfl) (fun _ => by omega) (fun _ => by omega) (fun _ => by omega) (fun _ => by omega)) (fun ho e => fin σ _ (fun _ _ _ _ => rfl) hI ho (by omega) (fun _ => by omega) (fun _ => by omega) (fun _ => rfl) (fun _ => by omega) (fun _ => by omega) (fun _ => by omega)) (fun ho e => fin σ _ (fun _ _ _ _ => rfl) hI ho (by omega) (fun _ => by omega) (fun _ => by omega) (fun _ => by omega) (fun _ => rfl) (fun _ => by omega) (fun _ => by omega)) (fun ho e σm f1 hIm K0 => fin σm _ f1 hIm ho (by omega) (fun _ => by omega) (fun _ => by omega) (fun _ => by omega) (fun _ => by omega) (fun _ c K => K0.eq K (by have := ho.1; omega) ho.2.1) (fun _ => by omega)) (fun ho e => fin σ _ (fun _ _ _ _ => rfl) hI ho (by omega) (fun _ => by omega) (fun _ => by omega) (fun _ => by omega) (fun _ => by omega) (fun _ => by omega) (fun _ => rfl))))
theorem lc_5 (hz : 0 ≤ z) (hz2 : z + 5 ≤ sc (-1)) (hL : sc (-1) ≤ 2560) (hV : Iv σ m) (hm : m ≤ 600) (nx : ∀ (σ' : St) (v5 v6 : AV) (t : Nat), t ≤ 1 → Iv σ' (m + 1) → am_wp sc am_law 1019 [.inr (.inl 28), .inr (.inl 0), .inr (.inl 1), .inr (.inl 26), .inl z, v5, v6] [] σ' (fun o σ2 t2 => Q o σ2 (t2 + t))) : am_wp sc am_law 464 [.inr (.inl 28), .inr (.inl 0), .inr (.inl 1), .inr (.inl 26), .inl z, v5, v6] [] σ Q := by
  obtain ⟨n, hI, hR, h34, h34'⟩ := hV
  have hR11 := hR.2.2.2.2.2.2.2.2.2.2
  have r42 := hR.2.2.2.2.2.1
  have r43 := hR.2.2.2.2.2.2.2.1
  have i8 := hI.2.2.2.2.2.2.2.1
  have i9 := hI.2.2.2.2.2.2.2.2.1
  have r7 := hR.2.2.2.2.2.2.1
  refine b_law_464 z v5 v6 ⟨by omega, by omega⟩ ⟨by omega, by omega⟩ (b_93_0 _ _ (x_push i8 (fun h1 h2 => am_bi (b_93_7 _ _ _ _ rfl (b_93_18 _ _ (am_bi (b_law_475 z v5 v6 _ ⟨by omega, by omega⟩ ⟨by omega, by omega⟩ ?_))))) (fun h1 => am_bh rfl rfl (b_93_12 _ _ (am_bj (b_law_475 z v5 v6 _ ⟨by omega, by omega⟩ ⟨by omega, by omega⟩ (m_push (by omega) (fun h3 => absurd (hR.o.mp h3) h1) (fun _ => am_bi (lz_5 rfl (fun h9 => absurd h9 (by decide)) (fun _ _ => nx _ _ _ 1 (by omega) (Iv.flt hI hR h34 h34')))) (fun h3 => absurd (hR.o.mp h3) h1)))))) (fun h1 h2 => am_bh rfl rfl (b_93_15 _ _ (am_bj (b_law_475 z v5 v6 _ ⟨by omega, by omega⟩ ⟨by omega, by omega⟩ (m_push (by omega) (fun _ h3 => absurd (by omega) h2) (fun h3 => absurd (hR.o.mpr h1) h3) (fun _ _ => am_bi (lz_5 rfl (fun h9 => absurd h9 (by decide)) (fun _ _ => nx _ _ _ 1 (by omega) (Iv.flt hI hR h34 h34')))))))))))
  have hO : mO (am_up (am_up (am_up σ 9 (σ 32 0) (sc (z + 1))) 32 0 (σ 32 0 + 1)) 26 0 (σ 32 0 + 1)) (sc (z + 1)) := hR.o.mpr h1
  refine m_push (show 0 ≤ σ 42 0 ∧ σ 42 0 ≤ 10 by omega) (fun _ _ => am_bi (lz_5 rfl (fun _ => (show σ 32 0 + 1 = σ 42 0 + 1 by omega)) (fun _ _ => nx _ _ _ 0 (by omega) ?_))) (fun h3 => absurd hO h3) (fun _ h3 => absurd (show σ 42 0 < 10 by omega) h3)
  refine Iv.mk (γ := am_up (am_up σ 9 (σ 32 0) (sc (z + 1))) 32 0 (σ 32 0 + 1)) (CI_rq hI (fun k a _ b _ _ _ => by rw [am_up_n b, am_up_n a]) (fun x => Or.inl rfl) (show 0 ≤ σ 32 0 + 1 ∧ σ 32 0 + 1 ≤ 10 by omega) i9 (fun x hx => ?_) hI.2.2.2.2.2.2.2.2.2.2.1) (RM_rq hR (fun k a _ b _ _ _ => by rw [am_up_n b, am_up_n a]) (fun k a _ b _ _ c hk => ?_) (fun x hx => (hR.2.2.2.1 x hx).2.2) (show σ 42 0 + 1 = σ 32 0 + 1 by omega) (fun i a b => ?_) r43 hR.2.2.2.2.2.2.2.2.1) (fun k hk _ => ?_) h34 (show σ 34 0 ≤ m + 1 by omega)
  · rcases hx with ⟨i, a, b, c⟩ | q
    · have b : i < σ 32 0 + 1 := b
      have c : am_u1 (σ 9) (σ 32 0) (sc (z + 1)) i = x := c
      by_cases hi : i = σ 32 0
      · rw [hi, am_u1_s] at c; rw [← c]; exact h1
      · rw [am_u1_n hi] at c; exact hI.2.2.2.2.2.2.2.2.2.1 x (Or.inl ⟨i, a, by omega, c⟩)
    · exact hI.2.2.2.2.2.2.2.2.2.1 x (Or.inr q)
  · unfold isM at hk
    rw [am_up_n b, am_up_n a, am_up_n c, am_up_n (by omega), am_up_n (by omega), am_up_n (by omega)]
  · have b : i < σ 32 0 + 1 := b
    show am_u1 (σ 21) (σ 42 0) (sc (z + 1)) i = am_u1 (σ 9) (σ 32 0) (sc (z + 1)) i
    rw [r42]
    by_cases hi : i = σ 32 0
    · rw [hi, am_u1_s, am_u1_s]
    · rw [am_u1_n hi, am_u1_n hi]; exact r7 i a (by omega)
  · unfold isC at hk
    rw [am_up_n (by omega), am_up_n (by omega), am_up_n (by omega), am_up_n (by omega)]
theorem Iv.set {n : Nat} {h s kd v : Int} (hI : CI σ n) (hR : RM σ σ n) (h34 : 0 ≤ σ 34 0) (h34' : σ 34 0 ≤ m) (hx : xS σ h s) (hk : kd = 0 ∨ ((kd = 1 ∨ kd = 2) ∧ (v = 0 ∨ xO σ v))) : Iv (am_up (am_up (am_up (am_up (am_up σ 3 (σ 4 h + 2 + s) kd) 2 (σ 4 h + 2 + s) v) 40 0 0) 19 (10 * h + s) v) 20 (10 * h + s) kd) (m + 1) := by
  refine Iv.mk (γ := am_up (am_up σ 3 (σ 4 h + 2 + s) kd) 2 (σ 4 h + 2 + s) v) (CI_set hI hx.1 hx.2.1 hx.2.2 hk) (RM_set (kd := kd) (v := v) hI hR hx.1 hx.2.1 hx.2.2 rfl rfl (fun k a b _ => by rw [am_up_n a, am_up_n b]) rfl rfl (fun k a b c hk => ?_)) (fun k hk _ => ?_) h34 (show σ 34 0 ≤ m + 1 by omega)
  · unfold isM at hk
    rw [am_up_n b, am_up_n a, am_up_n c, am_up_n (by omega), am_up_n (by omega)]
  · unfold isC at hk
    rw [am_up_n (by omega), am_up_n (by omega), am_up_n (by omega)]
theorem lc_1 (hz : 0 ≤ z) (hz2 : z + 5 ≤ sc (-1)) (hL : sc (-1) ≤ 2560) (hV : Iv σ m) (hm : m ≤ 600) (nx : ∀ (σ' : St) (v5 v6 : AV) (t : Nat), t ≤ 1 → Iv σ' (m + 1) → am_wp sc am_law 1019 [.inr (.inl 28), .inr (.inl 0), .inr (.inl 1), .inr (.inl 26), .inl z, v5, v6] [] σ' (fun o σ2 t2 => Q o σ2 (t2 + t))) : am_wp sc am_law 180 [.inr (.inl 28), .inr (.inl 0), .inr (.inl 1), .inr (.inl 26), .inl z, v5, v6] [] σ Q := by
  obtain ⟨n, hI, hR, h34, h34'⟩ := hV
  have hR11 := hR.2.2.2.2.2.2.2.2.2.2
  have r42 := hR.2.2.2.2.2.1
  have r43 := hR.2.2.2.2.2.2.2.1
  have i8 := hI.2.2.2.2.2.2.2.1
  have i9 := hI.2.2.2.2.2.2.2.2.1
  have hbx : ∀ h s, xS σ h s → 0 ≤ σ 4 h + 2 + s ∧ σ 4 h + 2 + s < 90 := fun h s q => by have := hI.geo h q.1; have := q.2.1; have := q.2.2; omega
  have hfx : ∀ h s, xS σ h s → am_R (σ 4 h + 2) := fun h s q => by have := hI.geo h q.1; exact ⟨by omega, by omega⟩
  have hsx : ∀ (α : St), RM σ α n → ∀ h s, mS α h s → s < 10 := fun α hA h s q => by have q := hA.sl.mp q; have := hI.geo h q.1; have := q.2.2; omega
  have hRs : ∀ a v, RM σ (am_up (am_up σ 3 a 0) 2 a v) n := fun a v => hR.m (fun k hk => by unfold isM at hk; rw [am_up_n (by omega), am_up_n (by omega)])
  refine b_law_180 z v5 v6 ⟨by omega, by omega⟩ ⟨by omega, by omega⟩ ⟨by omega, by omega⟩ ⟨by omega, by omega⟩ ⟨by omega, by omega⟩ ⟨by omega, by omega⟩ (b_89_0 _ _ _ _ (x_number (hbx _ _) (hfx _ _) (fun h1 => am_bi (b_89_7 _ _ _ _ (b_89_14 _ _ _ _ (am_bi (b_law_202 z v5 v6 _ ⟨by omega, by omega⟩ ⟨by omega, by omega⟩ ⟨by omega, by omega⟩ ⟨by omega, by omega⟩ ⟨by omega, by omega⟩ ⟨by omega, by omega⟩ (m_number (hsx _ (hRs _ _) _ _) (fun _ => am_bi (lz_1 rfl (fun _ _ => nx _ _ _ 0 (by omega) (Iv.set hI hR h34 h34' h1 (Or.inl rfl))))) (fun h2 => absurd ((hRs _ _).sl.mpr h1) h2))))))) (fun h1 => am_bh rfl rfl (b_89_10 _ _ _ _ (am_bj (b_law_202 z v5 v6 _ ⟨by omega, by omega⟩ ⟨by omega, by omega⟩ ⟨by omega, by omega⟩ ⟨by omega, by omega⟩ ⟨by omega, by omega⟩ ⟨by omega, by omega⟩ (m_number (hsx _ hR _ _) (fun h2 => absurd (hR.sl.mp h2) h1) (fun _ => am_bi (lz_1 rfl (fun _ _ => nx _ _ _ 1 (by omega) (Iv.flt hI hR h34 h34')))))))))))
theorem lc_8 (hz : 0 ≤ z) (hz2 : z + 5 ≤ sc (-1)) (hL : sc (-1) ≤ 2560) (hV : Iv σ m) (hm : m ≤ 600) (nx : ∀ (σ' : St) (v5 v6 : AV) (t : Nat), t ≤ 1 → Iv σ' (m + 1) → am_wp sc am_law 1019 [.inr (.inl 28), .inr (.inl 0), .inr (.inl 1), .inr (.inl 26), .inl z, v5, v6] [] σ' (fun o σ2 t2 => Q o σ2 (t2 + t))) : am_wp sc am_law 558 [.inr (.inl 28), .inr (.inl 0), .inr (.inl 1), .inr (.inl 26), .inl z, v5, v6] [] σ Q := by
  obtain ⟨n, hI, hR, h34, h34'⟩ := hV
  have hR11 := hR.2.2.2.2.2.2.2.2.2.2
  have r42 := hR.2.2.2.2.2.1
  have r43 := hR.2.2.2.2.2.2.2.1
  have i8 := hI.2.2.2.2.2.2.2.1
  have i9 := hI.2.2.2.2.2.2.2.2.1
  have go : ∀ w : Int, (w = 0 ∨ w = 1) → (w = 0 ↔ sc (z + 2) = 0) → am_wp sc am_law 579 [.inr (.inl 28), .inr (.inl 0), .inr (.inl 1), .inr (.inl 26), .inl z, v5, v6] [.inl w, .inl (sc (z + 1)), .inr (.inl 0)] σ Q := by
    intro w hw hw2
    have sec : ∀ (k : Int) (σ1 : St) (Q' : Ou → St → Nat → Prop), am_wp sc 73 0 [.inr (.inl 1), .inl (sc (z + 1)), .inl w] [] σ1 (am_bk sc am_law 605 [.inr (.inl 28), .inr (.inl 0), .inr (.inl 1), .inr (.inl 26), .inl z, .inl k, v6] [] Q') → am_wp sc am_law 582 [.inr (.inl 28), .inr (.inl 0), .inr (.inl 1), .inr (.inl 26), .inl z, v5, v6] [.inl k] σ1 Q' := by
      intro k σ1 Q' hh
      refine b_law_582 z v5 v6 k ⟨by omega, by omega⟩ ⟨by omega, by omega⟩ ⟨by omega, by omega⟩ ⟨by omega, by omega⟩ (fun h3 => b_law_604 _ _ _ _ (b_law_605 _ _ _ _ _ ?_)) (fun h3 => b_law_600 _ _ _ _ (b_law_605 _ _ _ _ _ ?_))
      · rw [hw2.mpr h3] at hh; exact hh
      · rw [show w = 1 from hw.elim (fun q => absurd (hw2.mp q) h3) id] at hh; exact hh
    refine b_law_579 z v5 v6 _ _ (b_94_0 _ _ _ (x_rites hw (fun h1 => am_bi (b_94_6 _ _ _ (b_94_12 _ _ _ (am_bi (sec _ _ _ ?_))))) (fun h1 => am_bh rfl rfl (b_94_9 _ _ _ (am_bj (sec _ _ _ (m_rites hw (fun h2 => absurd (hR.o.mp h2) h1) (fun _ => am_bi (lz_8 rfl (fun _ _ => nx _ _ _ 1 (by omega) (Iv.flt hI hR h34 h34')))))))))))
    have hO : mO (am_up σ 7 (sc (z + 1)) w) (sc (z + 1)) := hR.o.mpr h1
    refine m_rites hw (fun _ => am_bi (lz_8 rfl (fun _ _ => nx _ _ _ 0 (by omega) ?_))) (fun h2 => absurd hO h2)
    refine Iv.mk (γ := am_up σ 7 (sc (z + 1)) w) (CI_rq hI (fun k _ _ _ _ a _ => am_up_n a) (fun x => ?_) i8 i9 hI.2.2.2.2.2.2.2.2.2.1 hI.2.2.2.2.2.2.2.2.2.2.1) (RM_rq hR (fun k _ _ _ _ a _ => am_up_n a) (fun k _ _ _ _ a b hk => ?_) (fun x hx => ?_) r42 hR.2.2.2.2.2.2.1 r43 hR.2.2.2.2.2.2.2.2.1) (fun k hk _ => ?_) h34 (show σ 34 0 ≤ m + 1 by omega)
    · rw [am_up_k]
      by_cases hx : x = sc (z + 1)
      · rw [hx, am_u1_s]; exact Or.inr ⟨h1, hw⟩
      · rw [am_u1_n hx]; exact Or.inl rfl
    · unfold isM at hk
      rw [am_up_n a, am_up_n b, am_up_n (by omega)]
    · show am_u1 (σ 18) (sc (z + 1)) w x = am_u1 (σ 7) (sc (z + 1)) w x
      by_cases hxx : x = sc (z + 1)
      · rw [hxx, am_u1_s, am_u1_s]
      · rw [am_u1_n hxx, am_u1_n hxx]; exact (hR.2.2.2.1 x hx).2.2
    · unfold isC at hk
      rw [am_up_n (by omega), am_up_n (by omega)]
  exact b_law_558 z v5 v6 ⟨by omega, by omega⟩ ⟨by omega, by omega⟩ ⟨by omega, by omega⟩ ⟨by omega, by omega⟩ (fun h => b_law_578 z v5 v6 _ (go 0 (Or.inl rfl) ⟨fun _ => h, fun _ => rfl⟩)) (fun h => b_law_574 z v5 v6 _ (go 1 (Or.inr rfl) ⟨fun q => absurd q (by decide), fun q => absurd q h⟩))
end LE
