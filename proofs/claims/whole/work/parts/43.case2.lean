section LD
variable {sc : Int → Int} {σ : St} {Q : Ou → St → Nat → Prop} {z m : Int} {v5 v6 : AV}
theorem xK.cong {σ : St} {src : Int → Prop} {c c' g : Int → Int} (h : xK σ src c) (h' : xK σ src c') : pu_h c g = pu_h c' g := pu_h_congr (fun x a b => ⟨by rw [h.eq h' (by omega) b], fun _ => rfl⟩)
/-- behind a class's call that changed rows for work alone, and the reference's that did so too -/
theorem Iv.wrk {n : Nat} {σm α' : St} {v : Int} (hR : RM σ σ n) (h34 : 0 ≤ σ 34 0) (h34' : σ 34 0 ≤ m) (f1 : ∀ k, k ≠ 11 → k ≠ 12 → k ≠ 35 → σm k = σ k) (hIm : CI σm n) (f2 : ∀ k, k ≠ 23 → k ≠ 40 → α' k = am_up σm 26 0 v k) (h23 : α' 23 0 = 0) : Iv α' (m + 1) :=
  Iv.same hIm hR (fun k a b c _ _ => f1 k a b c) (fun k hk _ => by unfold isC at hk; rw [f2 k (by omega) (by omega), am_up_n (by omega)]) (fun k hk a _ _ d => by unfold isM at hk; rw [f2 k a d, am_up_n (by omega)]; exact f1 k (by omega) (by omega) (by omega)) h23 h34 (by omega)
theorem lc_16 (hz : 0 ≤ z) (hz2 : z + 5 ≤ sc (-1)) (hL : sc (-1) ≤ 2560) (hV : Iv σ m) (hm : m ≤ 600) (nx : ∀ (σ' : St) (v5 v6 : AV) (t : Nat), t ≤ 1 → Iv σ' (m + 1) → am_wp sc am_law 1019 [.inr (.inl 28), .inr (.inl 0), .inr (.inl 1), .inr (.inl 26), .inl z, v5, v6] [] σ' (fun o σ2 t2 => Q o σ2 (t2 + t))) : am_wp sc am_law 952 [.inr (.inl 28), .inr (.inl 0), .inr (.inl 1), .inr (.inl 26), .inl z, v5, v6] [] σ Q := by
  obtain ⟨n, hI, hR, h34, h34'⟩ := hV
  have hR11 := hR.2.2.2.2.2.2.2.2.2.2
  have r42 := hR.2.2.2.2.2.1
  have r43 := hR.2.2.2.2.2.2.2.1
  have i8 := hI.2.2.2.2.2.2.2.1
  have i9 := hI.2.2.2.2.2.2.2.2.1
  have fin : ∀ (σm : St) (v : Int), (∀ k, k ≠ 11 → k ≠ 12 → k ≠ 35 → σm k = σ k) → CI σm n → (0 ≤ sc (z + 1) ∧ sc (z + 1) ≤ 6) → (∀ (c : Int → Int), xK σ (xsrc σ) c → ∀ v' : Int, (sc (z + 1) = 0 → v' = (n : Int)) → (sc (z + 1) = 1 → v' = pu_h c (fun _ => 1)) → (sc (z + 1) = 2 → v' = σ 30 0) → (sc (z + 1) = 3 → v' = pu_h c (fun x => σ 5 x + 2)) → (sc (z + 1) = 4 → v' = σ 32 0) → (sc (z + 1) = 5 → v' = σ 33 0) → (sc (z + 1) = 6 → v' = σ 34 0) → v = v') → am_bk sc 100 4 [.inr (.inl 0), .inl (sc (z + 1)), .inr (.inl 26), .inr (.inr 0)] [.inl 0, .inr (.inl 26)] (am_bk sc am_law 960 [.inr (.inl 28), .inr (.inl 0), .inr (.inl 1), .inr (.inl 26), .inl z, v5, v6] [] Q) (.inl (some v)) σm 0 := by
    intro σm v f1 hIm hw hv
    have hRo : RM σ (am_up σm 26 0 v) n := hR.m (fun k hk => by unfold isM at hk; rw [am_up_n (by omega)]; exact f1 k (by omega) (by omega) (by omega))
    refine am_bi (b_100_7 _ _ _ _ rfl (b_100_15 _ _ (am_bi (b_law_963 z v5 v6 _ ⟨by omega, by omega⟩ ⟨by omega, by omega⟩ (m_count hI hRo (fun h2 => absurd hw h2) (fun _ α' f2 h40 K v' e0 e1 e2 e3 e4 e5 e6 => am_bi (lz_16 h40 (fun _ => by rw [f2 26 (by decide) (by decide)]; exact hv _ K v' e0 e1 e2 e3 e4 e5 e6) (fun _ _ => nx _ _ _ 0 (by omega) (Iv.wrk hR h34 h34' f1 hIm f2 K.1)))))))))
  refine b_law_952 z v5 v6 ⟨by omega, by omega⟩ ⟨by omega, by omega⟩ (b_100_0 _ _ (x_count hI (fun h1 => am_bh rfl rfl (b_100_12 _ _ (am_bj (b_law_963 z v5 v6 _ ⟨by omega, by omega⟩ ⟨by omega, by omega⟩ (m_count hI hR (fun _ => am_bi (lz_16 rfl (fun h9 => absurd h9 (by decide)) (fun _ _ => nx _ _ _ 1 (by omega) (Iv.flt hI hR h34 h34')))) (fun h2 => absurd h2 h1)))))) (fun h => fin σ _ (fun _ _ _ _ => rfl) hI (by omega) (fun c K v' e0 e1 e2 e3 e4 e5 e6 => (e0 h).symm)) (fun h σm f1 hIm K0 => fin σm _ f1 hIm (by omega) (fun c K v' e0 e1 e2 e3 e4 e5 e6 => by rw [e1 h]; exact K0.cong K)) (fun h => fin σ _ (fun _ _ _ _ => rfl) hI (by omega) (fun c K v' e0 e1 e2 e3 e4 e5 e6 => (e2 h).symm)) (fun h σm f1 hIm K0 => fin σm _ f1 hIm (by omega) (fun c K v' e0 e1 e2 e3 e4 e5 e6 => by rw [e3 h]; exact K0.cong K)) (fun h => fin σ _ (fun _ _ _ _ => rfl) hI (by omega) (fun c K v' e0 e1 e2 e3 e4 e5 e6 => (e4 h).symm)) (fun h => fin σ _ (fun _ _ _ _ => rfl) hI (by omega) (fun c K v' e0 e1 e2 e3 e4 e5 e6 => (e5 h).symm)) (fun h => fin σ _ (fun _ _ _ _ => rfl) hI (by omega) (fun c K v' e0 e1 e2 e3 e4 e5 e6 => (e6 h).symm))))
theorem lc_11 (hz : 0 ≤ z) (hz2 : z + 5 ≤ sc (-1)) (hL : sc (-1) ≤ 2560) (hV : Iv σ m) (hm : m ≤ 600) (nx : ∀ (σ' : St) (v5 v6 : AV) (t : Nat), t ≤ 1 → Iv σ' (m + 1) → am_wp sc am_law 1019 [.inr (.inl 28), .inr (.inl 0), .inr (.inl 1), .inr (.inl 26), .inl z, v5, v6] [] σ' (fun o σ2 t2 => Q o σ2 (t2 + t))) : am_wp sc am_law 691 [.inr (.inl 28), .inr (.inl 0), .inr (.inl 1), .inr (.inl 26), .inl z, v5, v6] [] σ Q := by
  obtain ⟨n, hI, hR, h34, h34'⟩ := hV
  have hR11 := hR.2.2.2.2.2.2.2.2.2.2
  have r42 := hR.2.2.2.2.2.1
  have r43 := hR.2.2.2.2.2.2.2.1
  have i8 := hI.2.2.2.2.2.2.2.1
  have i9 := hI.2.2.2.2.2.2.2.2.1
  refine b_law_691 z v5 v6 (x_collect hI ⟨by omega, by omega⟩ (fun c1 c2 σ1 hX => am_bi (b_law_695 z v5 v6 _ (b_61_0 ?_))))
  have x3 := hX.2.2.1
  have fm : ∀ k, isM k → σ1 k = σ k := fun k hk => by unfold isM at hk; exact x3 k (by omega) (by omega) (by omega) (by omega) (by omega) (by omega) (by omega) (by omega) (by omega) (by omega) (by omega) (by omega) (by omega) (by omega) (by omega)
  have hR1 : RM σ σ1 n := hR.m fm
  have hR2 : RM σ (am_up σ1 40 0 0) n := hR1.scr (fun k _ _ _ d => am_up_n d) hR1.2.2.2.2.2.2.2.2.2.2
  refine m_collectAll hI hR2 (by rw [hR2.2.2.2.2.2.2.2.2.2.1]; exact ⟨by omega, by omega⟩) (fun e1 e2 d α' hM => am_bi (b_61_9 _ (am_bi (b_law_699 z v5 v6 _ _ (fun _ => nx _ _ _ 0 (by omega) ?_) (fun h9 => absurd ?_ h9)))))
  · have hJ := RM_col hI hR2 hX hM
    refine Iv.mk hX.2.2.2.2.2.2.2.2.2 hJ (fun k hk _ => ?_) (by rw [hX.2.2.2.2.2.2.1]; omega) (by rw [hX.2.2.2.2.2.2.1]; omega)
    unfold isC at hk
    rw [hM.2.2.2.1 k (by omega) (by omega) (by omega) (by omega) (by omega) (by omega) (by omega) (by omega) (by omega) (by omega) (by omega), am_up_n (by omega)]
  · rw [hX.w, hX.2.1.cong hM.2.1]
theorem lc_6 (hz : 0 ≤ z) (hz2 : z + 5 ≤ sc (-1)) (hL : sc (-1) ≤ 2560) (hV : Iv σ m) (hm : m ≤ 600) (nx : ∀ (σ' : St) (v5 v6 : AV) (t : Nat), t ≤ 1 → Iv σ' (m + 1) → am_wp sc am_law 1019 [.inr (.inl 28), .inr (.inl 0), .inr (.inl 1), .inr (.inl 26), .inl z, v5, v6] [] σ' (fun o σ2 t2 => Q o σ2 (t2 + t))) : am_wp sc am_law 520 [.inr (.inl 28), .inr (.inl 0), .inr (.inl 1), .inr (.inl 26), .inl z, v5, v6] [] σ Q := by
  obtain ⟨n, hI, hR, h34, h34'⟩ := hV
  have hR11 := hR.2.2.2.2.2.2.2.2.2.2
  have r42 := hR.2.2.2.2.2.1
  have r43 := hR.2.2.2.2.2.2.2.1
  have i8 := hI.2.2.2.2.2.2.2.1
  have i9 := hI.2.2.2.2.2.2.2.2.1
  have r7 := hR.2.2.2.2.2.2.1
  refine b_law_520 z v5 v6 (x_pop i8 (fun h1 => am_bi (b_law_524 z v5 v6 _ (m_pop (show 0 ≤ σ 42 0 ∧ σ 42 0 ≤ 10 by omega) (fun h2 => am_bi (b_law_528 z v5 v6 _ _ (fun _ => nx _ _ _ 0 (by omega) ?_) (fun h9 => absurd ?_ h9))) (fun h2 => absurd (show σ 42 0 = 0 from h2) (by omega))))) (fun h1 => am_bi (b_law_524 z v5 v6 _ (m_pop (show 0 ≤ σ 42 0 ∧ σ 42 0 ≤ 10 by omega) (fun h2 => absurd (show σ 42 0 = 0 by omega) h2) (fun h2 => am_bi (b_law_528 z v5 v6 _ _ (fun _ => nx _ _ _ 0 (by omega) ?_) (fun h9 => absurd rfl h9)))))))
  · refine Iv.mk (γ := am_up σ 32 0 (σ 32 0 - 1)) (CI_rq hI (fun k _ _ a _ _ _ => am_up_n a) (fun x => Or.inl rfl) (show 0 ≤ σ 32 0 - 1 ∧ σ 32 0 - 1 ≤ 10 by omega) i9 (fun x hx => ?_) hI.2.2.2.2.2.2.2.2.2.2.1) (RM_rq hR (fun k _ _ a _ _ _ => am_up_n a) (fun k _ _ a _ _ b hk => ?_) (fun x hx => (hR.2.2.2.1 x hx).2.2) (show σ 42 0 - 1 = σ 32 0 - 1 by omega) (fun i a b => r7 i a (by have b : i < σ 32 0 - 1 := b; omega)) r43 hR.2.2.2.2.2.2.2.2.1) (fun k hk _ => ?_) h34 (show σ 34 0 ≤ m + 1 by omega)
    · refine hI.2.2.2.2.2.2.2.2.2.1 x ?_
      rcases hx with ⟨i, a, b, c⟩ | q
      · exact Or.inl ⟨i, a, by have b : i < σ 32 0 - 1 := b; omega, c⟩
      · exact Or.inr q
    · unfold isM at hk
      rw [am_up_n a, am_up_n a, am_up_n b, am_up_n (by omega)]
    · unfold isC at hk
      rw [am_up_n (by omega), am_up_n (by omega), am_up_n (by omega)]
  · show σ 9 (σ 32 0 - 1) = σ 21 (σ 42 0 - 1)
    rw [r42]; exact (r7 _ (by omega) (by omega)).symm
  · refine Iv.same hI hR (fun _ _ _ _ _ _ => rfl) (fun k hk _ => by unfold isC at hk; rw [am_up_n (by omega), am_up_n (by omega), am_up_n (by omega)]) (fun k hk _ _ _ h4 => ?_) hR11 h34 (by omega)
    unfold isM at hk
    by_cases h42 : k = 42
    · subst h42
      funext j
      by_cases hj : j = 0
      · subst hj; show (0 : Int) = σ 42 0; omega
      · rw [am_up_k, am_u1_n hj, am_up_k, am_u1_n hj]; rfl
    · rw [am_up_n h42, am_up_n h42, am_up_n h4]
end LD
