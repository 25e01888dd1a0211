section LH
variable {sc : Int → Int} {σ : St} {Q : Ou → St → Nat → Prop} {z m : Int} {v5 v6 : AV}
theorem xLF.uniq {γ : St} {h h' : Int} (a : xLF γ h) (b : xLF γ h') : h = h' := by
  rcases Int.lt_trichotomy h h' with q | q | q
  · exact absurd a.2.2.1 (b.2.2.2 h a.1 q)
  · exact q
  · exact absurd b.2.2.1 (a.2.2.2 h' b.1 q)
theorem xPut_m {γ : St} {h w : Int} {k : Nat} (hk : isM k ∨ k = 26) : xPut γ h w k = γ k := by
  unfold isM at hk
  exact xPut_o (by omega) (by omega) (by omega) (by omega) (by omega) (by omega) (by omega) (by omega)
theorem lc_0 (hz : 0 ≤ z) (hz2 : z + 5 ≤ sc (-1)) (hL : sc (-1) ≤ 2560) (hV : Iv σ m) (hm : m ≤ 600) (nx : ∀ (σ' : St) (v5 v6 : AV) (t : Nat), t ≤ 1 → Iv σ' (m + 1) → am_wp sc am_law 1019 [.inr (.inl 28), .inr (.inl 0), .inr (.inl 1), .inr (.inl 26), .inl z, v5, v6] [] σ' (fun o σ2 t2 => Q o σ2 (t2 + t))) : am_wp sc am_law 124 [.inr (.inl 28), .inr (.inl 0), .inr (.inl 1), .inr (.inl 26), .inl z, v5, v6] [] σ Q := by
  obtain ⟨n, hI, hR, h34, h34'⟩ := hV
  have hR11 := hR.2.2.2.2.2.2.2.2.2.2
  have r42 := hR.2.2.2.2.2.1
  have r43 := hR.2.2.2.2.2.2.2.1
  have i8 := hI.2.2.2.2.2.2.2.1
  have i9 := hI.2.2.2.2.2.2.2.2.1
  have i8' := i8
  have h44 : ∀ (γ α : St), RM γ α n → γ 34 0 = σ 34 0 → am_R (α 44 0 + 1) := fun γ α hA e => by rw [hA.2.2.2.2.2.2.2.2.2.1, e]; exact ⟨by omega, by omega⟩
  refine b_law_124 z v5 v6 ⟨by omega, by omega⟩ ⟨by omega, by omega⟩ (b_88_0 _ _ (x_alloc hI ⟨by omega, by omega⟩ (fun h1 => am_bh rfl rfl (b_88_12 _ _ (am_bj (b_law_135 z v5 v6 _ ⟨by omega, by omega⟩ ⟨by omega, by omega⟩ ?_)))) (fun h1 h2 => am_bh rfl rfl (b_88_15 _ _ (am_bj (b_law_135 z v5 v6 _ ⟨by omega, by omega⟩ ⟨by omega, by omega⟩ ?_)))) (fun h1 h2 h3 h hLF => am_bi (b_88_7 _ _ _ _ rfl (b_88_21 _ _ (am_bi (b_law_135 z v5 v6 _ ⟨by omega, by omega⟩ ⟨by omega, by omega⟩ ?_))))) (fun h1 h2 h3 c σm f1 hIm K hw => am_bh rfl rfl (b_88_18 _ _ (am_bj (b_law_135 z v5 v6 _ ⟨by omega, by omega⟩ ⟨by omega, by omega⟩ ?_)))) (fun h1 h2 h3 c c1 c2 σm σ1 f1 hIm K hw hX hn' hw' h hLF => am_bi (b_88_7 _ _ _ _ rfl (b_88_21 _ _ (am_bi (b_law_135 z v5 v6 _ ⟨by omega, by omega⟩ ⟨by omega, by omega⟩ ?_)))))))
  · exact m_alloc hI hR (h44 σ σ hR rfl) (fun _ => am_bi (lz_0 rfl (fun h9 => absurd h9 (by decide)) (fun _ _ => nx _ _ _ 1 (by omega) (Iv.flt hI hR h34 h34')))) (fun h4 => absurd h4 h1) (fun h4 => absurd h4 h1) (fun h4 => absurd h4 h1) (fun h4 => absurd h4 h1)
  · exact m_alloc hI hR (h44 σ σ hR rfl) (fun h4 => absurd h1 h4) (fun _ _ => am_bi (lz_0 rfl (fun h9 => absurd h9 (by decide)) (fun _ _ => nx _ _ _ 1 (by omega) (Iv.flt hI hR h34 h34')))) (fun _ h4 => absurd h4 h2) (fun _ h4 => absurd h4 h2) (fun _ h4 => absurd h4 h2)
  · have hR1 : RM σ (am_up (xPut σ h (sc (z + 1))) 26 0 h) n := hR.m (fun k hk => by rw [am_up_n (by unfold isM at hk; omega)]; exact xPut_m (Or.inl hk))
    refine m_alloc hI hR1 (h44 _ _ hR1 rfl) (fun h4 => absurd h1 h4) (fun _ h4 => absurd h2 h4) (fun _ _ _ z2 v3 v4 => ?_) (fun _ _ h4 => absurd h3 h4) (fun _ _ h4 => absurd h3 h4)
    have hR2 : RM σ (am_up (am_up (xPut σ h (sc (z + 1))) 26 0 h) 40 0 0) n := hR1.scr (fun k _ _ _ d => am_up_n d) hR1.2.2.2.2.2.2.2.2.2.2
    refine m_put hI hR2 h1 h3.1 h3.2 h2 (fun h' α' hLF' hR3 f3 => am_bi (lz_0 (by rw [f3 40 (Or.inr rfl)]; rfl) (fun _ => by rw [f3 26 (Or.inl (by unfold isM; omega))]; exact hLF.uniq hLF') (fun _ _ => nx _ _ _ 0 (by omega) ?_)))
    rw [← hLF.uniq hLF'] at hR3
    refine Iv.mk (CI_put hI hLF.1 hLF.2.1 hLF.2.2.1 h1 h3.2 h2) hR3 (fun k hk _ => ?_) h34 (show σ 34 0 ≤ m + 1 by omega)
    unfold isC at hk
    rw [f3 k (Or.inl (by unfold isM; omega)), am_up_n (by omega), am_up_n (by omega)]
  · have hRm : RM σm σm n := (hR.m (fun k hk => by unfold isM at hk; exact f1 k (by omega) (by omega) (by omega))).c (fun k _ a b _ d => f1 k a b d)
    have e30 : σm 30 = σ 30 := f1 30 (by decide) (by decide) (by decide)
    have e32 : σm 32 = σ 32 := f1 32 (by decide) (by decide) (by decide)
    have e5 : σm 5 = σ 5 := f1 5 (by decide) (by decide) (by decide)
    refine m_alloc hIm hRm (h44 σm σm hRm (by rw [f1 34 (by decide) (by decide) (by decide)])) (fun h4 => absurd h1 h4) (fun _ h4 => absurd (by rw [e32]; exact h2) h4) (fun _ _ h4 => absurd (by rw [e30] at h4; exact h4) h3) (fun _ _ _ α' f2 h40 Kq _ => am_bi (lz_0 h40 (fun h9 => absurd h9 (by decide)) (fun _ _ => nx _ _ _ 1 (by omega) ?_))) (fun _ _ _ α1 _ _ K1 hw1 => absurd ?_ hw)
    · have K1 := Kq
      exact Iv.same hIm hR (fun k a b c _ _ => f1 k a b c) (fun k hk _ => by unfold isC at hk; exact f2 k (by omega) (by omega) (by omega)) (fun k hk a b _ d => by unfold isM at hk; rw [f2 k a b d]; exact f1 k (by omega) (by omega) (by omega)) K1.1 h34 (by omega)
    · rw [e5] at hw1
      rw [K.cong K1, K.cong (g := fun x => σ 5 x + 2) K1]; exact hw1
  · have hRm : RM σm σm n := (hR.m (fun k hk => by unfold isM at hk; exact f1 k (by omega) (by omega) (by omega))).c (fun k _ a b _ d => f1 k a b d)
    have x3 := hX.2.2.1
    have fx : ∀ k, isM k → σ1 k = σm k := fun k hk => by unfold isM at hk; exact x3 k (by omega) (by omega) (by omega) (by omega) (by omega) (by omega) (by omega) (by omega) (by omega) (by omega) (by omega) (by omega) (by omega) (by omega) (by omega)
    have hR1 : RM σm (am_up (xPut σ1 h (sc (z + 1))) 26 0 h) n := hRm.m (fun k hk => by rw [am_up_n (by unfold isM at hk; omega), xPut_m (Or.inl hk)]; exact fx k hk)
    have e30 : σm 30 = σ 30 := f1 30 (by decide) (by decide) (by decide)
    have e32 : σm 32 = σ 32 := f1 32 (by decide) (by decide) (by decide)
    have e5 : σm 5 = σ 5 := f1 5 (by decide) (by decide) (by decide)
    have e34 : σm 34 = σ 34 := f1 34 (by decide) (by decide) (by decide)
    have s32 : σ1 32 = σm 32 := x3 32 (by decide) (by decide) (by decide) (by decide) (by decide) (by decide) (by decide) (by decide) (by decide) (by decide) (by decide) (by decide) (by decide) (by decide) (by decide)
    refine m_alloc hIm hR1 (h44 _ _ hR1 (by rw [e34])) (fun h4 => absurd h1 h4) (fun _ h4 => absurd (by rw [e32]; exact h2) h4) (fun _ _ h4 => absurd (by rw [e30] at h4; exact h4) h3) (fun _ _ _ α1 _ _ K1 hw1 => absurd ?_ hw1) (fun _ _ _ α1 f2 h40 K1 hw1 e1 e2 d α2 hM z2 v3 v4 => ?_)
    · rw [e5, ← K.cong K1, ← K.cong (g := fun x => σ 5 x + 2) K1]; exact hw
    · have hR1' : RM σm α1 n := hR1.scr (fun k a b _ d => f2 k a b d) K1.1
      have hJ := RM_col hIm hR1' hX hM
      have hI1 := hX.2.2.2.2.2.2.2.2.2
      have m4 := hM.2.2.2.1
      have g1 : ∀ k, ¬ isM k ∨ k = 40 → α2 k = α1 k := fun k hk => by unfold isM at hk; exact m4 k (by omega) (by omega) (by omega) (by omega) (by omega) (by omega) (by omega) (by omega) (by omega) (by omega) (by omega)
      refine m_put hI1 hJ h1 hn' hw' (by rw [s32, e32]; exact h2) (fun h' α' hLF' hR3 f3 => am_bi (lz_0 (by rw [f3 40 (Or.inr rfl), g1 40 (Or.inr rfl)]; exact h40) (fun _ => ?_) (fun _ _ => nx _ _ _ 0 (by omega) ?_)))
      · rw [f3 26 (Or.inl (by unfold isM; omega)), g1 26 (Or.inl (by unfold isM; omega)), f2 26 (by decide) (by decide) (by decide)]; exact hLF.uniq hLF'
      · rw [← hLF.uniq hLF'] at hR3
        have c34 : σ1 34 0 = σ 34 0 + 1 := by rw [hX.2.2.2.2.2.2.1, e34]
        refine Iv.mk (CI_put hI1 hLF.1 hLF.2.1 hLF.2.2.1 h1 hw' (by rw [s32, e32]; exact h2)) hR3 (fun k hk _ => ?_) (show 0 ≤ σ1 34 0 by omega) (show σ1 34 0 ≤ m + 1 by omega)
        unfold isC at hk
        rw [f3 k (Or.inl (by unfold isM; omega)), g1 k (Or.inl (by unfold isM; omega)), f2 k (by omega) (by omega) (by omega), am_up_n (by omega)]
theorem lc_all (hz : 0 ≤ z) (hz2 : z + 5 ≤ sc (-1)) (hL : sc (-1) ≤ 2560) (hV : Iv σ m) (hm : m ≤ 600) (nx : ∀ (σ' : St) (v5 v6 : AV) (t : Nat), t ≤ 1 → Iv σ' (m + 1) → am_wp sc am_law 1019 [.inr (.inl 28), .inr (.inl 0), .inr (.inl 1), .inr (.inl 26), .inl z, v5, v6] [] σ' (fun o σ2 t2 => Q o σ2 (t2 + t))) : am_wp sc am_law 32 [.inr (.inl 28), .inr (.inl 0), .inr (.inl 1), .inr (.inl 26), .inl z, v5, v6] [] σ Q := by
  have hb : 0 ≤ z ∧ z < sc (-1) := ⟨hz, by omega⟩
  by_cases c0 : sc z % 32 = 0
  · exact b_law_32_c0 z v5 v6 hb c0 (lc_0 hz hz2 hL hV hm nx)
  by_cases c1 : sc z % 32 = 1
  · exact b_law_32_c1 z v5 v6 hb c1 (lc_1 hz hz2 hL hV hm nx)
  by_cases c2 : sc z % 32 = 2
  · exact b_law_32_c2 z v5 v6 hb c2 (lc_2 hz hz2 hL hV hm nx)
  by_cases c3 : sc z % 32 = 3
  · exact b_law_32_c3 z v5 v6 hb c3 (lc_3 hz hz2 hL hV hm nx)
  by_cases c4 : sc z % 32 = 4
  · exact b_law_32_c4 z v5 v6 hb c4 (lc_4 hz hz2 hL hV hm nx)
  by_cases c5 : sc z % 32 = 5
  · exact b_law_32_c5 z v5 v6 hb c5 (lc_5 hz hz2 hL hV hm nx)
  by_cases c6 : sc z % 32 = 6
  · exact b_law_32_c6 z v5 v6 hb c6 (lc_6 hz hz2 hL hV hm nx)
  by_cases c7 : sc z % 32 = 7
  · exact b_law_32_c7 z v5 v6 hb c7 (lc_7 hz hz2 hL hV hm nx)
  by_cases c8 : sc z % 32 = 8
  · exact b_law_32_c8 z v5 v6 hb c8 (lc_8 hz hz2 hL hV hm nx)
  by_cases c9 : sc z % 32 = 9
  · exact b_law_32_c9 z v5 v6 hb c9 (lc_9 hz hz2 hL hV hm nx)
  by_cases c10 : sc z % 32 = 10
  · exact b_law_32_c10 z v5 v6 hb c10 (lc_10 hz hz2 hL hV hm nx)
  by_cases c11 : sc z % 32 = 11
  · exact b_law_32_c11 z v5 v6 hb c11 (lc_11 hz hz2 hL hV hm nx)
  by_cases c12 : sc z % 32 = 12
  · exact b_law_32_c12 z v5 v6 hb c12 (lc_12 hz hz2 hL hV hm nx)
  by_cases c13 : sc z % 32 = 13
  · exact b_law_32_c13 z v5 v6 hb c13 (lc_13 hz hz2 hL hV hm nx)
  by_cases c14 : sc z % 32 = 14
  · exact b_law_32_c14 z v5 v6 hb c14 (lc_14 hz hz2 hL hV hm nx)
  by_cases c15 : sc z % 32 = 15
  · exact b_law_32_c15 z v5 v6 hb c15 (lc_15 hz hz2 hL hV hm nx)
  by_cases c16 : sc z % 32 = 16
  · exact b_law_32_c16 z v5 v6 hb c16 (lc_16 hz hz2 hL hV hm nx)
  by_cases c17 : sc z % 32 = 17
  · exact b_law_32_c17 z v5 v6 hb c17 (lc_17 hz hz2 hL hV hm nx)
  · refine b_law_32_d z v5 v6 hb (by omega) (nx σ v5 v6 0 (by omega) ?_)
    obtain ⟨n, a, b, c, d⟩ := hV
    exact ⟨n, a, b, c, by omega⟩
theorem ll_all (hL : sc (-1) ≤ 2560) (hr : am_R (sc (-1) - 5)) : ∀ (c : Nat) (z m : Int) (σ : St) (v5 v6 : AV) (Q : Ou → St → Nat → Prop), 0 ≤ z → sc (-1) ≤ z + 5 * c + 4 → Iv σ m → m + c ≤ 600 → (∀ (σ' : St) (t : Nat), t ≤ c → Q (.inl (some 1)) σ' t) → am_wp sc am_law 23 [.inr (.inl 28), .inr (.inl 0), .inr (.inl 1), .inr (.inl 26), .inl z, v5, v6] [] σ Q := by
  intro c
  induction c with
  | zero =>
    intro z m σ v5 v6 Q hz hc hV hm hQ
    exact b_law_23 z v5 v6 hr (fun _ => b_law_1025 z v5 v6 (hQ σ 0 (Nat.le_refl 0))) (fun h9 => absurd (by omega) h9)
  | succ c ih =>
    intro z m σ v5 v6 Q hz hc hV hm hQ
    refine b_law_23 z v5 v6 hr (fun _ => b_law_1025 z v5 v6 (hQ σ 0 (Nat.zero_le _))) (fun h1 => ?_)
    refine lc_all hz (by omega) hL hV (by omega) (fun σ' v5 v6 t ht hV' => b_law_1019 z v5 v6 ⟨by omega, by omega⟩ (ih (z + 5) (m + 1) σ' v5 v6 _ (by omega) (by omega) hV' (by omega) (fun σ2 t2 ht2 => hQ σ2 (t2 + t) (by omega))))
end LH
theorem st_pure_holds : st_pure := by
  intro sc L hL hR h1
  refine b_law_20 _ _ _ ?_
  have h2 := hR (-1)
  exact ll_all (by omega) ⟨by omega, by omega⟩ 512 0 0 am_st0 _ _ _ (by omega) (by omega) Iv_0 (by omega) (fun σ' t ht => ⟨rfl, by omega⟩)
theorem i_vc : Claimed_1_1 ∧ Claimed_1_2 := i_vc_open st_pure_holds
