/-! the class: far and way -/
def nb (D : Int → Int) (S : Int → Prop) (b : Int) : Prop := (b = -1 ∧ ∀ x, S x → D x = -1) ∨ (1 ≤ b ∧ b ≤ 14 ∧ S b ∧ D b ≠ -1 ∧ ∀ x, S x → D x = -1 ∨ D b < D x ∨ (D b = D x ∧ b ≤ x))
theorem nb.congr {D : Int → Int} {S S' : Int → Prop} {b : Int} (h : nb D S b) (hs : ∀ x, S x ↔ S' x) : nb D S' b := by
  rcases h with ⟨p, q⟩ | ⟨p, q, r, s, t⟩
  · exact Or.inl ⟨p, fun x hx => q x ((hs x).mpr hx)⟩
  · exact Or.inr ⟨p, q, (hs b).mp r, s, fun x hx => t x ((hs x).mpr hx)⟩
section XY
variable {sc : Int → Int} {Q : Ou → St → Nat → Prop} {σ γ : St} {n : Nat} {e : Int}
theorem x_nearer {b h : Int} {S : Int → Prop} (hb : nb (σ 13) S b) (h1 : 1 ≤ h) (h2 : h ≤ 14) (k : ∀ b' : Int, nb (σ 13) (fun x => S x ∨ x = h) b' → Q (.inl (some b')) σ 0) : am_wp sc 46 0 [.inr (.inl 0), .inl b, .inl h] [] σ Q := by
  refine b_46_0 _ _ ⟨by omega, by omega⟩ (fun q => ?_) (fun q => b_46_10 _ _ (k b ?_))
  · refine b_46_12 _ _ (fun w => b_46_32 _ _ (k h ?_)) (fun w => ?_)
    · rcases hb with ⟨p1, p2⟩ | ⟨p1, -⟩
      · refine Or.inr ⟨h1, h2, Or.inr rfl, q, fun x hx => ?_⟩
        rcases hx with hx | hx
        · exact Or.inl (p2 x hx)
        · rw [hx]; exact Or.inr (Or.inr ⟨rfl, Int.le_refl h⟩)
      · omega
    · obtain ⟨p1, p2, p3, p4, p5⟩ : 1 ≤ b ∧ b ≤ 14 ∧ S b ∧ σ 13 b ≠ -1 ∧ ∀ x, S x → σ 13 x = -1 ∨ σ 13 b < σ 13 x ∨ (σ 13 b = σ 13 x ∧ b ≤ x) := by
        rcases hb with ⟨p, -⟩ | p
        · exact absurd p w
        · exact p
      refine b_46_17 _ _ ⟨by omega, by omega⟩ ⟨by omega, by omega⟩ (fun u => ?_) (fun u => b_46_32 _ _ (k h ?_))
      · refine b_46_34 _ _ ⟨by omega, by omega⟩ ⟨by omega, by omega⟩ (fun y => b_46_57 _ _ (b_46_58 _ _ _ (k b ?_))) (fun y => b_46_49 _ _ (b_46_58 _ _ _ (k _ ?_)))
        · refine Or.inr ⟨p1, p2, Or.inl p3, p4, fun x hx => ?_⟩
          rcases hx with hx | hx
          · exact p5 x hx
          · rw [hx]; exact Or.inr (Or.inl (by omega))
        · by_cases hl : h < b
          · rw [if_pos hl]
            refine Or.inr ⟨h1, h2, Or.inr rfl, q, fun x hx => ?_⟩
            rcases hx with hx | hx
            · rcases p5 x hx with z | z | z
              · exact Or.inl z
              · exact Or.inr (Or.inl (by omega))
              · exact Or.inr (Or.inr ⟨by omega, by omega⟩)
            · rw [hx]; exact Or.inr (Or.inr ⟨rfl, Int.le_refl h⟩)
          · rw [if_neg hl]
            refine Or.inr ⟨p1, p2, Or.inl p3, p4, fun x hx => ?_⟩
            rcases hx with hx | hx
            · exact p5 x hx
            · rw [hx]; exact Or.inr (Or.inr ⟨by omega, by omega⟩)
      · refine Or.inr ⟨h1, h2, Or.inr rfl, q, fun x hx => ?_⟩
        rcases hx with hx | hx
        · rcases p5 x hx with z | z | z
          · exact Or.inl z
          · exact Or.inr (Or.inl (by omega))
          · exact Or.inr (Or.inl (by omega))
        · rw [hx]; exact Or.inr (Or.inr ⟨rfl, Int.le_refl h⟩)
  · have q : σ 13 h = -1 := by omega
    rcases hb with ⟨p1, p2⟩ | ⟨p1, p2, p3, p4, p5⟩
    · exact Or.inl ⟨p1, fun x hx => hx.elim (p2 x) (fun z => by rw [z]; exact q)⟩
    · exact Or.inr ⟨p1, p2, Or.inl p3, p4, fun x hx => hx.elim (p5 x) (fun z => by rw [z]; exact Or.inl q)⟩
theorem x_nearest {v1 v2 : AV} (hI : CI γ n) (hf : ∀ k, k ≠ 13 → σ k = γ k) (hD : dC γ e (σ 13)) (kn : xNo γ e → Q (.inl (some (-1))) σ 0) (kb : ∀ (b : Int) (d : Nat), xBe γ e b d → σ 13 b = (d : Int) → Q (.inl (some b)) σ 0) : am_wp sc 45 0 [.inr (.inl 0), v1, v2] [] σ Q := by
  have h32 := hI.2.2.2.2.2.2.2.1
  have h33 := hI.2.2.2.2.2.2.2.2.1
  have hso := hI.2.2.2.2.2.2.2.2.2.1
  have e32 := hf 32 (by decide); have e33 := hf 33 (by decide); have e9 := hf 9 (by decide); have e10 := hf 10 (by decide)
  have fin : ∀ b z : Int, nb (σ 13) (xsrc γ) b → am_wp sc 45 58 [.inr (.inl 0), .inl b, .inl z] [] σ Q := by
    intro b z hb
    refine b_45_58 _ _ ?_
    rcases hb with ⟨p1, p2⟩ | ⟨p1, p2, p3, p4, p5⟩
    · rw [p1]
      refine kn (fun x hx => ?_)
      have ho := hso x hx
      rcases hD.2 x ho.1 ho.2.1 with w | ⟨d, -, w, -⟩
      · exact w.2
      · have := p2 x hx; omega
    · rcases hD.2 b p1 p2 with w | ⟨d, -, w, u⟩
      · exact absurd w.1 p4
      · refine kb b d ⟨p3, u, fun x hx d' hd' => ?_⟩ w
        have ho := hso x hx
        rcases hD.2 x ho.1 ho.2.1 with w' | ⟨d2, -, w', u'⟩
        · exact absurd hd'.1 (w'.2 d')
        · have := u'.uniq hd'
          rcases p5 x hx with z | z | z
          · omega
          · exact Or.inl (by omega)
          · exact Or.inr ⟨by omega, z.2⟩
  have l2 : ∀ (d : Nat) (z b : Int), 0 ≤ z → z + d = γ 33 0 → nb (σ 13) (fun x => (∃ i : Int, 0 ≤ i ∧ i < γ 32 0 ∧ γ 9 i = x) ∨ ∃ i : Int, 0 ≤ i ∧ i < z ∧ γ 10 i = x) b → am_wp sc 45 32 [.inr (.inl 0), .inl b, .inl z] [] σ Q := by
    intro d
    induction d with
    | zero =>
      intro z b hz hd hb
      refine b_45_32 _ _ (fun _ => fin b z (hb.congr (fun x => ?_))) (fun h9 => absurd (by rw [e33]; omega) h9)
      unfold xsrc
      rw [show z = γ 33 0 by omega]
    | succ d ih =>
      intro z b hz hd hb
      have ho := hso (γ 10 z) (Or.inr ⟨z, hz, by omega, rfl⟩)
      refine b_45_32 _ _ (fun h9 => absurd h9 (by rw [e33]; omega)) (fun _ => b_45_40 _ _ ⟨by omega, by omega⟩ ?_)
      rw [e10]
      refine x_nearer hb ho.1 ho.2.1 (fun b' hb' => am_bi (b_45_51 _ _ _ ⟨by omega, by omega⟩ (ih (z + 1) b' (by omega) (by omega) (hb'.congr (fun x => ?_)))))
      constructor
      · rintro ((q | ⟨i, a, b, c⟩) | q)
        · exact Or.inl q
        · exact Or.inr ⟨i, a, by omega, c⟩
        · exact Or.inr ⟨z, hz, by omega, q.symm⟩
      · rintro (q | ⟨i, a, b, c⟩)
        · exact Or.inl (Or.inl q)
        · by_cases hiz : i = z
          · exact Or.inr (by rw [← c, hiz])
          · exact Or.inl (Or.inr ⟨i, a, by omega, c⟩)
  have l1 : ∀ (d : Nat) (z b : Int), 0 ≤ z → z + d = γ 32 0 → nb (σ 13) (fun x => ∃ i : Int, 0 ≤ i ∧ i < z ∧ γ 9 i = x) b → am_wp sc 45 4 [.inr (.inl 0), .inl b, .inl z] [] σ Q := by
    intro d
    induction d with
    | zero =>
      intro z b hz hd hb
      refine b_45_4 _ _ (fun _ => b_45_30 _ _ (l2 (γ 33 0).toNat 0 b (by omega) (by omega) (hb.congr (fun x => ?_)))) (fun h9 => absurd (by rw [e32]; omega) h9)
      rw [show z = γ 32 0 by omega]
      exact ⟨fun q => Or.inl q, fun q => q.elim id (fun ⟨i, a, b, _⟩ => absurd a (by omega))⟩
    | succ d ih =>
      intro z b hz hd hb
      have ho := hso (γ 9 z) (Or.inl ⟨z, hz, by omega, rfl⟩)
      refine b_45_4 _ _ (fun h9 => absurd h9 (by rw [e32]; omega)) (fun _ => b_45_12 _ _ ⟨by omega, by omega⟩ ?_)
      rw [e9]
      refine x_nearer hb ho.1 ho.2.1 (fun b' hb' => am_bi (b_45_23 _ _ _ ⟨by omega, by omega⟩ (ih (z + 1) b' (by omega) (by omega) (hb'.congr (fun x => ?_)))))
      constructor
      · rintro (⟨i, a, b, c⟩ | q)
        · exact ⟨i, a, by omega, c⟩
        · exact ⟨z, hz, by omega, q.symm⟩
      · rintro ⟨i, a, b, c⟩
        by_cases hiz : i = z
        · exact Or.inr (by rw [← c, hiz])
        · exact Or.inl ⟨i, a, by omega, c⟩
  exact b_45_0 _ _ (l1 (γ 32 0).toNat 0 (-1) (by omega) (by omega) (Or.inl ⟨rfl, fun x ⟨i, a, b, _⟩ => absurd a (by omega)⟩))
theorem x_next {a : Int} {d : Nat} {v2 v3 : AV} (hI : CI γ n) (hf : ∀ k, k ≠ 13 → σ k = γ k) (hD : dC γ e (σ 13)) (ho : xO γ a) (ha : xDi γ e a (d + 1)) (k : ∀ t, xNx γ e a t → xO γ t → xDi γ e t d → Q (.inl (some t)) σ 0) : am_wp sc 47 0 [.inr (.inl 0), .inl a, v2, v3] [] σ Q := by
  have e4 := hf 4 (by decide); have e5 := hf 5 (by decide); have e3 := hf 3 (by decide); have e2 := hf 2 (by decide)
  obtain ⟨g1, g2, g3, g4⟩ := hI.geo a ho
  have a1 := ho.1; have a2 := ho.2.1
  have hDa : σ 13 a = ((d + 1 : Nat) : Int) := by
    rcases hD.2 a a1 a2 with w | ⟨d', -, w, u⟩
    · exact absurd ha.1 (w.2 _)
    · rw [w, u.uniq ha]
  have hd13 := ha.le ho
  have hv : ∀ t, xO γ t → (σ 13 t = (d : Int) ↔ xDi γ e t d) := by
    intro t ht
    rcases hD.2 t ht.1 ht.2.1 with w | ⟨d', -, w, u⟩
    · exact ⟨fun z => by omega, fun z => absurd z.1 (w.2 d)⟩
    · exact ⟨fun z => by rw [show d = d' by omega]; exact u, fun z => by rw [w, u.uniq z]⟩
  have loop : ∀ (c s : Nat), s + c = (γ 5 a).toNat → ∀ m : Int, ((m = -1 ∧ ∀ s' t, s' < (s : Int) → xE γ a s' t → ¬ xDi γ e t d) ∨ ((∃ s', xE γ a s' m) ∧ xDi γ e m d ∧ ∀ s' t, s' < (s : Int) → xE γ a s' t → xDi γ e t d → m ≤ t)) → am_wp sc 47 8 [.inr (.inl 0), .inl a, .inl m, .inl (γ 4 a + 2 + (s : Int))] [] σ Q := by
    intro c
    induction c with
    | zero =>
      intro s hs m hm
      refine b_47_8 _ _ _ (x_endOf ⟨by omega, by omega⟩ (by rw [e5]; exact ⟨by omega, by omega⟩) (by rw [e4, e5]; exact ⟨by omega, by omega⟩) (am_bi ?_))
      rw [e4, e5]
      refine b_47_14 _ _ _ _ _ (fun _ => b_47_80 _ _ _ ?_) (fun h9 => absurd (by omega) h9)
      rcases hm with ⟨-, q⟩ | ⟨q1, q2, q3⟩
      · obtain ⟨s', t, ee, ht⟩ := ha.next
        exact absurd ht (q s' t (by have := ee.2.1; omega) ee)
      · obtain ⟨s', ee⟩ := q1
        exact k m ⟨d, ha, ⟨s', ee⟩, q2, fun t' ⟨s2, e2⟩ ht => q3 s2 t' (by have := e2.2.1; omega) e2 ht⟩ ee.2.2.2.2 q2
    | succ c ih =>
      intro s hs m hm
      refine b_47_8 _ _ _ (x_endOf ⟨by omega, by omega⟩ (by rw [e5]; exact ⟨by omega, by omega⟩) (by rw [e4, e5]; exact ⟨by omega, by omega⟩) (am_bi ?_))
      rw [e4, e5]
      have nx : ∀ m' : Int, ((m' = -1 ∧ ∀ s' t, s' < ((s + 1 : Nat) : Int) → xE γ a s' t → ¬ xDi γ e t d) ∨ ((∃ s', xE γ a s' m') ∧ xDi γ e m' d ∧ ∀ s' t, s' < ((s + 1 : Nat) : Int) → xE γ a s' t → xDi γ e t d → m' ≤ t)) → am_wp sc 47 74 [.inr (.inl 0), .inl a, .inl m', .inl (γ 4 a + 2 + (s : Int))] [] σ Q := by
        intro m' hm'
        refine b_47_74 _ _ _ ⟨by omega, by omega⟩ ?_
        rw [show γ 4 a + 2 + (s : Int) + 1 = γ 4 a + 2 + ((s + 1 : Nat) : Int) by omega]
        exact ih (s + 1) (by omega) m' hm'
      have same : (∀ t, xE γ a s t → ¬ xDi γ e t d) → am_wp sc 47 74 [.inr (.inl 0), .inl a, .inl m, .inl (γ 4 a + 2 + (s : Int))] [] σ Q := by
        intro hh
        refine nx m ?_
        rcases hm with ⟨q1, q2⟩ | ⟨q1, q2, q3⟩
        · refine Or.inl ⟨q1, fun s' t hs' ee => ?_⟩
          by_cases hss : s' = (s : Int)
          · rw [hss] at ee; exact hh t ee
          · exact q2 s' t (by omega) ee
        · refine Or.inr ⟨q1, q2, fun s' t hs' ee ht => ?_⟩
          by_cases hss : s' = (s : Int)
          · rw [hss] at ee; exact absurd ht (hh t ee)
          · exact q3 s' t (by omega) ee ht
      refine b_47_14 _ _ _ _ _ (fun h9 => absurd h9 (by omega)) (fun _ => ?_)
      refine b_47_17 _ _ _ ⟨by omega, by omega⟩ (fun h1 => same (fun t ee => absurd (by rw [e3]; exact ee.2.2.1) h1)) (fun h1 => ?_)
      rw [e3] at h1
      have h1 : γ 3 (γ 4 a + 2 + (s : Int)) = 1 := by omega
      have bd := hI.val ho (s := s) (by omega) (by omega) (by omega)
      refine b_47_27 _ _ _ ⟨by omega, by omega⟩ (by rw [e2]; exact ⟨by omega, by omega⟩) ⟨by omega, by omega⟩ (by rw [hDa]; exact ⟨by omega, by omega⟩) (fun h2 => same (fun t ee ht => ?_)) (fun h2 => ?_)
      · rw [e2, ee.2.2.2.1, hDa] at h2
        exact h2 (by rw [(hv t ee.2.2.2.2).mpr ht]; omega)
      · rw [e2, hDa] at h2
        have h2 : σ 13 (γ 2 (γ 4 a + 2 + (s : Int))) = (d : Int) := by omega
        have hot : xO γ (γ 2 (γ 4 a + 2 + (s : Int))) := by
          rcases hI.2.2.2.2.2.1 a s ho (by omega) (by omega) with z | ⟨-, z | z⟩
          · omega
          · rw [z, hD.1] at h2; omega
          · exact z
        have ee : xE γ a s (γ 2 (γ 4 a + 2 + (s : Int))) := ⟨by omega, by omega, h1, rfl, hot⟩
        have ht := (hv _ hot).mp h2
        refine b_47_49 _ _ _ (fun h3 => b_47_63 _ _ _ ⟨by omega, by omega⟩ (b_47_73 _ _ _ _ (nx _ (Or.inr ?_)))) (fun h3 => b_47_54 _ _ _ ⟨by omega, by omega⟩ (b_47_73 _ _ _ _ (nx _ (Or.inr ?_))))
        · obtain ⟨q1, q2, q3⟩ : (∃ s', xE γ a s' m) ∧ xDi γ e m d ∧ ∀ s' t, s' < (s : Int) → xE γ a s' t → xDi γ e t d → m ≤ t := by
            rcases hm with ⟨q, -⟩ | q
            · exact absurd q h3
            · exact q
          rw [e2]
          by_cases hl : γ 2 (γ 4 a + 2 + (s : Int)) < m
          · rw [if_pos hl]
            refine ⟨⟨s, ee⟩, ht, fun s' t hs' e' ht' => ?_⟩
            by_cases hss : s' = (s : Int)
            · rw [hss] at e'; rw [e'.2.2.2.1]; exact Int.le_refl _
            · have := q3 s' t (by omega) e' ht'; omega
          · rw [if_neg hl]
            refine ⟨q1, q2, fun s' t hs' e' ht' => ?_⟩
            by_cases hss : s' = (s : Int)
            · rw [hss] at e'; rw [e'.2.2.2.1] at hl; omega
            · exact q3 s' t (by omega) e' ht'
        · have q2 : ∀ s' t, s' < (s : Int) → xE γ a s' t → ¬ xDi γ e t d := by
            rcases hm with ⟨-, q⟩ | ⟨⟨s', q⟩, -⟩
            · exact q
            · have := q.2.2.2.2.1; omega
          rw [e2]
          refine ⟨⟨s, ee⟩, ht, fun s' t hs' e' ht' => ?_⟩
          by_cases hss : s' = (s : Int)
          · rw [hss] at e'; rw [e'.2.2.2.1]; exact Int.le_refl _
          · exact absurd ht' (q2 s' t (by omega) e')
  refine b_47_0 _ _ _ (b_21_0 _ ⟨by omega, by omega⟩ (by rw [e4]; exact ⟨by omega, by omega⟩) (am_bi (b_47_7 _ _ _ _ ?_)))
  have h9 := loop (γ 5 a).toNat 0 (by omega) (-1) (Or.inl ⟨rfl, fun s' t hs ee => absurd ee.1 (by omega)⟩)
  rw [show γ 4 a + 2 + ((0 : Nat) : Int) = γ 4 a + 2 by omega] at h9
  rw [e4]; exact h9
theorem x_far {v2 : AV} (hI : CI σ n) (k0 : ¬ xO σ e → Q (.inr 3) σ 1) (kn : xO σ e → xNo σ e → ∀ σ' : St, (∀ k, k ≠ 13 → σ' k = σ k) → Q (.inl (some (-1))) σ' 0) (kb : xO σ e → ∀ (b : Int) (d : Nat), xBe σ e b d → ∀ σ' : St, (∀ k, k ≠ 13 → σ' k = σ k) → Q (.inl (some (d : Int))) σ' 0) : am_wp sc 14 0 [.inr (.inl 0), .inl e, v2] [] σ Q := by
  refine b_14_0 _ _ (x_requireObject (fun q => am_bi (b_14_5 _ _ (x_measure hI q (fun σ1 f1 hD => am_bi (b_14_10 _ _ ?_))))) (fun q => am_bx rfl (k0 q)))
  refine x_nearest hI f1 hD (fun hn => am_bi ?_) (fun b d hb hbd => am_bi ?_)
  · exact b_14_14 _ _ _ (fun h9 => absurd rfl h9) (fun _ => b_14_20 _ _ (b_14_30 _ _ _ (kn q hn σ1 f1)))
  · have ho := hI.2.2.2.2.2.2.2.2.2.1 b hb.1
    have := ho.1; have := ho.2.1
    refine b_14_14 _ _ _ (fun _ => b_14_24 _ _ ⟨by omega, by omega⟩ (b_14_30 _ _ _ ?_)) (fun h9 => absurd (by omega) h9)
    rw [hbd]; exact kb q b d hb σ1 f1
theorem x_way {kk : Int} {v3 v4 : AV} (hI : CI σ n) (k0 : ¬ xO σ e → Q (.inr 3) σ 1) (kn : xO σ e → (xNo σ e ∨ ∃ b d, xBe σ e b d ∧ ¬ (0 ≤ kk ∧ kk ≤ (d : Int))) → ∀ σ' : St, (∀ k, k ≠ 13 → σ' k = σ k) → Q (.inl (some (-1))) σ' 0)
    (kb : xO σ e → ∀ (b : Int) (d : Nat), xBe σ e b d → 0 ≤ kk → kk ≤ (d : Int) → ∀ v, xWy σ e kk.toNat b v → ∀ σ' : St, (∀ k, k ≠ 13 → σ' k = σ k) → Q (.inl (some v)) σ' 0) : am_wp sc 15 0 [.inr (.inl 0), .inl e, .inl kk, v3, v4] [] σ Q := by
  refine b_15_0 _ _ _ _ (x_requireObject (fun q => am_bi (b_15_5 _ _ _ _ (x_measure hI q (fun σ1 f1 hD => am_bi (b_15_10 _ _ _ _ ?_))))) (fun q => am_bx rfl (k0 q)))
  refine x_nearest hI f1 hD (fun hn => am_bi ?_) (fun b d hb hbd => am_bi ?_)
  · exact b_15_14 _ _ _ _ _ (fun _ => b_15_34 _ _ _ _ (kn q (Or.inl hn) σ1 f1)) (fun h9 => absurd rfl h9)
  · have ho := hI.2.2.2.2.2.2.2.2.2.1 b hb.1
    have a1 := ho.1; have a2 := ho.2.1
    have hd13 := hb.2.1.le ho
    refine b_15_14 _ _ _ _ _ (fun h9 => absurd h9 (by omega)) (fun _ => ?_)
    refine b_15_20 _ _ _ _ (fun h1 => b_15_34 _ _ _ _ (kn q (Or.inr ⟨b, d, hb, by omega⟩) σ1 f1)) (fun h1 => ?_)
    refine b_15_24 _ _ _ _ ⟨by omega, by omega⟩ (fun h2 => ?_) (fun h2 => b_15_34 _ _ _ _ (kn q (Or.inr ⟨b, d, hb, by omega⟩) σ1 f1))
    rw [hbd] at h2
    have loop : ∀ (c : Nat) (z a : Int) (da : Nat), 0 ≤ z → z + c = kk → xO σ a → xDi σ e a da → c ≤ da → (∀ v, xWy σ e c a v → xWy σ e kk.toNat b v) → am_wp sc 15 39 [.inr (.inl 0), .inl e, .inl kk, .inl a, .inl z] [] σ1 Q := by
      intro c
      induction c with
      | zero =>
        intro z a da hz hc hoa hda hcd hw
        exact b_15_39 _ _ _ _ (fun _ => b_15_62 _ _ _ _ (kb q b d hb (by omega) h2 a (hw a rfl) σ1 f1)) (fun h9 => absurd (by omega) h9)
      | succ c ih =>
        intro z a da hz hc hoa hda hcd hw
        obtain ⟨d', rfl⟩ : ∃ d', da = d' + 1 := ⟨da - 1, by omega⟩
        have := hoa.1
        refine b_15_39 _ _ _ _ (fun h9 => absurd h9 (by omega)) (fun _ => b_15_45 _ _ _ _ (fun h9 => absurd h9 (by omega)) (fun _ => b_15_50 _ _ _ _ ?_))
        exact x_next hI f1 hD hoa hda (fun t hnx hot hdt => am_bi (b_15_55 _ _ _ _ _ ⟨by omega, by omega⟩ (ih (z + 1) t d' (by omega) (by omega) hot hdt (by omega) (fun v hv => hw v ⟨t, hnx, hv⟩))))
    exact b_15_36 _ _ _ _ (loop kk.toNat 0 b d (by omega) (by omega) ho hb.2.1 (by omega) (fun v hv => hv))
end XY
