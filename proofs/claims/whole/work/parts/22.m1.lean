/-! the reference's methods without loops -/
def mO (σ : St) (h : Int) : Prop := 1 ≤ h ∧ h ≤ 14 ∧ σ 15 h ≠ 0
def mS (σ : St) (h s : Int) : Prop := mO σ h ∧ 0 ≤ s ∧ s < σ 16 h
section M1
variable {sc : Int → Int} {σ : St} {Q : Ou → St → Nat → Prop}
theorem m_refused {f : Int} (k1 : 0 < f → Q (.inl (some 1)) (am_up σ 40 0 f) 0) (k0 : f ≤ 0 → Q (.inl (some 0)) (am_up σ 40 0 f) 0) : am_wp sc 49 0 [.inr (.inl 1), .inl f] [] σ Q := by
  refine b_49_0 f (fun h => ?_) (fun h => ?_)
  · exact b_49_13 f (b_49_14 f 0 (Or.inl rfl) (k0 h))
  · exact b_49_9 f (b_49_14 f 1 (Or.inr rfl) (k1 (by omega)))
theorem m_isObject {h : Int} (k1 : mO σ h → Q (.inl (some 1)) σ 0) (k0 : ¬ mO σ h → Q (.inl (some 0)) σ 0) : am_wp sc 50 0 [.inr (.inl 1), .inl h] [] σ Q := by
  refine b_50_0 h (fun h1 => ?_) (fun h1 => ?_)
  · exact b_50_24 h (b_50_25 h 0 (Or.inl rfl) (k0 (fun q => by have := q.1; omega)))
  · refine b_50_5 h (fun h2 => ?_) (fun h2 => ?_)
    · exact b_50_24 h (b_50_25 h 0 (Or.inl rfl) (k0 (fun q => by have := q.2.1; omega)))
    · refine b_50_11 h ⟨by omega, by omega⟩ (fun h3 => ?_) (fun h3 => ?_)
      · exact b_50_24 h (b_50_25 h 0 (Or.inl rfl) (k0 (fun q => q.2.2 h3)))
      · exact b_50_20 h (b_50_25 h 1 (Or.inr rfl) (k1 ⟨by omega, by omega, h3⟩))
theorem m_isSlot {h s : Int} (k1 : mS σ h s → Q (.inl (some 1)) σ 0) (k0 : ¬ mS σ h s → Q (.inl (some 0)) σ 0) : am_wp sc 51 0 [.inr (.inl 1), .inl h, .inl s] [] σ Q := by
  refine b_51_0 h s (m_isObject (fun q => am_bi ?_) (fun q => am_bi ?_))
  · refine b_51_5 h s 1 (fun h9 => absurd h9 (by decide)) (fun _ => ?_)
    refine b_51_8 h s (fun h1 => ?_) (fun h1 => ?_)
    · exact b_51_26 h s (b_51_27 h s 0 (Or.inl rfl) (k0 (fun z => by have := z.2.1; omega)))
    · refine b_51_12 h s ⟨by have := q.1; omega, by have := q.2.1; omega⟩ (fun h2 => ?_) (fun h2 => ?_)
      · exact b_51_26 h s (b_51_27 h s 0 (Or.inl rfl) (k0 (fun z => by have := z.2.2; omega)))
      · exact b_51_22 h s (b_51_27 h s 1 (Or.inr rfl) (k1 ⟨q, by omega, by omega⟩))
  · exact b_51_5 h s 0 (fun _ => b_51_26 h s (b_51_27 h s 0 (Or.inl rfl) (k0 (fun z => q z.1)))) (fun h9 => absurd rfl h9)
theorem m_number {h s v : Int} (hs : mS σ h s → s < 10) (k1 : mS σ h s → Q (.inl none) (am_up (am_up (am_up σ 40 0 0) 19 (10 * h + s) v) 20 (10 * h + s) 0) 0) (k0 : ¬ mS σ h s → Q (.inl none) (am_up σ 40 0 1) 0) : am_wp sc 66 0 [.inr (.inl 1), .inl h, .inl s, .inl v] [] σ Q := by
  refine b_66_0 h s v (m_isSlot (fun q => am_bi ?_) (fun q => am_bi ?_))
  · refine b_66_7 h s v 1 (fun h9 => absurd h9 (by decide)) (fun _ => b_66_10 h s v (b_66_15 h s v 0 (m_refused (fun h9 => absurd h9 (by decide)) (fun _ => am_bi ?_))))
    refine b_66_18 h s v 0 (fun h9 => absurd rfl h9) (fun _ => ?_)
    have h1 := q.1.1; have h2 := q.1.2.1; have h3 := q.2.1; have h4 := hs q
    exact b_66_21 h s v ⟨by omega, by omega⟩ ⟨by omega, by omega⟩ ⟨by omega, by omega⟩ ⟨by omega, by omega⟩ ⟨by omega, by omega⟩ ⟨by omega, by omega⟩ (b_66_45 h s v (k1 q))
  · refine b_66_7 h s v 0 (fun _ => b_66_14 h s v (b_66_15 h s v 1 (m_refused (fun _ => am_bi ?_) (fun h9 => absurd h9 (by decide))))) (fun h9 => absurd rfl h9)
    exact b_66_18 h s v 1 (fun _ => b_66_45 h s v (k0 q)) (fun h9 => absurd (by decide) h9)
theorem m_refer {h s t w : Int} (hs : mS σ h s → s < 10) (k1 : mS σ h s → (t = 0 ∨ mO σ t) → Q (.inl none) (am_up (am_up (am_up σ 40 0 0) 19 (10 * h + s) t) 20 (10 * h + s) (if w = 0 then 1 else 2)) 0) (k0 : ¬ mS σ h s → Q (.inl none) (am_up σ 40 0 1) 0) (k2 : mS σ h s → ¬ (t = 0 ∨ mO σ t) → Q (.inl none) (am_up σ 40 0 2) 0) : am_wp sc 67 0 [.inr (.inl 1), .inl h, .inl s, .inl t, .inl w] [] σ Q := by
  have bad : ∀ f : Int, 0 < f → Q (.inl none) (am_up σ 40 0 f) 0 → am_wp sc 67 31 [.inr (.inl 1), .inl h, .inl s, .inl t, .inl w] [.inl f, .inr (.inl 1)] σ Q := by
    intro f hf kf
    refine b_67_31 h s t w f (m_refused (fun _ => am_bi ?_) (fun h9 => absurd h9 (by omega)))
    exact b_67_34 h s t w 1 (fun _ => b_67_70 h s t w kf) (fun h9 => absurd (by decide) h9)
  refine b_67_0 h s t w (m_isSlot (fun q => am_bi ?_) (fun q => am_bi ?_))
  · have go : (t = 0 ∨ mO σ t) → am_wp sc 67 30 [.inr (.inl 1), .inl h, .inl s, .inl t, .inl w] [.inr (.inl 1)] σ Q := by
      intro ht
      have k1 := k1 q ht
      have h1 := q.1.1; have h2 := q.1.2.1; have h3 := q.2.1; have h4 := hs q
      refine b_67_30 h s t w (b_67_31 h s t w 0 (m_refused (fun h9 => absurd h9 (by decide)) (fun _ => am_bi ?_)))
      refine b_67_34 h s t w 0 (fun h9 => absurd rfl h9) (fun _ => ?_)
      refine b_67_37 h s t w ⟨by omega, by omega⟩ ⟨by omega, by omega⟩ ⟨by omega, by omega⟩ ⟨by omega, by omega⟩ ⟨by omega, by omega⟩ (fun hw => ?_) (fun hw => ?_)
      · rw [if_pos hw] at k1
        exact b_67_68 h s t w _ (b_67_69 h s t w _ 1 ⟨by omega, by omega⟩ (b_67_70 h s t w k1))
      · rw [if_neg hw] at k1
        exact b_67_64 h s t w _ (b_67_69 h s t w _ 2 ⟨by omega, by omega⟩ (b_67_70 h s t w k1))
    refine b_67_7 h s t w 1 (fun _ => ?_) (fun h9 => absurd (by decide) h9)
    refine b_67_14 h s t w (fun ht => go (Or.inl ht)) (fun ht => ?_)
    refine b_67_18 h s t w (m_isObject (fun z => am_bi ?_) (fun z => am_bi ?_))
    · exact b_67_23 h s t w 1 (fun _ => go (Or.inr z)) (fun h9 => absurd (by decide) h9)
    · exact b_67_23 h s t w 0 (fun h9 => absurd rfl h9) (fun _ => b_67_26 h s t w (bad 2 (by decide) (k2 q (fun y => y.elim ht z))))
  · exact b_67_7 h s t w 0 (fun h9 => absurd rfl h9) (fun _ => b_67_10 h s t w (bad 1 (by decide) (k0 q)))
theorem m_get {h s : Int} (hs : mS σ h s → s < 10) (k1 : mS σ h s → Q (.inl (some (σ 19 (10 * h + s)))) (am_up σ 40 0 0) 0) (k0 : ¬ mS σ h s → Q (.inl (some 0)) (am_up σ 40 0 1) 0) : am_wp sc 68 0 [.inr (.inl 1), .inl h, .inl s] [] σ Q := by
  refine b_68_0 h s (m_isSlot (fun q => am_bi ?_) (fun q => am_bi ?_))
  · refine b_68_7 h s 1 (fun h9 => absurd h9 (by decide)) (fun _ => b_68_10 h s (b_68_15 h s 0 (m_refused (fun h9 => absurd h9 (by decide)) (fun _ => am_bi ?_))))
    refine b_68_18 h s 0 (fun _ => ?_) (fun h9 => absurd rfl h9)
    have h1 := q.1.1; have h2 := q.1.2.1; have h3 := q.2.1; have h4 := hs q
    exact b_68_25 h s ⟨by omega, by omega⟩ ⟨by omega, by omega⟩ ⟨by omega, by omega⟩ (b_68_36 h s _ (k1 q))
  · refine b_68_7 h s 0 (fun _ => b_68_14 h s (b_68_15 h s 1 (m_refused (fun _ => am_bi ?_) (fun h9 => absurd h9 (by decide))))) (fun h9 => absurd rfl h9)
    exact b_68_18 h s 1 (fun h9 => absurd h9 (by decide)) (fun _ => b_68_21 h s (b_68_36 h s _ (k0 q)))
theorem m_kind {h s : Int} (hs : mS σ h s → s < 10) (k1 : mS σ h s → Q (.inl (some (σ 20 (10 * h + s)))) (am_up σ 40 0 0) 0) (k0 : ¬ mS σ h s → Q (.inl (some 0)) (am_up σ 40 0 1) 0) : am_wp sc 69 0 [.inr (.inl 1), .inl h, .inl s] [] σ Q := by
  refine b_69_0 h s (m_isSlot (fun q => am_bi ?_) (fun q => am_bi ?_))
  · refine b_69_7 h s 1 (fun h9 => absurd h9 (by decide)) (fun _ => b_69_10 h s (b_69_15 h s 0 (m_refused (fun h9 => absurd h9 (by decide)) (fun _ => am_bi ?_))))
    refine b_69_18 h s 0 (fun _ => ?_) (fun h9 => absurd rfl h9)
    have h1 := q.1.1; have h2 := q.1.2.1; have h3 := q.2.1; have h4 := hs q
    exact b_69_25 h s ⟨by omega, by omega⟩ ⟨by omega, by omega⟩ ⟨by omega, by omega⟩ (b_69_36 h s _ (k1 q))
  · refine b_69_7 h s 0 (fun _ => b_69_14 h s (b_69_15 h s 1 (m_refused (fun _ => am_bi ?_) (fun h9 => absurd h9 (by decide))))) (fun h9 => absurd rfl h9)
    exact b_69_18 h s 1 (fun h9 => absurd h9 (by decide)) (fun _ => b_69_21 h s (b_69_36 h s _ (k0 q)))
theorem m_push {h : Int} (hr : 0 ≤ σ 42 0 ∧ σ 42 0 ≤ 10) (k1 : mO σ h → σ 42 0 < 10 → Q (.inl (some (σ 42 0 + 1))) (am_up (am_up (am_up σ 40 0 0) 21 (σ 42 0) h) 42 0 (σ 42 0 + 1)) 0) (k0 : ¬ mO σ h → Q (.inl (some 0)) (am_up σ 40 0 1) 0) (k2 : mO σ h → ¬ σ 42 0 < 10 → Q (.inl (some 0)) (am_up σ 40 0 2) 0) : am_wp sc 70 0 [.inr (.inl 1), .inl h] [] σ Q := by
  have bad : ∀ f : Int, 0 < f → Q (.inl (some 0)) (am_up σ 40 0 f) 0 → am_wp sc 70 27 [.inr (.inl 1), .inl h] [.inl f, .inr (.inl 1)] σ Q := by
    intro f hf kf
    refine b_70_27 h f (m_refused (fun _ => am_bi ?_) (fun h9 => absurd h9 (by omega)))
    exact b_70_30 h 1 (fun h9 => absurd h9 (by decide)) (fun _ => b_70_33 h kf)
  refine b_70_0 h (m_isObject (fun q => am_bi ?_) (fun q => am_bi ?_))
  · refine b_70_6 h 1 (fun _ => ?_) (fun h9 => absurd (by decide) h9)
    refine b_70_13 h (fun h1 => ?_) (fun h1 => b_70_22 h (bad 2 (by decide) (k2 q (by omega))))
    refine b_70_26 h (b_70_27 h 0 (m_refused (fun h9 => absurd h9 (by decide)) (fun _ => am_bi ?_)))
    refine b_70_30 h 0 (fun _ => ?_) (fun h9 => absurd rfl h9)
    exact b_70_35 h (show 0 ≤ σ 42 0 ∧ σ 42 0 < 10 from ⟨by omega, by omega⟩) (show am_R (σ 42 0 + 1) from ⟨by omega, by omega⟩) (k1 q (by omega))
  · exact b_70_6 h 0 (fun h9 => absurd rfl h9) (fun _ => b_70_9 h (bad 1 (by decide) (k0 q)))
theorem m_pop {v1 : AV} (hr : 0 ≤ σ 42 0 ∧ σ 42 0 ≤ 10) (k1 : σ 42 0 ≠ 0 → Q (.inl (some (σ 21 (σ 42 0 - 1)))) (am_up (am_up (am_up σ 40 0 0) 42 0 (σ 42 0 - 1)) 42 0 (σ 42 0 - 1)) 0) (k0 : σ 42 0 = 0 → Q (.inl (some (-1))) (am_up (am_up (am_up σ 40 0 0) 42 0 (-1)) 42 0 0) 0) : am_wp sc 71 0 [.inr (.inl 1), v1] [] σ Q := by
  refine b_71_0 v1 (fun h1 => ?_) (fun h1 => ?_)
  · refine b_71_22 v1 (b_71_23 v1 (-1) (fun h9 => absurd h9 (by decide)) (fun _ => ?_))
    refine b_71_33 v1 (b_71_46 v1 (-1) (fun h9 => absurd (show (0 : Int) ≤ -1 from h9) (by decide)) (fun _ => ?_))
    exact b_71_55 (-1) (b_71_63 (-1) 0 (k0 (by omega)))
  · refine b_71_13 v1 (show am_R (σ 42 0 - 1) from ⟨by omega, by omega⟩) (b_71_23 v1 (σ 42 0 - 1) (fun h2 => ?_) (fun h2 => absurd (show 0 ≤ σ 42 0 - 1 by omega) h2))
    refine b_71_37 v1 (show 0 ≤ σ 42 0 - 1 ∧ σ 42 0 - 1 < 10 from ⟨by omega, by omega⟩) (b_71_46 v1 _ (fun _ => ?_) (fun h9 => absurd (show 0 ≤ σ 42 0 - 1 by omega) h9))
    exact b_71_59 _ (b_71_63 _ _ (k1 (by omega)))
theorem m_root {i : Int} (hr : 0 ≤ σ 42 0 ∧ σ 42 0 ≤ 10) (k1 : 0 ≤ i ∧ i < σ 42 0 → Q (.inl (some (σ 21 i))) (am_up σ 40 0 0) 0) (k0 : ¬ (0 ≤ i ∧ i < σ 42 0) → Q (.inl (some (-1))) (am_up σ 40 0 0) 0) : am_wp sc 72 0 [.inr (.inl 1), .inl i] [] σ Q := by
  refine b_72_0 i (fun h1 => b_72_17 i (b_72_27 i _ (k0 (by omega)))) (fun h1 => ?_)
  refine b_72_9 i (fun h2 => ?_) (fun h2 => b_72_17 i (b_72_27 i _ (k0 (fun z => h2 z.2))))
  have h2 : i < σ 42 0 := h2
  exact b_72_21 i ⟨by omega, by omega⟩ (b_72_27 i _ (k1 ⟨by omega, h2⟩))
theorem m_rites {h w : Int} (hw : w = 0 ∨ w = 1) (k1 : mO σ h → Q (.inl none) (am_up (am_up σ 40 0 0) 18 h w) 0) (k0 : ¬ mO σ h → Q (.inl none) (am_up σ 40 0 1) 0) : am_wp sc 73 0 [.inr (.inl 1), .inl h, .inl w] [] σ Q := by
  refine b_73_0 h w (m_isObject (fun q => am_bi ?_) (fun q => am_bi ?_))
  · refine b_73_6 h w 1 (fun h9 => absurd h9 (by decide)) (fun _ => b_73_9 h w (b_73_14 h w 0 (m_refused (fun h9 => absurd h9 (by decide)) (fun _ => am_bi ?_))))
    refine b_73_17 h w 0 (fun h9 => absurd rfl h9) (fun _ => ?_)
    exact b_73_20 h w ⟨by have := q.1; omega, by have := q.2.1; omega⟩ hw (b_73_27 h w (k1 q))
  · refine b_73_6 h w 0 (fun _ => b_73_13 h w (b_73_14 h w 1 (m_refused (fun _ => am_bi ?_) (fun h9 => absurd h9 (by decide))))) (fun h9 => absurd rfl h9)
    exact b_73_17 h w 1 (fun _ => b_73_27 h w (k0 q)) (fun h9 => absurd (by decide) h9)
theorem m_queued {i : Int} (hr : 0 ≤ σ 43 0 ∧ σ 43 0 ≤ 14) (k1 : 0 ≤ i ∧ i < σ 43 0 → Q (.inl (some (σ 22 i))) (am_up σ 40 0 0) 0) (k0 : ¬ (0 ≤ i ∧ i < σ 43 0) → Q (.inl (some (-1))) (am_up σ 40 0 0) 0) : am_wp sc 75 0 [.inr (.inl 1), .inl i] [] σ Q := by
  refine b_75_0 i (fun h1 => b_75_17 i (b_75_27 i _ (k0 (by omega)))) (fun h1 => ?_)
  refine b_75_9 i (fun h2 => ?_) (fun h2 => b_75_17 i (b_75_27 i _ (k0 (fun z => h2 z.2))))
  have h2 : i < σ 43 0 := h2
  exact b_75_21 i ⟨by omega, by omega⟩ (b_75_27 i _ (k1 ⟨by omega, h2⟩))
end M1
