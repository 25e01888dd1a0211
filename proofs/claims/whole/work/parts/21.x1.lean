/-! the class's methods without loops -/
theorem am_bi {sc : Int → Int} {mid pc : Nat} {L rest : List AV} {Q : Ou → St → Nat → Prop} {v : Option Int} {σ : St} (k : am_wp sc mid (pc + 3) L (am_rv v ++ rest) σ Q) : am_bk sc mid pc L rest Q (.inl v) σ 0 := k
theorem am_bx {sc : Int → Int} {mid pc : Nat} {L rest : List AV} {Q : Ou → St → Nat → Prop} {E t : Nat} {σ : St} (h : am_tb mid = []) (k : Q (.inr E) σ t) : am_bk sc mid pc L rest Q (.inr E) σ t := by
  unfold am_bk
  dsimp only
  rw [show am_hd mid pc E = none by unfold am_hd; rw [h]; rfl]
  exact ⟨h, k⟩
/-- h is an object, as the class has it; s is a slot of it -/
def xO (σ : St) (h : Int) : Prop := 1 ≤ h ∧ h ≤ 14 ∧ σ 4 h ≠ -1
def xS (σ : St) (h s : Int) : Prop := xO σ h ∧ 0 ≤ s ∧ s < σ 5 h
section X1
variable {sc : Int → Int} {σ : St} {Q : Ou → St → Nat → Prop}
theorem x_isObject {h : Int} (k1 : xO σ h → Q (.inl (some 1)) σ 0) (k0 : ¬ xO σ h → Q (.inl (some 0)) σ 0) : am_wp sc 20 0 [.inr (.inl 0), .inl h] [] σ Q := by
  refine b_20_0 h (fun h1 => ?_) (fun h1 => ?_)
  · exact b_20_25 h (b_20_26 h 0 (Or.inl rfl) (k0 (fun q => by have := q.1; omega)))
  · refine b_20_5 h (fun h2 => ?_) (fun h2 => ?_)
    · exact b_20_25 h (b_20_26 h 0 (Or.inl rfl) (k0 (fun q => by have := q.2.1; omega)))
    · refine b_20_11 h ⟨by omega, by omega⟩ (fun h3 => ?_) (fun h3 => ?_)
      · exact b_20_25 h (b_20_26 h 0 (Or.inl rfl) (k0 (fun q => q.2.2 h3)))
      · exact b_20_21 h (b_20_26 h 1 (Or.inr rfl) (k1 ⟨by omega, by omega, h3⟩))
theorem x_requireObject {h : Int} (k1 : xO σ h → Q (.inl none) σ 0) (k0 : ¬ xO σ h → Q (.inr 3) σ 1) : am_wp sc 18 0 [.inr (.inl 0), .inl h] [] σ Q := by
  refine b_18_0 h (x_isObject (fun q => am_bi ?_) (fun q => am_bi ?_))
  · exact b_18_5 h 1 (fun _ => b_18_16 h (k1 q)) (fun h9 => absurd (by decide) h9)
  · exact b_18_5 h 0 (fun h9 => absurd rfl h9) (fun _ => b_18_8 h (k0 q))
theorem x_requireSlot {h s : Int} (k1 : xS σ h s → Q (.inl none) σ 0) (k0 : ¬ xS σ h s → Q (.inr 3) σ 1) : am_wp sc 19 0 [.inr (.inl 0), .inl h, .inl s] [] σ Q := by
  refine b_19_0 h s (x_requireObject (fun q => am_bi ?_) (fun q => am_bx rfl (k0 (fun z => q z.1))))
  refine b_19_5 h s (fun h1 => ?_) (fun h1 => ?_)
  · exact b_19_19 h s (k0 (fun z => by have := z.2.1; omega))
  · refine b_19_9 h s ⟨by have := q.1; omega, by have := q.2.1; omega⟩ (fun h2 => ?_) (fun h2 => ?_)
    · exact b_19_27 h s (k1 ⟨q, by omega, h2⟩)
    · exact b_19_19 h s (k0 (fun z => h2 z.2.2))
theorem x_endOf {h : Int} (h0 : 0 ≤ h ∧ h < 15) (h1 : am_R (σ 5 h + 2)) (h2 : am_R (σ 4 h + (σ 5 h + 2))) (k : Q (.inl (some (σ 4 h + (σ 5 h + 2)))) σ 0) : am_wp sc 23 0 [.inr (.inl 0), .inl h] [] σ Q :=
  b_23_0 h h0 (b_22_0 h h0 h1 (am_bi (b_23_11 h _ _ h2 k)))
theorem x_setSlot {h s kd v : Int} {v5 : AV} (h0 : 0 ≤ h ∧ h < 15) (hb : 0 ≤ σ 4 h + 2 + s ∧ σ 4 h + 2 + s < 90) (hf : am_R (σ 4 h + 2)) (k : Q (.inl none) (am_up (am_up σ 3 (σ 4 h + 2 + s) kd) 2 (σ 4 h + 2 + s) v) 0) : am_wp sc 24 0 [.inr (.inl 0), .inl h, .inl s, .inl kd, .inl v, v5] [] σ Q :=
  b_24_0 h s kd v v5 (b_21_0 h h0 hf (am_bi (b_24_5 h s kd v v5 _ ⟨by omega, by omega⟩ hb hb k)))
theorem x_fits {n c u : Int} (h0 : 0 ≤ n ∧ n ≤ 10) (h1 : 0 ≤ u ∧ u ≤ 1000) (k1 : c < 14 ∧ u + 2 + n ≤ 90 → Q (.inl (some 1)) σ 0) (k0 : ¬ (c < 14 ∧ u + 2 + n ≤ 90) → Q (.inl (some 0)) σ 0) : am_wp sc 25 0 [.inl n, .inl c, .inl u] [] σ Q := by
  refine b_25_0 n c u (fun h2 => ?_) (fun h2 => ?_)
  · exact b_25_20 n c u (b_25_21 n c u 0 (Or.inl rfl) (k0 (by omega)))
  · refine b_25_6 n c u ⟨by omega, by omega⟩ ⟨by omega, by omega⟩ (fun h3 => ?_) (fun h3 => ?_)
    · exact b_25_20 n c u (b_25_21 n c u 0 (Or.inl rfl) (k0 (by omega)))
    · exact b_25_16 n c u (b_25_21 n c u 1 (Or.inr rfl) (k1 ⟨by omega, by omega⟩))
theorem x_number {h s v : Int} (hb : xS σ h s → 0 ≤ σ 4 h + 2 + s ∧ σ 4 h + 2 + s < 90) (hf : xS σ h s → am_R (σ 4 h + 2)) (k1 : xS σ h s → Q (.inl none) (am_up (am_up σ 3 (σ 4 h + 2 + s) 0) 2 (σ 4 h + 2 + s) v) 0) (k0 : ¬ xS σ h s → Q (.inr 3) σ 1) : am_wp sc 1 0 [.inr (.inl 0), .inl h, .inl s, .inl v] [] σ Q := by
  refine b_1_0 h s v (x_requireSlot (fun q => am_bi ?_) (fun q => am_bx rfl (k0 q)))
  exact b_1_6 h s v (x_setSlot ⟨by have := q.1.1; omega, by have := q.1.2.1; omega⟩ (hb q) (hf q) (am_bi (b_1_14 h s v (k1 q))))
theorem x_get {h s : Int} (hb : xS σ h s → 0 ≤ σ 4 h + 2 + s ∧ σ 4 h + 2 + s < 90) (hf : xS σ h s → am_R (σ 4 h + 2)) (k1 : xS σ h s → Q (.inl (some (σ 2 (σ 4 h + 2 + s)))) σ 0) (k0 : ¬ xS σ h s → Q (.inr 3) σ 1) : am_wp sc 3 0 [.inr (.inl 0), .inl h, .inl s] [] σ Q := by
  refine b_3_0 h s (x_requireSlot (fun q => am_bi ?_) (fun q => am_bx rfl (k0 q)))
  exact b_3_6 h s (b_21_0 h ⟨by have := q.1.1; omega, by have := q.1.2.1; omega⟩ (hf q) (am_bi (b_3_15 h s _ (by have := hb q; exact ⟨by omega, by omega⟩) (hb q) (k1 q))))
theorem x_kind {h s : Int} (hb : xS σ h s → 0 ≤ σ 4 h + 2 + s ∧ σ 4 h + 2 + s < 90) (hf : xS σ h s → am_R (σ 4 h + 2)) (k1 : xS σ h s → Q (.inl (some (σ 3 (σ 4 h + 2 + s)))) σ 0) (k0 : ¬ xS σ h s → Q (.inr 3) σ 1) : am_wp sc 4 0 [.inr (.inl 0), .inl h, .inl s] [] σ Q := by
  refine b_4_0 h s (x_requireSlot (fun q => am_bi ?_) (fun q => am_bx rfl (k0 q)))
  exact b_4_6 h s (b_21_0 h ⟨by have := q.1.1; omega, by have := q.1.2.1; omega⟩ (hf q) (am_bi (b_4_15 h s _ (by have := hb q; exact ⟨by omega, by omega⟩) (hb q) (k1 q))))
theorem x_refer {h s t w : Int} (hb : xS σ h s → 0 ≤ σ 4 h + 2 + s ∧ σ 4 h + 2 + s < 90) (hf : xS σ h s → am_R (σ 4 h + 2))
    (k1 : xS σ h s → (t = 0 ∨ xO σ t) → Q (.inl none) (am_up (am_up σ 3 (σ 4 h + 2 + s) (if w = 0 then 1 else 2)) 2 (σ 4 h + 2 + s) t) 0) (k0 : ¬ xS σ h s → Q (.inr 3) σ 1) (k2 : xS σ h s → ¬ (t = 0 ∨ xO σ t) → Q (.inr 0) σ 1) : am_wp sc 2 0 [.inr (.inl 0), .inl h, .inl s, .inl t, .inl w] [] σ Q := by
  refine b_2_0 h s t w (x_requireSlot (fun q => am_bi ?_) (fun q => am_bx rfl (k0 q)))
  have go : (t = 0 ∨ xO σ t) → am_wp sc 2 26 [.inr (.inl 0), .inl h, .inl s, .inl t, .inl w] [] σ Q := by
    intro ht
    have k1 := k1 q ht
    refine b_2_26 h s t w (fun hw => ?_) (fun hw => ?_)
    · rw [if_pos hw] at k1
      exact b_2_38 h s t w h s (b_2_39 h s t w h s 1 (x_setSlot ⟨by have := q.1.1; omega, by have := q.1.2.1; omega⟩ (hb q) (hf q) (am_bi (b_2_43 h s t w k1))))
    · rw [if_neg hw] at k1
      exact b_2_34 h s t w h s (b_2_39 h s t w h s 2 (x_setSlot ⟨by have := q.1.1; omega, by have := q.1.2.1; omega⟩ (hb q) (hf q) (am_bi (b_2_43 h s t w k1))))
  refine b_2_6 h s t w (fun ht => go (Or.inl ht)) (fun ht => ?_)
  refine b_2_10 h s t w (x_isObject (fun z => am_bi ?_) (fun z => am_bi ?_))
  · exact b_2_15 h s t w 1 (fun _ => go (Or.inr z)) (fun h9 => absurd (by decide) h9)
  · exact b_2_15 h s t w 0 (fun h9 => absurd rfl h9) (fun _ => b_2_18 h s t w (k2 q (fun y => y.elim ht z)))
theorem x_push {h : Int} (hr : 0 ≤ σ 32 0 ∧ σ 32 0 ≤ 10) (k1 : xO σ h → σ 32 0 < 10 → Q (.inl (some (σ 32 0 + 1))) (am_up (am_up σ 9 (σ 32 0) h) 32 0 (σ 32 0 + 1)) 0) (k0 : ¬ xO σ h → Q (.inr 3) σ 1) (k2 : xO σ h → ¬ σ 32 0 < 10 → Q (.inr 1) σ 1) : am_wp sc 5 0 [.inr (.inl 0), .inl h] [] σ Q := by
  refine b_5_0 h (x_requireObject (fun q => am_bi ?_) (fun q => am_bx rfl (k0 q)))
  refine b_5_5 h (fun h1 => ?_) (fun h1 => b_5_14 h (k2 q h1))
  exact b_5_22 h (b_29_0 h ⟨by omega, by omega⟩ ⟨by omega, by omega⟩ (am_bi (b_5_27 h (k1 q h1))))
theorem x_pop (hr : 0 ≤ σ 32 0 ∧ σ 32 0 ≤ 10) (k1 : σ 32 0 ≠ 0 → Q (.inl (some (σ 9 (σ 32 0 - 1)))) (am_up σ 32 0 (σ 32 0 - 1)) 0) (k0 : σ 32 0 = 0 → Q (.inl (some (-1))) σ 0) : am_wp sc 6 0 [.inr (.inl 0)] [] σ Q := by
  refine b_6_0 (fun h1 => ?_) (fun h1 => ?_)
  · exact b_6_9 ⟨by omega, by omega⟩ ⟨by omega, by omega⟩ (k1 h1)
  · exact b_6_7 (k0 (by omega))
theorem x_root {i : Int} (hr : 0 ≤ σ 32 0 ∧ σ 32 0 ≤ 10) (k1 : 0 ≤ i ∧ i < σ 32 0 → Q (.inl (some (σ 9 i))) σ 0) (k0 : ¬ (0 ≤ i ∧ i < σ 32 0) → Q (.inl (some (-1))) σ 0) : am_wp sc 7 0 [.inr (.inl 0), .inl i] [] σ Q := by
  refine b_7_0 i (fun h1 => b_7_21 i (b_7_22 i _ (k0 (by omega)))) (fun h1 => ?_)
  refine b_7_4 i (fun h2 => b_7_21 i (b_7_22 i _ (k0 (by omega)))) (fun h2 => ?_)
  exact b_7_12 i ⟨by omega, by omega⟩ (b_7_22 i _ (k1 ⟨by omega, by omega⟩))
theorem x_rites {h w : Int} (hw : w = 0 ∨ w = 1) (k1 : xO σ h → Q (.inl none) (am_up σ 7 h w) 0) (k0 : ¬ xO σ h → Q (.inr 3) σ 1) : am_wp sc 8 0 [.inr (.inl 0), .inl h, .inl w] [] σ Q := by
  refine b_8_0 h w (x_requireObject (fun q => am_bi ?_) (fun q => am_bx rfl (k0 q)))
  exact b_8_5 h w ⟨by have := q.1; omega, by have := q.2.1; omega⟩ hw (k1 q)
theorem x_queued {i : Int} (hr : 0 ≤ σ 33 0 ∧ σ 33 0 ≤ 14) (k1 : 0 ≤ i ∧ i < σ 33 0 → Q (.inl (some (σ 10 i))) σ 0) (k0 : ¬ (0 ≤ i ∧ i < σ 33 0) → Q (.inl (some (-1))) σ 0) : am_wp sc 10 0 [.inr (.inl 0), .inl i] [] σ Q := by
  refine b_10_0 i (fun h1 => b_10_21 i (b_10_22 i _ (k0 (by omega)))) (fun h1 => ?_)
  refine b_10_4 i (fun h2 => b_10_21 i (b_10_22 i _ (k0 (by omega)))) (fun h2 => ?_)
  exact b_10_12 i ⟨by omega, by omega⟩ (b_10_22 i _ (k1 ⟨by omega, by omega⟩))
theorem x_word {i : Int} (k1 : 0 ≤ i ∧ i < 90 → Q (.inl (some (σ 2 i))) σ 0) (k0 : ¬ (0 ≤ i ∧ i < 90) → Q (.inr 3) σ 1) : am_wp sc 12 0 [.inr (.inl 0), .inl i] [] σ Q := by
  refine b_12_0 i (fun h1 => b_12_10 i (k0 (by omega))) (fun h1 => ?_)
  refine b_12_4 i (fun h2 => b_12_18 i ⟨by omega, by omega⟩ (k1 ⟨by omega, by omega⟩)) (fun h2 => b_12_10 i (k0 (by omega)))
end X1
