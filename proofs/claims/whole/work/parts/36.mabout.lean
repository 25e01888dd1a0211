/-! the reference: about, count, clear -/
theorem RM.o {γ α : St} {n : Nat} (h : RM γ α n) {x : Int} : mO α x ↔ xO γ x :=
  ⟨fun z => (h.w.is z.1 z.2.1).mp z.2.2, fun z => ⟨z.1, z.2.1, (h.w.is z.1 z.2.1).mpr z⟩⟩
section MB
variable {sc : Int → Int} {Q : Ou → St → Nat → Prop} {γ α : St} {n : Nat}
theorem m_about {h w : Int} (hI : CI γ n) (hR : RM γ α n) (k0 : ¬ xO γ h → Q (.inl (some 0)) (am_up α 40 0 1) 0) (kd : xO γ h → ¬ (0 ≤ w ∧ w ≤ 5) → Q (.inl (some 0)) (am_up α 40 0 2) 0)
    (k1 : xO γ h → w = 0 → Q (.inl (some (γ 4 h))) (am_up α 40 0 0) 0) (k2 : xO γ h → w = 1 → Q (.inl (some (γ 5 h))) (am_up α 40 0 0) 0) (k3 : xO γ h → w = 2 → Q (.inl (some (γ 6 h))) (am_up α 40 0 0) 0) (k4 : xO γ h → w = 3 → Q (.inl (some (γ 7 h))) (am_up α 40 0 0) 0)
    (k5 : xO γ h → w = 4 → ∀ α' : St, (∀ k, k ≠ 23 → k ≠ 40 → α' k = α k) → α' 40 0 = 0 → xK γ (xsrc γ) (α' 23) → Q (.inl (some (α' 23 h))) α' 0)
    (k6 : xO γ h → w = 5 → Q (.inl (some (pu_h (xob γ) (fun x => pu_s (fun s => xSh γ h (γ 4 x + 2 + s)) (γ 5 x).toNat)))) (am_up α 40 0 0) 0) : am_wp sc 79 0 [.inr (.inl 1), .inl h, .inl w] [] α Q := by
  have bad : ∀ f : Int, 0 < f → Q (.inl (some 0)) (am_up α 40 0 f) 0 → am_wp sc 79 27 [.inr (.inl 1), .inl h, .inl w] [.inl f, .inr (.inl 1)] α Q := by
    intro f hf kf
    exact b_79_27 _ _ _ (m_refused (fun _ => am_bi (b_79_30 _ _ 1 (fun h9 => absurd h9 (by decide)) (fun _ => b_79_33 _ _ kf))) (fun h9 => absurd h9 (by omega)))
  refine b_79_0 _ _ (m_isObject (fun q => am_bi ?_) (fun q => am_bi ?_))
  · have ho := hR.o.mp q
    have hh : 0 ≤ h ∧ h < 15 := by have := ho.1; have := ho.2.1; omega
    have r4 := hR.2.2.2.1 h ho
    have i4 := hI.2.2.2.1 h ho
    have hR1 : RM γ (am_up α 40 0 0) n := hR.scr (fun k _ _ _ d => am_up_n d) hR.2.2.2.2.2.2.2.2.2.2
    refine b_79_6 _ _ 1 (fun _ => ?_) (fun h9 => absurd (by decide) h9)
    refine b_79_13 _ _ (fun h1 => b_79_22 _ _ (bad 2 (by decide) (kd ho (by omega)))) (fun h1 => ?_)
    refine b_79_17 _ _ (fun h2 => ?_) (fun h2 => b_79_22 _ _ (bad 2 (by decide) (kd ho (by omega))))
    refine b_79_26 _ _ (b_79_27 _ _ _ (m_refused (fun h9 => absurd h9 (by decide)) (fun _ => am_bi (b_79_30 _ _ 0 (fun _ => ?_) (fun h9 => absurd rfl h9)))))
    by_cases w0 : w = 0
    · exact b_79_35_c0 _ _ w0 (b_79_72 _ _ (m_placeOf hI hR1 ho (am_bi (b_79_77 _ _ _ (k1 ho w0)))))
    by_cases w1 : w = 1
    · have := k2 ho w1
      rw [← r4.1] at this
      exact b_79_35_c1 _ _ w1 (b_79_78 _ _ hh this)
    by_cases w2 : w = 2
    · have := k3 ho w2
      rw [← r4.2.1] at this
      exact b_79_35_c2 _ _ w2 (b_79_85 _ _ hh this)
    by_cases w3 : w = 3
    · have := k4 ho w3
      refine b_79_35_c3 _ _ w3 (b_79_92 _ _ hh (fun h3 => b_79_105 _ _ (b_79_106 _ _ 0 ?_)) (fun h3 => b_79_101 _ _ (b_79_106 _ _ 1 ?_)))
      · have h3 : α 18 h = 0 := h3
        rw [← r4.2.2, h3] at this; exact this
      · have h3 : ¬ α 18 h = 0 := h3
        rw [show γ 7 h = 1 by omega] at this; exact this
    by_cases w4 : w = 4
    · refine b_79_35_c4 _ _ w4 (b_79_107 _ _ (b_80_0 _ (m_findLive hI hR1.w (fun α' f K => am_bi (b_80_4 _ hh (K.2.1 h ho.1 ho.2.1) (am_bi ?_))))))
      have := k5 ho w4 α' (fun k a b => by rw [f k a]; exact am_up_n b) (by rw [f 40 (by decide)]; rfl) K
      refine b_79_112 _ _ _ (fun h3 => b_79_119 _ _ (b_79_120 _ _ 0 ?_)) (fun h3 => b_79_115 _ _ (b_79_120 _ _ 1 ?_))
      · rw [h3] at this; exact this
      · have h5 := K.2.1 h ho.1 ho.2.1
        rw [show α' 23 h = 1 by omega] at this; exact this
    · exact b_79_35_d _ _ (by omega) (b_79_121 _ _ (m_heldBy hI hR1 (am_bi (b_79_126 _ _ _ (k6 ho (by omega))))))
  · exact b_79_6 _ _ 0 (fun h9 => absurd rfl h9) (fun _ => b_79_9 _ _ (bad 1 (by decide) (k0 (fun z => q (hR.o.mpr z)))))
theorem m_count {w : Int} (hI : CI γ n) (hR : RM γ α n) (kd : ¬ (0 ≤ w ∧ w ≤ 6) → Q (.inl (some 0)) (am_up α 40 0 1) 0)
    (k : 0 ≤ w ∧ w ≤ 6 → ∀ α' : St, (∀ k, k ≠ 23 → k ≠ 40 → α' k = α k) → α' 40 0 = 0 → xK γ (xsrc γ) (α' 23) → ∀ v : Int, (w = 0 → v = (n : Int)) → (w = 1 → v = pu_h (α' 23) (fun _ => 1)) → (w = 2 → v = γ 30 0) → (w = 3 → v = pu_h (α' 23) (fun x => γ 5 x + 2)) → (w = 4 → v = γ 32 0) → (w = 5 → v = γ 33 0) → (w = 6 → v = γ 34 0) → Q (.inl (some v)) α' 0) : am_wp sc 85 0 [.inr (.inl 1), .inl w] [] α Q := by
  have bad : ¬ (0 ≤ w ∧ w ≤ 6) → am_wp sc 85 11 [.inr (.inl 1), .inl w] [.inr (.inl 1)] α Q := fun hh =>
    b_85_11 _ (b_85_16 _ _ (m_refused (fun _ => am_bi (b_85_19 _ 1 (fun h9 => absurd h9 (by decide)) (fun _ => b_85_22 _ (kd hh)))) (fun h9 => absurd h9 (by decide))))
  have hso := hI.2.2.2.2.2.2.2.2.2.1
  refine b_85_0 _ (fun h1 => bad (by omega)) (fun h1 => b_85_5 _ (fun h2 => ?_) (fun h2 => bad (by omega)))
  have hR1 : RM γ (am_up α 40 0 0) n := hR.scr (fun k _ _ _ d => am_up_n d) hR.2.2.2.2.2.2.2.2.2.2
  refine b_85_15 _ (b_85_16 _ _ (m_refused (fun h9 => absurd h9 (by decide)) (fun _ => am_bi (b_85_19 _ 0 (fun _ => b_85_24 _ ?_) (fun h9 => absurd rfl h9)))))
  refine m_findLive hI hR1.w (fun α' f K => am_bi ?_)
  have k := k ⟨by omega, h2⟩ α' (fun k a b => by rw [f k a]; exact am_up_n b) (by rw [f 40 (by decide)]; rfl) K
  have fa : ∀ k, k ≠ 23 → k ≠ 40 → α' k = α k := fun k a b => by rw [f k a]; exact am_up_n b
  have hR2 : RM γ α' n := hR.scr (fun k a _ _ d => fa k a d) K.1
  have hW := hR2.w
  have ob : ∀ x, 1 ≤ x → x ≤ 14 → α' 23 x ≠ 0 → xO γ x := fun x a b c => K.obj hso a b c
  by_cases w0 : w = 0
  · exact b_85_28_c0 _ w0 (b_85_68 _ (k _ (fun _ => hR2.1) (fun z => by omega) (fun z => by omega) (fun z => by omega) (fun z => by omega) (fun z => by omega) (fun z => by omega)))
  by_cases w1 : w = 1
  · exact b_85_28_c1 _ w1 (b_85_73 _ (m_countLive K.2.1 (am_bi (b_85_77 _ _ (k _ (fun z => by omega) (fun _ => rfl) (fun z => by omega) (fun z => by omega) (fun z => by omega) (fun z => by omega) (fun z => by omega))))))
  by_cases w2 : w = 2
  · refine b_85_28_c2 _ w2 (b_85_78 _ (m_wordsOf (xob γ) (fun h a b => ?_) (fun h a b c => ?_) (am_bi (b_85_83 _ _ (k _ (fun z => by omega) (fun z => by omega) (fun _ => ?_) (fun z => by omega) (fun z => by omega) (fun z => by omega) (fun z => by omega))))))
    · rw [xob_i, hW.is a b]
      exact ⟨fun z => ⟨⟨a, b, z⟩, Or.inr rfl⟩, fun z => z.1.2.2⟩
    · have ho : xO γ h := ⟨a, b, xob_i.mp c⟩
      have := hI.geo h ho
      rw [(hW.2.1 h ho).1]; omega
    · rw [hI.sum]
      refine pu_h_congr (fun x a b => ⟨Iff.rfl, fun c => ?_⟩)
      rw [(hW.2.1 x ⟨a, b, xob_i.mp c⟩).1]
  by_cases w3 : w = 3
  · refine b_85_28_c3 _ w3 (b_85_84 _ (m_wordsOf (α' 23) (fun h a b => ?_) (fun h a b c => ?_) (am_bi (b_85_89 _ _ (k _ (fun z => by omega) (fun z => by omega) (fun z => by omega) (fun _ => ?_) (fun z => by omega) (fun z => by omega) (fun z => by omega))))))
    · rw [hW.is a b]
      constructor
      · intro z; exact ⟨ob h a b (by omega), Or.inl (by omega)⟩
      · rintro ⟨-, z | z⟩
        · rcases K.2.1 h a b with w | w
          · exact absurd w z
          · exact w
        · exact absurd z (by decide)
    · have ho := ob h a b (by omega)
      have := hI.geo h ho
      rw [(hW.2.1 h ho).1]; omega
    · exact pu_h_congr (fun x a b => ⟨Iff.rfl, fun c => by rw [(hW.2.1 x (ob x a b (by omega))).1]⟩)
  by_cases w4 : w = 4
  · exact b_85_28_c4 _ w4 (b_85_90 _ (k _ (fun z => by omega) (fun z => by omega) (fun z => by omega) (fun z => by omega) (fun _ => hR2.2.2.2.2.2.1) (fun z => by omega) (fun z => by omega)))
  by_cases w5 : w = 5
  · exact b_85_28_c5 _ w5 (b_85_95 _ (k _ (fun z => by omega) (fun z => by omega) (fun z => by omega) (fun z => by omega) (fun z => by omega) (fun _ => hR2.2.2.2.2.2.2.2.1) (fun z => by omega)))
  · exact b_85_28_d _ (by omega) (b_85_100 _ (k _ (fun z => by omega) (fun z => by omega) (fun z => by omega) (fun z => by omega) (fun z => by omega) (fun z => by omega) (fun _ => hR2.2.2.2.2.2.2.2.2.2.1)))
theorem m_clear {v1 : AV} {γ' : St} (h23 : α 23 0 = 0) (hno : ∀ h, ¬ xO γ' h) (e32 : γ' 32 0 = 0) (e33 : γ' 33 0 = 0) (e34 : γ' 34 0 = 0)
    (k : ∀ α' : St, (∀ k, ¬ isM k → α' k = α k) → RM γ' α' 0 → Q (.inl none) α' 0) : am_wp sc 86 0 [.inr (.inl 1), v1] [] α Q := by
  have loop : ∀ (d : Nat) (z : Int), 0 ≤ z → z + d = 15 → ∀ α1 : St, (∀ k, ¬ isM k → α1 k = α k) → α1 41 0 = 0 → α1 42 0 = 0 → α1 43 0 = 0 → α1 44 0 = 0 → α1 23 0 = 0 → (∀ x, 0 ≤ x → x < z → α1 15 x = 0) → am_wp sc 86 27 [.inr (.inl 1), .inl z] [] α1 Q := by
    intro d
    induction d with
    | zero =>
      intro z hz hd α1 hk g41 g42 g43 g44 g23 g15
      refine b_86_27 _ (fun _ => b_86_46 _ (k α1 hk ⟨g41, fun i hi => absurd hi (Nat.not_lt_zero i), fun h a b => Or.inr ⟨g15 h (by omega) (by omega), hno h⟩, fun h hh => absurd hh (hno h), fun h s hh => absurd hh (hno h), by rw [e32]; exact g42, fun i a b => by rw [e32] at b; omega, by rw [e33]; exact g43, fun i a b => by rw [e33] at b; omega, by rw [e34]; exact g44, g23⟩)) (fun h9 => absurd (by omega) h9)
    | succ d ih =>
      intro z hz hd α1 hk g41 g42 g43 g44 g23 g15
      refine b_86_27 _ (fun h9 => absurd h9 (by omega)) (fun _ => b_86_33 _ ⟨by omega, by omega⟩ ⟨by omega, by omega⟩ (ih (z + 1) (by omega) (by omega) _ (fun k hkk => ?_) g41 g42 g43 g44 g23 (fun x a b => ?_)))
      · rw [am_up_n (by unfold isM at hkk; omega)]; exact hk k hkk
      · rw [am_up_k]
        by_cases hxz : x = z
        · rw [hxz, am_u1_s]
        · rw [am_u1_n hxz]; exact g15 x a (by omega)
  refine b_86_0 _ (loop 15 0 (by omega) (by omega) _ (fun k hkk => ?_) rfl rfl rfl rfl h23 (fun x a b => absurd a (by omega)))
  unfold isM at hkk
  rw [am_up_n (by omega), am_up_n (by omega), am_up_n (by omega), am_up_n (by omega), am_up_n (by omega)]
end MB
