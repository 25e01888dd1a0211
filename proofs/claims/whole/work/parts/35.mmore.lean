/-! the reference: alloc, take, word, about, count, clear -/
section ME
variable {sc : Int → Int} {Q : Ou → St → Nat → Prop} {γ α : St} {n : Nat}
theorem m_alloc {m : Int} {v2 v3 v4 : AV} (hI : CI γ n) (hR : RM γ α n) (h44 : am_R (α 44 0 + 1))
    (k1 : ¬ (0 ≤ m ∧ m ≤ 10) → Q (.inl (some 0)) (am_up α 40 0 1) 0) (k2 : 0 ≤ m ∧ m ≤ 10 → ¬ γ 32 0 < 10 → Q (.inl (some 0)) (am_up α 40 0 2) 0)
    (k3 : 0 ≤ m ∧ m ≤ 10 → γ 32 0 < 10 → (n < 14 ∧ γ 30 0 + 2 + m ≤ 90) → ∀ (z2 : Int) (v3 v4 : AV), am_wp sc 65 80 [.inr (.inl 1), .inl m, .inl z2, v3, v4] [] (am_up α 40 0 0) Q)
    (k4 : 0 ≤ m ∧ m ≤ 10 → γ 32 0 < 10 → ¬ (n < 14 ∧ γ 30 0 + 2 + m ≤ 90) → ∀ α' : St, (∀ k, k ≠ 23 → k ≠ 24 → k ≠ 40 → α' k = α k) → α' 40 0 = 3 → xK γ (xsrc2 γ) (α' 23) → ¬ (pu_h (α' 23) (fun _ => 1) < 14 ∧ pu_h (α' 23) (fun x => γ 5 x + 2) + 2 + m ≤ 90) → Q (.inl (some 0)) α' 0)
    (k5 : 0 ≤ m ∧ m ≤ 10 → γ 32 0 < 10 → ¬ (n < 14 ∧ γ 30 0 + 2 + m ≤ 90) → ∀ α1 : St, (∀ k, k ≠ 23 → k ≠ 24 → k ≠ 40 → α1 k = α k) → α1 40 0 = 0 → xK γ (xsrc2 γ) (α1 23) → (pu_h (α1 23) (fun _ => 1) < 14 ∧ pu_h (α1 23) (fun x => γ 5 x + 2) + 2 + m ≤ 90) → ∀ (e1 e2 d : Int → Int) (α2 : St), mCol γ α1 n e1 e2 d α2 → ∀ (z2 : Int) (v3 v4 : AV), am_wp sc 65 80 [.inr (.inl 1), .inl m, .inl z2, v3, v4] [] α2 Q) :
    am_wp sc 65 0 [.inr (.inl 1), .inl m, v2, v3, v4] [] α Q := by
  have h32 := hI.2.2.2.2.2.2.2.1
  have r6 := hR.2.2.2.2.2.1
  have bad : ∀ (f z2 : Int) (v3 v4 : AV) (α1 : St), 0 < f → Q (.inl (some 0)) (am_up α1 40 0 f) 0 → am_wp sc 65 59 [.inr (.inl 1), .inl m, .inl z2, v3, v4] [.inl f, .inr (.inl 1)] α1 Q := by
    intro f z2 v3 v4 α1 hf kf
    exact b_65_59 _ _ _ _ _ (m_refused (fun _ => am_bi (b_65_62 _ _ _ _ 1 (fun h9 => absurd h9 (by decide)) (fun _ => b_65_65 _ _ _ _ kf))) (fun h9 => absurd h9 (by omega)))
  have go : ∀ b : Int, (b = 0 ↔ ¬ (0 ≤ m ∧ m ≤ 10)) → am_wp sc 65 15 [.inr (.inl 1), .inl m, v2, v3, v4] [.inl b] α Q := by
    intro b hb
    refine b_65_15 _ _ _ _ _ (fun h1 => ?_) (fun h1 => b_65_21 _ _ _ _ (bad 1 _ _ _ _ (by decide) (k1 (hb.mp (by omega)))))
    have hm : 0 ≤ m ∧ m ≤ 10 := Classical.not_not.mp (fun z => h1 (hb.mpr z))
    refine b_65_25 _ _ _ _ (fun h2 => ?_) (fun h2 => b_65_34 _ _ _ _ (bad 2 _ _ _ _ (by decide) (k2 hm (by omega))))
    have hr : γ 32 0 < 10 := by omega
    refine b_65_38 _ _ _ _ (m_isRoom hI hR hm (fun h3 => am_bi ?_) (fun h3 => am_bi ?_))
    · refine b_65_43 _ _ _ _ 1 (fun _ => b_65_54 _ _ _ _ (b_65_59 _ _ _ _ _ (m_refused (fun h9 => absurd h9 (by decide)) (fun _ => am_bi (b_65_62 _ _ _ _ 0 (fun _ => b_65_67 _ _ _ _ ?_) (fun h9 => absurd rfl h9)))))) (fun h9 => absurd (by decide) h9)
      refine m_isRoom hI (hR.scr (fun k _ _ _ d => am_up_n d) hR.2.2.2.2.2.2.2.2.2.2) hm (fun _ => am_bi ?_) (fun h9 => absurd h3 h9)
      exact b_65_72 _ _ _ _ 1 (fun _ => k3 hm hr h3 _ _ _) (fun h9 => absurd (by decide) h9)
    · refine b_65_43 _ _ _ _ 0 (fun h9 => absurd rfl h9) (fun _ => b_65_46 _ _ _ _ (m_would hI hR hm (fun α1 f1 K hw => am_bi ?_) (fun α1 f1 K hw => am_bi ?_)))
      · refine b_65_51 _ _ _ _ 1 (fun h9 => absurd h9 (by decide)) (fun _ => b_65_54 _ _ _ _ (b_65_59 _ _ _ _ _ (m_refused (fun h9 => absurd h9 (by decide)) (fun _ => am_bi (b_65_62 _ _ _ _ 0 (fun _ => b_65_67 _ _ _ _ ?_) (fun h9 => absurd rfl h9))))))
        have f2 : ∀ k, k ≠ 23 → k ≠ 24 → k ≠ 40 → am_up α1 40 0 0 k = α k := fun k a b c => by rw [am_up_n c]; exact f1 k a b
        have hR2 : RM γ (am_up α1 40 0 0) n := hR.scr (fun k a b _ d => f2 k a b d) K.1
        refine m_isRoom hI hR2 hm (fun h9 => absurd h9 h3) (fun _ => am_bi (b_65_72 _ _ _ _ 0 (fun h9 => absurd rfl h9) (fun _ => b_65_75 _ _ _ _ ?_)))
        refine m_collectAll hI hR2 (by rw [f2 44 (by decide) (by decide) (by decide)]; exact h44) (fun e1 e2 d α2 hM => am_bi (b_65_79 _ _ _ _ _ ?_))
        exact k5 hm hr h3 _ f2 rfl K hw e1 e2 d α2 hM _ _ _
      · exact b_65_51 _ _ _ _ 0 (fun _ => b_65_58 _ _ _ _ (bad 3 _ _ _ _ (by decide) (k4 hm hr h3 _ (fun k a b c => by rw [am_up_n c]; exact f1 k a b) rfl K hw))) (fun h9 => absurd rfl h9)
  refine b_65_0 _ _ _ _ (fun h1 => b_65_14 _ _ _ _ (go 0 ⟨fun _ => by omega, fun _ => rfl⟩)) (fun h1 => ?_)
  refine b_65_4 _ _ _ _ (fun h2 => b_65_14 _ _ _ _ (go 0 ⟨fun _ => by omega, fun _ => rfl⟩)) (fun h2 => b_65_10 _ _ _ _ (go 1 ⟨fun h => absurd h (by decide), fun h => absurd ⟨by omega, by omega⟩ h⟩))
theorem m_take {v1 v2 : AV} (hr : 0 ≤ α 42 0 ∧ α 42 0 ≤ 10) (hq : 0 ≤ α 43 0 ∧ α 43 0 ≤ 14) (k0 : α 43 0 = 0 → Q (.inl (some (-1))) (am_up α 40 0 0) 0) (k2 : α 43 0 ≠ 0 → ¬ α 42 0 < 10 → Q (.inl (some 0)) (am_up α 40 0 1) 0)
    (k1 : α 43 0 ≠ 0 → α 42 0 < 10 → ∀ α' : St, (∀ k, k ≠ 21 → k ≠ 22 → k ≠ 40 → k ≠ 42 → k ≠ 43 → α' k = α k) → α' 40 0 = 0 → α' 43 0 = α 43 0 - 1 → (∀ i : Int, 0 ≤ i → i < α 43 0 - 1 → α' 22 i = α 22 (i + 1)) → α' 21 = am_u1 (α 21) (α 42 0) (α 22 0) → α' 42 0 = α 42 0 + 1 → Q (.inl (some (α 22 0))) α' 0) : am_wp sc 74 0 [.inr (.inl 1), v1, v2] [] α Q := by
  have ok : am_wp sc 74 30 [.inr (.inl 1), v1, v2] [] (am_up α 40 0 0) Q → am_wp sc 74 21 [.inr (.inl 1), v1, v2] [.inr (.inl 1)] α Q := fun hh =>
    b_74_21 _ _ (b_74_22 _ _ _ (m_refused (fun h9 => absurd h9 (by decide)) (fun _ => am_bi (b_74_25 _ _ 0 (fun _ => hh) (fun h9 => absurd rfl h9)))))
  refine b_74_0 _ _ (fun h1 => ok ?_) (fun h1 => b_74_8 _ _ (fun h2 => ok ?_) (fun h2 => ?_))
  · exact b_74_30 _ _ (fun h2 => absurd (show α 43 0 = 0 by omega) h2) (fun _ => b_74_37 _ _ (k0 (by omega)))
  · refine b_74_30 _ _ (fun _ => ?_) (fun h3 => absurd (show α 43 0 ≠ 0 by omega) h3)
    refine b_74_39 _ _ ⟨by omega, by omega⟩ (show am_R (α 43 0 - 1) from ⟨by omega, by omega⟩) ?_
    have loop : ∀ (d : Nat) (z : Int), 0 ≤ z → z + d = α 43 0 - 1 → ∀ α1 : St, (∀ k, k ≠ 22 → k ≠ 40 → k ≠ 43 → α1 k = α k) → α1 40 0 = 0 → α1 43 0 = α 43 0 - 1 → (∀ i : Int, 0 ≤ i → i < z → α1 22 i = α 22 (i + 1)) → (∀ i : Int, z ≤ i → α1 22 i = α 22 i) →
        am_wp sc 74 58 [.inr (.inl 1), .inl (α 22 0), .inl z] [] α1 Q := by
      intro d
      induction d with
      | zero =>
        intro z hz hd α1 hk h40 h43 ha hb
        have e42 := hk 42 (by decide) (by decide) (by decide)
        have e21 := hk 21 (by decide) (by decide) (by decide)
        refine b_74_58 _ _ (fun _ => b_74_86 _ _ (by rw [e42]; omega) (by rw [e42]; exact ⟨by omega, by omega⟩) (k1 (by omega) (by omega) _ (fun k a b c d e => ?_) h40 h43 (fun i a b => ha i a (by omega)) ?_ ?_)) (fun h9 => absurd (by omega) h9)
        · rw [am_up_n d, am_up_n a]; exact hk k b c e
        · show am_u1 (α1 21) (α1 42 0) _ = _
          rw [e21, e42]
        · show α1 42 0 + 1 = _
          rw [e42]
      | succ d ih =>
        intro z hz hd α1 hk h40 h43 ha hb
        refine b_74_58 _ _ (fun h9 => absurd h9 (by omega)) (fun _ => b_74_66 _ _ ⟨by omega, by omega⟩ ⟨by omega, by omega⟩ ⟨by omega, by omega⟩ ⟨by omega, by omega⟩ (ih (z + 1) (by omega) (by omega) _ (fun k a b c => by rw [am_up_n a]; exact hk k a b c) h40 h43 (fun i a b => ?_) (fun i a => ?_)))
        · rw [am_up_k]
          by_cases hiz : i = z
          · rw [hiz, am_u1_s]; exact hb _ (by omega)
          · rw [am_u1_n hiz]; exact ha i a (by omega)
        · rw [am_up_k, am_u1_n (by omega)]; exact hb i (by omega)
    exact loop (α 43 0 - 1).toNat 0 (by omega) (by omega) _ (fun k a b c => by rw [am_up_n c, am_up_n b]) rfl rfl (fun i a b => absurd a (by omega)) (fun _ _ => rfl)
  · exact b_74_17 _ _ (b_74_22 _ _ _ (m_refused (fun _ => am_bi (b_74_25 _ _ 1 (fun h9 => absurd h9 (by decide)) (fun _ => b_74_28 _ _ (k2 (by omega) (by omega))))) (fun h9 => absurd h9 (by decide))))
theorem m_word {i : Int} {v2 v3 v4 v5 v6 v7 : AV} (hI : CI γ n) (hR : RM γ α n) (k1 : 0 ≤ i ∧ i < 90 → Q (.inl (some (γ 2 i))) (am_up α 40 0 0) 0) (k0 : ¬ (0 ≤ i ∧ i < 90) → Q (.inl (some 0)) (am_up α 40 0 1) 0) : am_wp sc 76 0 [.inr (.inl 1), .inl i, v2, v3, v4, v5, v6, v7] [] α Q := by
  have bad : ¬ (0 ≤ i ∧ i < 90) → am_wp sc 76 11 [.inr (.inl 1), .inl i, v2, v3, v4, v5, v6, v7] [.inr (.inl 1)] α Q := fun hh =>
    b_76_11 _ _ _ _ _ _ _ (b_76_16 _ _ _ _ _ _ _ _ (m_refused (fun _ => am_bi (b_76_19 _ _ _ _ _ _ _ 1 (fun h9 => absurd h9 (by decide)) (fun _ => b_76_22 _ _ _ _ _ _ _ (k0 hh)))) (fun h9 => absurd h9 (by decide))))
  refine b_76_0 _ _ _ _ _ _ _ (fun h1 => bad (by omega)) (fun h1 => b_76_5 _ _ _ _ _ _ _ (fun h2 => ?_) (fun h2 => bad (by omega)))
  refine b_76_15 _ _ _ _ _ _ _ (b_76_16 _ _ _ _ _ _ _ _ (m_refused (fun h9 => absurd h9 (by decide)) (fun _ => am_bi (b_76_19 _ _ _ _ _ _ _ 0 (fun _ => b_76_24 _ _ _ _ _ _ _ ?_) (fun h9 => absurd rfl h9)))))
  have hn14 := hI.1.n14
  have htop := hI.1.2.2.2.2
  have loop : ∀ (d j : Nat), j + d = n → ∀ (f : Int) (v5 v6 v7 : AV), (i < sT γ j → f = γ 2 i) → (sT γ j ≤ i → f = 0) → am_wp sc 76 31 [.inr (.inl 1), .inl i, .inl (sT γ j), .inl f, .inl (j : Int), v5, v6, v7] [] (am_up α 40 0 0) Q := by
    intro d
    induction d with
    | zero =>
      intro j hj f v5 v6 v7 hf hf'
      refine b_76_31 _ _ _ _ _ _ _ (fun _ => b_76_149 _ _ _ _ _ _ _ ?_) (fun h9 => absurd (show α 41 0 ≤ (j : Int) by rw [hR.1]; omega) h9)
      have e : f = γ 2 i := by
        by_cases hi : i < sT γ j
        · exact hf hi
        · rw [hf' (by omega)]
          rw [show j = n by omega] at hi
          exact ((hI.2.2.2.2.2.2.1 i (by omega) (by omega)).1).symm
      rw [e]; exact k1 ⟨by omega, by omega⟩
    | succ d ih =>
      intro j hj f v5 v6 v7 hf hf'
      have e14 : α 14 j = γ 8 j := hR.2.1 j (by omega)
      have hr := hI.1.2.1 j (by omega)
      have ho := (hI.2.1 (γ 8 j)).mpr ⟨j, by omega, rfl⟩
      have hp := hI.1.2.2.2.1 j (by omega)
      have e16 := (hR.2.2.2.1 _ ho).1
      have hb := hI.1.nn (i := j) (by omega)
      have hb' := hI.1.mono (i := j + 1) (j := n) (by omega) (Nat.le_refl n)
      have eT : sT γ (j + 1) = sT γ j + (γ 5 (γ 8 j) + 2) := rfl
      have i5 := hI.2.2.2.2.1 _ ho
      have nx : ∀ (f' at' : Int) (z7 : Int), (i < sT γ (j + 1) → f' = γ 2 i) → (sT γ (j + 1) ≤ i → f' = 0) → am_wp sc 76 130 [.inr (.inl 1), .inl i, .inl (sT γ j), .inl f, .inl (j : Int), .inl (γ 8 j), .inl at', .inl z7] [.inl f'] (am_up α 40 0 0) Q := by
        intro f' at' z7 a b
        refine b_76_130 _ _ _ _ _ _ _ _ ⟨by omega, by omega⟩ (show am_R (sT γ j + α 16 (γ 8 j)) by rw [e16]; exact ⟨by omega, by omega⟩) (show am_R (sT γ j + α 16 (γ 8 j) + 2) by rw [e16]; exact ⟨by omega, by omega⟩) ⟨by omega, by omega⟩ ?_
        have h9 := ih (j + 1) (by omega) f' (.inl (γ 8 j)) (.inl at') (.inl z7) a b
        rw [show ((j + 1 : Nat) : Int) = (j : Int) + 1 by omega, eT] at h9
        show am_wp sc 76 31 [_, _, .inl (sT γ j + α 16 (γ 8 j) + 2), _, _, _, _, _] [] _ Q
        rw [e16, show sT γ j + γ 5 (γ 8 j) + 2 = sT γ j + (γ 5 (γ 8 j) + 2) by omega]
        exact h9
      refine b_76_31 _ _ _ _ _ _ _ (fun h9 => absurd (show α 41 0 ≤ (j : Int) from h9) (by rw [hR.1]; omega)) (fun _ => ?_)
      have out : ¬ (sT γ j ≤ i ∧ i < sT γ (j + 1)) → ∀ v7 : AV, am_wp sc 76 77 [.inr (.inl 1), .inl i, .inl (sT γ j), .inl f, .inl (j : Int), .inl (γ 8 j), .inl (i - sT γ j), v7] [] (am_up α 40 0 0) Q := by
        intro hno v7
        refine b_76_77 _ _ _ _ _ _ _ (b_76_78 _ _ _ _ _ _ _ 0 (fun h9 => absurd rfl h9) (fun _ => b_76_85 _ _ _ _ _ _ _ (nx f _ 0 (fun a => hf (by omega)) (fun a => hf' (by omega)))))
      have h40 := b_76_40 (sc := sc) (σ := am_up α 40 0 0) (Q := Q) i (sT γ j) f (j : Int) v5 v6 v7 ⟨by omega, by omega⟩ ⟨by omega, by omega⟩
      have e14' : (am_up α 40 0 0) 14 j = γ 8 j := e14
      rw [e14'] at h40
      refine h40 (fun h3 => out (by omega) _) (fun h3 => ?_)
      have e16' : (am_up α 40 0 0) 16 (γ 8 j) = γ 5 (γ 8 j) := e16
      refine b_76_59 _ _ _ _ _ _ _ ⟨by omega, by omega⟩ (by rw [e16']; exact ⟨by omega, by omega⟩) (fun h4 => out (by rw [e16'] at h4; omega) _) (fun h4 => ?_)
      rw [e16'] at h4
      refine b_76_73 _ _ _ _ _ _ _ (b_76_78 _ _ _ _ _ _ _ 1 (fun _ => ?_) (fun h9 => absurd (by decide) h9))
      refine b_76_89 _ _ _ _ _ _ _ (fun h5 => ?_) (fun h5 => ?_)
      · refine b_76_104 _ _ _ _ _ _ _ (fun h6 => ?_) (fun h6 => ?_)
        · have r := hR.2.2.2.2.1 _ (i - sT γ j - 2) ho (by omega) (by omega)
          refine b_76_115 _ _ _ _ _ _ _ ⟨by omega, by omega⟩ ⟨by omega, by omega⟩ ⟨by omega, by omega⟩ ⟨by omega, by omega⟩ (nx _ _ _ (fun _ => ?_) (fun a => by omega))
          show α 19 _ = _
          rw [show 10 * γ 8 j + (i - sT γ j) - 2 = 10 * γ 8 j + (i - sT γ j - 2) by omega, r.1, show γ 4 (γ 8 j) + 2 + (i - sT γ j - 2) = i by omega]
        · refine b_76_110 _ _ _ _ _ _ _ (nx _ _ _ (fun _ => ?_) (fun a => by omega))
          have := i5.2.1
          rw [show γ 4 (γ 8 j) + 1 = i by omega] at this
          exact this.symm
      · refine b_76_94 _ _ _ _ _ _ _ ⟨by omega, by omega⟩ (nx _ _ _ (fun _ => ?_) (fun a => by omega))
        rw [e16']
        have := i5.1
        rw [show γ 4 (γ 8 j) = i by omega] at this
        exact this.symm
  exact loop n 0 (by omega) 0 v5 v6 v7 (fun a => absurd a (by show ¬ i < 0; omega)) (fun _ => rfl)
theorem m_placeOf {h : Int} {v2 v3 v4 : AV} (hI : CI γ n) (hR : RM γ α n) (ho : xO γ h) (k : Q (.inl (some (γ 4 h))) α 0) : am_wp sc 77 0 [.inr (.inl 1), .inl h, v2, v3, v4] [] α Q := by
  have hn14 := hI.1.n14
  have loop : ∀ (d j : Nat), j + d = n → ∀ f : Int, (∀ i : Nat, i < j → γ 8 i = h → f = γ 4 h) → am_wp sc 77 7 [.inr (.inl 1), .inl h, .inl (sT γ j), .inl f, .inl (j : Int)] [] α Q := by
    intro d
    induction d with
    | zero =>
      intro j hj f hf
      refine b_77_7 _ _ _ _ (fun _ => b_77_56 _ _ _ _ ?_) (fun h9 => absurd (by rw [hR.1]; omega) h9)
      obtain ⟨i, hi, he⟩ := (hI.2.1 h).mp ho
      rw [hf i (by omega) he]; exact k
    | succ d ih =>
      intro j hj f hf
      have e14 : α 14 j = γ 8 j := hR.2.1 j (by omega)
      have hr := hI.1.2.1 j (by omega)
      have hoj := (hI.2.1 (γ 8 j)).mpr ⟨j, by omega, rfl⟩
      have hp := hI.1.2.2.2.1 j (by omega)
      have e16 := (hR.2.2.2.1 _ hoj).1
      have hb := hI.1.nn (i := j) (by omega)
      have hb' := hI.1.mono (i := j + 1) (j := n) (by omega) (Nat.le_refl n)
      have h90 := hI.1.2.2.2.2.2
      have eT : sT γ (j + 1) = sT γ j + (γ 5 (γ 8 j) + 2) := rfl
      have nx : ∀ f' : Int, (∀ i : Nat, i < j + 1 → γ 8 i = h → f' = γ 4 h) → am_wp sc 77 32 [.inr (.inl 1), .inl h, .inl (sT γ j), .inl f, .inl (j : Int)] [.inl f'] α Q := by
        intro f' hf'
        refine b_77_32 _ _ _ _ _ ⟨by omega, by omega⟩ (by rw [e14]; exact ⟨by omega, by omega⟩) (by rw [e14, e16]; exact ⟨by omega, by omega⟩) (by rw [e14, e16]; exact ⟨by omega, by omega⟩) ⟨by omega, by omega⟩ ?_
        have h9 := ih (j + 1) (by omega) f' hf'
        rw [show ((j + 1 : Nat) : Int) = (j : Int) + 1 by omega, eT] at h9
        rw [e14, e16, show sT γ j + γ 5 (γ 8 j) + 2 = sT γ j + (γ 5 (γ 8 j) + 2) by omega]
        exact h9
      refine b_77_7 _ _ _ _ (fun h9 => absurd h9 (by rw [hR.1]; omega)) (fun _ => ?_)
      refine b_77_16 _ _ _ _ ⟨by omega, by omega⟩ (fun h1 => b_77_31 _ _ _ _ (nx f (fun i hi he => ?_))) (fun h1 => b_77_27 _ _ _ _ (nx _ (fun i hi he => ?_)))
      · by_cases hij : i = j
        · rw [e14, ← hij] at h1; exact absurd he h1
        · exact hf i (by omega) he
      · rw [e14] at h1
        rw [← Classical.not_not.mp h1]; exact hp.1.symm
  exact b_77_0 _ _ _ _ (loop n 0 (by omega) 0 (fun i hi => absurd hi (Nat.not_lt_zero i)))
theorem pu_s_trunc {f : Int → Int} {m : Nat} (h : ∀ i : Nat, m ≤ i → f i = 0) : ∀ k : Nat, m ≤ k → pu_s f k = pu_s f m := by
  intro k
  induction k with
  | zero => intro hk; rw [show m = 0 by omega]
  | succ k ih =>
    intro hk
    by_cases hmk : m = k + 1
    · rw [hmk]
    · show pu_s f k + f k = _
      rw [ih (by omega), h k (by omega)]; omega
theorem m_heldBy {h : Int} {v2 v3 v4 v5 : AV} (hI : CI γ n) (hR : RM γ α n) (k : Q (.inl (some (pu_h (xob γ) (fun x => pu_s (fun s => xSh γ h (γ 4 x + 2 + s)) (γ 5 x).toNat)))) α 0) : am_wp sc 78 0 [.inr (.inl 1), .inl h, v2, v3, v4, v5] [] α Q := by
  have hW := hR.w
  -- one slot
  have inner : ∀ (a : Int), 1 ≤ a → a ≤ 14 → ∀ B : Int, 0 ≤ B → B ≤ 1000 → (∀ (z4 : Int) (v5 : AV), am_wp sc 78 97 [.inr (.inl 1), .inl h, .inl (B + (if 1 ≤ a ∧ xob γ a = 1 then pu_s (fun s => xSh γ h (γ 4 a + 2 + s)) (γ 5 a).toNat else 0)), .inl a, .inl z4, v5] [] α Q) →
      ∀ v5 : AV, am_wp sc 78 13 [.inr (.inl 1), .inl h, .inl B, .inl a, .inl 0, v5] [] α Q := by
    intro a a1 a2 B b1 b2 kk
    generalize hG : (fun s : Int => if xob γ a = 1 ∧ s < γ 5 a then xSh γ h (γ 4 a + 2 + s) else 0) = G
    have gv : ∀ s : Int, G s = if xob γ a = 1 ∧ s < γ 5 a then xSh γ h (γ 4 a + 2 + s) else 0 := fun s => by rw [← hG]
    have gb : ∀ s : Int, 0 ≤ G s ∧ G s ≤ 1 := by
      intro s
      rw [gv]
      split
      · exact xSh_01
      · omega
    have hb : ∀ i : Nat, 0 ≤ pu_s G i ∧ pu_s G i ≤ i := by
      intro i
      have h1 := pu_s_ge (f := G) (c := 0) (n := i) (fun i hi => (gb i).1)
      have h2 := pu_s_le (f := G) (c := 1) (n := i) (fun i hi => (gb i).2)
      omega
    have tot : pu_s G 10 = if 1 ≤ a ∧ xob γ a = 1 then pu_s (fun s => xSh γ h (γ 4 a + 2 + s)) (γ 5 a).toNat else 0 := by
      by_cases hx : xob γ a = 1
      · have ho : xO γ a := ⟨a1, a2, xob_i.mp hx⟩
        have g := hI.geo a ho
        rw [if_pos ⟨a1, hx⟩, pu_s_trunc (f := G) (m := (γ 5 a).toNat) (fun i hi => by rw [gv, if_neg (fun z => by omega)]) 10 (by omega)]
        refine pu_s_congr (fun i hi => ?_)
        rw [gv, if_pos ⟨hx, by omega⟩]
      · rw [if_neg (fun z => hx z.2), pu_s_trunc (f := G) (m := 0) (fun i hi => by rw [gv, if_neg (fun z => hx z.1)]) 10 (by omega)]
        rfl
    have loop : ∀ (d j : Nat), j + d = 10 → ∀ v5 : AV, am_wp sc 78 13 [.inr (.inl 1), .inl h, .inl (B + pu_s G j), .inl a, .inl (j : Int), v5] [] α Q := by
      intro d
      induction d with
      | zero =>
        intro j hj v5
        refine b_78_13 _ _ _ _ _ (fun _ => ?_) (fun h9 => absurd (by omega) h9)
        rw [show j = 10 by omega, tot]
        exact kk _ _
      | succ d ih =>
        intro j hj v5
        have hbj := hb j
        have nx : ∀ g : Int, g = G j → ∀ z5 : Int, am_wp sc 78 90 [.inr (.inl 1), .inl h, .inl (B + pu_s G j), .inl a, .inl (j : Int), .inl z5] [.inl (B + pu_s G j + g)] α Q := by
          intro g hg z5
          refine b_78_90 _ _ _ _ _ _ ⟨by omega, by omega⟩ ?_
          have h9 := ih (j + 1) (by omega) (.inl z5)
          rw [show ((j + 1 : Nat) : Int) = (j : Int) + 1 by omega, show pu_s G (j + 1) = pu_s G j + G j from rfl, ← hg, ← Int.add_assoc] at h9
          exact h9
        have no : G j = 0 → ∀ v5 : AV, am_wp sc 78 75 [.inr (.inl 1), .inl h, .inl (B + pu_s G j), .inl a, .inl (j : Int), v5] [] α Q := by
          intro hg v5
          have h9 := nx 0 hg.symm 0
          rw [Int.add_zero] at h9
          exact b_78_75 _ _ _ _ _ (b_78_76 _ _ _ _ _ 0 (fun _ => b_78_89 _ _ _ _ _ h9) (fun h8 => absurd rfl h8))
        refine b_78_13 _ _ _ _ _ (fun h9 => absurd h9 (by omega)) (fun _ => ?_)
        refine b_78_20 _ _ _ _ _ ⟨by omega, by omega⟩ (fun h1 => no ?_ _) (fun h1 => ?_)
        · rw [gv, if_neg]
          rintro ⟨z, -⟩
          exact (hW.is a1 a2).mpr ⟨a1, a2, xob_i.mp z⟩ h1
        · have ho := (hW.is a1 a2).mp h1
          have hx : xob γ a = 1 := xob_i.mpr ho.2.2
          have g := hI.geo a ho
          have e16 := (hW.2.1 a ho).1
          refine b_78_29 _ _ _ _ _ ⟨by omega, by omega⟩ (fun h2 => no ?_ _) (fun h2 => ?_)
          · rw [gv, if_neg (fun z => by omega)]
          · rw [e16] at h2
            have r := hR.2.2.2.2.1 a j ho (by omega) (by omega)
            have gj : G j = xSh γ h (γ 4 a + 2 + j) := by rw [gv, if_pos ⟨hx, by omega⟩]
            unfold xSh at gj
            have i6 := hI.2.2.2.2.2.1 a j ho (by omega) (by omega)
            refine b_78_40 _ _ _ _ _ ⟨by omega, by omega⟩ ⟨by omega, by omega⟩ ⟨by omega, by omega⟩ (fun h3 => no ?_ _) (fun h3 => ?_)
            · rw [r.2] at h3
              rw [gj, if_pos (by omega)]
            · rw [r.2] at h3
              rw [if_neg (by omega)] at gj
              refine b_78_55 _ _ _ _ _ ⟨by omega, by omega⟩ ⟨by omega, by omega⟩ ⟨by omega, by omega⟩ (fun h4 => no ?_ _) (fun h4 => ?_)
              · rw [r.1] at h4
                rw [gj, if_neg h4]
              · rw [r.1] at h4
                rw [if_pos (Classical.not_not.mp h4)] at gj
                exact b_78_71 _ _ _ _ _ (b_78_76 _ _ _ _ _ 1 (fun h9 => absurd h9 (by decide)) (fun _ => b_78_83 _ _ _ _ _ ⟨by omega, by omega⟩ (nx 1 gj.symm 1)))
    intro v5
    have h9 := loop 10 0 (by omega) v5
    rw [show B + pu_s G 0 = B from Int.add_zero B] at h9
    exact h9
  have hb : ∀ i : Nat, i ≤ 15 → 0 ≤ pu_s (fun x => if 1 ≤ x ∧ xob γ x = 1 then pu_s (fun s => xSh γ h (γ 4 x + 2 + s)) (γ 5 x).toNat else 0) i ∧ pu_s (fun x => if 1 ≤ x ∧ xob γ x = 1 then pu_s (fun s => xSh γ h (γ 4 x + 2 + s)) (γ 5 x).toNat else 0) i ≤ 10 * i := by
    intro i hi
    have e : ∀ j : Nat, j < i → 0 ≤ (if 1 ≤ (j : Int) ∧ xob γ j = 1 then pu_s (fun s => xSh γ h (γ 4 j + 2 + s)) (γ 5 j).toNat else 0) ∧ (if 1 ≤ (j : Int) ∧ xob γ j = 1 then pu_s (fun s => xSh γ h (γ 4 j + 2 + s)) (γ 5 j).toNat else 0) ≤ 10 := by
      intro j hj
      split
      · rename_i z
        have g := hI.geo (j : Int) ⟨z.1, by omega, xob_i.mp z.2⟩
        have h1 := pu_s_ge (f := fun s => xSh γ h (γ 4 j + 2 + s)) (c := 0) (n := (γ 5 j).toNat) (fun i hi => xSh_01.1)
        have h2 := pu_s_le (f := fun s => xSh γ h (γ 4 j + 2 + s)) (c := 1) (n := (γ 5 j).toNat) (fun i hi => xSh_01.2)
        omega
      · omega
    have h1 := pu_s_ge (f := fun x => if 1 ≤ x ∧ xob γ x = 1 then pu_s (fun s => xSh γ h (γ 4 x + 2 + s)) (γ 5 x).toNat else 0) (c := 0) (n := i) (fun j hj => (e j hj).1)
    have h2 := pu_s_le (f := fun x => if 1 ≤ x ∧ xob γ x = 1 then pu_s (fun s => xSh γ h (γ 4 x + 2 + s)) (γ 5 x).toNat else 0) (c := 10) (n := i) (fun j hj => (e j hj).2)
    omega
  have loop : ∀ (d i : Nat), 1 ≤ i → i + d = 15 → ∀ v4 v5 : AV, am_wp sc 78 4 [.inr (.inl 1), .inl h, .inl (pu_s (fun x => if 1 ≤ x ∧ xob γ x = 1 then pu_s (fun s => xSh γ h (γ 4 x + 2 + s)) (γ 5 x).toNat else 0) i), .inl (i : Int), v4, v5] [] α Q := by
    intro d
    induction d with
    | zero =>
      intro i h1 hi v4 v5
      refine b_78_4 _ _ _ _ _ (fun _ => b_78_103 _ _ _ _ _ ?_) (fun h9 => absurd (by omega) h9)
      rw [show i = 15 by omega]; exact k
    | succ d ih =>
      intro i h1 hi v4 v5
      have hbi := hb i (by omega)
      refine b_78_4 _ _ _ _ _ (fun h9 => absurd h9 (by omega)) (fun _ => b_78_10 _ _ _ _ _ ?_)
      refine inner i (by omega) (by omega) _ (by omega) (by omega) (fun z4 v5 => b_78_97 _ _ _ _ _ ⟨by omega, by omega⟩ ?_) v5
      have h9 := ih (i + 1) (by omega) (by omega) (.inl z4) v5
      rw [show ((i + 1 : Nat) : Int) = (i : Int) + 1 by omega] at h9
      exact h9
  exact b_78_0 _ _ _ _ _ (loop 14 1 (by omega) (by omega) v4 v5)
end ME
