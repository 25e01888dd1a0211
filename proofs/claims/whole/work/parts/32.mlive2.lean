/-! the reference: findLive, save, wordsOf, countLive, weaken, freeHandle -/
section MM
variable {sc : Int → Int} {Q : Ou → St → Nat → Prop} {γ α : St} {n : Nat}
theorem m_findLive {v1 : AV} (hI : CI γ n) (hR : RW γ α) (k : ∀ α' : St, (∀ k, k ≠ 23 → α' k = α k) → xK γ (xsrc γ) (α' 23) → Q (.inl none) α' 0) : am_wp sc 55 0 [.inr (.inl 1), v1] [] α Q := by
  have loop : ∀ (d : Nat) (z : Int), 1 ≤ z → z + d = 15 → ∀ α1 : St, (∀ k, k ≠ 23 → α1 k = α k) → α1 23 0 = 0 → (∀ x, 1 ≤ x → x < z → (α1 23 x = 1 ∧ xsrc γ x) ∨ (α1 23 x = 0 ∧ ¬ xsrc γ x)) → am_wp sc 55 2 [.inr (.inl 1), .inl z] [] α1 Q := by
    intro d
    induction d with
    | zero =>
      intro z hz hd α1 hk h0 hx
      have hR1 : RW γ α1 := hR.scr (fun k a _ _ _ => hk k a) h0
      have hso := hI.2.2.2.2.2.2.2.2.2.1
      refine b_55_2 z (fun _ => b_55_42 z ?_) (fun h9 => absurd (by omega) h9)
      refine m_spread (P := xL γ (xsrc γ)) hI hR1 (fun h s t ho hP e => xL.step h s t ho hP e) ⟨fun _ _ => rfl, h0, fun x a b => ?_⟩ (fun α' hF hmo hc => am_bi (b_55_46 z (k α' (fun k a => by rw [hF.1 k a]; exact hk k a) ⟨hF.2.1, fun h a b => ?_, fun h a b => ⟨fun w => ?_, fun w => ?_⟩⟩)))
      · rcases hx x a (by omega) with q | q
        · exact Or.inr ⟨q.1, hso x q.2, xL.src q.2⟩
        · exact Or.inl q.1
      · rcases hF.2.2 h a b with q | q
        · exact Or.inl q
        · exact Or.inr q.1
      · rcases hF.2.2 h a b with q | q
        · omega
        · exact q.2.2
      · refine w (fun x => α' 23 x = 1) (fun x hs => ?_) (fun a s b oa l e => hc a s b oa l e)
        have ho := hso x hs
        refine hmo x ho.1 ho.2.1 ?_
        rcases hx x ho.1 (by have := ho.2.1; omega) with q | q
        · exact q.1
        · exact absurd hs q.2
    | succ d ih =>
      intro z hz hd α1 hk h0 hx
      have hR1 : RW γ α1 := hR.scr (fun k a _ _ _ => hk k a) h0
      have nx : ∀ v : Int, (v = 1 ∧ xsrc γ z) ∨ (v = 0 ∧ ¬ xsrc γ z) → am_wp sc 55 35 [.inr (.inl 1), .inl z] [.inl v, .inl z, .inr (.inl 23)] α1 Q := by
        intro v hv
        refine b_55_35 z z v ⟨by omega, by omega⟩ (by rcases hv with q | q <;> omega) ⟨by omega, by omega⟩ (ih (z + 1) (by omega) (by omega) _ (fun k a => by rw [am_up_n a]; exact hk k a) ?_ (fun x a b => ?_))
        · rw [am_up_k, am_u1_n (by omega)]; exact h0
        · rw [am_up_k]
          by_cases hxz : x = z
          · rw [hxz, am_u1_s]; exact hv
          · rw [am_u1_n hxz]; exact hx x a (by omega)
      refine b_55_2 z (fun h9 => absurd h9 (by omega)) (fun _ => ?_)
      refine b_55_8 z ⟨by omega, by omega⟩ (fun h1 => b_55_34 z z (nx 0 (Or.inr ⟨rfl, fun hs => ?_⟩))) (fun h1 => b_55_22 z z (m_isSource hI hR1 (fun hs => am_bi ?_) (fun hs => am_bi ?_)))
      · exact (hR1.is hz (by omega)).mpr (hI.2.2.2.2.2.2.2.2.2.1 z hs) h1
      · exact b_55_27 z z 1 (fun h9 => absurd h9 (by decide)) (fun _ => b_55_30 z z (nx 1 (Or.inl ⟨rfl, hs⟩)))
      · exact b_55_27 z z 0 (fun _ => b_55_34 z z (nx 0 (Or.inr ⟨rfl, hs⟩))) (fun h9 => absurd rfl h9)
  exact b_55_0 v1 (loop 14 1 (by omega) (by omega) α (fun _ _ => rfl) hR.2.2.2.2.2.2.2 (fun x a b => absurd a (by omega)))
theorem m_save {v1 : AV} (hI : CI γ n) (hR : RW γ α) (hK : xK γ (xsrc γ) (α 23))
    (k : ∀ α' : St, (∀ k, k ≠ 23 → k ≠ 24 → α' k = α k) → xK γ (xsrc2 γ) (α' 23) → (∀ h, 1 ≤ h → h ≤ 14 → α' 24 h = if γ 7 h = 0 ∨ α 23 h ≠ 0 then 0 else 1) → Q (.inl none) α' 0) : am_wp sc 59 0 [.inr (.inl 1), v1] [] α Q := by
  have hso := hI.2.2.2.2.2.2.2.2.2.1
  have h1live : ∀ x, 1 ≤ x → x ≤ 14 → α 23 x ≠ 0 → xL γ (xsrc γ) x := by
    intro x a b c
    have : α 23 x = 1 := by rcases hK.2.1 x a b with q | q <;> omega
    exact (hK.2.2 x a b).mp this
  have l2 : ∀ (d : Nat) (z : Int), 1 ≤ z → z + d = 15 → ∀ α1 : St, (∀ k, k ≠ 23 → k ≠ 24 → α1 k = α k) → (∀ h, 1 ≤ h → h ≤ 14 → α1 24 h = if γ 7 h = 0 ∨ α 23 h ≠ 0 then 0 else 1) → α1 23 0 = 0 → (∀ x, 1 ≤ x → x < z → α1 23 x = if α 23 x ≠ 0 ∨ γ 7 x ≠ 0 then 1 else 0) → (∀ x, z ≤ x → α1 23 x = α 23 x) → am_wp sc 59 54 [.inr (.inl 1), .inl z] [] α1 Q := by
    intro d
    induction d with
    | zero =>
      intro z hz hd α1 hk h24 h0 hx hy
      have hR1 : RW γ α1 := hR.scr (fun k a b _ _ => hk k a b) h0
      refine b_59_54 z (fun _ => b_59_95 z ?_) (fun h9 => absurd (by omega) h9)
      have hobj : ∀ x, 1 ≤ x → x ≤ 14 → γ 7 x ≠ 0 → xO γ x := by
        intro x a b c
        rcases Classical.em (xO γ x) with q | q
        · exact q
        · exact absurd (hI.2.2.1 x a b q).2.2 c
      refine m_spread (P := xL γ (xsrc2 γ)) hI hR1 (fun h s t ho hP e => xL.step h s t ho hP e) ⟨fun _ _ => rfl, h0, fun x a b => ?_⟩ (fun α' hF hmo hc => am_bi (b_59_99 z (k α' (fun k a b => by rw [hF.1 k a]; exact hk k a b) ⟨hF.2.1, fun h a b => ?_, fun h a b => ⟨fun w => ?_, fun w => ?_⟩⟩ (fun h a b => by rw [hF.1 24 (by decide)]; exact h24 h a b))))
      · rw [hx x a (by omega)]
        by_cases hh : α 23 x ≠ 0 ∨ γ 7 x ≠ 0
        · rw [if_pos hh]
          rcases hh with q | q
          · have := h1live x a b q
            exact Or.inr ⟨rfl, this.obj hso, this.mono (fun y hy => Or.inl hy)⟩
          · exact Or.inr ⟨rfl, hobj x a b q, xL.src (Or.inr ⟨hobj x a b q, q⟩)⟩
        · rw [if_neg hh]; exact Or.inl rfl
      · rcases hF.2.2 h a b with q | q
        · exact Or.inl q
        · exact Or.inr q.1
      · rcases hF.2.2 h a b with q | q
        · omega
        · exact q.2.2
      · refine w (fun x => α' 23 x = 1) (fun x hs => ?_) (fun a s b oa l e => hc a s b oa l e)
        have ho : xO γ x := hs.elim (hso x) (fun q => q.1)
        refine hmo x ho.1 ho.2.1 ?_
        rw [hx x ho.1 (by have := ho.2.1; omega), if_pos]
        rcases hs with q | q
        · left
          rw [(hK.2.2 x ho.1 ho.2.1).mpr (xL.src q)]; decide
        · exact Or.inr q.2
    | succ d ih =>
      intro z hz hd α1 hk h24 h0 hx hy
      have e24 := h24 z hz (by omega)
      have e23 := hy z (Int.le_refl z)
      have nx : ∀ v : Int, v = (if α 23 z ≠ 0 ∨ γ 7 z ≠ 0 then 1 else 0) → am_wp sc 59 88 [.inr (.inl 1), .inl z] [.inl v, .inl z, .inr (.inl 23)] α1 Q := by
        intro v hv
        refine b_59_88 z z v ⟨by omega, by omega⟩ (by rw [hv]; split <;> simp) ⟨by omega, by omega⟩ (ih (z + 1) (by omega) (by omega) _ (fun k a b => by rw [am_up_n a]; exact hk k a b) h24 ?_ (fun x a b => ?_) (fun x a => ?_))
        · rw [am_up_k, am_u1_n (by omega)]; exact h0
        · rw [am_up_k]
          by_cases hxz : x = z
          · rw [hxz, am_u1_s]; exact hv
          · rw [am_u1_n hxz]; exact hx x a (by omega)
        · rw [am_up_k, am_u1_n (by omega)]; exact hy x (by omega)
      refine b_59_54 z (fun h9 => absurd h9 (by omega)) (fun _ => ?_)
      refine b_59_60 z ⟨by omega, by omega⟩ (fun h1 => b_59_83 z z (nx 1 (by rw [if_pos (Or.inl (by rw [← e23]; exact h1))]))) (fun h1 => ?_)
      have h1 : α 23 z = 0 := by rw [← e23]; omega
      refine b_59_74 z z ⟨by omega, by omega⟩ (fun h2 => b_59_87 z z (nx 0 ?_)) (fun h2 => b_59_83 z z (nx 1 ?_))
      · rw [e24] at h2
        by_cases h3 : γ 7 z = 0 ∨ α 23 z ≠ 0
        · rw [if_neg]
          rintro (q | q)
          · exact q h1
          · rcases h3 with w | w
            · exact q w
            · exact w h1
        · rw [if_neg h3] at h2; exact absurd h2 (by decide)
      · rw [e24] at h2
        by_cases h3 : γ 7 z = 0 ∨ α 23 z ≠ 0
        · rw [if_pos h3] at h2; exact absurd rfl h2
        · rw [if_pos (Or.inr (fun q => h3 (Or.inl q)))]
  have l1 : ∀ (d : Nat) (z : Int), 1 ≤ z → z + d = 15 → ∀ α1 : St, (∀ k, k ≠ 24 → α1 k = α k) → (∀ h, 1 ≤ h → h < z → α1 24 h = if γ 7 h = 0 ∨ α 23 h ≠ 0 then 0 else 1) → am_wp sc 59 2 [.inr (.inl 1), .inl z] [] α1 Q := by
    intro d
    induction d with
    | zero =>
      intro z hz hd α1 hk hx
      have e23 := hk 23 (by decide)
      refine b_59_2 z (fun _ => b_59_52 z (l2 14 1 (by omega) (by omega) α1 (fun k _ b => hk k b) (fun h a b => hx h a (by omega)) (by rw [e23]; exact hK.1) (fun x a b => absurd a (by omega)) (fun x _ => by rw [e23]))) (fun h9 => absurd (by omega) h9)
    | succ d ih =>
      intro z hz hd α1 hk hx
      have e23 := hk 23 (by decide); have e15 := hk 15 (by decide); have e18 := hk 18 (by decide)
      have nx : ∀ v : Int, v = (if γ 7 z = 0 ∨ α 23 z ≠ 0 then 0 else 1) → am_wp sc 59 45 [.inr (.inl 1), .inl z] [.inl v, .inl z, .inr (.inl 24)] α1 Q := by
        intro v hv
        refine b_59_45 z z v ⟨by omega, by omega⟩ (by rw [hv]; split <;> simp) ⟨by omega, by omega⟩ (ih (z + 1) (by omega) (by omega) _ (fun k a => by rw [am_up_n a]; exact hk k a) (fun x a b => ?_))
        rw [am_up_k]
        by_cases hxz : x = z
        · rw [hxz, am_u1_s]; exact hv
        · rw [am_u1_n hxz]; exact hx x a (by omega)
      refine b_59_2 z (fun h9 => absurd h9 (by omega)) (fun _ => ?_)
      refine b_59_8 z ⟨by omega, by omega⟩ (fun h1 => b_59_44 z z (nx 0 ?_)) (fun h1 => ?_)
      · rw [e15] at h1
        rw [if_pos]
        refine Or.inl (hI.2.2.1 z hz (by omega) (fun q => (hR.is hz (by omega)).mpr q h1)).2.2
      · rw [e15] at h1
        have ho := (hR.is hz (by omega)).mp h1
        have e7 := (hR.2.1 z ho).2
        refine b_59_22 z z ⟨by omega, by omega⟩ (fun h2 => b_59_44 z z (nx 0 (by rw [if_pos (Or.inr (by rw [← e23]; exact h2))]))) (fun h2 => ?_)
        rw [e23] at h2
        refine b_59_31 z z ⟨by omega, by omega⟩ (fun h3 => b_59_44 z z (nx 0 ?_)) (fun h3 => b_59_40 z z (nx 1 ?_))
        · rw [e18, e7] at h3; rw [if_pos (Or.inl h3)]
        · rw [e18, e7] at h3
          rw [if_neg]
          rintro (q | q)
          · exact h3 q
          · exact h2 q
  exact b_59_0 v1 (l1 14 1 (by omega) (by omega) α (fun _ _ => rfl) (fun x a b => absurd a (by omega)))
theorem m_wordsOf {l : Int} {v2 v3 : AV} (c : Int → Int) (hc : ∀ h, 1 ≤ h → h ≤ 14 → (c h = 1 ↔ α 15 h ≠ 0 ∧ (α 23 h ≠ 0 ∨ l = 0))) (hg : ∀ h, 1 ≤ h → h ≤ 14 → c h = 1 → 0 ≤ α 16 h ∧ α 16 h ≤ 10)
    (k : Q (.inl (some (pu_h c (fun x => α 16 x + 2)))) α 0) : am_wp sc 56 0 [.inr (.inl 1), .inl l, v2, v3] [] α Q := by
  have nx : ∀ i : Nat, pu_s (fun h => if 1 ≤ h ∧ c h = 1 then α 16 h + 2 else 0) (i + 1) = pu_s (fun h => if 1 ≤ h ∧ c h = 1 then α 16 h + 2 else 0) i + (if 1 ≤ (i : Int) ∧ c i = 1 then α 16 i + 2 else 0) := fun i => rfl
  have hb : ∀ i : Nat, i ≤ 15 → 0 ≤ pu_s (fun h => if 1 ≤ h ∧ c h = 1 then α 16 h + 2 else 0) i ∧ pu_s (fun h => if 1 ≤ h ∧ c h = 1 then α 16 h + 2 else 0) i ≤ 12 * i := by
    intro i
    induction i with
    | zero => intro _; exact ⟨Int.le_refl 0, by show (0 : Int) ≤ _; omega⟩
    | succ i ih =>
      intro hi
      have h1 := ih (by omega)
      rw [nx]
      by_cases h2 : 1 ≤ (i : Int) ∧ c i = 1
      · have := hg i h2.1 (by omega) h2.2
        rw [if_pos h2]; omega
      · rw [if_neg h2]; omega
  have loop : ∀ (d i : Nat), 1 ≤ i → i + d = 15 → am_wp sc 56 4 [.inr (.inl 1), .inl l, .inl (pu_s (fun h => if 1 ≤ h ∧ c h = 1 then α 16 h + 2 else 0) i), .inl (i : Int)] [] α Q := by
    intro d
    induction d with
    | zero =>
      intro i h1 hi
      refine b_56_4 _ _ _ (fun _ => b_56_53 _ _ _ ?_) (fun h9 => absurd (by omega) h9)
      rw [show i = 15 by omega]; exact k
    | succ d ih =>
      intro i h1 hi
      have hbi := hb i (by omega)
      have hci := hc i (by omega) (by omega)
      have ih := ih (i + 1) (by omega) (by omega)
      rw [nx, show ((i + 1 : Nat) : Int) = (i : Int) + 1 by omega] at ih
      have no : ¬ (c i = 1) → am_wp sc 56 45 [.inr (.inl 1), .inl l, .inl (pu_s (fun h => if 1 ≤ h ∧ c h = 1 then α 16 h + 2 else 0) i), .inl (i : Int)] [] α Q := by
        intro hn
        rw [if_neg (fun z => hn z.2), Int.add_zero] at ih
        exact b_56_45 _ _ _ (b_56_46 _ _ _ _ ⟨by omega, by omega⟩ ih)
      have yes : c i = 1 → am_wp sc 56 32 [.inr (.inl 1), .inl l, .inl (pu_s (fun h => if 1 ≤ h ∧ c h = 1 then α 16 h + 2 else 0) i), .inl (i : Int)] [] α Q := by
        intro hy
        have g := hg i (by omega) (by omega) hy
        rw [if_pos ⟨by omega, hy⟩, ← Int.add_assoc] at ih
        exact b_56_32 _ _ _ ⟨by omega, by omega⟩ ⟨by omega, by omega⟩ ⟨by omega, by omega⟩ (b_56_46 _ _ _ _ ⟨by omega, by omega⟩ ih)
      refine b_56_4 _ _ _ (fun h9 => absurd h9 (by omega)) (fun _ => ?_)
      refine b_56_10 _ _ _ ⟨by omega, by omega⟩ (fun h2 => no (fun w => (hci.mp w).1 h2)) (fun h2 => ?_)
      refine b_56_19 _ _ _ ⟨by omega, by omega⟩ (fun h3 => yes (hci.mpr ⟨h2, Or.inl h3⟩)) (fun h3 => ?_)
      refine b_56_28 _ _ _ (fun h4 => no (fun w => ?_)) (fun h4 => yes (hci.mpr ⟨h2, Or.inr (by omega)⟩))
      rcases (hci.mp w).2 with q | q
      · exact h3 q
      · exact h4 q
  exact b_56_0 l v2 v3 (loop 14 1 (by omega) (by omega))
theorem m_countLive {v1 v2 : AV} (h01 : ∀ h, 1 ≤ h → h ≤ 14 → α 23 h = 0 ∨ α 23 h = 1) (k : Q (.inl (some (pu_h (α 23) (fun _ => 1)))) α 0) : am_wp sc 57 0 [.inr (.inl 1), v1, v2] [] α Q := by
  have nx : ∀ i : Nat, pu_s (fun h => if 1 ≤ h ∧ α 23 h = 1 then (1 : Int) else 0) (i + 1) = pu_s (fun h => if 1 ≤ h ∧ α 23 h = 1 then (1 : Int) else 0) i + (if 1 ≤ (i : Int) ∧ α 23 i = 1 then (1 : Int) else 0) := fun i => rfl
  have hb : ∀ i : Nat, 0 ≤ pu_s (fun h => if 1 ≤ h ∧ α 23 h = 1 then (1 : Int) else 0) i ∧ pu_s (fun h => if 1 ≤ h ∧ α 23 h = 1 then (1 : Int) else 0) i ≤ i := by
    intro i
    induction i with
    | zero => exact ⟨Int.le_refl 0, Int.le_refl 0⟩
    | succ i ih => rw [nx]; split <;> omega
  have loop : ∀ (d i : Nat), 1 ≤ i → i + d = 15 → am_wp sc 57 4 [.inr (.inl 1), .inl (pu_s (fun h => if 1 ≤ h ∧ α 23 h = 1 then (1 : Int) else 0) i), .inl (i : Int)] [] α Q := by
    intro d
    induction d with
    | zero =>
      intro i h1 hi
      refine b_57_4 _ _ (fun _ => b_57_33 _ _ ?_) (fun h9 => absurd (by omega) h9)
      rw [show i = 15 by omega]; exact k
    | succ d ih =>
      intro i h1 hi
      have hbi := hb i
      have h01i := h01 i (by omega) (by omega)
      have ih := ih (i + 1) (by omega) (by omega)
      rw [nx, show ((i + 1 : Nat) : Int) = (i : Int) + 1 by omega] at ih
      refine b_57_4 _ _ (fun h9 => absurd h9 (by omega)) (fun _ => ?_)
      refine b_57_10 _ _ ⟨by omega, by omega⟩ (fun h2 => b_57_25 _ _ (b_57_26 _ _ _ ⟨by omega, by omega⟩ ?_)) (fun h2 => b_57_19 _ _ ⟨by omega, by omega⟩ (b_57_26 _ _ _ ⟨by omega, by omega⟩ ?_))
      · rw [if_neg (fun z => by omega), Int.add_zero] at ih; exact ih
      · rw [if_pos ⟨by omega, by omega⟩] at ih; exact ih
  exact b_57_0 v1 v2 (loop 14 1 (by omega) (by omega))
/-- what weakening makes of a value -/
def mWk (α : St) (c : Int → Int) (h s v : Int) : Prop :=
  (α 20 (10 * h + s) = 2 ∧ c (α 19 (10 * h + s)) = 0 → v = 0) ∧ (¬ (α 20 (10 * h + s) = 2 ∧ c (α 19 (10 * h + s)) = 0) → v = α 19 (10 * h + s))
theorem m_weaken {h : Int} {v2 v3 : AV} (h1 : 1 ≤ h) (h2 : h ≤ 14) (h16 : 0 ≤ α 16 h ∧ α 16 h ≤ 10) (hv : ∀ s, 0 ≤ s → s < α 16 h → α 20 (10 * h + s) = 2 → 0 ≤ α 19 (10 * h + s) ∧ α 19 (10 * h + s) ≤ 14) (h0 : α 23 0 = 0)
    (k : ∀ α' : St, (∀ k, k ≠ 19 → α' k = α k) → (∀ s, 0 ≤ s → s < α 16 h → mWk α (α 23) h s (α' 19 (10 * h + s))) → (∀ a, a < 10 * h ∨ 10 * h + α 16 h ≤ a → α' 19 a = α 19 a) → Q (.inl none) α' 0) : am_wp sc 58 0 [.inr (.inl 1), .inl h, v2, v3] [] α Q := by
  have loop : ∀ (d : Nat) (z : Int), 0 ≤ z → z + d = α 16 h → ∀ (v3 : AV) (α1 : St), (∀ k, k ≠ 19 → α1 k = α k) → (∀ s, 0 ≤ s → s < z → mWk α (α 23) h s (α1 19 (10 * h + s))) → (∀ a, a < 10 * h ∨ 10 * h + z ≤ a → α1 19 a = α 19 a) → am_wp sc 58 2 [.inr (.inl 1), .inl h, .inl z, v3] [] α1 Q := by
    intro d
    induction d with
    | zero =>
      intro z hz hd v3 α1 hk hw ho
      have e16 := hk 16 (by decide)
      refine b_58_2 _ _ _ ⟨by omega, by omega⟩ (fun _ => b_58_74 _ _ _ (k α1 hk (fun s a b => hw s a (by omega)) (fun a ha => ho a (by omega)))) (fun h9 => absurd (by rw [e16]; omega) h9)
    | succ d ih =>
      intro z hz hd v3 α1 hk hw ho
      have e16 := hk 16 (by decide); have e20 := hk 20 (by decide); have e23 := hk 23 (by decide)
      have e19 := ho (10 * h + z) (by omega)
      have nx : ∀ v : Int, mWk α (α 23) h z v → am_wp sc 58 67 [.inr (.inl 1), .inl h, .inl z, .inl (10 * h + z)] [.inl v, .inl (10 * h + z), .inr (.inl 19)] α1 Q := by
        intro v hvv
        refine b_58_67 _ _ _ _ _ ⟨by omega, by omega⟩ ⟨by omega, by omega⟩ (ih (z + 1) (by omega) (by omega) _ _ (fun k a => by rw [am_up_n a]; exact hk k a) (fun s a b => ?_) (fun a ha => ?_))
        · rw [am_up_k]
          by_cases hsz : s = z
          · rw [hsz, am_u1_s]; exact hvv
          · rw [am_u1_n (by omega)]; exact hw s a (by omega)
        · rw [am_up_k, am_u1_n (by omega)]; exact ho a (by omega)
      have same : ¬ (α 20 (10 * h + z) = 2 ∧ 0 < α 19 (10 * h + z) ∧ α 23 (α 19 (10 * h + z)) = 0) → am_wp sc 58 61 [.inr (.inl 1), .inl h, .inl z, .inl (10 * h + z)] [.inl (10 * h + z), .inr (.inl 19)] α1 Q := by
        intro hn
        refine b_58_61 _ _ _ _ ⟨by omega, by omega⟩ (nx _ ⟨fun w => ?_, fun _ => e19⟩)
        rw [e19]
        have := hv z hz (by omega) w.1
        rcases Classical.em (0 < α 19 (10 * h + z)) with q | q
        · exact absurd ⟨w.1, q, w.2⟩ hn
        · omega
      refine b_58_2 _ _ _ ⟨by omega, by omega⟩ (fun h9 => absurd h9 (by rw [e16]; omega)) (fun _ => ?_)
      refine b_58_12 _ _ _ ⟨by omega, by omega⟩ ⟨by omega, by omega⟩ ⟨by omega, by omega⟩ (fun h3 => same (fun w => h3 (by rw [e20]; exact w.1))) (fun h3 => ?_)
      rw [e20] at h3
      have h3 : α 20 (10 * h + z) = 2 := by omega
      have hvz := hv z hz (by omega) h3
      refine b_58_34 _ _ _ _ ⟨by omega, by omega⟩ (fun h4 => same (fun w => by rw [e19] at h4; omega)) (fun h4 => ?_)
      rw [e19] at h4
      refine b_58_43 _ _ _ _ ⟨by omega, by omega⟩ (by rw [e19]; exact ⟨by omega, by omega⟩) (fun h5 => same (fun w => ?_)) (fun h5 => ?_)
      · rw [e19, e23] at h5; exact h5 w.2.2
      · rw [e19, e23] at h5
        have h5 : α 23 (α 19 (10 * h + z)) = 0 := by omega
        exact b_58_57 _ _ _ _ (nx 0 ⟨fun _ => rfl, fun w => absurd ⟨h3, h5⟩ w⟩)
  exact b_58_0 h v2 v3 (loop (α 16 h).toNat 0 (by omega) (by omega) v3 α (fun _ _ => rfl) (fun s a b => absurd a (by omega)) (fun _ _ => rfl))
theorem m_freeHandle {v1 v2 : AV} (k1 : ∀ h, 1 ≤ h → h ≤ 14 → α 15 h = 0 → (∀ x, 1 ≤ x → x < h → α 15 x ≠ 0) → Q (.inl (some h)) α 0) (k0 : (∀ x, 1 ≤ x → x ≤ 14 → α 15 x ≠ 0) → Q (.inl (some (-1))) α 0) : am_wp sc 62 0 [.inr (.inl 1), v1, v2] [] α Q := by
  have loop : ∀ (d : Nat) (f : Int), d ≤ 14 → ((f = -1 ∧ ∀ x, (d : Int) < x → x ≤ 14 → α 15 x ≠ 0) ∨ ((d : Int) < f ∧ f ≤ 14 ∧ α 15 f = 0 ∧ ∀ x, (d : Int) < x → x < f → α 15 x ≠ 0)) → am_wp sc 62 5 [.inr (.inl 1), .inl f, .inl (d : Int)] [] α Q := by
    intro d
    induction d with
    | zero =>
      intro f _ hf
      refine b_62_5 _ _ (fun _ => b_62_30 _ _ ?_) (fun h9 => absurd (by decide) h9)
      rcases hf with ⟨q, w⟩ | ⟨q1, q2, q3, q4⟩
      · rw [q]; exact k0 (fun x a b => w x (by omega) b)
      · exact k1 f (by omega) q2 q3 (fun x a b => q4 x (by omega) b)
    | succ d ih =>
      intro f hd hf
      refine b_62_5 _ _ (fun h9 => absurd h9 (by omega)) (fun _ => ?_)
      refine b_62_9 _ _ ⟨by omega, by omega⟩ (fun h1 => b_62_22 _ _ (b_62_23 _ _ _ ⟨by omega, by omega⟩ ?_)) (fun h1 => b_62_18 _ _ (b_62_23 _ _ _ ⟨by omega, by omega⟩ ?_))
      · rw [show ((d + 1 : Nat) : Int) + (-1) = (d : Int) by omega]
        exact ih _ (by omega) (Or.inr ⟨by omega, by omega, h1, fun x a b => absurd a (by omega)⟩)
      · rw [show ((d + 1 : Nat) : Int) + (-1) = (d : Int) by omega]
        refine ih _ (by omega) ?_
        rcases hf with ⟨q, w⟩ | ⟨q1, q2, q3, q4⟩
        · refine Or.inl ⟨q, fun x a b => ?_⟩
          by_cases hx : x = ((d + 1 : Nat) : Int)
          · rw [hx]; exact h1
          · exact w x (by omega) b
        · refine Or.inr ⟨by omega, q2, q3, fun x a b => ?_⟩
          by_cases hx : x = ((d + 1 : Nat) : Int)
          · rw [hx]; exact h1
          · exact q4 x (by omega) b
  exact b_62_0 v1 v2 (loop 14 (-1) (by omega) (Or.inl ⟨rfl, fun x a b => absurd a (by omega)⟩))
end MM
