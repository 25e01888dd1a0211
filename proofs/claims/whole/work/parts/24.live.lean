/-! what is live, as the class has it -/
/-- the least closed set with the sources -/
def xL (σ0 : St) (src : Int → Prop) (h : Int) : Prop := ∀ P : Int → Prop, (∀ x, src x → P x) → (∀ h s t, xO σ0 h → P h → xE σ0 h s t → P t) → P h
theorem xL.src {σ0 : St} {src : Int → Prop} {h : Int} (H : src h) : xL σ0 src h := fun _ h1 _ => h1 h H
theorem xL.step {σ0 : St} {src : Int → Prop} (h s t : Int) (ho : xO σ0 h) (H : xL σ0 src h) (e : xE σ0 h s t) : xL σ0 src t := fun P h1 h2 => h2 h s t ho (H P h1 h2) e
theorem xL.mono {σ0 : St} {src src2 : Int → Prop} {h : Int} (H : xL σ0 src h) (hs : ∀ x, src x → src2 x) : xL σ0 src2 h := fun P h1 h2 => H P (fun x hx => h1 x (hs x hx)) h2
theorem xMK.mono {σ0 : St} {P P2 : Int → Prop} {σ : St} {fc : Nat} (h : xMK σ0 P σ fc) (hp : ∀ x, P x → P2 x) : xMK σ0 P2 σ fc := ⟨h.1, h.2.1, h.2.2.1, h.2.2.2.1, fun i hi => ⟨(h.2.2.2.2 i hi).1, hp _ (h.2.2.2.2 i hi).2⟩⟩
/-- in the roots or in the queue -/
def xsrc (σ0 : St) (h : Int) : Prop := (∃ i : Int, 0 ≤ i ∧ i < σ0 32 0 ∧ σ0 9 i = h) ∨ ∃ i : Int, 0 ≤ i ∧ i < σ0 33 0 ∧ σ0 10 i = h
section XL
variable {sc : Int → Int} {Q : Ou → St → Nat → Prop} {σ0 : St}
theorem x_markLive {v1 : AV} (hg : xG σ0) (hr : 0 ≤ σ0 32 0 ∧ σ0 32 0 ≤ 10) (hq : 0 ≤ σ0 33 0 ∧ σ0 33 0 ≤ 14) (hso : ∀ h, xsrc σ0 h → xO σ0 h)
    (k : ∀ (σ' : St) (fc' : Nat), xMK σ0 (xL σ0 (xsrc σ0)) σ' fc' → (∀ h, xL σ0 (xsrc σ0) h → σ' 11 h = 1) → Q (.inl none) σ' 0) : am_wp sc 31 0 [.inr (.inl 0), v1] [] σ0 Q := by
  -- behind the third loop
  have l4 : ∀ (z1 : Int) (σ1 : St) (f1 : Nat), xMK σ0 (xL σ0 (xsrc σ0)) σ1 f1 → (∀ h, xsrc σ0 h → σ1 11 h = 1) → am_wp sc 31 78 [.inr (.inl 0), .inl z1] [] σ1 Q := by
    intro z1 σ1 f1 hM hs
    refine b_31_78 z1 (x_spread hg (fun h s t ho hP e => xL.step h s t ho hP e) hM (fun σ' fc' hM' hmo hcl => am_bi (b_31_82 z1 (k σ' fc' hM' (fun h H => ?_)))))
    exact H (fun x => σ' 11 x = 1) (fun x hx => hmo x (hs x hx)) (fun h s t ho hm e => hcl h s t ho.1 ho.2.1 hm e)
  have l3 : ∀ (d : Nat) (z : Int), 0 ≤ z → z + d = σ0 33 0 → ∀ (σ1 : St) (f1 : Nat), xMK σ0 (xL σ0 (xsrc σ0)) σ1 f1 → (∀ i : Int, 0 ≤ i → i < σ0 32 0 → σ1 11 (σ0 9 i) = 1) → (∀ i : Int, 0 ≤ i → i < z → σ1 11 (σ0 10 i) = 1) → am_wp sc 31 54 [.inr (.inl 0), .inl z] [] σ1 Q := by
    intro d
    induction d with
    | zero =>
      intro z hz hd σ1 f1 hM h1 h2
      have e33 := hM.1 33 (by decide) (by decide) (by decide)
      refine b_31_54 z (fun h3 => l4 z σ1 f1 hM (fun h hs => ?_)) (fun h3 => absurd (by rw [e33]; omega) h3)
      rcases hs with ⟨i, a, b, rfl⟩ | ⟨i, a, b, rfl⟩
      · exact h1 i a b
      · exact h2 i a (by omega)
    | succ d ih =>
      intro z hz hd σ1 f1 hM h1 h2
      have e33 := hM.1 33 (by decide) (by decide) (by decide)
      have e10 := hM.1 10 (by decide) (by decide) (by decide)
      refine b_31_54 z (fun h3 => absurd h3 (by rw [e33]; omega)) (fun h3 => ?_)
      refine b_31_62 z ⟨by omega, by omega⟩ ?_
      rw [e10]
      have hsz : xsrc σ0 (σ0 10 z) := Or.inr ⟨z, by omega, by omega, rfl⟩
      refine x_mark hM (fun _ => xL.src hsz) (fun σ' fc' hM' _ _ hmk hmo => am_bi (b_31_72 z ⟨by omega, by omega⟩ ?_))
      refine ih (z + 1) (by omega) (by omega) σ' fc' hM' (fun i a b => hmo _ (h1 i a b)) (fun i a b => ?_)
      by_cases hiz : i = z
      · rw [hiz]; exact hmk (hso _ hsz)
      · exact hmo _ (h2 i a (by omega))
  have l2 : ∀ (d : Nat) (z : Int), 0 ≤ z → z + d = σ0 32 0 → ∀ (σ1 : St) (f1 : Nat), xMK σ0 (xL σ0 (xsrc σ0)) σ1 f1 → (∀ i : Int, 0 ≤ i → i < z → σ1 11 (σ0 9 i) = 1) → am_wp sc 31 28 [.inr (.inl 0), .inl z] [] σ1 Q := by
    intro d
    induction d with
    | zero =>
      intro z hz hd σ1 f1 hM h1
      have e32 := hM.1 32 (by decide) (by decide) (by decide)
      refine b_31_28 z (fun h3 => ?_) (fun h3 => absurd (by rw [e32]; omega) h3)
      refine b_31_52 z (l3 (σ0 33 0).toNat 0 (by omega) (by omega) σ1 f1 hM (fun i a b => h1 i a (by omega)) (fun i a b => absurd a (by omega)))
    | succ d ih =>
      intro z hz hd σ1 f1 hM h1
      have e32 := hM.1 32 (by decide) (by decide) (by decide)
      have e9 := hM.1 9 (by decide) (by decide) (by decide)
      refine b_31_28 z (fun h3 => absurd h3 (by rw [e32]; omega)) (fun h3 => ?_)
      refine b_31_36 z ⟨by omega, by omega⟩ ?_
      rw [e9]
      have hsz : xsrc σ0 (σ0 9 z) := Or.inl ⟨z, by omega, by omega, rfl⟩
      refine x_mark hM (fun _ => xL.src hsz) (fun σ' fc' hM' _ _ hmk hmo => am_bi (b_31_46 z ⟨by omega, by omega⟩ ?_))
      refine ih (z + 1) (by omega) (by omega) σ' fc' hM' (fun i a b => ?_)
      by_cases hiz : i = z
      · rw [hiz]; exact hmk (hso _ hsz)
      · exact hmo _ (h1 i a (by omega))
  have l1 : ∀ (d : Nat) (z : Int), 1 ≤ z → z + d = 15 → ∀ σ1 : St, (∀ k, k ≠ 11 → σ1 k = σ0 k) → σ1 11 0 = σ0 11 0 → (∀ x, 1 ≤ x → x < z → σ1 11 x = 0) → am_wp sc 31 2 [.inr (.inl 0), .inl z] [] σ1 Q := by
    intro d
    induction d with
    | zero =>
      intro z hz hd σ1 hf h0 hc
      refine b_31_2 z (fun _ => ?_) (fun h3 => absurd (by omega) h3)
      refine b_31_21 z (l2 (σ0 32 0).toNat 0 (by omega) (by omega) _ 0 ⟨fun k h1 h2 h3 => ?_, h0, rfl, ⟨fun i hi => absurd hi (Nat.not_lt_zero i), fun i j hi => absurd hi (Nat.not_lt_zero i), fun x hx1 hx2 => Or.inr ⟨?_, fun i hi => absurd hi (Nat.not_lt_zero i)⟩⟩, fun i hi => absurd hi (Nat.not_lt_zero i)⟩ (fun i a b => absurd a (by omega)))
      · rw [am_up_n h3]; exact hf k h1
      · exact hc x (by omega) (by omega)
    | succ d ih =>
      intro z hz hd σ1 hf h0 hc
      refine b_31_2 z (fun h3 => absurd h3 (by omega)) (fun _ => ?_)
      refine b_31_8 z ⟨by omega, by omega⟩ ⟨by omega, by omega⟩ (ih (z + 1) (by omega) (by omega) _ (fun k h1 => ?_) ?_ (fun x a b => ?_))
      · rw [am_up_n h1]; exact hf k h1
      · show am_u1 (σ1 11) z 0 0 = _
        rw [am_u1_n (by omega)]; exact h0
      · show am_u1 (σ1 11) z 0 x = 0
        by_cases hxz : x = z
        · rw [hxz]; exact am_u1_s
        · rw [am_u1_n hxz]; exact hc x a (by omega)
  exact b_31_0 v1 (l1 14 1 (by omega) (by omega) σ0 (fun _ _ => rfl) rfl (fun x a b => absurd a (by omega)))
/-- those, and what has rites -/
def xsrc2 (σ0 : St) (h : Int) : Prop := xsrc σ0 h ∨ (xO σ0 h ∧ σ0 7 h ≠ 0)
theorem x_markSurvivors {v1 : AV} (hg : xG σ0) (hr : 0 ≤ σ0 32 0 ∧ σ0 32 0 ≤ 10) (hq : 0 ≤ σ0 33 0 ∧ σ0 33 0 ≤ 14) (hso : ∀ h, xsrc σ0 h → xO σ0 h)
    (k : ∀ (σ' : St) (fc' : Nat), xMK σ0 (xL σ0 (xsrc2 σ0)) σ' fc' → (∀ h, xL σ0 (xsrc2 σ0) h → σ' 11 h = 1) → Q (.inl none) σ' 0) : am_wp sc 32 0 [.inr (.inl 0), v1] [] σ0 Q := by
  refine b_32_0 v1 (x_markLive hg hr hq hso (fun σa fa hMa hLa => am_bi (b_32_4 v1 ?_)))
  have loop : ∀ (d : Nat) (z : Int), 1 ≤ z → z + d = 15 → ∀ (σ1 : St) (f1 : Nat), xMK σ0 (xL σ0 (xsrc2 σ0)) σ1 f1 → (∀ h, xsrc σ0 h → σ1 11 h = 1) → (∀ x, x < z → xO σ0 x → σ0 7 x ≠ 0 → σ1 11 x = 1) → am_wp sc 32 6 [.inr (.inl 0), .inl z] [] σ1 Q := by
    intro d
    induction d with
    | zero =>
      intro z hz hd σ1 f1 hM h1 h2
      refine b_32_6 z (fun _ => ?_) (fun h3 => absurd (by omega) h3)
      refine b_32_32 z (x_spread hg (fun h s t ho hP e => xL.step h s t ho hP e) hM (fun σ' fc' hM' hmo hcl => am_bi (b_32_36 z (k σ' fc' hM' (fun h H => ?_)))))
      refine H (fun x => σ' 11 x = 1) (fun x hx => hmo x ?_) (fun h s t ho hm e => hcl h s t ho.1 ho.2.1 hm e)
      rcases hx with hx | ⟨a, b⟩
      · exact h1 x hx
      · exact h2 x (by have := a.2.1; omega) a b
    | succ d ih =>
      intro z hz hd σ1 f1 hM h1 h2
      have e7 := hM.1 7 (by decide) (by decide) (by decide)
      refine b_32_6 z (fun h3 => absurd h3 (by omega)) (fun _ => ?_)
      refine b_32_12 z ⟨by omega, by omega⟩ (fun h4 => ?_) (fun h4 => ?_)
      · refine b_32_26 z ⟨by omega, by omega⟩ (ih (z + 1) (by omega) (by omega) σ1 f1 hM h1 (fun x a b c => ?_))
        by_cases hxz : x = z
        · rw [e7, ← hxz] at h4; exact absurd h4 c
        · exact h2 x (by omega) b c
      · rw [e7] at h4
        refine b_32_21 z (x_mark hM (fun ho => xL.src (Or.inr ⟨ho, h4⟩)) (fun σ' fc' hM' _ _ hmk hmo => am_bi (b_32_26 z ⟨by omega, by omega⟩ ?_)))
        refine ih (z + 1) (by omega) (by omega) σ' fc' hM' (fun h hs => hmo _ (h1 h hs)) (fun x a b c => ?_)
        by_cases hxz : x = z
        · rw [hxz] at b ⊢; exact hmk b
        · exact hmo _ (h2 x (by omega) b c)
  exact loop 14 1 (by omega) (by omega) σa fa (hMa.mono (fun x hx => hx.mono (fun y hy => Or.inl hy))) (fun h hs => hLa h (xL.src hs)) (fun x a b _ => absurd b.1 (by omega))
theorem x_markedWords {P : Int → Prop} {σ : St} {fc : Nat} {v1 v2 : AV} (hg : xG σ0) (hM : xMK σ0 P σ fc) (k : Q (.inl (some (pu_s (fun i => σ0 5 (σ 12 i) + 2) fc))) σ 0) : am_wp sc 35 0 [.inr (.inl 0), v1, v2] [] σ Q := by
  have hle := pu_en_le hM.2.2.2.1
  have hfc := hM.2.2.1
  have e5 := hM.1 5 (by decide) (by decide) (by decide)
  have hb : ∀ i : Nat, i ≤ fc → 0 ≤ pu_s (fun i => σ0 5 (σ 12 i) + 2) i ∧ pu_s (fun i => σ0 5 (σ 12 i) + 2) i ≤ 12 * i := by
    intro i
    induction i with
    | zero => intro _; exact ⟨by show (0 : Int) ≤ 0; omega, by show (0 : Int) ≤ _; omega⟩
    | succ i ih =>
      intro hi
      have h1 := ih (by omega)
      have h2 := hg _ (hM.2.2.2.2 i (by omega)).1
      show 0 ≤ pu_s (fun i => σ0 5 (σ 12 i) + 2) i + (σ0 5 (σ 12 i) + 2) ∧ pu_s (fun i => σ0 5 (σ 12 i) + 2) i + (σ0 5 (σ 12 i) + 2) ≤ _
      omega
  have loop : ∀ (d i : Nat), i + d = fc → am_wp sc 35 4 [.inr (.inl 0), .inl (pu_s (fun i => σ0 5 (σ 12 i) + 2) i), .inl (i : Int)] [] σ Q := by
    intro d
    induction d with
    | zero =>
      intro i hi
      refine b_35_4 _ _ (fun _ => b_35_31 _ _ ?_) (fun h3 => absurd (by rw [hfc]; omega) h3)
      rw [show i = fc by omega]; exact k
    | succ d ih =>
      intro i hi
      have h2 := hM.2.2.2.2 i (by omega)
      have h3 := hg _ h2.1
      have h4 := hb i (by omega)
      have a1 := h2.1.1; have a2 := h2.1.2.1
      refine b_35_4 _ _ (fun h5 => absurd h5 (by rw [hfc]; omega)) (fun _ => ?_)
      refine b_35_12 _ _ ⟨by omega, by omega⟩ (b_22_0 _ ⟨by omega, by omega⟩ (by rw [e5]; exact ⟨by omega, by omega⟩) (am_bi ?_))
      rw [e5]
      refine b_35_23 _ _ _ _ ⟨by omega, by omega⟩ ⟨by omega, by omega⟩ ?_
      rw [show (i : Int) + 1 = ((i + 1 : Nat) : Int) by omega]
      exact ih (i + 1) (by omega)
  exact b_35_0 v1 v2 (loop fc 0 (by omega))
end XL
