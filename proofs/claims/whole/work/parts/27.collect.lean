/-! the class's invariant, and collecting -/
def CI (σ : St) (n : Nat) : Prop :=
  xP σ n ∧ (∀ h, xO σ h ↔ ∃ i : Nat, i < n ∧ σ 8 i = h) ∧
  (∀ h, 1 ≤ h → h ≤ 14 → ¬ xO σ h → σ 5 h = 0 ∧ σ 6 h = 0 ∧ σ 7 h = 0) ∧
  (∀ h, xO σ h → 0 ≤ σ 6 h ∧ σ 6 h ≤ 99 ∧ (σ 7 h = 0 ∨ σ 7 h = 1)) ∧
  (∀ h, xO σ h → σ 2 (σ 4 h) = σ 5 h ∧ σ 2 (σ 4 h + 1) = h ∧ σ 3 (σ 4 h) = 0 ∧ σ 3 (σ 4 h + 1) = 0) ∧
  (∀ h s, xO σ h → 0 ≤ s → s < σ 5 h → σ 3 (σ 4 h + 2 + s) = 0 ∨ ((σ 3 (σ 4 h + 2 + s) = 1 ∨ σ 3 (σ 4 h + 2 + s) = 2) ∧ (σ 2 (σ 4 h + 2 + s) = 0 ∨ xO σ (σ 2 (σ 4 h + 2 + s))))) ∧
  (∀ a, σ 30 0 ≤ a → a < 90 → σ 2 a = 0 ∧ σ 3 a = 0) ∧
  (0 ≤ σ 32 0 ∧ σ 32 0 ≤ 10) ∧ (0 ≤ σ 33 0 ∧ σ 33 0 ≤ 14) ∧ (∀ h, xsrc σ h → xO σ h) ∧
  (∀ i j : Int, 0 ≤ i → i < σ 33 0 → 0 ≤ j → j < σ 33 0 → σ 10 i = σ 10 j → i = j) ∧ σ 11 0 = 0
theorem xP.congr {σ σ' : St} {n : Nat} (h : xP σ n) (e31 : σ' 31 = σ 31) (e8 : σ' 8 = σ 8) (e4 : σ' 4 = σ 4) (e5 : σ' 5 = σ 5) (e30 : σ' 30 = σ 30) : xP σ' n := by
  unfold xP sT
  rw [e31, e8, e4, e5, e30]; exact h
theorem CI.geo {σ : St} {n : Nat} (h : CI σ n) : xG σ := by
  intro x hx
  obtain ⟨i, hi, rfl⟩ := (h.2.1 x).mp hx
  have h1 := h.1.2.2.2.1 i hi
  have h2 := h.1.nn (i := i) (by omega)
  have h3 := h.1.mono (i := i + 1) (j := n) (by omega) (Nat.le_refl _)
  have h4 : sT σ (i + 1) = sT σ i + (σ 5 (σ 8 i) + 2) := rfl
  have h5 := h.1.2.2.2.2.2
  exact ⟨by omega, by omega, by omega, by omega⟩
theorem CI.disj {σ : St} {n : Nat} (h : CI σ n) {x y a : Int} (hx : xO σ x) (hy : xO σ y) (ax : σ 4 x ≤ a ∧ a < σ 4 x + 2 + σ 5 x) (ay : σ 4 y ≤ a ∧ a < σ 4 y + 2 + σ 5 y) : x = y := by
  obtain ⟨i, hi, rfl⟩ := (h.2.1 x).mp hx
  obtain ⟨j, hj, rfl⟩ := (h.2.1 y).mp hy
  have h1 := h.1.2.2.2.1 i hi
  have h2 := h.1.2.2.2.1 j hj
  have h4 : sT σ (i + 1) = sT σ i + (σ 5 (σ 8 i) + 2) := rfl
  have h5 : sT σ (j + 1) = sT σ j + (σ 5 (σ 8 j) + 2) := rfl
  rcases Nat.lt_trichotomy i j with h6 | h6 | h6
  · have := h.1.mono (i := i + 1) (j := j) (by omega) (by omega); omega
  · rw [h6]
  · have := h.1.mono (i := j + 1) (j := i) (by omega) (by omega); omega
theorem CI.top {σ : St} {n : Nat} (h : CI σ n) : 0 ≤ σ 30 0 ∧ σ 30 0 ≤ 90 := by
  have h1 := h.1.nn (Nat.le_refl n)
  have h2 := h.1.2.2.2.2
  omega
theorem CI.below {σ : St} {n : Nat} (h : CI σ n) {x : Int} (hx : xO σ x) : σ 4 x + 2 + σ 5 x ≤ σ 30 0 := by
  obtain ⟨i, hi, rfl⟩ := (h.2.1 x).mp hx
  have h1 := h.1.2.2.2.1 i hi
  have h3 := h.1.mono (i := i + 1) (j := n) (by omega) (Nat.le_refl _)
  have h4 : sT σ (i + 1) = sT σ i + (σ 5 (σ 8 i) + 2) := rfl
  have h5 := h.1.2.2.2.2.1
  omega
/-- c marks the least closed set -/
def xK (σ : St) (src : Int → Prop) (c : Int → Int) : Prop := c 0 = 0 ∧ (∀ h, 1 ≤ h → h ≤ 14 → c h = 0 ∨ c h = 1) ∧ ∀ h, 1 ≤ h → h ≤ 14 → (c h = 1 ↔ xL σ src h)
theorem xMK.K {σ σ' : St} {src : Int → Prop} {fc : Nat} (hM : xMK σ (xL σ src) σ' fc) (hL : ∀ h, xL σ src h → σ' 11 h = 1) (h0 : σ 11 0 = 0) : xK σ src (σ' 11) :=
  ⟨by rw [hM.2.1]; exact h0, fun h a b => hM.m01 a b, fun h a b => ⟨fun z => by obtain ⟨i, hi, he⟩ := hM.found a b z; rw [← he]; exact (hM.2.2.2.2 i hi).2, hL h⟩⟩
theorem xL.obj {σ : St} {src : Int → Prop} {h : Int} (H : xL σ src h) (hs : ∀ x, src x → xO σ x) : xO σ h := H (xO σ) hs (fun _ _ _ _ _ e => e.2.2.2.2)
theorem xL.trans {σ σ' : St} {src src' : Int → Prop} {h : Int} (hO : ∀ h, xO σ h → xO σ' h) (hE : ∀ h s t, xE σ h s t → xE σ' h s t) (hs : ∀ x, src x → xL σ' src' x) (H : xL σ src h) : xL σ' src' h :=
  H (xL σ' src') hs (fun h s t ho hP e => xL.step h s t (hO h ho) hP (hE h s t e))
theorem xMK.cov {σ σ' : St} {P : Int → Prop} {fc n : Nat} (hI : CI σ n) {σ0 : St} (hM : xMK σ0 P σ' fc) (e4 : σ0 4 = σ 4) (e5 : σ0 5 = σ 5) {h a : Int} (ho : xO σ h) (ha : xIn σ h a) : (∃ i : Nat, i < fc ∧ xIn σ' (σ' 12 i) a) ↔ σ' 11 h ≠ 0 := by
  have f4 := hM.1 4 (by decide) (by decide) (by decide)
  have f5 := hM.1 5 (by decide) (by decide) (by decide)
  constructor
  · rintro ⟨i, hi, hin⟩
    have hoi := (hM.2.2.2.2 i hi).1
    unfold xO at hoi
    rw [e4] at hoi
    unfold xIn at hin ha
    rw [f4, f5, e4, e5] at hin
    have := hI.disj (x := σ' 12 i) (y := h) (a := a) hoi ho ⟨by omega, by omega⟩ ⟨by omega, by omega⟩
    rw [← this]
    rcases hM.2.2.2.1.2.2 (σ' 12 i).toNat (by omega) (by omega) with ⟨q, -⟩ | ⟨-, q⟩
    · rw [show (((σ' 12 i).toNat : Nat) : Int) = σ' 12 i by omega] at q; omega
    · exact absurd (by omega) (q i hi)
  · intro hm
    have : σ' 11 h = 1 := by rcases hM.m01 ho.1 ho.2.1 with q | q <;> omega
    obtain ⟨i, hi, he⟩ := hM.found ho.1 ho.2.1 this
    refine ⟨i, hi, ?_⟩
    rw [he]
    unfold xIn at ha ⊢
    rw [f4, f5, e4, e5]; exact ha
/-- what becomes of the word at a of h -/
def xV (σ : St) (c1 c2 : Int → Int) (h a v : Int) : Prop :=
  (σ 3 a = 2 ∧ ((c1 h ≠ 0 ∧ c1 (σ 2 a) = 0) ∨ c2 (σ 2 a) = 0) → v = 0) ∧ (¬ (σ 3 a = 2 ∧ ((c1 h ≠ 0 ∧ c1 (σ 2 a) = 0) ∨ c2 (σ 2 a) = 0)) → v = σ 2 a)
section XP
variable {sc : Int → Int} {Q : Ou → St → Nat → Prop} {σ : St}
theorem x_pre {n : Nat} {v1 : AV} (hI : CI σ n)
    (k : ∀ (c1 : Int → Int) (σe : St), xK σ (xsrc σ) c1 → xK σ (xsrc2 σ) (σe 11) → (∀ k, k ≠ 2 → k ≠ 7 → k ≠ 10 → k ≠ 11 → k ≠ 12 → k ≠ 33 → k ≠ 35 → σe k = σ k) →
      σe 10 = (pu_q (fun h => if σ 7 h = 0 ∨ c1 h ≠ 0 then 0 else 1) (σ 10) (σ 33 0) 14).1 → σe 33 0 = (pu_q (fun h => if σ 7 h = 0 ∨ c1 h ≠ 0 then 0 else 1) (σ 10) (σ 33 0) 14).2 →
      (∀ h, 1 ≤ h → h ≤ 14 → σe 7 h = if c1 h = 0 then 0 else σ 7 h) → (∀ h a, xO σ h → σe 11 h ≠ 0 → xIn σ h a → xV σ c1 (σe 11) h a (σe 2 a)) → (∀ a, (∀ h, xO σ h → ¬ xIn σ h a) → σe 2 a = σ 2 a) →
      (∀ h, xsrc σe h → xL σ (xsrc2 σ) h) → (0 ≤ σe 33 0 ∧ σe 33 0 ≤ 14) → (∀ i j : Int, 0 ≤ i → i < σe 33 0 → 0 ≤ j → j < σe 33 0 → σe 10 i = σe 10 j → i = j) →
      am_wp sc 11 25 [.inr (.inl 0), .inl (σ 30 0)] [] σe Q) : am_wp sc 11 0 [.inr (.inl 0), v1] [] σ Q := by
  obtain ⟨i1, i2, i3, i4, i5, i6, i7, i8, i9, i10, i11, i12⟩ := id hI
  refine b_11_0 v1 (x_markLive hI.geo i8 i9 i10 (fun σa fa hMa hLa => am_bi (b_11_9 _ ?_)))
  have K1 := hMa.K hLa i12
  have ea : ∀ k, k ≠ 11 → k ≠ 12 → k ≠ 35 → σa k = σ k := hMa.1
  have ga : xG σa := by
    intro x hx
    have := hI.geo x (by unfold xO at hx ⊢; rw [ea 4 (by decide) (by decide) (by decide)] at hx; exact hx)
    rw [ea 4 (by decide) (by decide) (by decide), ea 5 (by decide) (by decide) (by decide)]; exact this
  refine x_cut hMa.2.2.1 (pu_en_le hMa.2.2.2.1) (fun i hi => hMa.obj.mpr (hMa.2.2.2.2 i hi).1) ga ?_ K1.1 (fun σb hC => am_bi (b_11_13 _ ?_))
  · intro h s ho a b c
    have ho := hMa.obj.mp ho
    rw [ea 3 (by decide) (by decide) (by decide), ea 4 (by decide) (by decide) (by decide)] at c
    rw [ea 5 (by decide) (by decide) (by decide)] at b
    rw [ea 2 (by decide) (by decide) (by decide), ea 4 (by decide) (by decide) (by decide)]
    rcases i6 h s ho a b with z | ⟨-, z | z⟩
    · omega
    · omega
    · have := z.1; have := z.2.1; omega
  have eb : ∀ k, k ≠ 2 → k ≠ 11 → k ≠ 12 → k ≠ 35 → σb k = σ k := fun k a b c d => by rw [hC.1 k a]; exact ea k b c d
  have b11 : σb 11 = σa 11 := hC.1 11 (by decide)
  have b7 : σb 7 = σ 7 := eb 7 (by decide) (by decide) (by decide) (by decide)
  have b10 : σb 10 = σ 10 := eb 10 (by decide) (by decide) (by decide) (by decide)
  have b33 : σb 33 = σ 33 := eb 33 (by decide) (by decide) (by decide) (by decide)
  have hqobj : ∀ i : Int, 0 ≤ i → i < σ 33 0 → 1 ≤ σ 10 i ∧ σ 10 i ≤ 14 ∧ σa 11 (σ 10 i) ≠ 0 := by
    intro i a b
    have h1 : xsrc σ (σ 10 i) := Or.inr ⟨i, a, b, rfl⟩
    have h2 := i10 _ h1
    exact ⟨h2.1, h2.2.1, by rw [hLa _ (xL.src h1)]; decide⟩
  refine x_queueLost (by rw [b33]; omega) (by rw [b33, b10, b11]; exact hqobj) (by rw [b33, b10]; exact i11) ?_
  rw [b7, b10, b33, b11]
  intro σc hc1 hc10 hc33 hc7
  have inv := pu_q_inv (c := fun h => if σ 7 h = 0 ∨ σa 11 h ≠ 0 then (0 : Int) else 1) (q := σ 10) (n := σ 33 0) (fun i a b => if_pos (Or.inr (hqobj i a b).2.2)) i11 14
  rw [← show (σc 10, σc 33 0) = pu_q (fun h => if σ 7 h = 0 ∨ σa 11 h ≠ 0 then (0 : Int) else 1) (σ 10) (σ 33 0) 14 from by rw [hc10, hc33]] at inv
  obtain ⟨q1, q2, q3, q4, q5⟩ := inv
  have q1 : σ 33 0 ≤ σc 33 0 := q1
  have q2 : ∀ i : Int, i < σ 33 0 → σc 10 i = σ 10 i := q2
  have q3 : ∀ i : Int, σ 33 0 ≤ i → i < σc 33 0 → 1 ≤ σc 10 i ∧ σc 10 i ≤ ((14 : Nat) : Int) ∧ (if σ 7 (σc 10 i) = 0 ∨ σa 11 (σc 10 i) ≠ 0 then (0 : Int) else 1) ≠ 0 := q3
  have q4 : ∀ i j : Int, 0 ≤ i → i < σc 33 0 → 0 ≤ j → j < σc 33 0 → σc 10 i = σc 10 j → i = j := q4
  have q5 : ∀ h : Int, 1 ≤ h → h ≤ ((14 : Nat) : Int) → (if σ 7 h = 0 ∨ σa 11 h ≠ 0 then (0 : Int) else 1) ≠ 0 → ∃ i : Int, σ 33 0 ≤ i ∧ i < σc 33 0 ∧ σc 10 i = h := q5
  have ec : ∀ k, k ≠ 2 → k ≠ 7 → k ≠ 10 → k ≠ 11 → k ≠ 12 → k ≠ 33 → k ≠ 35 → σc k = σ k := fun k a b c d e f g => by rw [hc1 k b c f]; exact eb k a d e g
  have c4 : σc 4 = σ 4 := ec 4 (by decide) (by decide) (by decide) (by decide) (by decide) (by decide) (by decide)
  have c5 : σc 5 = σ 5 := ec 5 (by decide) (by decide) (by decide) (by decide) (by decide) (by decide) (by decide)
  have c3 : σc 3 = σ 3 := ec 3 (by decide) (by decide) (by decide) (by decide) (by decide) (by decide) (by decide)
  have c9 : σc 9 = σ 9 := ec 9 (by decide) (by decide) (by decide) (by decide) (by decide) (by decide) (by decide)
  have c32 : σc 32 = σ 32 := ec 32 (by decide) (by decide) (by decide) (by decide) (by decide) (by decide) (by decide)
  have c2 : σc 2 = σb 2 := hc1 2 (by decide) (by decide) (by decide)
  have c11 : σc 11 = σa 11 := by rw [hc1 11 (by decide) (by decide) (by decide)]; exact b11
  have a2 : σa 2 = σ 2 := ea 2 (by decide) (by decide) (by decide)
  have a3 : σa 3 = σ 3 := ea 3 (by decide) (by decide) (by decide)
  have hOc : ∀ h, xO σc h ↔ xO σ h := by intro h; unfold xO; rw [c4]
  have hk1 : ∀ a, σ 3 a ≠ 2 → σc 2 a = σ 2 a := by
    intro a h1
    rw [c2, (hC.2 a).2 (fun z => h1 (by rw [← a3]; exact z.2.1)), a2]
  have hEc : ∀ h s t, xE σc h s t ↔ xE σ h s t := by
    intro h s t
    unfold xE
    rw [c4, c5, c3, hOc]
    constructor
    · rintro ⟨x, y, z, w, u⟩; exact ⟨x, y, z, by rw [← hk1 _ (by omega)]; exact w, u⟩
    · rintro ⟨x, y, z, w, u⟩; exact ⟨x, y, z, by rw [hk1 _ (by omega)]; exact w, u⟩
  have hlost : ∀ h, 1 ≤ h → h ≤ 14 → σ 7 h ≠ 0 → xO σ h := by
    intro h a b c
    rcases Classical.em (xO σ h) with z | z
    · exact z
    · exact absurd (i3 h a b z).2.2 c
  have hsc : ∀ h, xsrc σc h → xsrc2 σ h := by
    intro h hs
    rcases hs with ⟨i, a, b, e⟩ | ⟨i, a, b, e⟩
    · rw [c32] at b; rw [c9] at e
      exact Or.inl (Or.inl ⟨i, a, b, e⟩)
    · by_cases hi : i < σ 33 0
      · rw [q2 i hi] at e
        exact Or.inl (Or.inr ⟨i, a, hi, e⟩)
      · have h3 := q3 i (by omega) b
        rw [e] at h3
        by_cases h4 : σ 7 h = 0 ∨ σa 11 h ≠ 0
        · rw [if_pos h4] at h3; exact absurd rfl h3.2.2
        · have h5 : σ 7 h ≠ 0 := fun z => h4 (Or.inl z)
          exact Or.inr ⟨hlost h (by omega) (by omega) h5, h5⟩
  have hs2o : ∀ h, xsrc2 σ h → xO σ h := fun h hs => hs.elim (i10 h) (fun z => z.1)
  have hsrcin : ∀ h, xsrc σ h → xsrc σc h := by
    intro h hs
    rcases hs with ⟨i, a, b, e⟩ | ⟨i, a, b, e⟩
    · exact Or.inl ⟨i, a, by rw [c32]; exact b, by rw [c9]; exact e⟩
    · exact Or.inr ⟨i, a, by omega, by rw [q2 i b]; exact e⟩
  have hL21 : ∀ h, xL σ (xsrc2 σ) h → xL σc (xsrc σc) h := by
    intro h H
    refine xL.trans (fun h => (hOc h).mpr) (fun h s t => (hEc h s t).mpr) (fun x hx => ?_) H
    rcases hx with hx | ⟨hx1, hx2⟩
    · exact xL.src (hsrcin x hx)
    · have hx3 := hx1.1; have hx4 := hx1.2.1
      by_cases hm : σa 11 x = 0
      · obtain ⟨i, a, b, e⟩ := q5 x hx3 (by omega) (by rw [if_neg (fun z => z.elim hx2 (fun w => w hm))]; decide)
        exact xL.src (Or.inr ⟨i, by omega, b, e⟩)
      · have hm1 : σa 11 x = 1 := by rcases K1.2.1 x hx3 hx4 with z | z <;> omega
        exact xL.trans (fun h => (hOc h).mpr) (fun h s t => (hEc h s t).mpr) (fun y hy => xL.src (hsrcin y hy)) ((K1.2.2 x hx3 hx4).mp hm1)
  have hL12 : ∀ h, xL σc (xsrc σc) h → xL σ (xsrc2 σ) h := fun h H => xL.trans (fun h => (hOc h).mp) (fun h s t => (hEc h s t).mp) (fun x hx => xL.src (hsc x hx)) H
  have gc : xG σc := by intro x hx; rw [c4, c5]; exact hI.geo x ((hOc x).mp hx)
  have hq14 : σc 33 0 ≤ 14 := by
    refine pu_inj_le' (e := σc 10) (fun i a b => ?_) q4
    have := hs2o _ (hsc (σc 10 i) (Or.inr ⟨i, a, b, rfl⟩))
    exact ⟨this.1, this.2.1⟩
  refine am_bi (b_11_17 _ (x_markLive gc (by rw [c32]; exact i8) ⟨by omega, hq14⟩ (fun h hs => (hOc h).mpr (hs2o h (hsc h hs))) (fun σd fd hMd hLd => am_bi (b_11_21 _ ?_))))
  have Kd := hMd.K hLd (by rw [c11]; exact K1.1)
  have K2 : xK σ (xsrc2 σ) (σd 11) := ⟨Kd.1, Kd.2.1, fun h a b => ⟨fun z => hL12 h ((Kd.2.2 h a b).mp z), fun z => (Kd.2.2 h a b).mpr (hL21 h z)⟩⟩
  have ed : ∀ k, k ≠ 11 → k ≠ 12 → k ≠ 35 → σd k = σc k := hMd.1
  have d2 : σd 2 = σc 2 := ed 2 (by decide) (by decide) (by decide)
  have d3 : σd 3 = σ 3 := by rw [ed 3 (by decide) (by decide) (by decide)]; exact c3
  have d4 : σd 4 = σ 4 := by rw [ed 4 (by decide) (by decide) (by decide)]; exact c4
  have d5 : σd 5 = σ 5 := by rw [ed 5 (by decide) (by decide) (by decide)]; exact c5
  have hOd : ∀ h, xO σd h ↔ xO σ h := by intro h; unfold xO; rw [d4]
  -- the first cut
  have v1 : ∀ h a, xO σ h → xIn σ h a → (σ 3 a = 2 ∧ σa 11 h ≠ 0 ∧ σa 11 (σ 2 a) = 0 → σc 2 a = 0) ∧ (¬ (σ 3 a = 2 ∧ σa 11 h ≠ 0 ∧ σa 11 (σ 2 a) = 0) → σc 2 a = σ 2 a) := by
    intro h a ho hin
    have cv := hMa.cov hI rfl rfl ho hin
    rw [c2]
    have := hC.2 a
    rw [a3, a2] at this
    exact ⟨fun z => this.1 ⟨cv.mpr z.2.1, z.1, z.2.2⟩, fun z => this.2 (fun w => z ⟨w.2.1, cv.mp w.1, w.2.2⟩)⟩
  refine x_cut hMd.2.2.1 (pu_en_le hMd.2.2.2.1) (fun i hi => hMd.obj.mpr (hMd.2.2.2.2 i hi).1) (by intro x hx; rw [d4, d5]; exact hI.geo x ((hOd x).mp hx)) ?_ Kd.1 (fun σe hCe => am_bi (k (σa 11) σe K1 ?_ ?_ ?_ ?_ ?_ ?_ ?_ ?_ ?_ ?_))
  · intro h s ho a b c
    have ho := (hOd h).mp ho
    rw [d3, d4] at c
    rw [d5] at b
    rw [d2, d4]
    have h1 := v1 h (σ 4 h + 2 + s) ho ⟨by omega, by omega⟩
    rcases Classical.em (σ 3 (σ 4 h + 2 + s) = 2 ∧ σa 11 h ≠ 0 ∧ σa 11 (σ 2 (σ 4 h + 2 + s)) = 0) with z | z
    · rw [h1.1 z]; omega
    · rw [h1.2 z]
      rcases i6 h s ho a b with z | ⟨-, z | z⟩
      · omega
      · omega
      · have := z.1; have := z.2.1; omega
  · rw [hCe.1 11 (by decide)]; exact K2
  · intro k a b c d e f g
    rw [hCe.1 k a, ed k d e g]; exact ec k a b c d e f g
  · rw [hCe.1 10 (by decide), ed 10 (by decide) (by decide) (by decide)]; exact hc10
  · rw [hCe.1 33 (by decide), ed 33 (by decide) (by decide) (by decide)]; exact hc33
  · intro h a b
    rw [hCe.1 7 (by decide), ed 7 (by decide) (by decide) (by decide)]; exact hc7 h a b
  · intro h a ho hm hin
    rw [hCe.1 11 (by decide)] at hm ⊢
    have cv := (hMd.cov hI c4 c5 ho hin).mpr hm
    have h1 := v1 h a ho hin
    have h2 := hCe.2 a
    rw [d3, d2] at h2
    constructor
    · rintro ⟨z1, z2⟩
      rcases Classical.em (σ 3 a = 2 ∧ σa 11 h ≠ 0 ∧ σa 11 (σ 2 a) = 0) with z | z
      · exact h2.1 ⟨cv, z1, by rw [h1.1 z]; exact Kd.1⟩
      · rw [h1.2 z] at h2
        refine h2.1 ⟨cv, z1, ?_⟩
        rcases z2 with z2 | z2
        · exact absurd ⟨z1, z2⟩ z
        · exact z2
    · intro z
      have z3 : ¬ (σ 3 a = 2 ∧ σa 11 h ≠ 0 ∧ σa 11 (σ 2 a) = 0) := fun w => z ⟨w.1, Or.inl w.2⟩
      rw [h1.2 z3] at h2
      exact h2.2 (fun w => z ⟨w.2.1, Or.inr w.2.2⟩)
  · intro a hno
    have n1 : σc 2 a = σ 2 a := by
      rw [c2, (hC.2 a).2, a2]
      rintro ⟨⟨i, hi, hin⟩, -⟩
      refine hno _ (hMa.2.2.2.2 i hi).1 ?_
      unfold xIn at hin ⊢
      rw [ea 4 (by decide) (by decide) (by decide), ea 5 (by decide) (by decide) (by decide)] at hin
      exact hin
    rw [(hCe.2 a).2, d2, n1]
    rintro ⟨⟨i, hi, hin⟩, -⟩
    refine hno _ ((hOc _).mp (hMd.2.2.2.2 i hi).1) ?_
    unfold xIn at hin ⊢
    rw [d4, d5] at hin
    exact hin
  · intro h hs
    refine xL.src (hsc h ?_)
    unfold xsrc at hs ⊢
    rw [hCe.1 32 (by decide), hCe.1 33 (by decide), hCe.1 9 (by decide), hCe.1 10 (by decide), ed 32 (by decide) (by decide) (by decide), ed 33 (by decide) (by decide) (by decide), ed 9 (by decide) (by decide) (by decide), ed 10 (by decide) (by decide) (by decide)] at hs
    exact hs
  · rw [hCe.1 33 (by decide), ed 33 (by decide) (by decide) (by decide)]; omega
  · rw [hCe.1 33 (by decide), ed 33 (by decide) (by decide) (by decide), hCe.1 10 (by decide), ed 10 (by decide) (by decide) (by decide)]; exact q4
end XP
