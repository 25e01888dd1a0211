/-! the class's marking -/
theorem pu_en_add {e c : Int → Int} {n : Nat} {h : Int} (H : pu_en e n c) (h1 : 1 ≤ h) (h2 : h ≤ 14) (h0 : c h = 0) : pu_en (am_u1 e n h) (n + 1) (am_u1 c h 1) := by
  obtain ⟨g1, g2, g3⟩ := H
  have hno : ∀ i : Nat, i < n → e i ≠ h := by
    intro i hi he
    rcases g3 h.toNat (by omega) (by omega) with ⟨q, -⟩ | ⟨-, q⟩
    · rw [show ((h.toNat : Nat) : Int) = h by omega] at q
      omega
    · exact q i hi (by rw [he]; omega)
  have ein : am_u1 e n h n = h := am_u1_s
  have eil : ∀ i : Nat, i < n → am_u1 e n h i = e i := fun i hi => am_u1_n (by omega)
  refine ⟨fun i hi => ?_, fun i j hi hj he => ?_, fun x hx1 hx2 => ?_⟩
  · by_cases hin : i = n
    · rw [hin, ein]; exact ⟨h1, h2⟩
    · rw [eil i (by omega)]; exact g1 i (by omega)
  · by_cases hin : i = n
    · by_cases hjn : j = n
      · omega
      · rw [hin, ein, eil j (by omega)] at he
        exact absurd he.symm (hno j (by omega))
    · by_cases hjn : j = n
      · rw [hjn, ein, eil i (by omega)] at he
        exact absurd he (hno i (by omega))
      · rw [eil i (by omega), eil j (by omega)] at he
        exact g2 i j (by omega) (by omega) he
  · by_cases hxh : (x : Int) = h
    · left
      exact ⟨by rw [hxh]; exact am_u1_s, n, by omega, by rw [ein, hxh]⟩
    · rcases g3 x hx1 hx2 with ⟨q, i, hi, he⟩ | ⟨q, hq⟩
      · left
        exact ⟨by rw [am_u1_n hxh]; exact q, i, by omega, by rw [eil i hi]; exact he⟩
      · right
        refine ⟨by rw [am_u1_n hxh]; exact q, fun i hi he => ?_⟩
        by_cases hin : i = n
        · rw [hin, ein] at he
          exact hxh he.symm
        · rw [eil i (by omega)] at he
          exact hq i (by omega) he
/-- the marks so far: what is found is what is marked, all of it objects with P -/
def xMK (σ0 : St) (P : Int → Prop) (σ : St) (fc : Nat) : Prop :=
  (∀ k, k ≠ 11 → k ≠ 12 → k ≠ 35 → σ k = σ0 k) ∧ σ 11 0 = σ0 11 0 ∧ σ 35 0 = (fc : Int) ∧ pu_en (σ 12) fc (σ 11) ∧ ∀ i : Nat, i < fc → xO σ0 (σ 12 i) ∧ P (σ 12 i)
theorem xMK.m01 {σ0 : St} {P : Int → Prop} {σ : St} {fc : Nat} (h : xMK σ0 P σ fc) {x : Int} (h1 : 1 ≤ x) (h2 : x ≤ 14) : σ 11 x = 0 ∨ σ 11 x = 1 := by
  rcases h.2.2.2.1.2.2 x.toNat (by omega) (by omega) with ⟨q, -⟩ | ⟨q, -⟩
  · rw [show ((x.toNat : Nat) : Int) = x by omega] at q; exact Or.inr q
  · rw [show ((x.toNat : Nat) : Int) = x by omega] at q; exact Or.inl q
theorem xMK.found {σ0 : St} {P : Int → Prop} {σ : St} {fc : Nat} (h : xMK σ0 P σ fc) {x : Int} (h1 : 1 ≤ x) (h2 : x ≤ 14) (hm : σ 11 x = 1) : ∃ i : Nat, i < fc ∧ σ 12 i = x := by
  rcases h.2.2.2.1.2.2 x.toNat (by omega) (by omega) with ⟨-, i, hi, he⟩ | ⟨q, -⟩
  · exact ⟨i, hi, by rw [he]; omega⟩
  · rw [show ((x.toNat : Nat) : Int) = x by omega] at q; omega
theorem xMK.obj {σ0 : St} {P : Int → Prop} {σ : St} {fc : Nat} (h : xMK σ0 P σ fc) {x : Int} : xO σ x ↔ xO σ0 x := by
  unfold xO
  rw [h.1 4 (by decide) (by decide) (by decide)]
section XM
variable {sc : Int → Int} {Q : Ou → St → Nat → Prop} {σ0 : St} {P : Int → Prop}
theorem x_mark {σ : St} {fc : Nat} {h : Int} (hM : xMK σ0 P σ fc) (hP : xO σ0 h → P h)
    (k : ∀ (σ' : St) (fc' : Nat), xMK σ0 P σ' fc' → fc ≤ fc' → (∀ i : Nat, i < fc → σ' 12 i = σ 12 i) → (xO σ0 h → σ' 11 h = 1) → (∀ x, σ 11 x = 1 → σ' 11 x = 1) → Q (.inl none) σ' 0) : am_wp sc 33 0 [.inr (.inl 0), .inl h] [] σ Q := by
  refine b_33_0 h (x_isObject (fun q => am_bi ?_) (fun q => am_bi ?_))
  · have q0 : xO σ0 h := hM.obj.mp q
    have a1 := q.1; have a2 := q.2.1
    refine b_33_5 h 1 (fun h9 => absurd h9 (by decide)) (fun _ => ?_)
    refine b_33_8 h ⟨by omega, by omega⟩ (fun h1 => ?_) (fun h1 => ?_)
    · refine b_33_44 h (k σ fc hM (Nat.le_refl _) (fun _ _ => rfl) (fun _ => ?_) (fun _ z => z))
      rcases hM.m01 a1 a2 with z | z
      · exact absurd z h1
      · exact z
    · have h0 : σ 11 h = 0 := by
        rcases hM.m01 a1 a2 with z | z
        · exact z
        · exact absurd (by rw [z]; decide) h1
      have hadd := pu_en_add hM.2.2.2.1 a1 a2 h0
      have hle := pu_en_le hadd
      have hfc := hM.2.2.1
      refine b_33_17 h ⟨by omega, by omega⟩ ⟨by omega, by omega⟩ ⟨by omega, by omega⟩ (b_33_44 h ?_)
      refine k _ (fc + 1) ⟨fun k h1 h2 h3 => ?_, ?_, ?_, ?_, fun i hi => ?_⟩ (Nat.le_succ _) (fun i hi => ?_) (fun _ => ?_) (fun x hx => ?_)
      · rw [am_up_n h3, am_up_n h2, am_up_n h1]; exact hM.1 k h1 h2 h3
      · show am_u1 (σ 11) h 1 0 = _
        rw [am_u1_n (by omega)]; exact hM.2.1
      · show σ 35 0 + 1 = _
        rw [hfc]; rfl
      · show pu_en (am_u1 (σ 12) (σ 35 0) h) (fc + 1) (am_u1 (σ 11) h 1)
        rw [hfc]; exact hadd
      · show xO σ0 (am_u1 (σ 12) (σ 35 0) h i) ∧ P (am_u1 (σ 12) (σ 35 0) h i)
        rw [hfc]
        by_cases hin : i = fc
        · rw [hin, am_u1_s]; exact ⟨q0, hP q0⟩
        · rw [am_u1_n (by omega)]; exact hM.2.2.2.2 i (by omega)
      · show am_u1 (σ 12) (σ 35 0) h i = _
        rw [hfc, am_u1_n (by omega)]
      · exact am_u1_s
      · show am_u1 (σ 11) h 1 x = 1
        by_cases hxh : x = h
        · rw [hxh]; exact am_u1_s
        · rw [am_u1_n hxh]; exact hx
  · refine b_33_5 h 0 (fun _ => b_33_44 h (k σ fc hM (Nat.le_refl _) (fun _ _ => rfl) (fun z => absurd (hM.obj.mpr z) q) (fun _ z => z))) (fun h9 => absurd rfl h9)
/-- objects lie within the words -/
def xG (σ0 : St) : Prop := ∀ h, xO σ0 h → 0 ≤ σ0 4 h ∧ 0 ≤ σ0 5 h ∧ σ0 5 h ≤ 10 ∧ σ0 4 h + 2 + σ0 5 h ≤ 90
/-- slot s of h is a reference to an object t -/
def xE (σ0 : St) (h s t : Int) : Prop := 0 ≤ s ∧ s < σ0 5 h ∧ σ0 3 (σ0 4 h + 2 + s) = 1 ∧ σ0 2 (σ0 4 h + 2 + s) = t ∧ xO σ0 t
theorem x_spread_in (hg : xG σ0) (hcl : ∀ h s t, xO σ0 h → P h → xE σ0 h s t → P t) {i h : Int} (ho : xO σ0 h) (hPh : P h) {σs : St} {fs : Nat}
    (kk : ∀ (σ' : St) (fc' : Nat) (z3 : Int), xMK σ0 P σ' fc' → fs ≤ fc' → (∀ j : Nat, j < fs → σ' 12 j = σs 12 j) → (∀ x, σs 11 x = 1 → σ' 11 x = 1) → (∀ s t, xE σ0 h s t → σ' 11 t = 1) → am_wp sc 34 64 [.inr (.inl 0), .inl i, .inl h, .inl z3] [] σ' Q) :
    ∀ (d s : Nat), (s : Int) + d = σ0 5 h → ∀ (σ : St) (fc : Nat), xMK σ0 P σ fc → fs ≤ fc → (∀ j : Nat, j < fs → σ 12 j = σs 12 j) → (∀ x, σs 11 x = 1 → σ 11 x = 1) → (∀ s' t, s' < (s : Int) → xE σ0 h s' t → σ 11 t = 1) →
      am_wp sc 34 29 [.inr (.inl 0), .inl i, .inl h, .inl (σ0 4 h + 2 + s)] [] σ Q := by
  intro d
  induction d with
  | zero =>
    intro s hs σ fc hM hfs hpre hmo hdone
    have e4 := hM.1 4 (by decide) (by decide) (by decide)
    have e5 := hM.1 5 (by decide) (by decide) (by decide)
    obtain ⟨g1, g2, g3, g4⟩ := hg h ho
    have a1 := ho.1; have a2 := ho.2.1
    refine b_34_29 i h _ (x_endOf ⟨by omega, by omega⟩ (by rw [e5]; exact ⟨by omega, by omega⟩) (by rw [e4, e5]; exact ⟨by omega, by omega⟩) (am_bi ?_))
    rw [e4, e5]
    refine b_34_35 i h _ _ _ (fun hle => ?_) (fun hlt => absurd (by omega) hlt)
    exact kk σ fc _ hM hfs hpre hmo (fun s' t z => hdone s' t (by have := z.2.1; omega) z)
  | succ d ih =>
    intro s hs σ fc hM hfs hpre hmo hdone
    have e4 := hM.1 4 (by decide) (by decide) (by decide)
    have e5 := hM.1 5 (by decide) (by decide) (by decide)
    have e3 := hM.1 3 (by decide) (by decide) (by decide)
    have e2 := hM.1 2 (by decide) (by decide) (by decide)
    obtain ⟨g1, g2, g3, g4⟩ := hg h ho
    have a1 := ho.1; have a2 := ho.2.1
    have enx : σ0 4 h + 2 + (s : Int) + 1 = σ0 4 h + 2 + ((s + 1 : Nat) : Int) := by omega
    refine b_34_29 i h _ (x_endOf ⟨by omega, by omega⟩ (by rw [e5]; exact ⟨by omega, by omega⟩) (by rw [e4, e5]; exact ⟨by omega, by omega⟩) (am_bi ?_))
    rw [e4, e5]
    refine b_34_35 i h _ _ _ (fun hle => absurd hle (by omega)) (fun hlt => ?_)
    refine b_34_38 i h _ ⟨by omega, by omega⟩ (fun hk => ?_) (fun hk => ?_)
    · refine b_34_58 i h _ ⟨by omega, by omega⟩ ?_
      rw [enx]
      refine ih (s + 1) (by omega) σ fc hM hfs hpre hmo (fun s' t hs' z => ?_)
      by_cases he : s' = (s : Int)
      · exfalso
        rw [e3] at hk
        have := z.2.2.1
        rw [he] at this
        exact hk this
      · exact hdone s' t (by omega) z
    · refine b_34_48 i h _ ⟨by omega, by omega⟩ ?_
      rw [e3] at hk
      rw [e2]
      have hk1 : σ0 3 (σ0 4 h + 2 + (s : Int)) = 1 := by omega
      refine x_mark hM (fun z => hcl h s _ ho hPh ⟨by omega, by omega, hk1, rfl, z⟩) (fun σ' fc' hM' hle' hpre' hmk hmo' => am_bi ?_)
      refine b_34_58 i h _ ⟨by omega, by omega⟩ ?_
      rw [enx]
      refine ih (s + 1) (by omega) σ' fc' hM' (Nat.le_trans hfs hle') (fun j hj => by rw [hpre' j (by omega)]; exact hpre j hj) (fun x hx => hmo' x (hmo x hx)) (fun s' t hs' z => ?_)
      by_cases he : s' = (s : Int)
      · have h5 := z.2.2.2.1
        rw [he] at h5
        rw [← h5]
        exact hmk (by rw [h5]; exact z.2.2.2.2)
      · exact hmo' _ (hdone s' t (by omega) z)
theorem x_spread {σ : St} {fc : Nat} {v1 v2 v3 : AV} (hg : xG σ0) (hcl : ∀ h s t, xO σ0 h → P h → xE σ0 h s t → P t) (hM : xMK σ0 P σ fc)
    (k : ∀ (σ' : St) (fc' : Nat), xMK σ0 P σ' fc' → (∀ x, σ 11 x = 1 → σ' 11 x = 1) → (∀ h s t, 1 ≤ h → h ≤ 14 → σ' 11 h = 1 → xE σ0 h s t → σ' 11 t = 1) → Q (.inl none) σ' 0) : am_wp sc 34 0 [.inr (.inl 0), v1, v2, v3] [] σ Q := by
  have loop : ∀ (d i : Nat), i + d = 14 → ∀ (v2 v3 : AV) (σ1 : St) (f1 : Nat), xMK σ0 P σ1 f1 → (∀ x, σ 11 x = 1 → σ1 11 x = 1) → (∀ j : Nat, j < i → j < f1 → ∀ s t, xE σ0 (σ1 12 j) s t → σ1 11 t = 1) →
      am_wp sc 34 2 [.inr (.inl 0), .inl (i : Int), v2, v3] [] σ1 Q := by
    intro d
    induction d with
    | zero =>
      intro i hi v2 v3 σ1 f1 hM1 hmo hdone
      have hle := pu_en_le hM1.2.2.2.1
      refine b_34_2 _ v2 v3 (fun h1 => ?_) (fun h1 => absurd (by omega) h1)
      refine b_34_70 _ v2 v3 (k σ1 f1 hM1 hmo (fun h s t a1 a2 hm z => ?_))
      obtain ⟨j, hj, he⟩ := hM1.found a1 a2 hm
      exact hdone j (by omega) hj s t (by rw [he]; exact z)
    | succ d ih =>
      intro i hi v2 v3 σ1 f1 hM1 hmo hdone
      have hle := pu_en_le hM1.2.2.2.1
      have hfc := hM1.2.2.1
      refine b_34_2 _ v2 v3 (fun h1 => absurd h1 (by omega)) (fun h1 => ?_)
      refine b_34_8 _ v2 v3 (fun h2 => ?_) (fun h2 => ?_)
      · refine b_34_70 _ v2 v3 (k σ1 f1 hM1 hmo (fun h s t a1 a2 hm z => ?_))
        obtain ⟨j, hj, he⟩ := hM1.found a1 a2 hm
        exact hdone j (by omega) hj s t (by rw [he]; exact z)
      · have hif : i < f1 := by omega
        obtain ⟨ho, hPh⟩ := hM1.2.2.2.2 i hif
        have e4 := hM1.1 4 (by decide) (by decide) (by decide)
        obtain ⟨g1, g2, g3, g4⟩ := hg _ ho
        have a1 := ho.1; have a2 := ho.2.1
        refine b_34_16 _ v2 v3 ⟨by omega, by omega⟩ (b_21_0 _ ⟨by omega, by omega⟩ (by rw [e4]; exact ⟨by omega, by omega⟩) (am_bi ?_))
        rw [e4]
        refine b_34_28 _ _ v3 _ ?_
        have h9 := x_spread_in (sc := sc) (Q := Q) hg hcl (i := (i : Int)) ho hPh (σs := σ1) (fs := f1) (fun σ' fc' z3 hM' hf' hpre' hmo' hall => by
          refine b_34_64 _ _ z3 ⟨by omega, by omega⟩ ?_
          rw [show (i : Int) + 1 = ((i + 1 : Nat) : Int) by omega]
          refine ih (i + 1) (by omega) _ _ σ' fc' hM' (fun x hx => hmo' x (hmo x hx)) (fun j hj hjf s t z => ?_)
          by_cases hji : j = i
          · subst hji
            rw [hpre' j hif] at z
            exact hall s t z
          · rw [hpre' j (by omega)] at z
            exact hmo' t (hdone j (by omega) (by omega) s t z)) (σ0 5 (σ1 12 i)).toNat 0 (by omega) σ1 f1 hM1 (Nat.le_refl _) (fun _ _ => rfl) (fun _ z => z) (fun s' t hs' z => absurd z.1 (by omega))
        rw [show σ0 4 (σ1 12 (i : Int)) + 2 + ((0 : Nat) : Int) = σ0 4 (σ1 12 (i : Int)) + 2 by omega] at h9
        exact h9
  exact b_34_0 v1 v2 v3 (loop 14 0 rfl v2 v3 σ fc hM (fun _ z => z) (fun j hj => absurd hj (Nat.not_lt_zero j)))
end XM
