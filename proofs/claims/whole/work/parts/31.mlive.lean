/-! the reference's live sets; γ is a state of the class that it stands for -/
def RW (γ α : St) : Prop :=
  (∀ h, 1 ≤ h → h ≤ 14 → (α 15 h = 1 ∧ xO γ h) ∨ (α 15 h = 0 ∧ ¬ xO γ h)) ∧ (∀ h, xO γ h → α 16 h = γ 5 h ∧ α 18 h = γ 7 h) ∧
  (∀ h s, xO γ h → 0 ≤ s → s < γ 5 h → α 20 (10 * h + s) = γ 3 (γ 4 h + 2 + s) ∧ (γ 3 (γ 4 h + 2 + s) = 1 → α 19 (10 * h + s) = γ 2 (γ 4 h + 2 + s))) ∧
  α 42 0 = γ 32 0 ∧ (∀ i, 0 ≤ i → i < γ 32 0 → α 21 i = γ 9 i) ∧ α 43 0 = γ 33 0 ∧ (∀ i, 0 ≤ i → i < γ 33 0 → α 22 i = γ 10 i) ∧ α 23 0 = 0
theorem RW.is {γ α : St} (h : RW γ α) {x : Int} (a : 1 ≤ x) (b : x ≤ 14) : α 15 x ≠ 0 ↔ xO γ x := by
  rcases h.1 x a b with z | z
  · exact ⟨fun _ => z.2, fun _ => by omega⟩
  · exact ⟨fun w => absurd z.1 w, fun w => absurd w z.2⟩
theorem RW.scr {γ α α' : St} (h : RW γ α) (e : ∀ k, k ≠ 23 → k ≠ 24 → k ≠ 25 → k ≠ 40 → α' k = α k) (e0 : α' 23 0 = 0) : RW γ α' := by
  unfold RW
  rw [e 15 (by decide) (by decide) (by decide) (by decide), e 16 (by decide) (by decide) (by decide) (by decide), e 18 (by decide) (by decide) (by decide) (by decide), e 19 (by decide) (by decide) (by decide) (by decide), e 20 (by decide) (by decide) (by decide) (by decide), e 21 (by decide) (by decide) (by decide) (by decide), e 22 (by decide) (by decide) (by decide) (by decide), e 42 (by decide) (by decide) (by decide) (by decide), e 43 (by decide) (by decide) (by decide) (by decide)]
  exact ⟨h.1, h.2.1, h.2.2.1, h.2.2.2.1, h.2.2.2.2.1, h.2.2.2.2.2.1, h.2.2.2.2.2.2.1, e0⟩
theorem am_up_same {σ : St} {k : Nat} {j : Int} : am_up σ k j (σ k j) = σ := by
  funext k'
  by_cases hk : k' = k
  · subst hk
    funext j'
    by_cases hj : j' = j
    · subst hj; simp [am_up, am_u1]
    · simp [am_up, am_u1, hj]
  · rw [am_up_n hk]
theorem am_up_k {σ : St} {k : Nat} {j v : Int} : am_up σ k j v k = am_u1 (σ k) j v := by
  unfold am_up; simp
section ML
variable {sc : Int → Int} {Q : Ou → St → Nat → Prop} {γ α : St} {n : Nat}
theorem m_isSource {h : Int} {v2 v3 : AV} (hI : CI γ n) (hR : RW γ α) (k1 : xsrc γ h → Q (.inl (some 1)) α 0) (k0 : ¬ xsrc γ h → Q (.inl (some 0)) α 0) : am_wp sc 52 0 [.inr (.inl 1), .inl h, v2, v3] [] α Q := by
  obtain ⟨-, -, -, r42, r21, r43, r22, -⟩ := hR
  have h32 := hI.2.2.2.2.2.2.2.1
  have h33 := hI.2.2.2.2.2.2.2.2.1
  have l2 : ∀ (d : Nat) (f z : Int), 0 ≤ z → z + d = γ 33 0 → ((f = 1 ∧ xsrc γ h) ∨ (f = 0 ∧ (∀ i, 0 ≤ i → i < γ 32 0 → γ 9 i ≠ h) ∧ ∀ i, 0 ≤ i → i < z → γ 10 i ≠ h)) → am_wp sc 52 40 [.inr (.inl 1), .inl h, .inl f, .inl z] [] α Q := by
    intro d
    induction d with
    | zero =>
      intro f z hz hd hf
      refine b_52_40 _ _ _ (fun _ => b_52_74 _ _ _ (by rcases hf with q | q <;> omega) ?_) (fun h9 => absurd (by omega) h9)
      rcases hf with ⟨q, w⟩ | ⟨q, w, u⟩
      · rw [q]; exact k1 w
      · rw [q]; refine k0 (fun s => ?_)
        rcases s with ⟨i, a, b, e⟩ | ⟨i, a, b, e⟩
        · exact w i a b e
        · exact u i a (by omega) e
    | succ d ih =>
      intro f z hz hd hf
      refine b_52_40 _ _ _ (fun h9 => absurd h9 (by omega)) (fun _ => ?_)
      refine b_52_48 _ _ _ (fun h1 => ?_) (fun h1 => ?_)
      · refine b_52_62 _ _ _ (b_52_67 _ _ _ _ ⟨by omega, by omega⟩ (ih 1 (z + 1) (by omega) (by omega) (Or.inl ⟨rfl, ?_⟩)))
        rcases hf with q | q
        · exact q.2
        · exact absurd q.1 h1
      · obtain ⟨q, w, u⟩ : f = 0 ∧ (∀ i, 0 ≤ i → i < γ 32 0 → γ 9 i ≠ h) ∧ ∀ i, 0 ≤ i → i < z → γ 10 i ≠ h := by
          rcases hf with q | q
          · omega
          · exact q
        refine b_52_52 _ _ _ ⟨by omega, by omega⟩ (fun h2 => b_52_66 _ _ _ (b_52_67 _ _ _ _ ⟨by omega, by omega⟩ (ih 0 (z + 1) (by omega) (by omega) (Or.inr ⟨rfl, w, fun i a b => ?_⟩)))) (fun h2 => b_52_62 _ _ _ (b_52_67 _ _ _ _ ⟨by omega, by omega⟩ (ih 1 (z + 1) (by omega) (by omega) (Or.inl ⟨rfl, Or.inr ⟨z, by omega, by omega, ?_⟩⟩))))
        · by_cases hiz : i = z
          · rw [hiz, ← r22 z hz (by omega)]; exact h2
          · exact u i a (by omega)
        · rw [← r22 z hz (by omega)]; exact Classical.not_not.mp h2
  have l1 : ∀ (d : Nat) (f z : Int), 0 ≤ z → z + d = γ 32 0 → ((f = 1 ∧ xsrc γ h) ∨ (f = 0 ∧ (∀ i, 0 ≤ i → i < z → γ 9 i ≠ h))) → am_wp sc 52 4 [.inr (.inl 1), .inl h, .inl f, .inl z] [] α Q := by
    intro d
    induction d with
    | zero =>
      intro f z hz hd hf
      refine b_52_4 _ _ _ (fun _ => b_52_38 _ _ _ (l2 (γ 33 0).toNat f 0 (by omega) (by omega) ?_)) (fun h9 => absurd (by omega) h9)
      rcases hf with q | q
      · exact Or.inl q
      · exact Or.inr ⟨q.1, fun i a b => q.2 i a (by omega), fun i a b => absurd a (by omega)⟩
    | succ d ih =>
      intro f z hz hd hf
      refine b_52_4 _ _ _ (fun h9 => absurd h9 (by omega)) (fun _ => ?_)
      refine b_52_12 _ _ _ (fun h1 => ?_) (fun h1 => ?_)
      · refine b_52_26 _ _ _ (b_52_31 _ _ _ _ ⟨by omega, by omega⟩ (ih 1 (z + 1) (by omega) (by omega) (Or.inl ⟨rfl, ?_⟩)))
        rcases hf with q | q
        · exact q.2
        · exact absurd q.1 h1
      · obtain ⟨q, w⟩ : f = 0 ∧ ∀ i, 0 ≤ i → i < z → γ 9 i ≠ h := by
          rcases hf with q | q
          · omega
          · exact q
        refine b_52_16 _ _ _ ⟨by omega, by omega⟩ (fun h2 => b_52_30 _ _ _ (b_52_31 _ _ _ _ ⟨by omega, by omega⟩ (ih 0 (z + 1) (by omega) (by omega) (Or.inr ⟨rfl, fun i a b => ?_⟩)))) (fun h2 => b_52_26 _ _ _ (b_52_31 _ _ _ _ ⟨by omega, by omega⟩ (ih 1 (z + 1) (by omega) (by omega) (Or.inl ⟨rfl, Or.inl ⟨z, by omega, by omega, ?_⟩⟩))))
        · by_cases hiz : i = z
          · rw [hiz, ← r21 z hz (by omega)]; exact h2
          · exact w i a (by omega)
        · rw [← r21 z hz (by omega)]; exact Classical.not_not.mp h2
  exact b_52_0 h v2 v3 (l1 (γ 32 0).toNat 0 0 (by omega) (by omega) (Or.inr ⟨rfl, fun i a b => absurd a (by omega)⟩))
theorem m_refers {a b : Int} {v3 v4 : AV} (hI : CI γ n) (hR : RW γ α) (ha : xO γ a) (hb : xO γ b) (k1 : (∃ s, xE γ a s b) → Q (.inl (some 1)) α 0) (k0 : (¬ ∃ s, xE γ a s b) → Q (.inl (some 0)) α 0) : am_wp sc 53 0 [.inr (.inl 1), .inl a, .inl b, v3, v4] [] α Q := by
  have a1 := ha.1; have a2 := ha.2.1
  have g := hI.geo a ha
  have e16 := (hR.2.1 a ha).1
  have loop : ∀ (d : Nat) (f z : Int), 0 ≤ z → z + d = γ 5 a → ((f = 1 ∧ ∃ s, xE γ a s b) ∨ (f = 0 ∧ ∀ s, s < z → ¬ xE γ a s b)) → am_wp sc 53 5 [.inr (.inl 1), .inl a, .inl b, .inl f, .inl z] [] α Q := by
    intro d
    induction d with
    | zero =>
      intro f z hz hd hf
      refine b_53_5 _ _ _ _ ⟨by omega, by omega⟩ (fun _ => b_53_64 _ _ _ _ (by rcases hf with q | q <;> omega) ?_) (fun h9 => absurd (by omega) h9)
      rcases hf with ⟨q, w⟩ | ⟨q, w⟩
      · rw [q]; exact k1 w
      · rw [q]; exact k0 (fun ⟨s, e⟩ => w s (by have := e.2.1; omega) e)
    | succ d ih =>
      intro f z hz hd hf
      have r := hR.2.2.1 a z ha hz (by omega)
      refine b_53_5 _ _ _ _ ⟨by omega, by omega⟩ (fun h9 => absurd h9 (by omega)) (fun _ => ?_)
      refine b_53_16 _ _ _ _ (fun h1 => ?_) (fun h1 => ?_)
      · refine b_53_52 _ _ _ _ (b_53_57 _ _ _ _ _ ⟨by omega, by omega⟩ (ih 1 (z + 1) (by omega) (by omega) (Or.inl ⟨rfl, ?_⟩)))
        rcases hf with q | q
        · exact q.2
        · exact absurd q.1 h1
      · obtain ⟨q, w⟩ : f = 0 ∧ ∀ s, s < z → ¬ xE γ a s b := by
          rcases hf with q | q
          · omega
          · exact q
        have no : ¬ xE γ a z b → am_wp sc 53 56 [.inr (.inl 1), .inl a, .inl b, .inl f, .inl z] [] α Q := fun hne => b_53_56 _ _ _ _ (b_53_57 _ _ _ _ _ ⟨by omega, by omega⟩ (ih 0 (z + 1) (by omega) (by omega) (Or.inr ⟨rfl, fun s hs => by
          by_cases hsz : s = z
          · rw [hsz]; exact hne
          · exact w s (by omega)⟩)))
        refine b_53_20 _ _ _ _ ⟨by omega, by omega⟩ ⟨by omega, by omega⟩ ⟨by omega, by omega⟩ (fun h2 => no (fun e => h2 (by rw [r.1]; exact e.2.2.1))) (fun h2 => ?_)
        rw [r.1] at h2
        have h2 : γ 3 (γ 4 a + 2 + z) = 1 := by omega
        refine b_53_36 _ _ _ _ ⟨by omega, by omega⟩ ⟨by omega, by omega⟩ ⟨by omega, by omega⟩ (fun h3 => no (fun e => h3 (by rw [r.2 h2]; exact e.2.2.2.1))) (fun h3 => ?_)
        rw [r.2 h2] at h3
        exact b_53_52 _ _ _ _ (b_53_57 _ _ _ _ _ ⟨by omega, by omega⟩ (ih 1 (z + 1) (by omega) (by omega) (Or.inl ⟨rfl, z, hz, by omega, h2, Classical.not_not.mp h3, hb⟩)))
  exact b_53_0 a b v3 v4 (loop (γ 5 a).toNat 0 0 (by omega) (by omega) (Or.inr ⟨rfl, fun s hs e => absurd e.1 (by omega)⟩))
/-- a and b being what adds b -/
def mAdd (γ α : St) (a b : Int) : Prop := xO γ a ∧ α 23 a ≠ 0 ∧ xO γ b ∧ α 23 b = 0 ∧ ∃ s, xE γ a s b
theorem m_body {z a b : Int} {v4 : AV} (hI : CI γ n) (hR : RW γ α) (hz : z = 0 ∨ z = 1) (a1 : 1 ≤ a) (a2 : a ≤ 14) (b1 : 1 ≤ b) (b2 : b ≤ 14) (h01 : α 23 b = 0 ∨ α 23 b = 1)
    (k1 : mAdd γ α a b → ∀ z4 : Int, am_wp sc 54 115 [.inr (.inl 1), .inl z, .inl a, .inl b, .inl z4] [.inl 1] (am_up α 23 b 1) Q) (k0 : ¬ mAdd γ α a b → ∀ z4 : Int, am_wp sc 54 115 [.inr (.inl 1), .inl z, .inl a, .inl b, .inl z4] [.inl z] α Q) :
    am_wp sc 54 24 [.inr (.inl 1), .inl z, .inl a, .inl b, v4] [] α Q := by
  have no : ¬ mAdd γ α a b → am_wp sc 54 73 [.inr (.inl 1), .inl z, .inl a, .inl b, v4] [] α Q := by
    intro hn
    have k0 := k0 hn 0
    have fin : am_wp sc 54 100 [.inr (.inl 1), .inl z, .inl a, .inl b, .inl 0] [.inl (α 23 b), .inl b, .inr (.inl 23)] α Q := by
      refine b_54_100 _ _ _ _ _ _ ⟨by omega, by omega⟩ h01 (fun h1 => ?_) (fun h1 => ?_)
      · rw [am_up_same]
        rw [show z = 1 by omega] at k0 ⊢
        exact b_54_110 _ _ _ _ k0
      · rw [am_up_same]
        rw [show z = 0 by omega] at k0 ⊢
        exact b_54_105 _ _ _ _ (fun _ => b_54_114 _ _ _ _ k0) (fun h9 => absurd rfl h9)
    refine b_54_73 _ _ _ _ (b_54_74 _ _ _ _ _ ⟨by omega, by omega⟩ (fun h1 => b_54_95 _ _ _ _ _ ?_) (fun h1 => b_54_90 _ _ _ _ _ (fun _ => b_54_99 _ _ _ _ _ ?_) (fun h9 => absurd rfl h9)))
    · rw [show α 23 b = 1 by omega] at fin; exact fin
    · rw [show α 23 b = 0 by omega] at fin; exact fin
  refine b_54_24 _ _ _ _ ⟨by omega, by omega⟩ (fun h1 => no (fun w => (hR.is a1 a2).mpr w.1 h1)) (fun h1 => ?_)
  refine b_54_33 _ _ _ _ ⟨by omega, by omega⟩ (fun h2 => no (fun w => w.2.1 h2)) (fun h2 => ?_)
  refine b_54_42 _ _ _ _ ⟨by omega, by omega⟩ (fun h3 => no (fun w => (hR.is b1 b2).mpr w.2.2.1 h3)) (fun h3 => ?_)
  refine b_54_51 _ _ _ _ ⟨by omega, by omega⟩ (fun h4 => no (fun w => h4 w.2.2.2.1)) (fun h4 => ?_)
  have oa := (hR.is a1 a2).mp h1
  have ob := (hR.is b1 b2).mp h3
  have hb0 : α 23 b = 0 := by omega
  refine b_54_60 _ _ _ _ (m_refers hI hR oa ob (fun h5 => am_bi ?_) (fun h5 => am_bi ?_))
  · have k1 := k1 ⟨oa, h2, ob, hb0, h5⟩ 1
    refine b_54_66 _ _ _ _ 1 (fun h9 => absurd h9 (by decide)) (fun _ => b_54_69 _ _ _ _ (b_54_74 _ _ _ _ _ ⟨by omega, by omega⟩ (fun h9 => absurd hb0 h9) (fun _ => b_54_90 _ _ _ _ _ (fun h9 => absurd h9 (by decide)) (fun _ => b_54_95 _ _ _ _ _ (b_54_100 _ _ _ _ _ _ ⟨by omega, by omega⟩ (Or.inr rfl) (fun h6 => b_54_110 _ _ _ _ k1) (fun h6 => b_54_105 _ _ _ _ (fun h9 => absurd h9 (by decide)) (fun _ => b_54_110 _ _ _ _ k1)))))))
  · exact b_54_66 _ _ _ _ 0 (fun _ => no (fun w => h5 w.2.2.2.2)) (fun h9 => absurd rfl h9)
theorem pu_h_le {c : Int → Int} : pu_h c (fun _ => 1) ≤ 14 := by
  have h1 : pu_h c (fun _ => 1) ≤ pu_h (fun _ => 1) (fun _ => 1) := by
    refine pu_s_lele (fun i hi => ?_)
    show (if 1 ≤ (i : Int) ∧ c i = 1 then (1 : Int) else 0) ≤ (if 1 ≤ (i : Int) ∧ (1 : Int) = 1 then 1 else 0)
    by_cases h1 : 1 ≤ (i : Int)
    · rw [if_pos (show 1 ≤ (i : Int) ∧ (1 : Int) = 1 from ⟨h1, rfl⟩)]
      split <;> omega
    · rw [if_neg (fun z => h1 z.1), if_neg (fun z => h1 z.1)]; omega
  rw [show pu_h (fun _ => 1) (fun _ => 1) = 14 from by decide] at h1
  exact h1
theorem pu_h_up {c : Int → Int} {b : Int} (b1 : 1 ≤ b) (b2 : b ≤ 14) (h : c b = 0) : pu_h (am_u1 c b 1) (fun _ => 1) = pu_h c (fun _ => 1) + 1 := by
  have := pu_s_one (f := fun h => if 1 ≤ h ∧ am_u1 c b 1 h = 1 then (1 : Int) else 0) (g := fun h => if 1 ≤ h ∧ c h = 1 then (1 : Int) else 0) (k := b.toNat) (n := 15) (by omega) (fun i hi hne => by
    show (if 1 ≤ (i : Int) ∧ am_u1 c b 1 i = 1 then (1 : Int) else 0) = (if 1 ≤ (i : Int) ∧ c i = 1 then (1 : Int) else 0)
    rw [am_u1_n (by omega)])
  unfold pu_h
  rw [this, show ((b.toNat : Nat) : Int) = b by omega]
  show _ + ((if 1 ≤ b ∧ am_u1 c b 1 b = 1 then (1 : Int) else 0) - (if 1 ≤ b ∧ c b = 1 then (1 : Int) else 0)) = _
  rw [am_u1_s, if_pos ⟨b1, rfl⟩, if_neg (by rw [h]; rintro ⟨-, z⟩; exact absurd z (by decide))]
  rfl
/-- the flags live so far -/
def mF (γ α : St) (P : Int → Prop) (α' : St) : Prop := (∀ k, k ≠ 23 → α' k = α k) ∧ α' 23 0 = 0 ∧ (∀ x, 1 ≤ x → x ≤ 14 → α' 23 x = 0 ∨ (α' 23 x = 1 ∧ xO γ x ∧ P x))
theorem mF.add {P : Int → Prop} {α0 : St} {a b : Int} (hcl : ∀ h s t, xO γ h → P h → xE γ h s t → P t) (h : mF γ α0 P α) (hA : mAdd γ α a b) : mF γ α0 P (am_up α 23 b 1) := by
  obtain ⟨oa, la, ob, lb, s, e⟩ := hA
  have b1 := ob.1
  refine ⟨fun k hk => by rw [am_up_n hk]; exact h.1 k hk, ?_, fun x x1 x2 => ?_⟩
  · rw [am_up_k, am_u1_n (by omega)]; exact h.2.1
  · rw [am_up_k]
    by_cases hxb : x = b
    · rw [hxb, am_u1_s]
      refine Or.inr ⟨rfl, ob, hcl a s b oa ?_ e⟩
      rcases h.2.2 a oa.1 oa.2.1 with z | z
      · exact absurd z la
      · exact z.2.2
    · rw [am_u1_n hxb]; exact h.2.2 x x1 x2
theorem m_spread {P : Int → Prop} {v1 v2 v3 v4 : AV} (hI : CI γ n) (hR : RW γ α) (hcl : ∀ h s t, xO γ h → P h → xE γ h s t → P t) (hF : mF γ α P α)
    (k : ∀ α' : St, mF γ α P α' → (∀ x, 1 ≤ x → x ≤ 14 → α 23 x = 1 → α' 23 x = 1) → (∀ a s b, xO γ a → α' 23 a = 1 → xE γ a s b → α' 23 b = 1) → Q (.inl none) α' 0) : am_wp sc 54 0 [.inr (.inl 1), v1, v2, v3, v4] [] α Q := by
  have whl : ∀ (d : Nat) (αs : St), 14 ≤ pu_h (αs 23) (fun _ => 1) + d → mF γ α P αs → (∀ x, 1 ≤ x → x ≤ 14 → α 23 x = 1 → αs 23 x = 1) → ∀ (v2 v3 v4 : AV), am_wp sc 54 2 [.inr (.inl 1), .inl 1, v2, v3, v4] [] αs Q := by
    intro d
    induction d with
    | zero => 
      intro αs hd hFs hmo v2 v3 v4
      exact (by
        have hRs : RW γ αs := hR.scr (fun k k1 _ _ _ => hFs.1 k k1) hFs.2.1
        refine b_54_2 _ _ _ _ (fun h9 => absurd h9 (by decide)) (fun _ => b_54_6 _ _ _ _ ?_)
        -- all are live: nothing is added
        have lb : ∀ (e : Nat) (a b : Int), 1 ≤ a → a ≤ 14 → 1 ≤ b → b + e = 15 → (∀ a' b', 1 ≤ b' → b' ≤ 14 → (a' < a ∨ (a' = a ∧ b' < b)) → 1 ≤ a' → ¬ mAdd γ αs a' b') → (∀ (v4 : AV) (b : Int), (∀ a' b', 1 ≤ b' → b' ≤ 14 → a' ≤ a → 1 ≤ a' → ¬ mAdd γ αs a' b') → am_wp sc 54 122 [.inr (.inl 1), .inl 0, .inl a, .inl b, v4] [] αs Q) → ∀ v4 : AV, am_wp sc 54 18 [.inr (.inl 1), .inl 0, .inl a, .inl b, v4] [] αs Q := by
          intro e
          induction e with
          | zero =>
            intro a b a1 a2 b1 be hdn kk v4
            refine b_54_18 _ _ _ _ (fun _ => kk v4 b (fun a' b' x1 x2 x3 x4 => hdn a' b' x1 x2 (by omega) x4)) (fun h9 => absurd (by omega) h9)
          | succ e ih =>
            intro a b a1 a2 b1 be hdn kk v4
            refine b_54_18 _ _ _ _ (fun h9 => absurd h9 (by omega)) (fun _ => ?_)
            refine m_body hI hRs (Or.inl rfl) a1 a2 b1 (by omega) (by rcases hFs.2.2 b b1 (by omega) with z | z <;> omega) (fun hA z4 => ?_) (fun hA z4 => ?_)
            · exfalso
              have h1 := pu_h_up b1 (by omega) hA.2.2.2.1
              have h2 := pu_h_le (c := am_u1 (αs 23) b 1)
              omega
            · refine b_54_115 _ _ _ _ _ ⟨by omega, by omega⟩ (ih a (b + 1) a1 a2 (by omega) (by omega) (fun a' b' x1 x2 x3 x4 => ?_) kk _)
              by_cases hab : a' = a ∧ b' = b
              · rw [hab.1, hab.2]; exact hA
              · exact hdn a' b' x1 x2 (by omega) x4
        have la : ∀ (e : Nat) (a : Int), 1 ≤ a → a + e = 15 → (∀ a' b', 1 ≤ b' → b' ≤ 14 → a' < a → 1 ≤ a' → ¬ mAdd γ αs a' b') → ∀ v3 v4 : AV, am_wp sc 54 10 [.inr (.inl 1), .inl 0, .inl a, v3, v4] [] αs Q := by
          intro e
          induction e with
          | zero =>
            intro a a1 ae hdn v3 v4
            refine b_54_10 _ _ _ _ (fun _ => b_54_128 _ _ _ _ (b_54_2 _ _ _ _ (fun _ => b_54_131 _ _ _ _ (k αs hFs hmo (fun a' s b' oa l e => ?_))) (fun h9 => absurd rfl h9))) (fun h9 => absurd (by omega) h9)
            have ob := e.2.2.2.2
            have hn := hdn a' b' ob.1 ob.2.1 (by have := oa.2.1; omega) oa.1
            rcases hFs.2.2 b' ob.1 ob.2.1 with z | z
            · exact absurd ⟨oa, by omega, ob, z, s, e⟩ hn
            · exact z.1
          | succ e ih =>
            intro a a1 ae hdn v3 v4
            refine b_54_10 _ _ _ _ (fun h9 => absurd h9 (by omega)) (fun _ => b_54_16 _ _ _ _ (lb 14 a 1 a1 (by omega) (by omega) (by omega) (fun a' b' x1 x2 x3 x4 => hdn a' b' x1 x2 (by omega) x4) (fun v4 b hh => ?_) v4))
            exact b_54_122 _ _ _ _ ⟨by omega, by omega⟩ (ih (a + 1) (by omega) (by omega) (fun a' b' x1 x2 x3 x4 => hh a' b' x1 x2 (by omega) x4) _ _)
        exact la 14 1 (by omega) (by omega) (fun a' b' _ _ x3 x4 => absurd x4 (by omega)) _ _)
    | succ d ihd =>
      intro αs hd hFs hmo v2 v3 v4
      refine b_54_2 _ _ _ _ (fun h9 => absurd h9 (by decide)) (fun _ => b_54_6 _ _ _ _ ?_)
      -- the pass: as long as z is 0 nothing has changed
      have lb : ∀ (e : Nat) (a b z : Int) (α1 : St), 1 ≤ a → a ≤ 14 → 1 ≤ b → b + e = 15 → mF γ α P α1 → (∀ x, 1 ≤ x → x ≤ 14 → α 23 x = 1 → α1 23 x = 1) → ((z = 0 ∧ α1 = αs ∧ ∀ a' b', 1 ≤ b' → b' ≤ 14 → (a' < a ∨ (a' = a ∧ b' < b)) → 1 ≤ a' → ¬ mAdd γ αs a' b') ∨ (z = 1 ∧ pu_h (αs 23) (fun _ => 1) < pu_h (α1 23) (fun _ => 1))) →
          (∀ (v4 : AV) (b z : Int) (α1 : St), mF γ α P α1 → (∀ x, 1 ≤ x → x ≤ 14 → α 23 x = 1 → α1 23 x = 1) → ((z = 0 ∧ α1 = αs ∧ ∀ a' b', 1 ≤ b' → b' ≤ 14 → a' ≤ a → 1 ≤ a' → ¬ mAdd γ αs a' b') ∨ (z = 1 ∧ pu_h (αs 23) (fun _ => 1) < pu_h (α1 23) (fun _ => 1))) → am_wp sc 54 122 [.inr (.inl 1), .inl z, .inl a, .inl b, v4] [] α1 Q) → ∀ v4 : AV, am_wp sc 54 18 [.inr (.inl 1), .inl z, .inl a, .inl b, v4] [] α1 Q := by
        intro e
        induction e with
        | zero =>
          intro a b z α1 a1 a2 b1 be hF1 hm1 hst kk v4
          refine b_54_18 _ _ _ _ (fun _ => kk v4 b z α1 hF1 hm1 ?_) (fun h9 => absurd (by omega) h9)
          rcases hst with ⟨q1, q2, q3⟩ | q
          · exact Or.inl ⟨q1, q2, fun a' b' x1 x2 x3 x4 => q3 a' b' x1 x2 (by omega) x4⟩
          · exact Or.inr q
        | succ e ih =>
          intro a b z α1 a1 a2 b1 be hF1 hm1 hst kk v4
          have hR1 : RW γ α1 := hR.scr (fun k k1 _ _ _ => hF1.1 k k1) hF1.2.1
          refine b_54_18 _ _ _ _ (fun h9 => absurd h9 (by omega)) (fun _ => ?_)
          refine m_body hI hR1 (by rcases hst with q | q <;> omega) a1 a2 b1 (by omega) (by rcases hF1.2.2 b b1 (by omega) with z | z <;> omega) (fun hA z4 => ?_) (fun hA z4 => ?_)
          · refine b_54_115 _ _ _ _ _ ⟨by omega, by omega⟩ (ih a (b + 1) 1 _ a1 a2 (by omega) (by omega) (hF1.add hcl hA) (fun x x1 x2 hx => ?_) (Or.inr ⟨rfl, ?_⟩) kk _)
            · rw [am_up_k]
              by_cases hxb : x = b
              · rw [hxb, am_u1_s]
              · rw [am_u1_n hxb]; exact hm1 x x1 x2 hx
            · rw [am_up_k, pu_h_up b1 (by omega) hA.2.2.2.1]
              rcases hst with ⟨q1, q2, q3⟩ | q
              · rw [q2]; omega
              · omega
          · refine b_54_115 _ _ _ _ _ ⟨by omega, by omega⟩ (ih a (b + 1) z α1 a1 a2 (by omega) (by omega) hF1 hm1 ?_ kk _)
            rcases hst with ⟨q1, q2, q3⟩ | q
            · refine Or.inl ⟨q1, q2, fun a' b' x1 x2 x3 x4 => ?_⟩
              by_cases hab : a' = a ∧ b' = b
              · rw [hab.1, hab.2, ← q2]; exact hA
              · exact q3 a' b' x1 x2 (by omega) x4
            · exact Or.inr q
      have la : ∀ (e : Nat) (a z : Int) (α1 : St), 1 ≤ a → a + e = 15 → mF γ α P α1 → (∀ x, 1 ≤ x → x ≤ 14 → α 23 x = 1 → α1 23 x = 1) → ((z = 0 ∧ α1 = αs ∧ ∀ a' b', 1 ≤ b' → b' ≤ 14 → a' < a → 1 ≤ a' → ¬ mAdd γ αs a' b') ∨ (z = 1 ∧ pu_h (αs 23) (fun _ => 1) < pu_h (α1 23) (fun _ => 1))) → ∀ v3 v4 : AV, am_wp sc 54 10 [.inr (.inl 1), .inl z, .inl a, v3, v4] [] α1 Q := by
        intro e
        induction e with
        | zero =>
          intro a z α1 a1 ae hF1 hm1 hst v3 v4
          refine b_54_10 _ _ _ _ (fun _ => b_54_128 _ _ _ _ ?_) (fun h9 => absurd (by omega) h9)
          rcases hst with ⟨q1, q2, q3⟩ | ⟨q1, q2⟩
          · rw [q1, q2]
            refine b_54_2 _ _ _ _ (fun _ => b_54_131 _ _ _ _ (k αs hFs hmo (fun a' s b' oa l e => ?_))) (fun h9 => absurd rfl h9)
            have ob := e.2.2.2.2
            have hn := q3 a' b' ob.1 ob.2.1 (by have := oa.2.1; omega) oa.1
            rcases hFs.2.2 b' ob.1 ob.2.1 with z | z
            · exact absurd ⟨oa, by omega, ob, z, s, e⟩ hn
            · exact z.1
          · rw [q1]
            exact ihd α1 (by omega) hF1 hm1 _ _ _
        | succ e ih =>
          intro a z α1 a1 ae hF1 hm1 hst v3 v4
          refine b_54_10 _ _ _ _ (fun h9 => absurd h9 (by omega)) (fun _ => b_54_16 _ _ _ _ (lb 14 a 1 z α1 a1 (by omega) (by omega) (by omega) hF1 hm1 ?_ (fun v4 b z α1 hF1 hm1 hh => ?_) v4))
          · rcases hst with ⟨q1, q2, q3⟩ | q
            · exact Or.inl ⟨q1, q2, fun a' b' x1 x2 x3 x4 => q3 a' b' x1 x2 (by omega) x4⟩
            · exact Or.inr q
          · refine b_54_122 _ _ _ _ ⟨by omega, by omega⟩ (ih (a + 1) z α1 (by omega) (by omega) hF1 hm1 ?_ _ _)
            rcases hh with ⟨q1, q2, q3⟩ | q
            · exact Or.inl ⟨q1, q2, fun a' b' x1 x2 x3 x4 => q3 a' b' x1 x2 (by omega) x4⟩
            · exact Or.inr q
      exact la 14 1 0 αs (by omega) (by omega) hFs hmo (Or.inl ⟨rfl, rfl, fun a' b' _ _ x3 x4 => absurd x4 (by omega)⟩) _ _
  have h14 : 14 ≤ pu_h (α 23) (fun _ => 1) + (14 : Nat) := by
    have : 0 ≤ pu_h (α 23) (fun _ => 1) := by
      have := pu_s_ge (f := fun h => if 1 ≤ h ∧ α 23 h = 1 then (1 : Int) else 0) (c := 0) (n := 15) (fun i hi => by
        show 0 ≤ (if 1 ≤ (i : Int) ∧ α 23 i = 1 then (1 : Int) else 0)
        split <;> omega)
      show 0 ≤ pu_s (fun h => if 1 ≤ h ∧ α 23 h = 1 then (1 : Int) else 0) 15
      omega
    omega
  exact b_54_0 v1 v2 v3 v4 (whl 14 α h14 hF (fun _ _ _ z => z) v2 v3 v4)
end ML
