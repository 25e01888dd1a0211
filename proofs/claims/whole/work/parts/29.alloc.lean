/-! the class: alloc and take -/
theorem CI.en {σ : St} {n : Nat} (h : CI σ n) : pu_en (σ 8) n (fun h => if σ 4 h = -1 then 0 else 1) := by
  refine ⟨h.1.2.1, h.1.2.2.1, fun x a b => ?_⟩
  by_cases hx : σ 4 x = -1
  · right
    refine ⟨if_pos hx, fun i hi he => ?_⟩
    exact ((h.2.1 (x : Int)).mpr ⟨i, hi, he⟩).2.2 hx
  · left
    exact ⟨if_neg hx, (h.2.1 (x : Int)).mp ⟨by omega, by omega, hx⟩⟩
/-- a sum over what c marks of the handles -/
def pu_h (c g : Int → Int) : Int := pu_s (fun h => if 1 ≤ h ∧ c h = 1 then g h else 0) 15
theorem pu_h_congr {c c' g g' : Int → Int} (h : ∀ x : Int, 1 ≤ x → x ≤ 14 → (c x = 1 ↔ c' x = 1) ∧ (c x = 1 → g x = g' x)) : pu_h c g = pu_h c' g' := by
  refine pu_s_congr (fun i hi => ?_)
  show (if 1 ≤ (i : Int) ∧ c i = 1 then g i else 0) = (if 1 ≤ (i : Int) ∧ c' i = 1 then g' i else 0)
  by_cases h1 : 1 ≤ (i : Int)
  · obtain ⟨h2, h3⟩ := h i h1 (by omega)
    by_cases h4 : c i = 1
    · rw [if_pos ⟨h1, h4⟩, if_pos ⟨h1, h2.mp h4⟩]; exact h3 h4
    · rw [if_neg (fun z => h4 z.2), if_neg (fun z => h4 (h2.mpr z.2))]
  · rw [if_neg (fun z => h1 z.1), if_neg (fun z => h1 z.1)]
/-- the objects, as marks -/
def xob (σ : St) (h : Int) : Int := if σ 4 h = -1 then 0 else 1
theorem xob_i {σ : St} {h : Int} : xob σ h = 1 ↔ σ 4 h ≠ -1 := by
  unfold xob
  split <;> rename_i hh
  · exact ⟨fun z => absurd z (by decide), fun z => absurd hh z⟩
  · exact ⟨fun _ => hh, fun _ => rfl⟩
theorem CI.cnt {σ : St} {n : Nat} (h : CI σ n) : (n : Int) = pu_h (xob σ) (fun _ => 1) := by
  have := pu_en_sum (g := fun _ => 1) h.en
  have h3 : pu_s (fun i => (fun _ => (1 : Int)) (σ 8 i)) n = n := by
    show pu_s (fun _ => (1 : Int)) n = n
    rw [pu_s_const]; simp
  rw [h3] at this
  exact this
theorem CI.sum {σ : St} {n : Nat} (h : CI σ n) : σ 30 0 = pu_h (xob σ) (fun x => σ 5 x + 2) := by
  rw [h.1.2.2.2.2.1]
  exact pu_en_sum (g := fun x => σ 5 x + 2) h.en
theorem CI.free {σ : St} {n : Nat} (h : CI σ n) (hn : n < 14) : ∃ x : Int, 1 ≤ x ∧ x ≤ 14 ∧ σ 4 x = -1 := by
  rcases Classical.em (∃ x : Int, 1 ≤ x ∧ x ≤ 14 ∧ σ 4 x = -1) with z | z
  · exact z
  · exfalso
    have h1 := h.cnt
    have h2 : pu_h (xob σ) (fun _ => 1) = pu_h (fun _ => 1) (fun _ => 1) := pu_h_congr (fun x a b => ⟨⟨fun _ => rfl, fun _ => xob_i.mpr (fun w => z ⟨x, a, b, w⟩)⟩, fun _ => rfl⟩)
    rw [h2, show pu_h (fun _ => 1) (fun _ => 1) = 14 from by decide] at h1
    omega
theorem CI.mk {σ σm : St} {n : Nat} (h : CI σ n) (e : ∀ k, k ≠ 11 → k ≠ 12 → k ≠ 35 → σm k = σ k) (e0 : σm 11 0 = 0) : CI σm n := by
  have e2 := e 2 (by decide) (by decide) (by decide)
  have e3 := e 3 (by decide) (by decide) (by decide)
  have e4 := e 4 (by decide) (by decide) (by decide)
  have e5 := e 5 (by decide) (by decide) (by decide)
  have e6 := e 6 (by decide) (by decide) (by decide)
  have e7 := e 7 (by decide) (by decide) (by decide)
  have e8 := e 8 (by decide) (by decide) (by decide)
  have e9 := e 9 (by decide) (by decide) (by decide)
  have e10 := e 10 (by decide) (by decide) (by decide)
  have e30 := e 30 (by decide) (by decide) (by decide)
  have e31 := e 31 (by decide) (by decide) (by decide)
  have e32 := e 32 (by decide) (by decide) (by decide)
  have e33 := e 33 (by decide) (by decide) (by decide)
  refine ⟨h.1.congr e31 e8 e4 e5 e30, ?_⟩
  have h2 := h.2
  unfold xsrc xO at h2 ⊢
  rw [e2, e3, e4, e5, e6, e7, e8, e9, e10, e30, e32, e33]
  exact ⟨h2.1, h2.2.1, h2.2.2.1, h2.2.2.2.1, h2.2.2.2.2.1, h2.2.2.2.2.2.1, h2.2.2.2.2.2.2.1, h2.2.2.2.2.2.2.2.1, h2.2.2.2.2.2.2.2.2.1, h2.2.2.2.2.2.2.2.2.2.1, e0⟩
/-- a new object h of m slots at the top, and a root -/
def xPut (σ : St) (h m : Int) : St :=
  am_up (am_up (am_up (am_up (am_up (am_up (am_up (am_up (am_up σ 4 h (σ 30 0)) 5 h m) 2 (σ 30 0) m) 2 (σ 30 0 + 1) h) 30 0 (σ 30 0 + (m + 2))) 8 (σ 31 0) h) 31 0 (σ 31 0 + 1)) 9 (σ 32 0) h) 32 0 (σ 32 0 + 1)
theorem xPut_o {σ : St} {h m : Int} {k : Nat} (h4 : k ≠ 4) (h5 : k ≠ 5) (h2 : k ≠ 2) (h30 : k ≠ 30) (h8 : k ≠ 8) (h31 : k ≠ 31) (h9 : k ≠ 9) (h32 : k ≠ 32) : xPut σ h m k = σ k := by
  unfold xPut
  rw [am_up_n h32, am_up_n h9, am_up_n h31, am_up_n h8, am_up_n h30, am_up_n h2, am_up_n h2, am_up_n h5, am_up_n h4]
theorem CI_put {σ : St} {n : Nat} {h m : Int} (hI : CI σ n) (h1 : 1 ≤ h) (h2 : h ≤ 14) (hf : σ 4 h = -1) (hm : 0 ≤ m ∧ m ≤ 10) (hw : σ 30 0 + 2 + m ≤ 90) (hr : σ 32 0 < 10) : CI (xPut σ h m) (n + 1) := by
  obtain ⟨i1, i2, i3, i4, i5, i6, i7, i8, i9, i10, i11, i12⟩ := id hI
  have ht := hI.top
  have hno : ∀ i : Nat, i < n → σ 8 i ≠ h := fun i hi he => ((i2 h).mpr ⟨i, hi, he⟩).2.2 hf
  have p4 : xPut σ h m 4 = am_u1 (σ 4) h (σ 30 0) := rfl
  have p5 : xPut σ h m 5 = am_u1 (σ 5) h m := rfl
  have p2 : xPut σ h m 2 = am_u1 (am_u1 (σ 2) (σ 30 0) m) (σ 30 0 + 1) h := rfl
  have p3 : xPut σ h m 3 = σ 3 := rfl
  have p6 : xPut σ h m 6 = σ 6 := rfl
  have p7 : xPut σ h m 7 = σ 7 := rfl
  have p8 : xPut σ h m 8 = am_u1 (σ 8) (n : Int) h := by rw [← i1.1]; rfl
  have p9 : xPut σ h m 9 = am_u1 (σ 9) (σ 32 0) h := rfl
  have p10 : xPut σ h m 10 = σ 10 := rfl
  have p11 : xPut σ h m 11 = σ 11 := rfl
  have p33 : xPut σ h m 33 = σ 33 := rfl
  have p30 : xPut σ h m 30 0 = σ 30 0 + (m + 2) := rfl
  have p31 : xPut σ h m 31 0 = σ 31 0 + 1 := rfl
  have p32 : xPut σ h m 32 0 = σ 32 0 + 1 := rfl
  generalize xPut σ h m = σ' at *
  have o8 : ∀ i : Nat, i < n → σ' 8 i = σ 8 i := fun i hi => by rw [p8, am_u1_n (by omega)]
  have n8 : σ' 8 n = h := by rw [p8, am_u1_s]
  have hob : ∀ x, xO σ' x ↔ x = h ∨ xO σ x := by
    intro x
    unfold xO
    rw [p4]
    by_cases hx : x = h
    · rw [hx, am_u1_s]; exact ⟨fun _ => Or.inl rfl, fun _ => ⟨h1, h2, by omega⟩⟩
    · rw [am_u1_n hx]; exact ⟨fun z => Or.inr z, fun z => z.elim (fun w => absurd w hx) id⟩
  have hne : ∀ x, xO σ x → x ≠ h := fun x hx he => hx.2.2 (by rw [he]; exact hf)
  have esT : ∀ j : Nat, j ≤ n → sT σ' j = sT σ j := by
    intro j hj
    refine pu_s_congr (fun x hx => ?_)
    show σ' 5 (σ' 8 x) + 2 = σ 5 (σ 8 x) + 2
    rw [o8 x (by omega), p5, am_u1_n (hno x (by omega))]
  have esTn : sT σ' (n + 1) = σ 30 0 + (m + 2) := by
    show sT σ' n + (σ' 5 (σ' 8 n) + 2) = _
    rw [esT n (Nat.le_refl n), n8, p5, am_u1_s, i1.2.2.2.2.1]
  have w2 : ∀ a, a < σ 30 0 → σ' 2 a = σ 2 a := fun a ha => by rw [p2, am_u1_n (by omega), am_u1_n (by omega)]
  refine ⟨⟨by rw [p31, i1.1]; omega, fun i hi => ?_, fun i j hi hj he => ?_, fun i hi => ?_, by rw [esTn, p30], by rw [esTn]; omega⟩, fun x => ?_, fun x a b c => ?_, fun x hx => ?_, fun x hx => ?_, fun x s hx a b => ?_, fun a ha hb => ?_, by rw [p32]; omega, by rw [p33]; exact i9, fun x hx => ?_, by rw [p10, p33]; exact i11, by rw [p11]; exact i12⟩
  · by_cases hin : i = n
    · rw [hin, n8]; exact ⟨h1, h2⟩
    · rw [o8 i (by omega)]; exact i1.2.1 i (by omega)
  · by_cases hin : i = n
    · by_cases hjn : j = n
      · omega
      · rw [hin, n8, o8 j (by omega)] at he; exact absurd he.symm (hno j (by omega))
    · by_cases hjn : j = n
      · rw [hjn, n8, o8 i (by omega)] at he; exact absurd he (hno i (by omega))
      · rw [o8 i (by omega), o8 j (by omega)] at he; exact i1.2.2.1 i j (by omega) (by omega) he
  · by_cases hin : i = n
    · rw [hin, n8, p4, p5, am_u1_s, am_u1_s, esT n (Nat.le_refl n), i1.2.2.2.2.1]; exact ⟨rfl, hm⟩
    · rw [o8 i (by omega), p4, p5, am_u1_n (hno i (by omega)), am_u1_n (hno i (by omega)), esT i (by omega)]
      exact i1.2.2.2.1 i (by omega)
  · rw [hob]
    constructor
    · rintro (rfl | hx)
      · exact ⟨n, by omega, n8⟩
      · obtain ⟨i, hi, he⟩ := (i2 x).mp hx
        exact ⟨i, by omega, by rw [o8 i hi]; exact he⟩
    · rintro ⟨i, hi, he⟩
      by_cases hin : i = n
      · rw [hin, n8] at he; exact Or.inl he.symm
      · rw [o8 i (by omega)] at he; exact Or.inr ((i2 x).mpr ⟨i, by omega, he⟩)
  · rw [hob] at c
    rw [p5, p6, p7, am_u1_n (fun z => c (Or.inl z))]
    exact i3 x a b (fun z => c (Or.inr z))
  · rw [p6, p7]
    rcases (hob x).mp hx with rfl | hx
    · have := i3 x h1 h2 (fun z => z.2.2 hf)
      rw [this.2.1, this.2.2]; exact ⟨by decide, by decide, Or.inl rfl⟩
    · exact i4 x hx
  · rcases (hob x).mp hx with rfl | hx
    · rw [p4, p5, p2, p3, am_u1_s, am_u1_s, am_u1_s, am_u1_n (by omega), am_u1_s]
      exact ⟨rfl, rfl, (i7 _ (by omega) (by omega)).2, (i7 _ (by omega) (by omega)).2⟩
    · have := hI.below hx
      have := hI.geo x hx
      rw [p4, p5, p3, am_u1_n (hne x hx), am_u1_n (hne x hx), w2 _ (by omega), w2 _ (by omega)]
      exact i5 x hx
  · rcases (hob x).mp hx with rfl | hx
    · rw [p5, am_u1_s] at b
      rw [p4, p3, am_u1_s]
      exact Or.inl (i7 _ (by omega) (by omega)).2
    · rw [p5, am_u1_n (hne x hx)] at b
      have := hI.below hx
      rw [p4, p3, am_u1_n (hne x hx), w2 _ (by omega)]
      rcases i6 x s hx a b with z | ⟨z, w⟩
      · exact Or.inl z
      · exact Or.inr ⟨z, w.elim Or.inl (fun y => Or.inr ((hob _).mpr (Or.inr y)))⟩
  · rw [p30] at ha
    rw [p2, p3, am_u1_n (by omega), am_u1_n (by omega)]
    exact i7 a (by omega) hb
  · rw [hob]
    rcases hx with ⟨i, a, b, e⟩ | ⟨i, a, b, e⟩
    · rw [p32] at b
      rw [p9] at e
      by_cases hir : i = σ 32 0
      · rw [hir, am_u1_s] at e; exact Or.inl e.symm
      · rw [am_u1_n hir] at e; exact Or.inr (i10 x (Or.inl ⟨i, a, by omega, e⟩))
    · rw [p33] at b
      rw [p10] at e
      exact Or.inr (i10 x (Or.inr ⟨i, a, b, e⟩))
/-- the least handle that is free -/
def xLF (σ : St) (h : Int) : Prop := 1 ≤ h ∧ h ≤ 14 ∧ σ 4 h = -1 ∧ ∀ x, 1 ≤ x → x < h → σ 4 x ≠ -1
section XA
variable {sc : Int → Int} {Q : Ou → St → Nat → Prop} {σ : St}
theorem x_least {v1 : AV} (hf : ∃ x : Int, 1 ≤ x ∧ x ≤ 14 ∧ σ 4 x = -1) (k : ∀ h, xLF σ h → Q (.inl (some h)) σ 0) : am_wp sc 26 0 [.inr (.inl 0), v1] [] σ Q := by
  obtain ⟨x, x1, x2, x3⟩ := hf
  have loop : ∀ (d : Nat) (z : Int), 1 ≤ z → z + d = 14 → (∀ y, 1 ≤ y → y < z → σ 4 y ≠ -1) → am_wp sc 26 2 [.inr (.inl 0), .inl z] [] σ Q := by
    intro d
    induction d with
    | zero =>
      intro z hz hd h
      refine b_26_2 z (fun _ => b_26_24 z (k z ⟨by omega, by omega, ?_, h⟩)) (fun h9 => absurd (by omega) h9)
      by_cases hxz : x = z
      · rw [← hxz]; exact x3
      · exact absurd x3 (h x x1 (by omega))
    | succ d ih =>
      intro z hz hd h
      refine b_26_2 z (fun h9 => absurd h9 (by omega)) (fun _ => ?_)
      refine b_26_8 z ⟨by omega, by omega⟩ (fun h1 => b_26_24 z (k z ⟨by omega, by omega, h1, h⟩)) (fun h1 => ?_)
      refine b_26_18 z ⟨by omega, by omega⟩ (ih (z + 1) (by omega) (by omega) (fun y a b => ?_))
      by_cases hyz : y = z
      · rw [hyz]; exact h1
      · exact h y a (by omega)
  exact b_26_0 v1 (loop 13 1 (by omega) (by omega) (fun y a b => absurd a (by omega)))
/-- what alloc does once there is room -/
theorem x_put {n : Nat} {m : Int} {v2 : AV} (hI : CI σ n) (hm : 0 ≤ m ∧ m ≤ 10) (hn : n < 14) (hw : σ 30 0 + 2 + m ≤ 90) (hr : σ 32 0 < 10) (k : ∀ h, xLF σ h → Q (.inl (some h)) (xPut σ h m) 0) : am_wp sc 0 82 [.inr (.inl 0), .inl m, v2] [] σ Q := by
  have ht := hI.top
  have h31 := hI.1.1
  have h32 := hI.2.2.2.2.2.2.2.1
  refine b_0_82 m v2 (x_least (hI.free hn) (fun h hL => am_bi (b_0_86 m v2 h ?_)))
  obtain ⟨l1, l2, l3, l4⟩ := id hL
  refine b_27_0 h m ⟨by omega, by omega⟩ ⟨by omega, by omega⟩ ⟨by omega, by omega⟩ ⟨by omega, by omega⟩ ⟨by omega, by omega⟩ ?_
  have e5 : (am_up (am_up (am_up (am_up σ 4 h (σ 30 0)) 5 h m) 2 (σ 30 0) m) 2 (σ 30 0 + 1) h) 5 h = m := am_u1_s
  refine b_22_0 h ⟨by omega, by omega⟩ (by rw [e5]; exact ⟨by omega, by omega⟩) (am_bi ?_)
  rw [e5]
  refine b_27_49 h m _ _ ⟨by omega, by omega⟩ (show 0 ≤ σ 31 0 ∧ σ 31 0 < 14 by omega) (show am_R (σ 31 0 + 1) from ⟨by omega, by omega⟩) (am_bi ?_)
  refine b_0_93 m h (b_29_0 h (show 0 ≤ σ 32 0 ∧ σ 32 0 < 10 by omega) (show am_R (σ 32 0 + 1) from ⟨by omega, by omega⟩) (am_bi (b_0_98 m h (k h hL))))
theorem xCol.n {n : Nat} {c1 c2 : Int → Int} {σ' : St} (h : xCol σ n c1 c2 σ') : ((pu_f c2 (σ 8) n).2 : Int) = pu_h c2 (fun _ => 1) := by
  obtain ⟨-, K2, -, -, -, -, -, ho, -, hI⟩ := h
  rw [hI.cnt]
  refine pu_h_congr (fun x a b => ⟨?_, fun _ => rfl⟩)
  rw [xob_i]
  have h1 := ho x
  constructor
  · intro z
    have h2 := (h1.mp ⟨a, b, z⟩).2.2
    rcases K2.2.1 x a b with w | w <;> omega
  · intro z
    exact (h1.mpr ⟨a, b, by omega⟩).2.2
theorem xCol.w {n : Nat} {c1 c2 : Int → Int} {σ' : St} (h : xCol σ n c1 c2 σ') : σ' 30 0 = pu_h c2 (fun x => σ 5 x + 2) := by
  obtain ⟨-, K2, -, -, -, -, -, ho, hv, hI⟩ := h
  rw [hI.sum]
  refine pu_h_congr (fun x a b => ?_)
  rw [xob_i]
  have h1 := ho x
  refine ⟨⟨fun z => ?_, fun z => (h1.mpr ⟨a, b, by omega⟩).2.2⟩, fun z => ?_⟩
  · have h2 := (h1.mp ⟨a, b, z⟩).2.2
    rcases K2.2.1 x a b with w | w <;> omega
  · rw [(hv x ⟨a, b, z⟩).2.1]
theorem xK.eq {src : Int → Prop} {c c' : Int → Int} (h : xK σ src c) (h' : xK σ src c') {x : Int} (a : 0 ≤ x) (b : x ≤ 14) : c x = c' x := by
  by_cases hx : x = 0
  · rw [hx, h.1, h'.1]
  · have h1 := h.2.2 x (by omega) b
    have h2 := h'.2.2 x (by omega) b
    rcases h.2.1 x (by omega) b with h3 | h3 <;> rcases h'.2.1 x (by omega) b with h4 | h4
    · omega
    · have := h1.mpr (h2.mp h4); omega
    · have := h2.mpr (h1.mp h3); omega
    · omega
theorem x_alloc {n : Nat} {m : Int} {v2 : AV} (hI : CI σ n) (h34 : am_R (σ 34 0 + 1))
    (k1 : ¬ (0 ≤ m ∧ m ≤ 10) → Q (.inr 0) σ 1) (k2 : 0 ≤ m ∧ m ≤ 10 → ¬ σ 32 0 < 10 → Q (.inr 1) σ 1)
    (k3 : 0 ≤ m ∧ m ≤ 10 → σ 32 0 < 10 → (n < 14 ∧ σ 30 0 + 2 + m ≤ 90) → ∀ h, xLF σ h → Q (.inl (some h)) (xPut σ h m) 0)
    (k4 : 0 ≤ m ∧ m ≤ 10 → σ 32 0 < 10 → ¬ (n < 14 ∧ σ 30 0 + 2 + m ≤ 90) → ∀ (c : Int → Int) (σm : St), (∀ k, k ≠ 11 → k ≠ 12 → k ≠ 35 → σm k = σ k) → CI σm n → xK σm (xsrc2 σm) c → ¬ (pu_h c (fun _ => 1) < 14 ∧ pu_h c (fun x => σ 5 x + 2) + 2 + m ≤ 90) → Q (.inr 2) σm 1)
    (k5 : 0 ≤ m ∧ m ≤ 10 → σ 32 0 < 10 → ¬ (n < 14 ∧ σ 30 0 + 2 + m ≤ 90) → ∀ (c c1 c2 : Int → Int) (σm σ' : St), (∀ k, k ≠ 11 → k ≠ 12 → k ≠ 35 → σm k = σ k) → CI σm n → xK σm (xsrc2 σm) c → (pu_h c (fun _ => 1) < 14 ∧ pu_h c (fun x => σ 5 x + 2) + 2 + m ≤ 90) → xCol σm n c1 c2 σ' → (pu_f c2 (σm 8) n).2 < 14 → σ' 30 0 + 2 + m ≤ 90 → ∀ h, xLF σ' h → Q (.inl (some h)) (xPut σ' h m) 0) :
    am_wp sc 0 0 [.inr (.inl 0), .inl m, v2] [] σ Q := by
  have ht := hI.top
  have h31 := hI.1.1
  have h32 := hI.2.2.2.2.2.2.2.1
  refine b_0_0 m v2 (fun h1 => b_0_10 m v2 (k1 (by omega))) (fun h1 => ?_)
  refine b_0_4 m v2 (fun h2 => ?_) (fun h2 => b_0_10 m v2 (k1 (by omega)))
  have hm : 0 ≤ m ∧ m ≤ 10 := by omega
  refine b_0_18 m v2 (fun h3 => ?_) (fun h3 => b_0_27 m v2 (k2 hm h3))
  refine b_0_35 m v2 (x_fits hm (by omega) (fun h4 => am_bi ?_) (fun h4 => am_bi ?_))
  · refine b_0_47 m v2 1 (fun _ => ?_) (fun h9 => absurd (by decide) h9)
    have h5 : n < 14 ∧ σ 30 0 + 2 + m ≤ 90 := ⟨by omega, by omega⟩
    exact x_put hI hm h5.1 h5.2 h3 (fun h hL => k3 hm h3 h5 h hL)
  · have h5 : ¬ (n < 14 ∧ σ 30 0 + 2 + m ≤ 90) := by omega
    refine b_0_47 m v2 0 (fun h9 => absurd rfl h9) (fun _ => b_0_50 m v2 ?_)
    refine x_markSurvivors hI.geo h32 hI.2.2.2.2.2.2.2.2.1 hI.2.2.2.2.2.2.2.2.2.1 (fun σm fc hM hL => am_bi (b_0_54 m v2 ?_))
    have hI0 := hI.2.2.2.2.2.2.2.2.2.2.2
    have hIm : CI σm n := hI.mk hM.1 (by rw [hM.2.1]; exact hI0)
    have K0 := hM.K hL hI0
    have m2 := hM.1 2 (by decide) (by decide) (by decide)
    have m3 := hM.1 3 (by decide) (by decide) (by decide)
    have m4 := hM.1 4 (by decide) (by decide) (by decide)
    have m5 := hM.1 5 (by decide) (by decide) (by decide)
    have hOm : ∀ h, xO σ h ↔ xO σm h := fun h => hM.obj.symm
    have hEm : ∀ h s t, xE σ h s t ↔ xE σm h s t := by
      intro h s t
      unfold xE
      rw [m2, m3, m4, m5, hOm]
    have hSm : ∀ h, xsrc2 σ h ↔ xsrc2 σm h := by
      intro h
      unfold xsrc2 xsrc
      rw [hM.1 32 (by decide) (by decide) (by decide), hM.1 33 (by decide) (by decide) (by decide), hM.1 9 (by decide) (by decide) (by decide), hM.1 10 (by decide) (by decide) (by decide), hM.1 7 (by decide) (by decide) (by decide), hOm]
    have K : xK σm (xsrc2 σm) (σm 11) := ⟨K0.1, K0.2.1, fun h a b => ⟨fun z => ((K0.2.2 h a b).mp z).trans (fun h => (hOm h).mp) (fun h s t => (hEm h s t).mp) (fun x hx => xL.src ((hSm x).mp hx)), fun z => (K0.2.2 h a b).mpr (z.trans (fun h => (hOm h).mpr) (fun h s t => (hEm h s t).mpr) (fun x hx => xL.src ((hSm x).mpr hx)))⟩⟩
    have hfc : (fc : Int) = pu_h (σm 11) (fun _ => 1) := by
      have h1 := pu_en_sum (g := fun _ => 1) hM.2.2.2.1
      have h3 : pu_s (fun i => (fun _ => (1 : Int)) (σm 12 i)) fc = fc := by
        show pu_s (fun _ => (1 : Int)) fc = fc
        rw [pu_s_const]; simp
      rw [h3] at h1; exact h1
    have hws : pu_s (fun i => σ 5 (σm 12 i) + 2) fc = pu_h (σm 11) (fun x => σ 5 x + 2) := pu_en_sum (g := fun x => σ 5 x + 2) hM.2.2.2.1
    have hwb : 0 ≤ pu_s (fun i => σ 5 (σm 12 i) + 2) fc ∧ pu_s (fun i => σ 5 (σm 12 i) + 2) fc ≤ 1000 := by
      have hle := pu_en_le hM.2.2.2.1
      have g1 := pu_s_le (f := fun i => σ 5 (σm 12 i) + 2) (c := 12) (n := fc) (fun i hi => by have := hI.geo _ (hM.2.2.2.2 i hi).1; show σ 5 (σm 12 i) + 2 ≤ 12; omega)
      have g2 := pu_s_ge (f := fun i => σ 5 (σm 12 i) + 2) (c := 0) (n := fc) (fun i hi => by have := hI.geo _ (hM.2.2.2.2 i hi).1; show 0 ≤ σ 5 (σm 12 i) + 2; omega)
      omega
    refine x_markedWords hI.geo hM (am_bi ?_)
    refine b_0_63 m v2 m (σm 35 0) _ (x_fits hm hwb (fun h6 => am_bi ?_) (fun h6 => am_bi ?_))
    · rw [hM.2.2.1, hfc, hws] at h6
      refine b_0_66 m v2 1 (fun _ => b_0_77 m v2 ?_) (fun h9 => absurd (by decide) h9)
      refine x_collect hIm (by rw [hM.1 34 (by decide) (by decide) (by decide)]; exact h34) (fun c1 c2 σ' hC => am_bi (b_0_81 m v2 _ ?_))
      have h7 := hC.n
      have h8 := hC.w
      rw [m5] at h8
      have K2 := hC.2.1
      have e1 : pu_h c2 (fun _ => 1) = pu_h (σm 11) (fun _ => 1) := pu_h_congr (fun x a b => ⟨by rw [K2.eq K (by omega) b], fun _ => rfl⟩)
      have e2 : pu_h c2 (fun x => σ 5 x + 2) = pu_h (σm 11) (fun x => σ 5 x + 2) := pu_h_congr (fun x a b => ⟨by rw [K2.eq K (by omega) b], fun _ => rfl⟩)
      have hn' : (pu_f c2 (σm 8) n).2 < 14 := by omega
      have hw' : σ' 30 0 + 2 + m ≤ 90 := by omega
      have e32 : σ' 32 = σ 32 := by
        rw [hC.2.2.1 32 (by decide) (by decide) (by decide) (by decide) (by decide) (by decide) (by decide) (by decide) (by decide) (by decide) (by decide) (by decide) (by decide) (by decide) (by decide)]
        exact hM.1 32 (by decide) (by decide) (by decide)
      exact x_put hC.2.2.2.2.2.2.2.2.2 hm hn' hw' (by rw [e32]; exact h3) (fun h hLF => k5 hm h3 h5 (σm 11) c1 c2 σm σ' hM.1 hIm K h6 hC hn' hw' h hLF)
    · rw [hM.2.2.1, hfc, hws] at h6
      exact b_0_66 m v2 0 (fun h9 => absurd rfl h9) (fun _ => b_0_69 m v2 (k4 hm h3 h5 (σm 11) σm hM.1 hIm K h6))
end XA
