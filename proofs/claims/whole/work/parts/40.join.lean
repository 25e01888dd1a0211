/-! the two together: what holds between two calls, and that it is kept -/
def Iv (σ : St) (m : Int) : Prop := ∃ n, CI σ n ∧ RM σ σ n ∧ 0 ≤ σ 34 0 ∧ σ 34 0 ≤ m
theorem am_bj {sc : Int → Int} {mid pc : Nat} {L rest : List AV} {Q : Ou → St → Nat → Prop} {v : Option Int} {σ : St} {t : Nat} (k : am_wp sc mid (pc + 3) L (am_rv v ++ rest) σ (fun o2 σ2 t2 => Q o2 σ2 (t2 + t))) : am_bk sc mid pc L rest Q (.inl v) σ t := k
theorem am_bh {sc : Int → Int} {mid pc : Nat} {L rest : List AV} {Q : Ou → St → Nat → Prop} {E t h : Nat} {σ : St} (hd : am_hd mid pc E = some h) (hL : L.all am_nx27 = true) (k : am_wp sc mid h L [.inr (.inl 27)] σ (fun o2 σ2 t2 => Q o2 σ2 (t2 + t))) : am_bk sc mid pc L rest Q (.inr E) σ t := by
  unfold am_bk
  dsimp only
  rw [hd]
  exact ⟨hL, k⟩
/-- a slot set, in the class -/
theorem CI_set {σ : St} {n : Nat} {h s kd v : Int} (hI : CI σ n) (ho : xO σ h) (h0 : 0 ≤ s) (h1 : s < σ 5 h) (hk : kd = 0 ∨ ((kd = 1 ∨ kd = 2) ∧ (v = 0 ∨ xO σ v))) : CI (am_up (am_up σ 3 (σ 4 h + 2 + s) kd) 2 (σ 4 h + 2 + s) v) n := by
  obtain ⟨i1, i2, i3, i4, i5, i6, i7, i8, i9, i10, i11, i12⟩ := id hI
  have e2 : (am_up (am_up σ 3 (σ 4 h + 2 + s) kd) 2 (σ 4 h + 2 + s) v) 2 = am_u1 (σ 2) (σ 4 h + 2 + s) v := rfl
  have e3 : (am_up (am_up σ 3 (σ 4 h + 2 + s) kd) 2 (σ 4 h + 2 + s) v) 3 = am_u1 (σ 3) (σ 4 h + 2 + s) kd := rfl
  have eo : ∀ k, k ≠ 2 → k ≠ 3 → (am_up (am_up σ 3 (σ 4 h + 2 + s) kd) 2 (σ 4 h + 2 + s) v) k = σ k := fun k a b => by rw [am_up_n a, am_up_n b]
  have g := hI.geo h ho
  have hb := hI.below ho
  generalize am_up (am_up σ 3 (σ 4 h + 2 + s) kd) 2 (σ 4 h + 2 + s) v = σ' at *
  have e4 := eo 4 (by decide) (by decide); have e5 := eo 5 (by decide) (by decide)
  have hO : ∀ x, xO σ' x ↔ xO σ x := by intro x; unfold xO; rw [e4]
  have hS : ∀ x, xsrc σ' x ↔ xsrc σ x := by
    intro x; unfold xsrc
    rw [eo 32 (by decide) (by decide), eo 33 (by decide) (by decide), eo 9 (by decide) (by decide), eo 10 (by decide) (by decide)]
  refine ⟨i1.congr (eo 31 (by decide) (by decide)) (eo 8 (by decide) (by decide)) e4 e5 (eo 30 (by decide) (by decide)), fun x => by rw [hO, eo 8 (by decide) (by decide)]; exact i2 x, fun x a b c => ?_, fun x hx => ?_, fun x hx => ?_, fun x s' hx a b => ?_, fun a ha hb' => ?_, by rw [eo 32 (by decide) (by decide)]; exact i8, by rw [eo 33 (by decide) (by decide)]; exact i9, fun x hx => (hO x).mpr (i10 x ((hS x).mp hx)), by rw [eo 33 (by decide) (by decide), eo 10 (by decide) (by decide)]; exact i11, by rw [eo 11 (by decide) (by decide)]; exact i12⟩
  · rw [e5, eo 6 (by decide) (by decide), eo 7 (by decide) (by decide)]; exact i3 x a b (fun z => c ((hO x).mpr z))
  · rw [eo 6 (by decide) (by decide), eo 7 (by decide) (by decide)]; exact i4 x ((hO x).mp hx)
  · have hx := (hO x).mp hx
    have gx := hI.geo x hx
    have ne0 : σ 4 x ≠ σ 4 h + 2 + s := by
      intro e
      have := hI.disj hx ho (a := σ 4 x) ⟨by omega, by omega⟩ ⟨by omega, by omega⟩
      rw [this] at e; omega
    have ne1 : σ 4 x + 1 ≠ σ 4 h + 2 + s := by
      intro e
      have := hI.disj hx ho (a := σ 4 x + 1) ⟨by omega, by omega⟩ ⟨by omega, by omega⟩
      rw [this] at e; omega
    rw [e4, e5, e2, e3, am_u1_n ne0, am_u1_n ne1, am_u1_n ne0, am_u1_n ne1]; exact i5 x hx
  · have hx := (hO x).mp hx
    rw [e5] at b
    rw [e4, e3, e2]
    by_cases hp : σ 4 x + 2 + s' = σ 4 h + 2 + s
    · rw [hp, am_u1_s, am_u1_s]
      rcases hk with z | ⟨z, w⟩
      · exact Or.inl z
      · exact Or.inr ⟨z, w.elim Or.inl (fun y => Or.inr ((hO _).mpr y))⟩
    · rw [am_u1_n hp, am_u1_n hp]
      rcases i6 x s' hx a b with z | ⟨z, w⟩
      · exact Or.inl z
      · exact Or.inr ⟨z, w.elim Or.inl (fun y => Or.inr ((hO _).mpr y))⟩
  · rw [eo 30 (by decide) (by decide)] at ha
    rw [e2, e3, am_u1_n (by omega), am_u1_n (by omega)]; exact i7 a ha hb'
/-- .. and in the reference -/
theorem RM_set {σ α : St} {n : Nat} {h s kd v : Int} (hI : CI σ n) (hR : RM σ α n) (ho : xO σ h) (h0 : 0 ≤ s) (h1 : s < σ 5 h) {σ' α' : St} (e3 : σ' 3 = am_u1 (σ 3) (σ 4 h + 2 + s) kd) (e2 : σ' 2 = am_u1 (σ 2) (σ 4 h + 2 + s) v) (es : ∀ k, k ≠ 2 → k ≠ 3 → isC k → σ' k = σ k)
    (f19 : α' 19 = am_u1 (α 19) (10 * h + s) v) (f20 : α' 20 = am_u1 (α 20) (10 * h + s) kd) (fs : ∀ k, k ≠ 19 → k ≠ 20 → k ≠ 40 → isM k → α' k = α k) : RM σ' α' n := by
  obtain ⟨r1, r2, r3, r4, r5, r6, r7, r8, r9, r10, r11⟩ := hR
  have c : ∀ k, k ≠ 2 → k ≠ 3 → ((2 ≤ k ∧ k ≤ 13) ∨ (30 ≤ k ∧ k ≤ 35)) → σ' k = σ k := es
  have m : ∀ k, k ≠ 19 → k ≠ 20 → k ≠ 40 → ((14 ≤ k ∧ k ≤ 25) ∨ (40 ≤ k ∧ k ≤ 44)) → α' k = α k := fs
  have e4 := c 4 (by decide) (by decide) (by omega); have e5 := c 5 (by decide) (by decide) (by omega)
  have hO : ∀ x, xO σ' x ↔ xO σ x := by intro x; unfold xO; rw [e4]
  refine ⟨by rw [m 41 (by decide) (by decide) (by decide) (by omega)]; exact r1, by rw [m 14 (by decide) (by decide) (by decide) (by omega), c 8 (by decide) (by decide) (by omega)]; exact r2, fun x a b => by rw [m 15 (by decide) (by decide) (by decide) (by omega), hO]; exact r3 x a b, fun x hx => by rw [m 16 (by decide) (by decide) (by decide) (by omega), m 17 (by decide) (by decide) (by decide) (by omega), m 18 (by decide) (by decide) (by decide) (by omega), e5, c 6 (by decide) (by decide) (by omega), c 7 (by decide) (by decide) (by omega)]; exact r4 x ((hO x).mp hx), fun x s' hx a b => ?_, by rw [m 42 (by decide) (by decide) (by decide) (by omega), c 32 (by decide) (by decide) (by omega)]; exact r6, by rw [m 21 (by decide) (by decide) (by decide) (by omega), c 32 (by decide) (by decide) (by omega), c 9 (by decide) (by decide) (by omega)]; exact r7, by rw [m 43 (by decide) (by decide) (by decide) (by omega), c 33 (by decide) (by decide) (by omega)]; exact r8, by rw [m 22 (by decide) (by decide) (by decide) (by omega), c 33 (by decide) (by decide) (by omega), c 10 (by decide) (by decide) (by omega)]; exact r9, by rw [m 44 (by decide) (by decide) (by decide) (by omega), c 34 (by decide) (by decide) (by omega)]; exact r10, by rw [m 23 (by decide) (by decide) (by decide) (by omega)]; exact r11⟩
  have hx := (hO x).mp hx
  rw [e5] at b
  rw [f19, f20, e4, e2, e3]
  have g := hI.geo h ho
  have gx := hI.geo x hx
  by_cases hxh : x = h
  · by_cases hss : s' = s
    · rw [hxh, hss, am_u1_s, am_u1_s, am_u1_s, am_u1_s]; exact ⟨rfl, rfl⟩
    · rw [hxh] at hx b ⊢
      rw [am_u1_n (by omega), am_u1_n (by omega), am_u1_n (by omega), am_u1_n (by omega)]; exact r5 h s' hx a b
  · have ne : σ 4 x + 2 + s' ≠ σ 4 h + 2 + s := by
      intro e
      exact hxh (hI.disj hx ho (a := σ 4 x + 2 + s') ⟨by omega, by omega⟩ ⟨by omega, by omega⟩)
    have ne2 : 10 * x + s' ≠ 10 * h + s := by omega
    rw [am_u1_n ne2, am_u1_n ne, am_u1_n ne2, am_u1_n ne]; exact r5 x s' hx a b
/-- roots and queue changed, in the class -/
theorem CI_rq {σ σ' : St} {n : Nat} (hI : CI σ n) (es : ∀ k, k ≠ 9 → k ≠ 10 → k ≠ 32 → k ≠ 33 → k ≠ 7 → isC k → σ' k = σ k) (h7 : ∀ x, σ' 7 x = σ 7 x ∨ (xO σ x ∧ (σ' 7 x = 0 ∨ σ' 7 x = 1))) (h32 : 0 ≤ σ' 32 0 ∧ σ' 32 0 ≤ 10) (h33 : 0 ≤ σ' 33 0 ∧ σ' 33 0 ≤ 14) (hs : ∀ x, xsrc σ' x → xO σ x) (hq : ∀ i j : Int, 0 ≤ i → i < σ' 33 0 → 0 ≤ j → j < σ' 33 0 → σ' 10 i = σ' 10 j → i = j) : CI σ' n := by
  obtain ⟨i1, i2, i3, i4, i5, i6, i7, i8, i9, i10, i11, i12⟩ := id hI
  have c : ∀ k, k ≠ 9 → k ≠ 10 → k ≠ 32 → k ≠ 33 → k ≠ 7 → ((2 ≤ k ∧ k ≤ 13) ∨ (30 ≤ k ∧ k ≤ 35)) → σ' k = σ k := es
  have e4 := c 4 (by decide) (by decide) (by decide) (by decide) (by decide) (by omega)
  have e5 := c 5 (by decide) (by decide) (by decide) (by decide) (by decide) (by omega)
  have e2 := c 2 (by decide) (by decide) (by decide) (by decide) (by decide) (by omega)
  have e3 := c 3 (by decide) (by decide) (by decide) (by decide) (by decide) (by omega)
  have e6 := c 6 (by decide) (by decide) (by decide) (by decide) (by decide) (by omega)
  have e8 := c 8 (by decide) (by decide) (by decide) (by decide) (by decide) (by omega)
  have e11 := c 11 (by decide) (by decide) (by decide) (by decide) (by decide) (by omega)
  have e30 := c 30 (by decide) (by decide) (by decide) (by decide) (by decide) (by omega)
  have e31 := c 31 (by decide) (by decide) (by decide) (by decide) (by decide) (by omega)
  have hO : ∀ x, xO σ' x ↔ xO σ x := by intro x; unfold xO; rw [e4]
  refine ⟨i1.congr e31 e8 e4 e5 e30, fun x => by rw [hO, e8]; exact i2 x, fun x a b d => ?_, fun x hx => ?_, fun x hx => by rw [e2, e3, e4, e5]; exact i5 x ((hO x).mp hx), fun x s hx a b => ?_, by rw [e30, e2, e3]; exact i7, h32, h33, fun x hx => (hO x).mpr (hs x hx), hq, by rw [e11]; exact i12⟩
  · rw [e5, e6]
    have hn : ¬ xO σ x := fun z => d ((hO x).mpr z)
    have := i3 x a b hn
    refine ⟨this.1, this.2.1, ?_⟩
    rcases h7 x with w | w
    · rw [w]; exact this.2.2
    · exact absurd w.1 hn
  · have := i4 x ((hO x).mp hx)
    rw [e6]
    refine ⟨this.1, this.2.1, ?_⟩
    rcases h7 x with w | w
    · rw [w]; exact this.2.2
    · exact w.2
  · rw [e5] at b
    rw [e4, e3, e2]
    rcases i6 x s ((hO x).mp hx) a b with z | ⟨z, w⟩
    · exact Or.inl z
    · exact Or.inr ⟨z, w.elim Or.inl (fun y => Or.inr ((hO _).mpr y))⟩
/-- .. and in the reference -/
theorem RM_rq {σ α σ' α' : St} {n : Nat} (hR : RM σ α n) (es : ∀ k, k ≠ 9 → k ≠ 10 → k ≠ 32 → k ≠ 33 → k ≠ 7 → isC k → σ' k = σ k) (fs : ∀ k, k ≠ 21 → k ≠ 22 → k ≠ 42 → k ≠ 43 → k ≠ 18 → k ≠ 40 → isM k → α' k = α k) (h7 : ∀ x, xO σ x → α' 18 x = σ' 7 x)
    (h42 : α' 42 0 = σ' 32 0) (h21 : ∀ i, 0 ≤ i → i < σ' 32 0 → α' 21 i = σ' 9 i) (h43 : α' 43 0 = σ' 33 0) (h22 : ∀ i, 0 ≤ i → i < σ' 33 0 → α' 22 i = σ' 10 i) : RM σ' α' n := by
  obtain ⟨r1, r2, r3, r4, r5, r6, r7, r8, r9, r10, r11⟩ := hR
  have c : ∀ k, k ≠ 9 → k ≠ 10 → k ≠ 32 → k ≠ 33 → k ≠ 7 → ((2 ≤ k ∧ k ≤ 13) ∨ (30 ≤ k ∧ k ≤ 35)) → σ' k = σ k := es
  have m : ∀ k, k ≠ 21 → k ≠ 22 → k ≠ 42 → k ≠ 43 → k ≠ 18 → k ≠ 40 → ((14 ≤ k ∧ k ≤ 25) ∨ (40 ≤ k ∧ k ≤ 44)) → α' k = α k := fs
  have e4 := c 4 (by decide) (by decide) (by decide) (by decide) (by decide) (by omega)
  have e5 := c 5 (by decide) (by decide) (by decide) (by decide) (by decide) (by omega)
  have e2 := c 2 (by decide) (by decide) (by decide) (by decide) (by decide) (by omega)
  have e3 := c 3 (by decide) (by decide) (by decide) (by decide) (by decide) (by omega)
  have e6 := c 6 (by decide) (by decide) (by decide) (by decide) (by decide) (by omega)
  have e8 := c 8 (by decide) (by decide) (by decide) (by decide) (by decide) (by omega)
  have e34 := c 34 (by decide) (by decide) (by decide) (by decide) (by decide) (by omega)
  have mm : ∀ k, (k = 14 ∨ k = 15 ∨ k = 16 ∨ k = 17 ∨ k = 19 ∨ k = 20 ∨ k = 23 ∨ k = 41 ∨ k = 44) → α' k = α k := fun k hk => m k (by omega) (by omega) (by omega) (by omega) (by omega) (by omega) (by omega)
  have hO : ∀ x, xO σ' x ↔ xO σ x := by intro x; unfold xO; rw [e4]
  refine ⟨by rw [mm 41 (by omega)]; exact r1, by rw [mm 14 (by omega), e8]; exact r2, fun x a b => by rw [mm 15 (by omega), hO]; exact r3 x a b, fun x hx => ?_, fun x s hx a b => ?_, h42, h21, h43, h22, by rw [mm 44 (by omega), e34]; exact r10, by rw [mm 23 (by omega)]; exact r11⟩
  · have hx := (hO x).mp hx
    rw [mm 16 (by omega), mm 17 (by omega), e5, e6]
    exact ⟨(r4 x hx).1, (r4 x hx).2.1, h7 x hx⟩
  · rw [e5] at b
    rw [mm 19 (by omega), mm 20 (by omega), e4, e2, e3]
    exact r5 x s ((hO x).mp hx) a b
/-- the start -/
theorem Iv_0 : Iv am_st0 0 := by
  have hno : ∀ h, ¬ xO am_st0 h := fun h z => z.2.2 rfl
  refine ⟨0, ⟨⟨rfl, fun i hi => absurd hi (Nat.not_lt_zero i), fun i j hi => absurd hi (Nat.not_lt_zero i), fun i hi => absurd hi (Nat.not_lt_zero i), rfl, by show (0 : Int) ≤ 90; decide⟩, fun h => ⟨fun z => absurd z (hno h), fun ⟨i, hi, _⟩ => absurd hi (Nat.not_lt_zero i)⟩, fun h a b _ => ⟨rfl, rfl, rfl⟩, fun h z => absurd z (hno h), fun h z => absurd z (hno h), fun h s z => absurd z (hno h), fun a _ _ => ⟨rfl, rfl⟩, ⟨Int.le_refl 0, by show (0 : Int) ≤ 10; decide⟩, ⟨Int.le_refl 0, by show (0 : Int) ≤ 14; decide⟩, fun h hs => ?_, fun i j a b => absurd b (by show ¬ i < 0; omega), rfl⟩, ⟨rfl, fun i hi => absurd hi (Nat.not_lt_zero i), fun h a b => Or.inr ⟨rfl, hno h⟩, fun h z => absurd z (hno h), fun h s z => absurd z (hno h), rfl, fun i a b => absurd b (by show ¬ i < 0; omega), rfl, fun i a b => absurd b (by show ¬ i < 0; omega), rfl, rfl⟩, Int.le_refl 0, Int.le_refl 0⟩
  rcases hs with ⟨i, a, b, _⟩ | ⟨i, a, b, _⟩
  · exact absurd b (by show ¬ i < 0; omega)
  · exact absurd b (by show ¬ i < 0; omega)
