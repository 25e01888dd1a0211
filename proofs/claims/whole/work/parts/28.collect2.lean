/-! collecting, whole -/
/-- what collecting makes of σ, with the marks c1 before the rites and c2 behind them -/
def xCol (σ : St) (n : Nat) (c1 c2 : Int → Int) (σ' : St) : Prop :=
  xK σ (xsrc σ) c1 ∧ xK σ (xsrc2 σ) c2 ∧
  (∀ k, k ≠ 2 → k ≠ 3 → k ≠ 4 → k ≠ 5 → k ≠ 6 → k ≠ 7 → k ≠ 8 → k ≠ 10 → k ≠ 11 → k ≠ 12 → k ≠ 30 → k ≠ 31 → k ≠ 33 → k ≠ 34 → k ≠ 35 → σ' k = σ k) ∧
  σ' 8 = (pu_f c2 (σ 8) n).1 ∧ σ' 10 = (pu_q (fun h => if σ 7 h = 0 ∨ c1 h ≠ 0 then 0 else 1) (σ 10) (σ 33 0) 14).1 ∧ σ' 33 0 = (pu_q (fun h => if σ 7 h = 0 ∨ c1 h ≠ 0 then 0 else 1) (σ 10) (σ 33 0) 14).2 ∧
  σ' 34 0 = σ 34 0 + 1 ∧ (∀ h, xO σ' h ↔ 1 ≤ h ∧ h ≤ 14 ∧ c2 h ≠ 0) ∧
  (∀ h, xO σ' h → xO σ h ∧ σ' 5 h = σ 5 h ∧ σ' 6 h = (if 99 < σ 6 h + 1 then 99 else σ 6 h + 1) ∧ σ' 7 h = (if c1 h = 0 then 0 else σ 7 h) ∧ ∀ s, 0 ≤ s → s < σ 5 h → σ' 3 (σ' 4 h + 2 + s) = σ 3 (σ 4 h + 2 + s) ∧ xV σ c1 c2 h (σ 4 h + 2 + s) (σ' 2 (σ' 4 h + 2 + s))) ∧
  CI σ' (pu_f c2 (σ 8) n).2
section XW
variable {sc : Int → Int} {Q : Ou → St → Nat → Prop} {σ : St}
theorem x_collect {n : Nat} {v1 : AV} (hI : CI σ n) (h34 : am_R (σ 34 0 + 1))
    (k : ∀ (c1 c2 : Int → Int) (σ' : St), xCol σ n c1 c2 σ' → Q (.inl (some (σ 30 0 - σ' 30 0))) σ' 0) : am_wp sc 11 0 [.inr (.inl 0), v1] [] σ Q := by
  refine x_pre hI (fun c1 σe K1 K2 ee e10 e33 e7 eV eN eS eQ eJ => ?_)
  obtain ⟨i1, i2, i3, i4, i5, i6, i7, i8, i9, i10, i11, i12⟩ := id hI
  have f4 : σe 4 = σ 4 := ee 4 (by decide) (by decide) (by decide) (by decide) (by decide) (by decide) (by decide)
  have f5 : σe 5 = σ 5 := ee 5 (by decide) (by decide) (by decide) (by decide) (by decide) (by decide) (by decide)
  have f8 : σe 8 = σ 8 := ee 8 (by decide) (by decide) (by decide) (by decide) (by decide) (by decide) (by decide)
  have f30 : σe 30 = σ 30 := ee 30 (by decide) (by decide) (by decide) (by decide) (by decide) (by decide) (by decide)
  have f31 : σe 31 = σ 31 := ee 31 (by decide) (by decide) (by decide) (by decide) (by decide) (by decide) (by decide)
  have f3 : σe 3 = σ 3 := ee 3 (by decide) (by decide) (by decide) (by decide) (by decide) (by decide) (by decide)
  have f6 : σe 6 = σ 6 := ee 6 (by decide) (by decide) (by decide) (by decide) (by decide) (by decide) (by decide)
  have hPe : xP σe n := i1.congr f31 f8 f4 f5 f30
  have eT : ∀ i, sT σe i = sT σ i := by intro i; unfold sT; rw [f5, f8]
  have hOe : ∀ h, xO σe h ↔ xO σ h := by intro h; unfold xO; rw [f4]
  generalize hc2 : σe 11 = c2 at *
  have ho2 : ∀ h, 1 ≤ h → h ≤ 14 → c2 h ≠ 0 → xO σ h := by
    intro h a b c
    have : c2 h = 1 := by rcases K2.2.1 h a b with z | z <;> omega
    exact ((K2.2.2 h a b).mp this).obj (fun x hx => hx.elim (i10 x) (fun z => z.1))
  refine b_11_25 _ (x_slide hPe (fun σ1 σ2 hS g1 g30 g31 gq => am_bi (b_11_29 _ ?_)))
  obtain ⟨s1, s2, s3, s4, s5, s6⟩ := hS
  rw [hc2, f8] at s2 s3 s4 s6 g31
  rw [f8] at s5
  obtain ⟨u1, u2, u3, u4⟩ := pu_f_inv (c := c2) (o := σ 8) n
  have uinj := pu_f_inj (c := c2) (o := σ 8) (n := n) i1.2.2.1 n (Nat.le_refl n)
  have upos := pu_f_pos (c := c2) (o := σ 8) (g := fun h => σ 5 h + 2) n
  have usum := pu_f_sum (c := c2) (o := σ 8) (g := fun h => σ 5 h + 2) n
  have eNN : ∀ i, pu_s (fun k => if c2 (σ 8 k) = 0 then 0 else (fun h => σ 5 h + 2) (σ 8 k)) i = sN σe i := by
    intro i; unfold sN; rw [hc2, f8, f5]
  generalize hr : pu_f c2 (σ 8) n = r at *
  have h28 : σ2 8 = r.1 := by rw [g1 8 (by decide) (by decide) (by decide) (by decide)]; exact s2
  have h24 : σ2 4 = σ1 4 := g1 4 (by decide) (by decide) (by decide) (by decide)
  have h25 : σ2 5 = σ1 5 := g1 5 (by decide) (by decide) (by decide) (by decide)
  have h26 : σ2 6 = σ1 6 := g1 6 (by decide) (by decide) (by decide) (by decide)
  have h27 : σ2 7 = σ1 7 := g1 7 (by decide) (by decide) (by decide) (by decide)
  -- an object that is kept
  have keep : ∀ i : Nat, i < n → c2 (σ 8 i) ≠ 0 → σ1 5 (σ 8 i) = σ 5 (σ 8 i) ∧ σ1 6 (σ 8 i) = σ 6 (σ 8 i) ∧ σ1 7 (σ 8 i) = σe 7 (σ 8 i) := by
    intro i hi hc
    have := s6 (σ 8 i) (fun j hj hcj he => hc (by rw [← he]; exact hcj))
    rw [f5, f6] at this; exact this
  have hrobj : ∀ j : Nat, j < r.2 → ∃ j0 : Nat, j0 < n ∧ r.1 j = σ 8 j0 ∧ c2 (σ 8 j0) ≠ 0 := by
    intro j hj
    obtain ⟨j0, -, x, y, z⟩ := u3 j hj
    exact ⟨j0, x, y, z⟩
  refine x_grow (n := r.2) g31 (fun j hj => ?_) (fun j j' hj hj' he => ?_) (fun j hj => ?_) (fun σ3 w1 w6 w6' => am_bi ?_)
  · rw [h28]; obtain ⟨j0, x, y, -⟩ := hrobj j hj; rw [y]; exact i1.2.1 j0 x
  · rw [h28] at he; exact uinj j j' hj hj' he
  · obtain ⟨j0, x, y, z⟩ := hrobj j hj
    rw [h28, h26, y, (keep j0 x z).2.1]
    have := i4 (σ 8 j0) ((i2 _).mpr ⟨j0, x, rfl⟩)
    omega
  rw [h28, h26] at w6
  rw [h28, h26] at w6'
  have t30 : σ3 30 0 = sN σe n := by rw [w1 30 (by decide)]; exact g30
  have hb := hPe.nle (Nat.le_refl n)
  have h90 := i1.2.2.2.2.2
  have htop := i1.2.2.2.2.1
  rw [eT n] at hb
  have t34 : σ3 34 0 = σ 34 0 := by
    rw [w1 34 (by decide), g1 34 (by decide) (by decide) (by decide) (by decide), s1 34 (by decide) (by decide) (by decide) (by decide) (by decide) (by decide) (by decide), ee 34 (by decide) (by decide) (by decide) (by decide) (by decide) (by decide) (by decide)]
  refine b_11_33 _ (by rw [t34]; exact h34) (by rw [t30]; exact ⟨by omega, by omega⟩) ?_
  rw [t34]
  generalize hσ4 : am_up σ3 34 0 (σ 34 0 + 1) = σ4
  have y : ∀ k, k ≠ 34 → σ4 k = σ3 k := by intro k hk; rw [← hσ4, am_up_n hk]
  have y34 : σ4 34 0 = σ 34 0 + 1 := by rw [← hσ4]; rfl
  have z4 : σ4 4 = σ1 4 := by rw [y 4 (by decide), w1 4 (by decide)]; exact h24
  have z5 : σ4 5 = σ1 5 := by rw [y 5 (by decide), w1 5 (by decide)]; exact h25
  have z7 : σ4 7 = σ1 7 := by rw [y 7 (by decide), w1 7 (by decide)]; exact h27
  have z8 : σ4 8 = r.1 := by rw [y 8 (by decide), w1 8 (by decide)]; exact h28
  have z6 : σ4 6 = σ3 6 := y 6 (by decide)
  have z30 : σ4 30 0 = sN σe n := by rw [y 30 (by decide)]; exact t30
  have z31 : σ4 31 0 = (r.2 : Int) := by rw [y 31 (by decide), w1 31 (by decide)]; exact g31
  have zq : ∀ q, q = 2 ∨ q = 3 → σ4 q = σ2 q := by
    intro q hq
    rw [y q (by rcases hq with rfl | rfl <;> decide), w1 q (by rcases hq with rfl | rfl <;> decide)]
  have zk : ∀ k, k ≠ 2 → k ≠ 3 → k ≠ 4 → k ≠ 5 → k ≠ 6 → k ≠ 7 → k ≠ 8 → k ≠ 10 → k ≠ 11 → k ≠ 12 → k ≠ 30 → k ≠ 31 → k ≠ 33 → k ≠ 34 → k ≠ 35 → σ4 k = σ k := by
    intro k a2 a3 a4 a5 a6 a7 a8 a10 a11 a12 a30 a31 a33 a34 a35
    rw [y k a34, w1 k a6, g1 k a2 a3 a30 a31, s1 k a2 a3 a4 a5 a6 a7 a8, ee k a2 a7 a10 a11 a12 a33 a35]
  have ze : ∀ k, k = 9 ∨ k = 10 ∨ k = 11 ∨ k = 32 ∨ k = 33 → σ4 k = σe k := by
    intro k hk
    have : k ≠ 2 ∧ k ≠ 3 ∧ k ≠ 4 ∧ k ≠ 5 ∧ k ≠ 6 ∧ k ≠ 7 ∧ k ≠ 8 ∧ k ≠ 30 ∧ k ≠ 31 ∧ k ≠ 34 := by omega
    obtain ⟨a2, a3, a4, a5, a6, a7, a8, a30, a31, a34⟩ := this
    rw [y k a34, w1 k a6, g1 k a2 a3 a30 a31, s1 k a2 a3 a4 a5 a6 a7 a8]
  -- the objects behind it
  have hObj : ∀ h, xO σ4 h ↔ 1 ≤ h ∧ h ≤ 14 ∧ c2 h ≠ 0 := by
    intro h
    unfold xO
    rw [z4]
    constructor
    · rintro ⟨a, b, c⟩
      refine ⟨a, b, fun hc => c ?_⟩
      rcases Classical.em (∃ i : Nat, i < n ∧ σ 8 i = h) with ⟨i, hi, he⟩ | hno
      · have := (s4 i hi (by rw [he]; exact hc)).1
        rw [he] at this; exact this
      · have h1 := s5 h (fun j hj he => hno ⟨j, hj, he⟩)
        rw [h1, f4]
        rcases Classical.em (σ 4 h = -1) with w | w
        · exact w
        · exact absurd ((i2 h).mp ⟨a, b, w⟩) hno
    · rintro ⟨a, b, c⟩
      refine ⟨a, b, ?_⟩
      obtain ⟨i, hi, he⟩ := (i2 h).mp (ho2 h a b c)
      have h1 := (s3 i hi (by rw [he]; exact c)).1
      rw [he] at h1
      have h2 := (hPe.nle (i := i) (by omega)).1
      omega
  have content : ∀ i : Nat, i < n → c2 (σ 8 i) ≠ 0 → σ4 4 (σ 8 i) = sN σe i ∧ ∀ q, q = 2 ∨ q = 3 → ∀ b : Int, 0 ≤ b → b < σ 5 (σ 8 i) + 2 → σ4 q (σ4 4 (σ 8 i) + b) = σe q (σ 4 (σ 8 i) + b) := by
    intro i hi hc
    obtain ⟨x1, x2⟩ := s3 i hi hc
    rw [z4, x1]
    refine ⟨rfl, fun q hq b b1 b2 => ?_⟩
    rw [f5] at x2
    have h1 := hPe.nmono (i := i + 1) (j := n) (by omega) (Nat.le_refl n)
    rw [sN_k (by rw [hc2, f8]; exact hc), f5, f8] at h1
    rw [zq q hq, (gq q hq).2.1 _ (by omega), x2 q hq b b1 b2, eT i, (i1.2.2.2.1 i hi).1]
  have val : ∀ h, xO σ4 h → xO σ h ∧ σ4 5 h = σ 5 h ∧ σ4 6 h = (if 99 < σ 6 h + 1 then 99 else σ 6 h + 1) ∧ σ4 7 h = (if c1 h = 0 then 0 else σ 7 h) ∧ (∀ q, q = 2 ∨ q = 3 → ∀ b : Int, 0 ≤ b → b < σ 5 h + 2 → σ4 q (σ4 4 h + b) = σe q (σ 4 h + b)) := by
    intro h hh
    obtain ⟨a, b, c⟩ := (hObj h).mp hh
    have ho := ho2 h a b c
    obtain ⟨i, hi, he⟩ := (i2 h).mp ho
    have kp := keep i hi (by rw [he]; exact c)
    have ct := (content i hi (by rw [he]; exact c)).2
    obtain ⟨j, hj, hje⟩ := u4 i hi (by rw [he]; exact c)
    have h6 := w6 j hj
    rw [hje, he] at h6
    rw [he] at kp ct
    refine ⟨ho, by rw [z5]; exact kp.1, by rw [z6, h6, kp.2.1], by rw [z7, kp.2.2]; exact e7 h a b, ct⟩
  have hP4 : xP σ4 r.2 := by
    have esT : ∀ j : Nat, j ≤ r.2 → sT σ4 j = pu_s (fun k => (fun h => σ 5 h + 2) (r.1 k)) j := by
      intro j hj
      unfold sT
      refine pu_s_congr (fun x hx => ?_)
      show σ4 5 (σ4 8 x) + 2 = σ 5 (r.1 x) + 2
      obtain ⟨j0, x1, y1, zz⟩ := hrobj x (by omega)
      rw [z8, z5, y1, (keep j0 x1 zz).1]
    refine ⟨z31, fun j hj => ?_, fun j j' hj hj' he => ?_, fun j hj => ?_, ?_, ?_⟩
    · rw [z8]; obtain ⟨j0, x1, y1, -⟩ := hrobj j hj; rw [y1]; exact i1.2.1 j0 x1
    · rw [z8] at he; exact uinj j j' hj hj' he
    · obtain ⟨j0, x1, y1, zz, ss⟩ := upos j hj
      rw [z8, esT j (by omega), ss, eNN, y1]
      refine ⟨(content j0 x1 zz).1, ?_⟩
      rw [z5, (keep j0 x1 zz).1]
      exact (i1.2.2.2.1 j0 x1).2
    · rw [esT r.2 (Nat.le_refl _), usum, eNN]; exact z30
    · rw [esT r.2 (Nat.le_refl _), usum, eNN]; omega
  have hO4 : ∀ h, xL σ (xsrc2 σ) h → xO σ4 h := by
    intro h H
    have ho := H.obj (fun x hx => hx.elim (i10 x) (fun z => z.1))
    refine (hObj h).mpr ⟨ho.1, ho.2.1, ?_⟩
    rw [(K2.2.2 h ho.1 ho.2.1).mpr H]; decide
  have hXV : ∀ h s, xO σ4 h → 0 ≤ s → s < σ 5 h → σ4 3 (σ4 4 h + 2 + s) = σ 3 (σ 4 h + 2 + s) ∧ xV σ c1 c2 h (σ 4 h + 2 + s) (σ4 2 (σ4 4 h + 2 + s)) := by
    intro h s hh a b
    have h1 := val h hh
    have h2 := h1.2.2.2.2 3 (Or.inr rfl) (2 + s) (by omega) (by omega)
    have h3 := h1.2.2.2.2 2 (Or.inl rfl) (2 + s) (by omega) (by omega)
    rw [show σ4 4 h + (2 + s) = σ4 4 h + 2 + s by omega, show σ 4 h + (2 + s) = σ 4 h + 2 + s by omega] at h2 h3
    rw [h2, h3, f3]
    exact ⟨rfl, eV h _ h1.1 ((hObj h).mp hh).2.2 ⟨by omega, by omega⟩⟩
  have ctop : ∀ h, xO σ h → ∀ a, σ 4 h ≤ a → a < σ 4 h + 2 → σe 2 a = σ 2 a := by
    intro h ho a h1 h2
    refine eN a (fun x hx hin => ?_)
    have g := hI.geo h ho
    have g' := hI.geo x hx
    unfold xIn at hin
    have := hI.disj hx ho (a := a) ⟨by omega, by omega⟩ ⟨by omega, by omega⟩
    rw [this] at hin; omega
  have hfin : xCol σ n c1 c2 σ4 := by
    unfold xCol
    rw [hr]
    refine ⟨K1, K2, zk, z8, ?_, ?_, y34, hObj, fun h hh => ?_, hP4, fun h => ?_, fun h a b c => ?_, fun h hh => ?_, fun h hh => ?_, fun h s hh a b => ?_, fun a h1 h2 => ?_, ?_, ?_, fun h hs => ?_, ?_, ?_⟩
    · rw [ze 10 (by omega)]; exact e10
    · rw [ze 33 (by omega)]; exact e33
    · have := val h hh
      exact ⟨this.1, this.2.1, this.2.2.1, this.2.2.2.1, fun s a b => hXV h s hh a b⟩
    · rw [z8]
      constructor
      · intro hh
        obtain ⟨a, b, c⟩ := (hObj h).mp hh
        obtain ⟨i, hi, he⟩ := (i2 h).mp (ho2 h a b c)
        obtain ⟨j, hj, hje⟩ := u4 i hi (by rw [he]; exact c)
        exact ⟨j, hj, by rw [hje, he]⟩
      · rintro ⟨j, hj, he⟩
        obtain ⟨j0, x1, y1, zz⟩ := hrobj j hj
        have := i1.2.1 j0 x1
        exact (hObj h).mpr ⟨by rw [← he, y1]; exact this.1, by rw [← he, y1]; exact this.2, by rw [← he, y1]; exact zz⟩
    · have hc : c2 h = 0 := by
        rcases Classical.em (c2 h = 0) with w | w
        · exact w
        · exact absurd ((hObj h).mpr ⟨a, b, w⟩) c
      rcases Classical.em (∃ i : Nat, i < n ∧ σ 8 i = h) with ⟨i, hi, he⟩ | hno
      · have h1 := s4 i hi (by rw [he]; exact hc)
        rw [he] at h1
        refine ⟨by rw [z5]; exact h1.2.1, ?_, by rw [z7]; exact h1.2.2.2⟩
        rw [z6, w6' h (fun j hj hje => ?_)]
        · exact h1.2.2.1
        · obtain ⟨j0, x1, y1, zz⟩ := hrobj j hj
          exact zz (by rw [← y1, hje]; exact hc)
      · have h1 := s6 h (fun j hj _ he => hno ⟨j, hj, he⟩)
        have h2 := i3 h a b (fun w => hno ((i2 h).mp w))
        rw [f5, f6, e7 h a b] at h1
        refine ⟨by rw [z5, h1.1]; exact h2.1, ?_, by rw [z7, h1.2.2, h2.2.2]; split <;> rfl⟩
        rw [z6, w6' h (fun j hj hje => ?_)]
        · rw [h1.2.1]; exact h2.2.1
        · obtain ⟨j0, x1, y1, zz⟩ := hrobj j hj
          exact hno ⟨j0, x1, by rw [← y1]; exact hje⟩
    · have h1 := val h hh
      have h2 := i4 h h1.1
      rw [h1.2.2.1, h1.2.2.2.1]
      refine ⟨by split <;> omega, by split <;> omega, ?_⟩
      split
      · exact Or.inl rfl
      · exact h2.2.2
    · have h1 := val h hh
      have h2 := i5 h h1.1
      have h3 := i1
      have g := hI.geo h h1.1
      have e0 := h1.2.2.2.2 2 (Or.inl rfl) 0 (by omega) (by omega)
      have e1 := h1.2.2.2.2 2 (Or.inl rfl) 1 (by omega) (by omega)
      have k0 := h1.2.2.2.2 3 (Or.inr rfl) 0 (by omega) (by omega)
      have k1 := h1.2.2.2.2 3 (Or.inr rfl) 1 (by omega) (by omega)
      rw [Int.add_zero, Int.add_zero] at e0 k0
      rw [e0, e1, k0, k1, f3, h1.2.1, ctop h h1.1 _ (by omega) (by omega), ctop h h1.1 _ (by omega) (by omega)]
      exact h2
    · have h1 := val h hh
      rw [h1.2.1] at b
      obtain ⟨ka, kv⟩ := hXV h s hh a b
      have h6 := i6 h s h1.1 a b
      rw [ka]
      rcases h6 with h6 | ⟨h6, h7⟩
      · exact Or.inl h6
      · right
        refine ⟨h6, ?_⟩
        rcases Classical.em (σ 3 (σ 4 h + 2 + s) = 2 ∧ ((c1 h ≠ 0 ∧ c1 (σ 2 (σ 4 h + 2 + s)) = 0) ∨ c2 (σ 2 (σ 4 h + 2 + s)) = 0)) with w | w
        · exact Or.inl (kv.1 w)
        · rw [kv.2 w]
          rcases h7 with h7 | h7
          · exact Or.inl h7
          · right
            rcases h6 with h6 | h6
            · refine hO4 _ (xL.step h s _ h1.1 ?_ ⟨a, b, h6, rfl, h7⟩)
              obtain ⟨p, q, w'⟩ := (hObj h).mp hh
              have : c2 h = 1 := by rcases K2.2.1 h p q with zz | zz <;> omega
              exact (K2.2.2 h p q).mp this
            · exact (hObj _).mpr ⟨h7.1, h7.2.1, fun z => w ⟨h6, Or.inr z⟩⟩
    · rw [z30] at h1
      by_cases ha : a < sT σ n
      · have p2 := (gq 2 (Or.inl rfl)).1 a h1 (by rw [eT]; exact ha)
        have p3 := (gq 3 (Or.inr rfl)).1 a h1 (by rw [eT]; exact ha)
        rw [zq 2 (Or.inl rfl), zq 3 (Or.inr rfl)]; exact ⟨p2, p3⟩
      · have p2 := (gq 2 (Or.inl rfl)).2.2 a (by rw [eT]; omega)
        have p3 := (gq 3 (Or.inr rfl)).2.2 a (by rw [eT]; omega)
        rw [zq 2 (Or.inl rfl), zq 3 (Or.inr rfl), p2, p3, f3, eN a (fun x hx hin => ?_)]
        · exact i7 a (by omega) h2
        · have := hI.below hx
          have := hin.2
          omega
    · rw [zk 32 (by decide) (by decide) (by decide) (by decide) (by decide) (by decide) (by decide) (by decide) (by decide) (by decide) (by decide) (by decide) (by decide) (by decide) (by decide)]; exact i8
    · rw [ze 33 (by omega)]; exact eQ
    · refine hO4 h (eS h ?_)
      unfold xsrc at hs ⊢
      rw [ze 9 (by omega), ze 10 (by omega), ze 32 (by omega), ze 33 (by omega)] at hs
      exact hs
    · rw [ze 10 (by omega), ze 33 (by omega)]; exact eJ
    · rw [ze 11 (by omega), hc2]; exact K2.1
  have h30 : σ3 30 0 = σ4 30 0 := by rw [y 30 (by decide)]
  rw [h30]
  exact k c1 c2 σ4 hfin
end XW
