/-! the reference: far and way -/
def dM (γ : St) (e : Int) (L : Int → Int) : Prop := ∀ h, 1 ≤ h → h ≤ 14 → (L h = 99 ∧ ∀ d, ¬ xR γ e d h) ∨ ∃ d : Nat, d ≤ 13 ∧ L h = (d : Int) ∧ xDi γ e h d
def dS (γ : St) (e : Int) (L : Int → Int) : Prop := ∀ h, 1 ≤ h → h ≤ 14 → 0 ≤ L h ∧ L h ≤ 99 ∧ (L h = 99 ∨ ∃ d : Nat, L h = (d : Int) ∧ xR γ e d h)
def dK (γ : St) (e : Int) (r : Nat) (L : Int → Int) (h : Int) : Prop := ∀ d : Nat, d ≤ r → xDi γ e h d → L h ≤ (d : Int)
section MW
variable {sc : Int → Int} {Q : Ou → St → Nat → Prop} {γ α : St} {n : Nat} {e : Int}
theorem CI.edge {a s b : Int} (hI : CI γ n) (a1 : 1 ≤ a) (a2 : a ≤ 14) (h : xE γ a s b) : xO γ a := by
  rcases Classical.em (xO γ a) with q | q
  · exact q
  · have := (hI.2.2.1 a a1 a2 q).1
    have := h.1; have := h.2.1
    omega
theorem m_lbody {z1 z2 a b : Int} {v5 : AV} (hI : CI γ n) (hR : RW γ α) (a1 : 1 ≤ a) (a2 : a ≤ 14) (b1 : 1 ≤ b) (b2 : b ≤ 14) (hl : ∀ x, 1 ≤ x → x ≤ 14 → 0 ≤ α 25 x ∧ α 25 x ≤ 99)
    (k1 : xO γ a → xO γ b → α 25 b + 1 < α 25 a → (∃ s, xE γ a s b) → ∀ z5 : Int, am_wp sc 81 50 [.inr (.inl 1), .inl z1, .inl z2, .inl a, .inl (b + 1), .inl z5] [] (am_up α 25 a (α 25 b + 1)) Q)
    (k0 : (∀ s, xE γ a s b → α 25 a ≤ α 25 b + 1) → ∀ z5 : Int, am_wp sc 81 50 [.inr (.inl 1), .inl z1, .inl z2, .inl a, .inl (b + 1), .inl z5] [] α Q) : am_wp sc 81 57 [.inr (.inl 1), .inl z1, .inl z2, .inl a, .inl b, v5] [] α Q := by
  have la := hl a a1 a2; have lb := hl b b1 b2
  have no : (∀ s, xE γ a s b → α 25 a ≤ α 25 b + 1) → am_wp sc 81 108 [.inr (.inl 1), .inl z1, .inl z2, .inl a, .inl b, v5] [] α Q := by
    intro hh
    refine b_81_108 _ _ _ _ _ (b_81_109 _ _ _ _ _ 0 (fun _ => b_81_133 _ _ _ _ _ _ ⟨by omega, by omega⟩ (b_81_139 _ _ _ _ _ _ _ ⟨by omega, by omega⟩ ⟨by omega, by omega⟩ ?_)) (fun h9 => absurd rfl h9))
    rw [am_up_same]; exact k0 hh 0
  refine b_81_57 _ _ _ _ _ ⟨by omega, by omega⟩ (fun h1 => no (fun s ee => absurd h1 ((hR.is a1 a2).mpr (hI.edge a1 a2 ee)))) (fun h1 => ?_)
  refine b_81_66 _ _ _ _ _ ⟨by omega, by omega⟩ (fun h2 => no (fun s ee => absurd h2 ((hR.is b1 b2).mpr ee.2.2.2.2))) (fun h2 => ?_)
  have oa := (hR.is a1 a2).mp h1
  have ob := (hR.is b1 b2).mp h2
  refine b_81_76 _ _ _ _ _ ⟨by omega, by omega⟩ ⟨by omega, by omega⟩ ⟨by omega, by omega⟩ (fun h3 => no (fun s ee => h3)) (fun h3 => ?_)
  refine b_81_94 _ _ _ _ _ (m_refers hI hR oa ob (fun h4 => am_bi ?_) (fun h4 => am_bi ?_))
  · exact b_81_101 _ _ _ _ _ 1 (fun h9 => absurd h9 (by decide)) (fun _ => b_81_104 _ _ _ _ _ (b_81_109 _ _ _ _ _ 1 (fun h9 => absurd h9 (by decide)) (fun _ => b_81_121 _ _ _ _ _ _ ⟨by omega, by omega⟩ ⟨by omega, by omega⟩ (b_81_139 _ _ _ _ _ _ _ ⟨by omega, by omega⟩ ⟨by omega, by omega⟩ (k1 oa ob (by omega) h4 1)))))
  · exact b_81_101 _ _ _ _ _ 0 (fun _ => no (fun s ee => absurd ⟨s, ee⟩ h4)) (fun h9 => absurd rfl h9)
theorem m_findLeft {v2 v3 v4 v5 : AV} (hI : CI γ n) (hR : RW γ α) (he : xO γ e) (k : ∀ α' : St, (∀ k, k ≠ 25 → α' k = α k) → dM γ e (α' 25) → Q (.inl none) α' 0) : am_wp sc 81 0 [.inr (.inl 1), .inl e, v2, v3, v4, v5] [] α Q := by
  have noW : ∀ h, 1 ≤ h → h ≤ 14 → ¬ xO γ h → ∀ d, ¬ xR γ e d h := by
    intro h b1 b2 hno d hd
    cases d with
    | zero => exact hno (by rw [show h = e from hd]; exact he)
    | succ d =>
      obtain ⟨s, t, ee, -⟩ := hd
      exact hno (hI.edge b1 b2 ee)
  -- rows b of one a
  have lb : ∀ (r : Nat) (a : Int), r < 14 → 1 ≤ a → a ≤ 14 → (∀ (α2 : St) (z4 : Int) (v5 : AV), (∀ k, k ≠ 25 → α2 k = α k) → dS γ e (α2 25) → (∀ h, 1 ≤ h → h ≤ 14 → dK γ e r (α2 25) h) → (∀ h, 1 ≤ h → h ≤ a → dK γ e (r + 1) (α2 25) h) → am_wp sc 81 146 [.inr (.inl 1), .inl e, .inl (r : Int), .inl a, .inl z4, v5] [] α2 Q) →
      ∀ (d : Nat) (b : Int), 1 ≤ b → b + d = 15 → ∀ (α2 : St) (v5 : AV), (∀ k, k ≠ 25 → α2 k = α k) → dS γ e (α2 25) → (∀ h, 1 ≤ h → h ≤ 14 → dK γ e r (α2 25) h) → (∀ h, 1 ≤ h → h < a → dK γ e (r + 1) (α2 25) h) → (∀ b', 1 ≤ b' → b' < b → ∀ s, xE γ a s b' → α2 25 a ≤ α2 25 b' + 1) →
      am_wp sc 81 50 [.inr (.inl 1), .inl e, .inl (r : Int), .inl a, .inl b, v5] [] α2 Q := by
    intro r a hr a1 a2 kk d
    induction d with
    | zero =>
      intro b b1 hb α2 v5 hf hS hK hK' hE
      refine b_81_50 _ _ _ _ _ (fun _ => kk α2 _ _ hf hS hK (fun h h1 h2 => ?_)) (fun h9 => absurd (by omega) h9)
      by_cases hh : h = a
      · rw [hh]
        intro d hd hx
        by_cases hdr : d ≤ r
        · exact hK a a1 a2 d hdr hx
        · rw [show d = r + 1 by omega] at hx ⊢
          obtain ⟨s, t, ee, ht⟩ := hx.next
          have ot := ee.2.2.2.2
          have := hE t ot.1 (by have := ot.2.1; omega) s ee
          have := hK t ot.1 ot.2.1 r (Nat.le_refl r) ht
          omega
      · exact hK' h h1 (by omega)
    | succ d ih =>
      intro b b1 hb α2 v5 hf hS hK hK' hE
      have hR2 : RW γ α2 := hR.scr (fun k _ _ c _ => hf k c) (by rw [hf 23 (by decide)]; exact hR.2.2.2.2.2.2.2)
      refine b_81_50 _ _ _ _ _ (fun h9 => absurd h9 (by omega)) (fun _ => ?_)
      refine m_lbody hI hR2 a1 a2 b1 (by omega) (fun x x1 x2 => ⟨(hS x x1 x2).1, (hS x x1 x2).2.1⟩) (fun oa ob hlt hee z5 => ?_) (fun hno z5 => ?_)
      · have dec : ∀ h, am_u1 (α2 25) a (α2 25 b + 1) h ≤ α2 25 h := by
          intro h
          by_cases hh : h = a
          · rw [hh, am_u1_s]; omega
          · rw [am_u1_n hh]; exact Int.le_refl _
        have hK2 : ∀ (q : Nat) (h : Int), dK γ e q (α2 25) h → dK γ e q (am_u1 (α2 25) a (α2 25 b + 1)) h := fun q h w d hd hx => Int.le_trans (dec h) (w d hd hx)
        refine ih (b + 1) (by omega) (by omega) _ _ (fun k c => by rw [am_up_n c]; exact hf k c) ?_ (fun h h1 h2 => by rw [am_up_k]; exact hK2 _ _ (hK h h1 h2)) (fun h h1 h2 => by rw [am_up_k]; exact hK2 _ _ (hK' h h1 h2)) (fun b' c1 c2 s ee => ?_)
        · rw [am_up_k]
          intro h h1 h2
          by_cases hh : h = a
          · rw [hh, am_u1_s]
            have sb := hS b b1 (by omega)
            have sa := hS a a1 a2
            refine ⟨by omega, by omega, Or.inr ?_⟩
            rcases sb.2.2 with w | ⟨d', w, u⟩
            · omega
            · obtain ⟨s, ee⟩ := hee
              exact ⟨d' + 1, by omega, s, b, ee, u⟩
          · rw [am_u1_n hh]; exact hS h h1 h2
        · rw [am_up_k, am_u1_s]
          by_cases hb'a : b' = a
          · rw [hb'a, am_u1_s]; omega
          · rw [am_u1_n hb'a]
            by_cases hbb : b' = b
            · rw [hbb]; omega
            · have := hE b' c1 (by omega) s ee; omega
      · refine ih (b + 1) (by omega) (by omega) _ _ hf hS hK hK' (fun b' c1 c2 s ee => ?_)
        by_cases hbb : b' = b
        · rw [hbb] at ee ⊢; exact hno s ee
        · exact hE b' c1 (by omega) s ee
  have lr : ∀ (c r : Nat), r + c = 14 → ∀ (α2 : St) (v3 v4 v5 : AV), (∀ k, k ≠ 25 → α2 k = α k) → dS γ e (α2 25) → (∀ h, 1 ≤ h → h ≤ 14 → dK γ e r (α2 25) h) → am_wp sc 81 33 [.inr (.inl 1), .inl e, .inl (r : Int), v3, v4, v5] [] α2 Q := by
    intro c
    induction c with
    | zero =>
      intro r hr α2 v3 v4 v5 hf hS hK
      refine b_81_33 _ _ _ _ _ (fun _ => b_81_158 _ _ _ _ _ (k α2 hf (fun h h1 h2 => ?_))) (fun h9 => absurd (by omega) h9)
      have hk := hK h h1 h2
      have hob : ∀ d, xR γ e d h → xO γ h := by
        intro d hd
        rcases Classical.em (xO γ h) with q | q
        · exact q
        · exact absurd hd (noW h h1 h2 q d)
      obtain ⟨s1, s2, s3⟩ := hS h h1 h2
      rcases s3 with w | ⟨d, w, u⟩
      · refine Or.inl ⟨w, fun d hd => ?_⟩
        obtain ⟨d', -, hd'⟩ := xR.min d hd
        have := hd'.le (hob d hd)
        have := hk d' (by omega) hd'
        omega
      · obtain ⟨d', x, hd'⟩ := xR.min d u
        have h13 := hd'.le (hob d u)
        have := hk d' (by omega) hd'
        exact Or.inr ⟨d', h13, by omega, hd'⟩
    | succ c ih =>
      intro r hr α2 v3 v4 v5 hf hS hK
      have la : ∀ (d : Nat) (a : Int), 1 ≤ a → a + d = 15 → ∀ (α2 : St) (v4 v5 : AV), (∀ k, k ≠ 25 → α2 k = α k) → dS γ e (α2 25) → (∀ h, 1 ≤ h → h ≤ 14 → dK γ e r (α2 25) h) → (∀ h, 1 ≤ h → h < a → dK γ e (r + 1) (α2 25) h) → am_wp sc 81 41 [.inr (.inl 1), .inl e, .inl (r : Int), .inl a, v4, v5] [] α2 Q := by
        intro d
        induction d with
        | zero =>
          intro a a1 ha α2 v4 v5 hf hS hK hK'
          refine b_81_41 _ _ _ _ _ (fun _ => b_81_152 _ _ _ _ _ ⟨by omega, by omega⟩ ?_) (fun h9 => absurd (by omega) h9)
          rw [show (r : Int) + 1 = ((r + 1 : Nat) : Int) by omega]
          exact ih (r + 1) (by omega) α2 _ _ _ hf hS (fun h h1 h2 => hK' h h1 (by omega))
        | succ d iha =>
          intro a a1 ha α2 v4 v5 hf hS hK hK'
          refine b_81_41 _ _ _ _ _ (fun h9 => absurd h9 (by omega)) (fun _ => b_81_47 _ _ _ _ _ ?_)
          exact lb r a (by omega) a1 (by omega) (fun α3 z4 v5 f3 S3 K3 K3' => b_81_146 _ _ _ _ _ ⟨by omega, by omega⟩ (iha (a + 1) (by omega) (by omega) α3 _ _ f3 S3 K3 (fun h h1 h2 => K3' h h1 (by omega)))) 14 1 (by omega) (by omega) α2 v5 hf hS hK hK' (fun b' c1 c2 => absurd c1 (by omega))
      refine b_81_33 _ _ _ _ _ (fun h9 => absurd h9 (by omega)) (fun _ => b_81_39 _ _ _ _ _ ?_)
      exact la 14 1 (by omega) (by omega) α2 _ _ hf hS hK (fun h h1 h2 => absurd h1 (by omega))
  have l0 : ∀ (d : Nat) (z : Int), 1 ≤ z → z + d = 15 → ∀ α2 : St, (∀ k, k ≠ 25 → α2 k = α k) → (∀ x, 1 ≤ x → x < z → α2 25 x = if x = e then 0 else 99) → am_wp sc 81 2 [.inr (.inl 1), .inl e, .inl z, v3, v4, v5] [] α2 Q := by
    intro d
    induction d with
    | zero =>
      intro z hz hd α2 hf hx
      refine b_81_2 _ _ _ _ _ (fun _ => b_81_31 _ _ _ _ _ (lr 14 0 rfl α2 _ _ _ hf (fun h h1 h2 => ?_) (fun h h1 h2 d hd hx' => ?_))) (fun h9 => absurd (by omega) h9)
      · rw [hx h h1 (by omega)]
        by_cases hh : h = e
        · rw [if_pos hh]; exact ⟨by omega, by omega, Or.inr ⟨0, rfl, hh⟩⟩
        · rw [if_neg hh]; exact ⟨by omega, by omega, Or.inl rfl⟩
      · rw [show d = 0 by omega] at hx'
        rw [hx h h1 (by omega), if_pos (show h = e from hx'.1)]; omega
    | succ d ih =>
      intro z hz hd α2 hf hx
      have nx : ∀ v : Int, v = (if z = e then 0 else 99) → am_wp sc 81 24 [.inr (.inl 1), .inl e, .inl z, v3, v4, v5] [.inl v, .inl z, .inr (.inl 25)] α2 Q := by
        intro v hv
        refine b_81_24 _ _ _ _ _ _ _ ⟨by omega, by omega⟩ ⟨by omega, by omega⟩ (ih (z + 1) (by omega) (by omega) _ (fun k c => by rw [am_up_n c]; exact hf k c) (fun x x1 x2 => ?_))
        rw [am_up_k]
        by_cases hxz : x = z
        · rw [hxz, am_u1_s]; exact hv
        · rw [am_u1_n hxz]; exact hx x x1 (by omega)
      refine b_81_2 _ _ _ _ _ (fun h9 => absurd h9 (by omega)) (fun _ => b_81_8 _ _ _ _ _ (fun h1 => b_81_22 _ _ _ _ _ _ (nx 99 (by rw [if_neg h1]))) (fun h1 => b_81_18 _ _ _ _ _ _ (nx 0 (by rw [if_pos (Classical.not_not.mp h1)]))))
  exact b_81_0 _ _ _ _ _ (l0 14 1 (by omega) (by omega) α (fun _ _ => rfl) (fun x x1 x2 => absurd x1 (by omega)))
theorem m_firstOf {v2 v3 v4 : AV} (hI : CI γ n) (hR : RW γ α) (he : xO γ e) (kn : ∀ α' : St, (∀ k, k ≠ 25 → α' k = α k) → dM γ e (α' 25) → xNo γ e → Q (.inl (some 0)) α' 0) (kb : ∀ (α' : St) (b : Int) (d : Nat), (∀ k, k ≠ 25 → α' k = α k) → dM γ e (α' 25) → xBe γ e b d → α' 25 b = (d : Int) → Q (.inl (some b)) α' 0) : am_wp sc 82 0 [.inr (.inl 1), .inl e, v2, v3, v4] [] α Q := by
  have hso := hI.2.2.2.2.2.2.2.2.2.1
  refine b_82_0 _ _ _ _ (m_findLeft hI hR he (fun α1 f1 hM => am_bi (b_82_5 _ _ _ _ ?_)))
  have hR1 : RW γ α1 := hR.scr (fun k _ _ c _ => f1 k c) (by rw [f1 23 (by decide)]; exact hR.2.2.2.2.2.2.2)
  have loop : ∀ (z : Nat), z ≤ 14 → ∀ (b : Int) (v4 : AV), ((b = 0 ∧ ∀ x, (z : Int) < x → xsrc γ x → α1 25 x = 99) ∨ ((z : Int) < b ∧ b ≤ 14 ∧ xsrc γ b ∧ α1 25 b < 99 ∧ ∀ x, (z : Int) < x → xsrc γ x → α1 25 x = 99 ∨ α1 25 b < α1 25 x ∨ (α1 25 b = α1 25 x ∧ b ≤ x))) →
      am_wp sc 82 10 [.inr (.inl 1), .inl e, .inl b, .inl (z : Int), v4] [] α1 Q := by
    intro z
    induction z with
    | zero =>
      intro _ b v4 hb
      refine b_82_10 _ _ _ _ (fun _ => b_82_85 _ _ _ _ ?_) (fun h9 => absurd (by decide) h9)
      rcases hb with ⟨p1, p2⟩ | ⟨p1, p2, p3, p4, p5⟩
      · rw [p1]
        refine kn α1 f1 hM (fun x hx => ?_)
        have ho := hso x hx
        rcases hM x ho.1 ho.2.1 with w | ⟨d, w1, w, -⟩
        · exact w.2
        · have := p2 x (by have := ho.1; omega) hx; omega
      · rcases hM b (by omega) p2 with w | ⟨d, w1, w, u⟩
        · omega
        · refine kb α1 b d f1 hM ⟨p3, u, fun x hx d' hd' => ?_⟩ w
          have ho := hso x hx
          rcases hM x ho.1 ho.2.1 with w' | ⟨d2, w2, w', u'⟩
          · exact absurd hd'.1 (w'.2 d')
          · have := u'.uniq hd'
            rcases p5 x (by have := ho.1; omega) hx with z | z | z
            · omega
            · exact Or.inl (by omega)
            · exact Or.inr ⟨by omega, z.2⟩
    | succ z ih =>
      intro hz b v4 hb
      have nx : ∀ b' : Int, ∀ z4 : Int, ((b' = 0 ∧ ∀ x, (z : Int) < x → xsrc γ x → α1 25 x = 99) ∨ ((z : Int) < b' ∧ b' ≤ 14 ∧ xsrc γ b' ∧ α1 25 b' < 99 ∧ ∀ x, (z : Int) < x → xsrc γ x → α1 25 x = 99 ∨ α1 25 b' < α1 25 x ∨ (α1 25 b' = α1 25 x ∧ b' ≤ x))) → am_wp sc 82 78 [.inr (.inl 1), .inl e, .inl b, .inl ((z + 1 : Nat) : Int), .inl z4] [.inl b'] α1 Q := by
        intro b' z4 hb'
        refine b_82_78 _ _ _ _ _ ⟨by omega, by omega⟩ ?_
        rw [show ((z + 1 : Nat) : Int) + (-1) = (z : Int) by omega]
        exact ih (by omega) b' _ hb'
      have keep : (xsrc γ ((z + 1 : Nat) : Int) → α1 25 ((z + 1 : Nat) : Int) = 99 ∨ (b ≠ 0 ∧ α1 25 b < α1 25 ((z + 1 : Nat) : Int))) → ∀ z4 : Int, am_wp sc 82 77 [.inr (.inl 1), .inl e, .inl b, .inl ((z + 1 : Nat) : Int), .inl z4] [] α1 Q := by
        intro hh z4
        refine b_82_77 _ _ _ _ (nx b z4 ?_)
        rcases hb with ⟨p1, p2⟩ | ⟨p1, p2, p3, p4, p5⟩
        · refine Or.inl ⟨p1, fun x hx hs => ?_⟩
          by_cases hxz : x = ((z + 1 : Nat) : Int)
          · rw [hxz] at hs ⊢
            rcases hh hs with w | w
            · exact w
            · exact absurd p1 w.1
          · exact p2 x (by omega) hs
        · refine Or.inr ⟨by omega, p2, p3, p4, fun x hx hs => ?_⟩
          by_cases hxz : x = ((z + 1 : Nat) : Int)
          · rw [hxz] at hs ⊢
            rcases hh hs with w | w
            · exact Or.inl w
            · exact Or.inr (Or.inl w.2)
          · exact p5 x (by omega) hs
      have no : (xsrc γ ((z + 1 : Nat) : Int) → α1 25 ((z + 1 : Nat) : Int) = 99) → ∀ v4 : AV, am_wp sc 82 46 [.inr (.inl 1), .inl e, .inl b, .inl ((z + 1 : Nat) : Int), v4] [] α1 Q := fun hh v4 =>
        b_82_46 _ _ _ _ (b_82_47 _ _ _ _ 0 (fun _ => keep (fun hs => Or.inl (hh hs)) 0) (fun h9 => absurd rfl h9))
      refine b_82_10 _ _ _ _ (fun h9 => absurd h9 (by omega)) (fun _ => ?_)
      refine b_82_14 _ _ _ _ ⟨by omega, by omega⟩ (fun h1 => no (fun hs => absurd h1 ((hR1.is (by omega) (by omega)).mpr (hso _ hs))) _) (fun h1 => b_82_23 _ _ _ _ (m_isSource hI hR1 (fun hs => am_bi ?_) (fun hs => am_bi ?_)))
      · refine b_82_28 _ _ _ _ 1 (fun h9 => absurd h9 (by decide)) (fun _ => b_82_31 _ _ _ _ ⟨by omega, by omega⟩ (fun h2 => no (fun _ => ?_) _) (fun h2 => ?_))
        · have ho := hso _ hs
          rcases hM _ ho.1 ho.2.1 with w | ⟨d, w1, w, -⟩
          · exact w.1
          · omega
        · have pick : am_wp sc 82 73 [.inr (.inl 1), .inl e, .inl b, .inl ((z + 1 : Nat) : Int), .inl 1] [] α1 Q ∨ True := Or.inr trivial
          refine b_82_42 _ _ _ _ (b_82_47 _ _ _ _ 1 (fun h9 => absurd h9 (by decide)) (fun _ => ?_))
          refine b_82_54 _ _ _ _ (fun h3 => b_82_73 _ _ _ _ (nx _ _ (Or.inr ⟨by omega, by omega, hs, by omega, fun x hx hsx => ?_⟩))) (fun h3 => ?_)
          · by_cases hxz : x = ((z + 1 : Nat) : Int)
            · rw [hxz]; exact Or.inr (Or.inr ⟨rfl, Int.le_refl _⟩)
            · rcases hb with ⟨p1, p2⟩ | ⟨p1, -⟩
              · exact Or.inl (p2 x (by omega) hsx)
              · omega
          · obtain ⟨p1, p2, p3, p4, p5⟩ : ((z + 1 : Nat) : Int) < b ∧ b ≤ 14 ∧ xsrc γ b ∧ α1 25 b < 99 ∧ ∀ x, ((z + 1 : Nat) : Int) < x → xsrc γ x → α1 25 x = 99 ∨ α1 25 b < α1 25 x ∨ (α1 25 b = α1 25 x ∧ b ≤ x) := by
              rcases hb with ⟨q, -⟩ | q
              · exact absurd q h3
              · exact q
            refine b_82_58 _ _ _ _ ⟨by omega, by omega⟩ ⟨by omega, by omega⟩ (fun h4 => keep (fun _ => Or.inr ⟨h3, h4⟩) _) (fun h4 => b_82_73 _ _ _ _ (nx _ _ (Or.inr ⟨by omega, by omega, hs, by omega, fun x hx hsx => ?_⟩)))
            by_cases hxz : x = ((z + 1 : Nat) : Int)
            · rw [hxz]; exact Or.inr (Or.inr ⟨rfl, Int.le_refl _⟩)
            · rcases p5 x (by omega) hsx with w | w | w
              · exact Or.inl w
              · exact Or.inr (Or.inl (by omega))
              · by_cases hq : α1 25 ((z + 1 : Nat) : Int) < α1 25 x
                · exact Or.inr (Or.inl hq)
                · exact Or.inr (Or.inr ⟨by omega, by omega⟩)
      · exact b_82_28 _ _ _ _ 0 (fun _ => no (fun w => absurd w hs) _) (fun h9 => absurd rfl h9)
  exact loop 14 (by omega) 0 v4 (Or.inl ⟨rfl, fun x hx hs => absurd (hso x hs).2.1 (by omega)⟩)
theorem m_far {v2 : AV} (hI : CI γ n) (hR : RM γ α n) (k0 : ¬ xO γ e → Q (.inl (some 0)) (am_up α 40 0 1) 0) (kn : xO γ e → xNo γ e → ∀ α' : St, (∀ k, k ≠ 25 → k ≠ 40 → α' k = α k) → α' 40 0 = 0 → Q (.inl (some (-1))) α' 0)
    (kb : xO γ e → ∀ (b : Int) (d : Nat), xBe γ e b d → ∀ α' : St, (∀ k, k ≠ 25 → k ≠ 40 → α' k = α k) → α' 40 0 = 0 → Q (.inl (some (d : Int))) α' 0) : am_wp sc 83 0 [.inr (.inl 1), .inl e, v2] [] α Q := by
  refine b_83_0 _ _ (m_isObject (fun q => am_bi ?_) (fun q => am_bi ?_))
  · have ho := hR.o.mp q
    have hR1 : RM γ (am_up α 40 0 0) n := hR.scr (fun k _ _ _ d => am_up_n d) hR.2.2.2.2.2.2.2.2.2.2
    refine b_83_6 _ _ 1 (fun h9 => absurd h9 (by decide)) (fun _ => b_83_9 _ _ (b_83_14 _ _ _ (m_refused (fun h9 => absurd h9 (by decide)) (fun _ => am_bi (b_83_17 _ _ 0 (fun _ => b_83_22 _ _ ?_) (fun h9 => absurd rfl h9))))))
    refine m_firstOf hI hR1.w ho (fun α' f _ hn => am_bi ?_) (fun α' b d f _ hb hd => am_bi ?_)
    · exact b_83_27 _ _ 0 (fun h9 => absurd rfl h9) (fun _ => b_83_32 _ _ (b_83_42 _ _ _ (kn ho hn α' (fun k a b => by rw [f k a]; exact am_up_n b) (by rw [f 40 (by decide)]; rfl))))
    · have hob := hI.2.2.2.2.2.2.2.2.2.1 b hb.1
      have a1 := hob.1; have a2 := hob.2.1
      refine b_83_27 _ _ b (fun _ => b_83_36 _ _ ⟨by omega, by omega⟩ (b_83_42 _ _ _ ?_)) (fun h9 => absurd (by omega) h9)
      rw [hd]
      exact kb ho b d hb α' (fun k a b => by rw [f k a]; exact am_up_n b) (by rw [f 40 (by decide)]; rfl)
  · exact b_83_6 _ _ 0 (fun _ => b_83_13 _ _ (b_83_14 _ _ _ (m_refused (fun _ => am_bi (b_83_17 _ _ 1 (fun h9 => absurd h9 (by decide)) (fun _ => b_83_20 _ _ (k0 (fun z => q (hR.o.mpr z)))))) (fun h9 => absurd h9 (by decide))))) (fun h9 => absurd rfl h9)
theorem m_way {kk : Int} {v3 v4 v5 v6 : AV} (hI : CI γ n) (hR : RM γ α n) (k0 : ¬ xO γ e → Q (.inl (some 0)) (am_up α 40 0 1) 0) (kn : xO γ e → (xNo γ e ∨ ∃ b d, xBe γ e b d ∧ ¬ (0 ≤ kk ∧ kk ≤ (d : Int))) → ∀ α' : St, (∀ k, k ≠ 25 → k ≠ 40 → α' k = α k) → α' 40 0 = 0 → Q (.inl (some (-1))) α' 0)
    (kb : xO γ e → ∀ (b : Int) (d : Nat), xBe γ e b d → 0 ≤ kk → kk ≤ (d : Int) → ∀ v, xWy γ e kk.toNat b v → ∀ α' : St, (∀ k, k ≠ 25 → k ≠ 40 → α' k = α k) → α' 40 0 = 0 → Q (.inl (some v)) α' 0) : am_wp sc 84 0 [.inr (.inl 1), .inl e, .inl kk, v3, v4, v5, v6] [] α Q := by
  refine b_84_0 _ _ _ _ _ _ (m_isObject (fun q => am_bi ?_) (fun q => am_bi ?_))
  · have ho := hR.o.mp q
    have hR1 : RM γ (am_up α 40 0 0) n := hR.scr (fun k _ _ _ d => am_up_n d) hR.2.2.2.2.2.2.2.2.2.2
    refine b_84_6 _ _ _ _ _ _ 1 (fun h9 => absurd h9 (by decide)) (fun _ => b_84_9 _ _ _ _ _ _ (b_84_14 _ _ _ _ _ _ _ (m_refused (fun h9 => absurd h9 (by decide)) (fun _ => am_bi (b_84_17 _ _ _ _ _ _ 0 (fun _ => b_84_22 _ _ _ _ _ _ ?_) (fun h9 => absurd rfl h9))))))
    refine m_firstOf hI hR1.w ho (fun α1 f _ hn => am_bi ?_) (fun α1 b d f hM hb hd => am_bi ?_)
    · exact b_84_27 _ _ _ _ _ _ 0 (fun _ => b_84_46 _ _ _ _ _ _ (kn ho (Or.inl hn) α1 (fun k a b => by rw [f k a]; exact am_up_n b) (by rw [f 40 (by decide)]; rfl))) (fun h9 => absurd rfl h9)
    · have fa : ∀ k, k ≠ 25 → k ≠ 40 → α1 k = α k := fun k a b => by rw [f k a]; exact am_up_n b
      have f40 : α1 40 0 = 0 := by rw [f 40 (by decide)]; rfl
      have hR2 : RM γ α1 n := hR.scr (fun k _ _ c d => fa k c d) (by rw [fa 23 (by decide) (by decide)]; exact hR.2.2.2.2.2.2.2.2.2.2)
      have hob := hI.2.2.2.2.2.2.2.2.2.1 b hb.1
      have a1 := hob.1; have a2 := hob.2.1
      refine b_84_27 _ _ _ _ _ _ b (fun h9 => absurd h9 (by omega)) (fun _ => ?_)
      refine b_84_32 _ _ _ _ _ _ (fun h1 => b_84_46 _ _ _ _ _ _ (kn ho (Or.inr ⟨b, d, hb, by omega⟩) α1 fa f40)) (fun h1 => ?_)
      refine b_84_36 _ _ _ _ _ _ ⟨by omega, by omega⟩ (fun h2 => ?_) (fun h2 => b_84_46 _ _ _ _ _ _ (kn ho (Or.inr ⟨b, d, hb, by omega⟩) α1 fa f40))
      rw [hd] at h2
      have hd13 := hb.2.1.le hob
      have hv : ∀ (t : Int) (dt : Nat), xO γ t → (α1 25 t = (dt : Int) ∧ dt ≤ 13 ↔ xDi γ e t dt) := by
        intro t dt ht
        rcases hM t ht.1 ht.2.1 with w | ⟨d', w1, w, u⟩
        · exact ⟨fun z => by omega, fun z => absurd z.1 (w.2 dt)⟩
        · exact ⟨fun z => by rw [show dt = d' by omega]; exact u, fun z => by have := u.uniq z; exact ⟨by omega, by omega⟩⟩
      have loop : ∀ (c : Nat) (z a : Int) (da : Nat) (v5 v6 : AV), 0 ≤ z → z + c = kk → xO γ a → xDi γ e a da → c ≤ da → (∀ v, xWy γ e c a v → xWy γ e kk.toNat b v) → am_wp sc 84 51 [.inr (.inl 1), .inl e, .inl kk, .inl a, .inl z, v5, v6] [] α1 Q := by
        intro c
        induction c with
        | zero =>
          intro z a da v5 v6 hz hc hoa hda hcd hw
          exact b_84_51 _ _ _ _ _ _ (fun _ => b_84_131 _ _ _ _ _ _ (kb ho b d hb (by omega) h2 a (hw a rfl) α1 fa f40)) (fun h9 => absurd (by omega) h9)
        | succ c ih =>
          intro z a da v5 v6 hz hc hoa hda hcd hw
          obtain ⟨d', rfl⟩ : ∃ d', da = d' + 1 := ⟨da - 1, by omega⟩
          have o1 := hoa.1; have o2 := hoa.2.1
          have hda13 := hda.le hoa
          have la : α1 25 a = ((d' + 1 : Nat) : Int) := ((hv a (d' + 1) hoa).mpr hda).1
          have inner : ∀ (y : Nat), y ≤ 14 → ∀ m : Int, ((m = 0 ∧ ∀ t, (y : Int) < t → (∃ s, xE γ a s t) → ¬ xDi γ e t d') ∨ ((y : Int) < m ∧ (∃ s, xE γ a s m) ∧ xDi γ e m d' ∧ ∀ t, (y : Int) < t → (∃ s, xE γ a s t) → xDi γ e t d' → m ≤ t)) →
              am_wp sc 84 64 [.inr (.inl 1), .inl e, .inl kk, .inl a, .inl z, .inl m, .inl (y : Int)] [] α1 Q := by
            intro y
            induction y with
            | zero =>
              intro _ m hm
              refine b_84_64 _ _ _ _ _ _ (fun _ => b_84_122 _ _ _ _ _ _ ⟨by omega, by omega⟩ ?_) (fun h9 => absurd (by decide) h9)
              rcases hm with ⟨-, p⟩ | ⟨p1, ⟨s, ee⟩, p3, p4⟩
              · obtain ⟨s, t, ee, ht⟩ := hda.next
                exact absurd ht (p t (by have := ee.2.2.2.2.1; omega) ⟨s, ee⟩)
              · refine ih (z + 1) m d' _ _ (by omega) (by omega) ee.2.2.2.2 p3 (by omega) (fun v hvv => hw v ⟨m, ⟨d', hda, ⟨s, ee⟩, p3, fun t' ⟨s', e'⟩ ht' => p4 t' (by have := e'.2.2.2.2.1; omega) ⟨s', e'⟩ ht'⟩, hvv⟩)
            | succ y ihy =>
              intro hy m hm
              have nx : ∀ m' : Int, ((m' = 0 ∧ ∀ t, (y : Int) < t → (∃ s, xE γ a s t) → ¬ xDi γ e t d') ∨ ((y : Int) < m' ∧ (∃ s, xE γ a s m') ∧ xDi γ e m' d' ∧ ∀ t, (y : Int) < t → (∃ s, xE γ a s t) → xDi γ e t d' → m' ≤ t)) → am_wp sc 84 114 [.inr (.inl 1), .inl e, .inl kk, .inl a, .inl z, .inl m, .inl ((y + 1 : Nat) : Int)] [.inl m'] α1 Q := by
                intro m' hm'
                refine b_84_114 _ _ _ _ _ _ _ ⟨by omega, by omega⟩ ?_
                rw [show ((y + 1 : Nat) : Int) + (-1) = (y : Int) by omega]
                exact ihy (by omega) m' hm'
              have no : ((∃ s, xE γ a s ((y + 1 : Nat) : Int)) → ¬ xDi γ e ((y + 1 : Nat) : Int) d') → am_wp sc 84 112 [.inr (.inl 1), .inl e, .inl kk, .inl a, .inl z, .inl m, .inl ((y + 1 : Nat) : Int)] [] α1 Q := by
                intro hh
                refine b_84_112 _ _ _ _ _ _ (nx m ?_)
                rcases hm with ⟨p1, p2⟩ | ⟨p1, p2, p3, p4⟩
                · refine Or.inl ⟨p1, fun t ht hee => ?_⟩
                  by_cases hty : t = ((y + 1 : Nat) : Int)
                  · rw [hty] at hee ⊢; exact hh hee
                  · exact p2 t (by omega) hee
                · refine Or.inr ⟨by omega, p2, p3, fun t ht hee hdt => ?_⟩
                  by_cases hty : t = ((y + 1 : Nat) : Int)
                  · rw [hty] at hee hdt; exact absurd hdt (hh hee)
                  · exact p4 t (by omega) hee hdt
              refine b_84_64 _ _ _ _ _ _ (fun h9 => absurd h9 (by omega)) (fun _ => ?_)
              refine b_84_69 _ _ _ _ _ _ ⟨by omega, by omega⟩ (fun h3 => no (fun ⟨s, ee⟩ => absurd h3 ((hR2.w.is (by omega) (by omega)).mpr ee.2.2.2.2))) (fun h3 => ?_)
              have oy := (hR2.w.is (by omega) (by omega)).mp h3
              refine b_84_79 _ _ _ _ _ _ ⟨by omega, by omega⟩ ⟨by omega, by omega⟩ (by rw [la]; exact ⟨by omega, by omega⟩) (fun h4 => no (fun _ hdt => h4 ?_)) (fun h4 => ?_)
              · rw [la, ((hv _ d' oy).mpr hdt).1]; omega
              · rw [la] at h4
                have hdt : xDi γ e ((y + 1 : Nat) : Int) d' := (hv _ d' oy).mp ⟨by omega, by omega⟩
                refine b_84_97 _ _ _ _ _ _ (m_refers hI hR2.w hoa oy (fun h5 => am_bi ?_) (fun h5 => am_bi ?_))
                · refine b_84_104 _ _ _ _ _ _ 1 (fun h9 => absurd h9 (by decide)) (fun _ => b_84_107 _ _ _ _ _ _ (nx _ (Or.inr ⟨by omega, h5, hdt, fun t ht _ _ => by omega⟩)))
                · exact b_84_104 _ _ _ _ _ _ 0 (fun _ => no (fun w => absurd w h5)) (fun h9 => absurd rfl h9)
          refine b_84_51 _ _ _ _ _ _ (fun h9 => absurd h9 (by omega)) (fun _ => b_84_57 _ _ _ _ _ _ (inner 14 (by omega) 0 (Or.inl ⟨rfl, fun t ht ⟨s, ee⟩ => absurd ee.2.2.2.2.2.1 (by omega)⟩)))
      exact b_84_48 _ _ _ _ _ _ (loop kk.toNat 0 b d _ _ (by omega) (by omega) hob hb.2.1 (by omega) (fun v hv => hv))
  · exact b_84_6 _ _ _ _ _ _ 0 (fun _ => b_84_13 _ _ _ _ _ _ (b_84_14 _ _ _ _ _ _ _ (m_refused (fun _ => am_bi (b_84_17 _ _ _ _ _ _ 1 (fun h9 => absurd h9 (by decide)) (fun _ => b_84_20 _ _ _ _ _ _ (k0 (fun z => q (hR.o.mpr z)))))) (fun h9 => absurd h9 (by decide))))) (fun h9 => absurd rfl h9)
end MW
