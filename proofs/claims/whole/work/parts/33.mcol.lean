/-! the reference: collecting -/
/-- α's reference stands for γ's class -/
def RM (γ α : St) (n : Nat) : Prop :=
  α 41 0 = (n : Int) ∧ (∀ i : Nat, i < n → α 14 i = γ 8 i) ∧
  (∀ h, 1 ≤ h → h ≤ 14 → (α 15 h = 1 ∧ xO γ h) ∨ (α 15 h = 0 ∧ ¬ xO γ h)) ∧
  (∀ h, xO γ h → α 16 h = γ 5 h ∧ α 17 h = γ 6 h ∧ α 18 h = γ 7 h) ∧
  (∀ h s, xO γ h → 0 ≤ s → s < γ 5 h → α 19 (10 * h + s) = γ 2 (γ 4 h + 2 + s) ∧ α 20 (10 * h + s) = γ 3 (γ 4 h + 2 + s)) ∧
  α 42 0 = γ 32 0 ∧ (∀ i, 0 ≤ i → i < γ 32 0 → α 21 i = γ 9 i) ∧ α 43 0 = γ 33 0 ∧ (∀ i, 0 ≤ i → i < γ 33 0 → α 22 i = γ 10 i) ∧ α 44 0 = γ 34 0 ∧ α 23 0 = 0
theorem RM.w {γ α : St} {n : Nat} (h : RM γ α n) : RW γ α :=
  ⟨h.2.2.1, fun x hx => ⟨(h.2.2.2.1 x hx).1, (h.2.2.2.1 x hx).2.2⟩, fun x s hx a b => ⟨(h.2.2.2.2.1 x s hx a b).2, fun _ => (h.2.2.2.2.1 x s hx a b).1⟩, h.2.2.2.2.2.1, h.2.2.2.2.2.2.1, h.2.2.2.2.2.2.2.1, h.2.2.2.2.2.2.2.2.1, h.2.2.2.2.2.2.2.2.2.2⟩
theorem RM.scr {γ α α' : St} {n : Nat} (h : RM γ α n) (e : ∀ k, k ≠ 23 → k ≠ 24 → k ≠ 25 → k ≠ 40 → α' k = α k) (e0 : α' 23 0 = 0) : RM γ α' n := by
  unfold RM
  rw [e 14 (by decide) (by decide) (by decide) (by decide), e 15 (by decide) (by decide) (by decide) (by decide), e 16 (by decide) (by decide) (by decide) (by decide), e 17 (by decide) (by decide) (by decide) (by decide), e 18 (by decide) (by decide) (by decide) (by decide), e 19 (by decide) (by decide) (by decide) (by decide), e 20 (by decide) (by decide) (by decide) (by decide), e 21 (by decide) (by decide) (by decide) (by decide), e 22 (by decide) (by decide) (by decide) (by decide), e 41 (by decide) (by decide) (by decide) (by decide), e 42 (by decide) (by decide) (by decide) (by decide), e 43 (by decide) (by decide) (by decide) (by decide), e 44 (by decide) (by decide) (by decide) (by decide)]
  exact ⟨h.1, h.2.1, h.2.2.1, h.2.2.2.1, h.2.2.2.2.1, h.2.2.2.2.2.1, h.2.2.2.2.2.2.1, h.2.2.2.2.2.2.2.1, h.2.2.2.2.2.2.2.2.1, h.2.2.2.2.2.2.2.2.2.1, e0⟩
theorem pu_h_bd {c g : Int → Int} (h : ∀ x, 1 ≤ x → x ≤ 14 → c x = 1 → 0 ≤ g x ∧ g x ≤ 12) : 0 ≤ pu_h c g ∧ pu_h c g ≤ 180 := by
  have h1 := pu_s_ge (f := fun h => if 1 ≤ h ∧ c h = 1 then g h else 0) (c := 0) (n := 15) (fun i hi => by
    show 0 ≤ (if 1 ≤ (i : Int) ∧ c i = 1 then g i else 0)
    split
    · rename_i z; exact (h i z.1 (by omega) z.2).1
    · omega)
  have h2 := pu_s_le (f := fun h => if 1 ≤ h ∧ c h = 1 then g h else 0) (c := 12) (n := 15) (fun i hi => by
    show (if 1 ≤ (i : Int) ∧ c i = 1 then g i else 0) ≤ 12
    split
    · rename_i z; exact (h i z.1 (by omega) z.2).2
    · omega)
  unfold pu_h
  omega
def mCol (γ α : St) (n : Nat) (c1 c2 d : Int → Int) (α' : St) : Prop :=
  xK γ (xsrc γ) c1 ∧ xK γ (xsrc2 γ) c2 ∧ (∀ h, 1 ≤ h → h ≤ 14 → (d h = 0 ↔ γ 7 h = 0 ∨ c1 h ≠ 0)) ∧
  (∀ k, k ≠ 14 → k ≠ 15 → k ≠ 17 → k ≠ 18 → k ≠ 19 → k ≠ 22 → k ≠ 23 → k ≠ 24 → k ≠ 41 → k ≠ 43 → k ≠ 44 → α' k = α k) ∧
  α' 14 = (pu_f c2 (α 14) n).1 ∧ α' 41 0 = ((pu_f c2 (α 14) n).2 : Int) ∧ α' 22 = (pu_q d (α 22) (α 43 0) 14).1 ∧ α' 43 0 = (pu_q d (α 22) (α 43 0) 14).2 ∧ α' 44 0 = α 44 0 + 1 ∧
  (∀ h, 1 ≤ h → h ≤ 14 → α' 15 h = c2 h) ∧
  (∀ h, xO γ h → c2 h ≠ 0 → α' 17 h = (if 99 < γ 6 h + 1 then 99 else γ 6 h + 1) ∧ α' 18 h = (if c1 h = 0 then 0 else γ 7 h) ∧ ∀ s, 0 ≤ s → s < γ 5 h → xV γ c1 c2 h (γ 4 h + 2 + s) (α' 19 (10 * h + s))) ∧ α' 23 0 = 0
section MC
variable {sc : Int → Int} {Q : Ou → St → Nat → Prop} {γ α : St} {n : Nat}
theorem CI.val {h s : Int} (hI : CI γ n) (ho : xO γ h) (a : 0 ≤ s) (b : s < γ 5 h) (hk : γ 3 (γ 4 h + 2 + s) ≠ 0) : 0 ≤ γ 2 (γ 4 h + 2 + s) ∧ γ 2 (γ 4 h + 2 + s) ≤ 14 := by
  rcases hI.2.2.2.2.2.1 h s ho a b with z | ⟨-, z | z⟩
  · exact absurd z hk
  · omega
  · have := z.1; have := z.2.1; omega
theorem xK.obj {src : Int → Prop} {c : Int → Int} (h : xK γ src c) (hs : ∀ x, src x → xO γ x) {x : Int} (a : 1 ≤ x) (b : x ≤ 14) (hc : c x ≠ 0) : xO γ x := by
  have : c x = 1 := by rcases h.2.1 x a b with q | q <;> omega
  exact ((h.2.2 x a b).mp this).obj hs
theorem m_collectAll {v1 v2 v3 v4 : AV} (hI : CI γ n) (hR : RM γ α n) (h44 : am_R (α 44 0 + 1))
    (k : ∀ (c1 c2 d : Int → Int) (α' : St), mCol γ α n c1 c2 d α' → Q (.inl (some (γ 30 0 - pu_h c2 (fun x => γ 5 x + 2)))) α' 0) : am_wp sc 60 0 [.inr (.inl 1), v1, v2, v3, v4] [] α Q := by
  have hso := hI.2.2.2.2.2.2.2.2.2.1
  have hso2 : ∀ x, xsrc2 γ x → xO γ x := fun x hx => hx.elim (hso x) (fun z => z.1)
  have hn14 := hI.1.n14
  have hW := hR.w
  have htop := hI.top
  refine b_60_0 v1 v2 v3 v4 (m_wordsOf (xob γ) (fun h a b => ?_) (fun h a b c => ?_) (am_bi ?_))
  · rw [xob_i, hW.is a b]
    exact ⟨fun z => ⟨⟨a, b, z⟩, Or.inr rfl⟩, fun z => z.1.2.2⟩
  · have ho : xO γ h := ⟨a, b, xob_i.mp c⟩
    have := hI.geo h ho
    rw [(hW.2.1 h ho).1]; omega
  rw [show pu_h (xob γ) (fun x => α 16 x + 2) = γ 30 0 from by
    rw [hI.sum]
    refine pu_h_congr (fun x a b => ⟨Iff.rfl, fun c => ?_⟩)
    rw [(hW.2.1 x ⟨a, b, xob_i.mp c⟩).1]]
  refine b_60_5 _ _ _ _ _ (m_findLive hI hW (fun α1 f1 K1 => am_bi (b_60_10 _ _ _ _ ?_)))
  generalize hc1 : α1 23 = c1 at K1
  have ob1 : ∀ x, 1 ≤ x → x ≤ 14 → c1 x ≠ 0 → xO γ x := fun x a b c => K1.obj hso a b c
  have s16 : ∀ x, xO γ x → α 16 x = γ 5 x ∧ 0 ≤ γ 5 x ∧ γ 5 x ≤ 10 := fun x hx => ⟨(hW.2.1 x hx).1, (hI.geo x hx).2.1, (hI.geo x hx).2.2.1⟩
  -- the loop B and behind it
  have LC : ∀ (z1 : Int) (αB : St), z1 = γ 30 0 → ∀ c2 : Int → Int, αB 23 = c2 → xK γ (xsrc2 γ) c2 → (∀ i : Nat, i < n → αB 14 i = γ 8 i) → αB 41 0 = (n : Int) → αB 15 = α 15 → αB 16 = α 16 → αB 44 = α 44 → (∀ α' : St, (∀ k, k ≠ 14 → k ≠ 15 → k ≠ 41 → k ≠ 44 → α' k = αB k) → α' 14 = (pu_f c2 (αB 14) n).1 → α' 41 0 = ((pu_f c2 (αB 14) n).2 : Int) → (∀ h, 1 ≤ h → h ≤ 14 → α' 15 h = c2 h) → α' 44 0 = α 44 0 + 1 → Q (.inl (some (γ 30 0 - pu_h c2 (fun x => γ 5 x + 2)))) α' 0) → ∀ (z2 : Int) (v3 v4 : AV), am_wp sc 60 136 [.inr (.inl 1), .inl z1, .inl z2, v3, v4] [] αB Q := by
    intro z1 αB hz1 c2 e23 K2 e14 e41 e15 e16 e44 kk z2 v3 v4
    have ob2 : ∀ x, 1 ≤ x → x ≤ 14 → c2 x ≠ 0 → xO γ x := fun x a b c => K2.obj hso2 a b c
    have loop : ∀ (d i : Nat), i + d = n → ∀ (v4 : AV) (α2 : St), (∀ k, k ≠ 14 → k ≠ 15 → α2 k = αB k) → α2 14 = (pu_f c2 (αB 14) i).1 → (∀ j : Nat, j < i → α2 15 (γ 8 j) = c2 (γ 8 j)) → (∀ h, (∀ j : Nat, j < i → γ 8 j ≠ h) → α2 15 h = α 15 h) →
        am_wp sc 60 140 [.inr (.inl 1), .inl z1, .inl ((pu_f c2 (αB 14) i).2 : Int), .inl (i : Int), v4] [] α2 Q := by
      intro d
      induction d with
      | zero =>
        intro i hi v4 α2 hk g14 g15 g15'
        have : i = n := by omega
        subst this
        have e41' : α2 41 0 = (i : Int) := by rw [hk 41 (by decide) (by decide)]; exact e41
        have hfin : ∀ h, 1 ≤ h → h ≤ 14 → α2 15 h = c2 h := by
          intro h a b
          rcases Classical.em (xO γ h) with q | q
          · obtain ⟨j, hj, he⟩ := (hI.2.1 h).mp q
            rw [← he]; exact g15 j hj
          · rw [g15' h (fun j hj he => q ((hI.2.1 h).mpr ⟨j, hj, he⟩))]
            have h1 : α 15 h = 0 := by
              rcases hR.2.2.1 h a b with w | w
              · exact absurd w.2 q
              · exact w.1
            rw [h1]
            rcases K2.2.1 h a b with w | w
            · exact w.symm
            · exact absurd (ob2 h a b (by omega)) q
        refine b_60_140 _ _ _ _ (fun _ => b_60_197 _ _ _ _ (by rw [hk 44 (by decide) (by decide), e44]; exact h44) ?_) (fun h9 => absurd (by omega) h9)
        refine m_wordsOf c2 (fun h a b => ?_) (fun h a b c => ?_) (am_bi ?_)
        · show c2 h = 1 ↔ α2 15 h ≠ 0 ∧ (_ ∨ (0 : Int) = 0)
          rw [hfin h a b]
          constructor
          · intro z; exact ⟨by omega, Or.inr rfl⟩
          · intro z; rcases K2.2.1 h a b with w | w
            · exact absurd w z.1
            · exact w
        · show 0 ≤ α2 16 h ∧ α2 16 h ≤ 10
          have := s16 h (ob2 h a b (by omega))
          rw [hk 16 (by decide) (by decide), e16]; omega
        · have ew : pu_h c2 (fun x => (am_up (am_up α2 41 0 ((pu_f c2 (αB 14) i).2 : Int)) 44 0 (α2 44 0 + 1)) 16 x + 2) = pu_h c2 (fun x => γ 5 x + 2) := by
            refine pu_h_congr (fun x a b => ⟨Iff.rfl, fun c => ?_⟩)
            show α2 16 x + 2 = γ 5 x + 2
            rw [hk 16 (by decide) (by decide), e16, (s16 x (ob2 x a b (by omega))).1]
          rw [ew]
          have bd := pu_h_bd (c := c2) (g := fun x => γ 5 x + 2) (fun x a b c => by
            have := s16 x (ob2 x a b (by omega))
            show 0 ≤ γ 5 x + 2 ∧ γ 5 x + 2 ≤ 12
            omega)
          rw [hz1]
          refine b_60_218 _ _ _ _ _ _ ⟨by omega, by omega⟩ (kk _ (fun k a b c d => ?_) g14 rfl hfin ?_)
          · rw [am_up_n d, am_up_n c]; exact hk k a b
          · show α2 44 0 + 1 = _
            rw [hk 44 (by decide) (by decide), e44]
      | succ d ih =>
        intro i hi v4 α2 hk g14 g15 g15'
        obtain ⟨u1, u2, u3, u4⟩ := pu_f_inv (c := c2) (o := αB 14) i
        have e8 : α2 14 i = γ 8 i := by rw [g14, u2 i u1]; exact e14 i (by omega)
        have hr := hI.1.2.1 i (by omega)
        have e23' : α2 23 = c2 := by rw [hk 23 (by decide) (by decide)]; exact e23
        have hnew : ∀ j : Nat, j < i → γ 8 j ≠ γ 8 i := fun j hj he => by have := hI.1.2.2.1 j i (by omega) (by omega) he; omega
        have eF : pu_f c2 (αB 14) (i + 1) = if c2 (γ 8 i) = 0 then pu_f c2 (αB 14) i else (am_u1 (pu_f c2 (αB 14) i).1 (pu_f c2 (αB 14) i).2 (γ 8 i), (pu_f c2 (αB 14) i).2 + 1) := by
          show (if c2 ((pu_f c2 (αB 14) i).1 i) = 0 then _ else _) = _
          rw [u2 i u1, e14 i (by omega)]
        refine b_60_140 _ _ _ _ (fun h9 => absurd h9 (by rw [hk 41 (by decide) (by decide), e41]; omega)) (fun _ => ?_)
        refine b_60_148 _ _ _ _ ⟨by omega, by omega⟩ (by rw [e8]; exact ⟨by omega, by omega⟩) (by rw [e8]; exact ⟨by omega, by omega⟩) (by rw [e8, e23']; exact K2.2.1 _ hr.1 hr.2) (by rw [e8]; exact ⟨by omega, by omega⟩) (fun hc => ?_) (fun hc => ?_)
        · rw [e8, e23'] at hc
          rw [e8, e23']
          refine b_60_191 _ _ _ _ ⟨by omega, by omega⟩ ?_
          rw [show (i : Int) + 1 = ((i + 1 : Nat) : Int) by omega, show pu_f c2 (αB 14) i = pu_f c2 (αB 14) (i + 1) by rw [eF, if_pos hc]]
          refine ih (i + 1) (by omega) _ _ (fun k a b => by rw [am_up_n b]; exact hk k a b) (by rw [eF, if_pos hc]; exact g14) (fun j hj => ?_) (fun h hh => ?_)
          · show am_u1 (α2 15) (γ 8 i) (c2 (γ 8 i)) (γ 8 j) = _
            by_cases hji : j = i
            · rw [hji, am_u1_s]
            · rw [am_u1_n (hnew j (by omega))]; exact g15 j (by omega)
          · show am_u1 (α2 15) (γ 8 i) (c2 (γ 8 i)) h = _
            rw [am_u1_n (fun e => hh i (by omega) e.symm)]; exact g15' h (fun j hj => hh j (by omega))
        · rw [e8, e23'] at hc
          rw [e8, e23']
          refine b_60_180 _ _ _ _ ⟨by omega, by omega⟩ ⟨by omega, by omega⟩ (b_60_191 _ _ _ _ ⟨by omega, by omega⟩ ?_)
          have e2 : ((pu_f c2 (αB 14) i).2 : Int) + 1 = ((pu_f c2 (αB 14) (i + 1)).2 : Int) := by rw [eF, if_neg hc]; rfl
          rw [show (i : Int) + 1 = ((i + 1 : Nat) : Int) by omega, e2]
          refine ih (i + 1) (by omega) _ _ (fun k a b => by rw [am_up_n a, am_up_n b]; exact hk k a b) ?_ (fun j hj => ?_) (fun h hh => ?_)
          · rw [eF, if_neg hc]
            show am_u1 (α2 14) _ _ = am_u1 _ _ _
            rw [g14]
          · show am_u1 (α2 15) (γ 8 i) (c2 (γ 8 i)) (γ 8 j) = _
            by_cases hji : j = i
            · rw [hji, am_u1_s]
            · rw [am_u1_n (hnew j (by omega))]; exact g15 j (by omega)
          · show am_u1 (α2 15) (γ 8 i) (c2 (γ 8 i)) h = _
            rw [am_u1_n (fun e => hh i (by omega) e.symm)]; exact g15' h (fun j hj => hh j (by omega))
    refine b_60_136 _ _ _ _ (loop n 0 (by omega) _ αB (fun _ _ _ => rfl) rfl (fun j hj => absurd hj (Nat.not_lt_zero j)) (fun h _ => by rw [e15]))
  -- the loop A
  have LA : ∀ (d : Nat) (z : Int), 1 ≤ z → z + d = 15 → ∀ α2 : St, (∀ k, k ≠ 19 → α2 k = α1 k) → (∀ x s, xO γ x → 0 ≤ s → s < γ 5 x → (x < z ∧ c1 x ≠ 0 → mWk α c1 x s (α2 19 (10 * x + s))) ∧ (¬ (x < z ∧ c1 x ≠ 0) → α2 19 (10 * x + s) = α 19 (10 * x + s))) → ∀ v3 v4 : AV, am_wp sc 60 12 [.inr (.inl 1), .inl (γ 30 0), .inl z, v3, v4] [] α2 Q := by
    intro d
    induction d with
    | succ d ih =>
      intro z hz hd α2 hk hw v3 v4
      have e23 : α2 23 = c1 := by rw [hk 23 (by decide)]; exact hc1
      have e16 : α2 16 = α 16 := by rw [hk 16 (by decide)]; exact f1 16 (by decide)
      have e20 : α2 20 = α 20 := by rw [hk 20 (by decide)]; exact f1 20 (by decide)
      refine b_60_12 _ _ _ _ (fun h9 => absurd h9 (by omega)) (fun _ => ?_)
      refine b_60_18 _ _ _ _ ⟨by omega, by omega⟩ (fun h1 => b_60_32 _ _ _ _ ⟨by omega, by omega⟩ (ih (z + 1) (by omega) (by omega) α2 hk (fun x s ho a b => ?_) _ _)) (fun h1 => ?_)
      · rw [e23] at h1
        obtain ⟨p, q⟩ := hw x s ho a b
        by_cases hxz : x = z
        · refine ⟨fun w => absurd (by rw [hxz]; exact h1) w.2, fun _ => q (fun w => by omega)⟩
        · exact ⟨fun w => p ⟨by omega, w.2⟩, fun w => q (fun y => w ⟨by omega, y.2⟩)⟩
      · rw [e23] at h1
        have ho := ob1 z hz (by omega) h1
        have h16 := s16 z ho
        refine b_60_27 _ _ _ _ (m_weaken hz (by omega) (by rw [e16]; omega) (fun s a b c => ?_) (by rw [e23]; exact K1.1) (fun α3 hk3 hw3 ho3 => am_bi (b_60_32 _ _ _ _ ⟨by omega, by omega⟩ (ih (z + 1) (by omega) (by omega) α3 (fun k a => by rw [hk3 k a]; exact hk k a) (fun x s hox a b => ?_) _ _))))
        · rw [e16, h16.1] at b
          have r := hR.2.2.2.2.1 z s ho a b
          rw [e20, r.2] at c
          rw [(hw z s ho a b).2 (fun w => by omega), r.1]
          exact hI.val ho a b (by omega)
        · rw [e16, h16.1, e23] at hw3
          rw [e16, h16.1] at ho3
          obtain ⟨p, q⟩ := hw x s hox a b
          by_cases hxz : x = z
          · rw [hxz] at b ⊢
            have h5 := hw3 s a b
            unfold mWk at h5
            rw [e20, (hw z s ho a b).2 (fun w => by omega)] at h5
            exact ⟨fun _ => h5, fun w => absurd ⟨by omega, h1⟩ w⟩
          · have hgx := s16 x hox
            rw [ho3 (10 * x + s) (by omega)]
            exact ⟨fun w => p ⟨by omega, w.2⟩, fun w => q (fun y => w ⟨by omega, y.2⟩)⟩
    | zero =>
      intro z hz hd α2 hk hw v3 v4
      have f2 : ∀ k, k ≠ 19 → k ≠ 23 → α2 k = α k := fun k a b => by rw [hk k a]; exact f1 k b
      have e23 : α2 23 = c1 := by rw [hk 23 (by decide)]; exact hc1
      have w2 : RW γ α2 := by
        refine ⟨by rw [f2 15 (by decide) (by decide)]; exact hW.1, by rw [f2 16 (by decide) (by decide), f2 18 (by decide) (by decide)]; exact hW.2.1, fun h s ho a b => ?_, by rw [f2 42 (by decide) (by decide)]; exact hW.2.2.2.1, by rw [f2 21 (by decide) (by decide)]; exact hW.2.2.2.2.1, by rw [f2 43 (by decide) (by decide)]; exact hW.2.2.2.2.2.1, by rw [f2 22 (by decide) (by decide)]; exact hW.2.2.2.2.2.2.1, by rw [e23]; exact K1.1⟩
        have r := hR.2.2.2.2.1 h s ho a b
        refine ⟨by rw [f2 20 (by decide) (by decide)]; exact r.2, fun hk1 => ?_⟩
        obtain ⟨p, q⟩ := hw h s ho a b
        by_cases hh : h < z ∧ c1 h ≠ 0
        · rw [(p hh).2 (fun w => by rw [r.2, hk1] at w; exact absurd w.1 (by decide))]; exact r.1
        · rw [q hh]; exact r.1
      refine b_60_12 _ _ _ _ (fun _ => b_60_38 _ _ _ _ (m_save hI w2 (by rw [e23]; exact K1) (fun αs fs K2 hd24 => am_bi (b_60_42 _ _ _ _ ?_)))) (fun h9 => absurd (by omega) h9)
      rw [e23] at hd24
      generalize hc2 : αs 23 = c2 at K2
      generalize hdd : αs 24 = dd at hd24
      have ob2 : ∀ x, 1 ≤ x → x ≤ 14 → c2 x ≠ 0 → xO γ x := fun x a b c => K2.obj hso2 a b c
      have fs' : ∀ k, k ≠ 19 → k ≠ 23 → k ≠ 24 → αs k = α k := fun k a b c => by rw [fs k b c]; exact f2 k a b
      have hdi : ∀ h, 1 ≤ h → h ≤ 14 → (dd h = 0 ↔ γ 7 h = 0 ∨ c1 h ≠ 0) := by
        intro h a b
        rw [hd24 h a b]
        split
        · rename_i q; exact ⟨fun _ => q, fun _ => rfl⟩
        · rename_i q; exact ⟨fun w => absurd w (by decide), fun w => absurd w q⟩
      have hq : ∀ i : Int, 0 ≤ i → i < α 43 0 → α 22 i = γ 10 i ∧ 1 ≤ γ 10 i ∧ γ 10 i ≤ 14 ∧ dd (γ 10 i) = 0 := by
        intro i a b
        rw [hW.2.2.2.2.2.1] at b
        have hs : xsrc γ (γ 10 i) := Or.inr ⟨i, a, b, rfl⟩
        have ho := hso _ hs
        refine ⟨hW.2.2.2.2.2.2.1 i a b, ho.1, ho.2.1, (hdi _ ho.1 ho.2.1).mpr (Or.inr ?_)⟩
        rw [(K1.2.2 _ ho.1 ho.2.1).mpr (xL.src hs)]; decide
      have e43 := hW.2.2.2.2.2.1
      have inv := pu_q_inv (c := dd) (q := α 22) (n := α 43 0) (fun i a b => by rw [(hq i a b).1]; exact (hq i a b).2.2.2) (fun i j a b a' b' he => by
        rw [(hq i a b).1, (hq j a' b').1] at he
        exact hI.2.2.2.2.2.2.2.2.2.2.1 i j a (by omega) a' (by omega) he)
      have hqb : ∀ m : Nat, m ≤ 14 → (pu_q dd (α 22) (α 43 0) m).2 ≤ 14 := by
        intro m hm
        obtain ⟨g1, g2, g3, g4, g5⟩ := inv m
        refine pu_inj_le' (e := (pu_q dd (α 22) (α 43 0) m).1) (fun i a b => ?_) g4
        by_cases hi : i < α 43 0
        · rw [g2 i hi, (hq i a hi).1]; have := hq i a hi; omega
        · have := g3 i (by omega) b; omega
      -- the loop B
      have LB : ∀ (d m : Nat), m + d = 14 → ∀ α3 : St, (∀ k, k ≠ 17 → k ≠ 18 → k ≠ 19 → k ≠ 22 → k ≠ 43 → α3 k = αs k) → α3 22 = (pu_q dd (α 22) (α 43 0) m).1 → α3 43 0 = (pu_q dd (α 22) (α 43 0) m).2 →
          (∀ x, 1 ≤ x → x ≤ (m : Int) → (α3 18 x = if dd x = 0 then α 18 x else 0) ∧ (c2 x ≠ 0 → α3 17 x = if 99 < γ 6 x + 1 then 99 else γ 6 x + 1)) → (∀ x, (m : Int) < x → α3 18 x = α 18 x ∧ α3 17 x = α 17 x) →
          (∀ x s, xO γ x → 0 ≤ s → s < γ 5 x → (x ≤ (m : Int) ∧ c2 x ≠ 0 → mWk αs c2 x s (α3 19 (10 * x + s))) ∧ (¬ (x ≤ (m : Int) ∧ c2 x ≠ 0) → α3 19 (10 * x + s) = αs 19 (10 * x + s))) →
          ∀ v3 v4 : AV, am_wp sc 60 44 [.inr (.inl 1), .inl (γ 30 0), .inl ((m : Int) + 1), v3, v4] [] α3 Q := by
        intro d
        induction d with
        | zero =>
          intro m hm α3 f3 g22 g43 g1 g2 g19 v3 v4
          have : m = 14 := by omega
          subst this
          refine b_60_44 _ _ _ _ (fun _ => LC _ α3 rfl c2 (by rw [f3 23 (by decide) (by decide) (by decide) (by decide) (by decide)]; exact hc2) K2 (fun i hi => ?_) ?_ ?_ ?_ ?_ (fun α' f' h14 h41 h15 h44' => ?_) _ _ _) (fun h9 => absurd (by omega) h9)
          · rw [f3 14 (by decide) (by decide) (by decide) (by decide) (by decide), fs' 14 (by decide) (by decide) (by decide)]; exact hR.2.1 i hi
          · rw [f3 41 (by decide) (by decide) (by decide) (by decide) (by decide), fs' 41 (by decide) (by decide) (by decide)]; exact hR.1
          · rw [f3 15 (by decide) (by decide) (by decide) (by decide) (by decide), fs' 15 (by decide) (by decide) (by decide)]
          · rw [f3 16 (by decide) (by decide) (by decide) (by decide) (by decide), fs' 16 (by decide) (by decide) (by decide)]
          · rw [f3 44 (by decide) (by decide) (by decide) (by decide) (by decide), fs' 44 (by decide) (by decide) (by decide)]
          · have e14 : α3 14 = α 14 := by rw [f3 14 (by decide) (by decide) (by decide) (by decide) (by decide)]; exact fs' 14 (by decide) (by decide) (by decide)
            rw [e14] at h14 h41
            refine k c1 c2 dd α' ⟨K1, K2, hdi, fun k a14 a15 a17 a18 a19 a22 a23 a24 a41 a43 a44 => ?_, h14, h41, ?_, ?_, h44', h15, fun h ho hc => ?_, ?_⟩
            · rw [f' k a14 a15 a41 a44, f3 k a17 a18 a19 a22 a43]; exact fs' k a19 a23 a24
            · rw [f' 22 (by decide) (by decide) (by decide) (by decide)]; exact g22
            · rw [f' 43 (by decide) (by decide) (by decide) (by decide)]; exact g43
            · have p := g1 h ho.1 (by have := ho.2.1; omega)
              have r4 := hR.2.2.2.1 h ho
              refine ⟨by rw [f' 17 (by decide) (by decide) (by decide) (by decide)]; exact p.2 hc, ?_, fun s a b => ?_⟩
              · rw [f' 18 (by decide) (by decide) (by decide) (by decide), p.1, r4.2.2]
                have hd' := hdi h ho.1 ho.2.1
                by_cases hc1h : c1 h = 0
                · rw [if_pos hc1h]
                  by_cases hdh : dd h = 0
                  · rw [if_pos hdh]
                    rcases hd'.mp hdh with q | q
                    · exact q
                    · exact absurd hc1h q
                  · rw [if_neg hdh]
                · rw [if_neg hc1h, if_pos (hd'.mpr (Or.inr hc1h))]
              · rw [f' 19 (by decide) (by decide) (by decide) (by decide)]
                have r := hR.2.2.2.2.1 h s ho a b
                have q1 := (g19 h s ho a b).1 ⟨by have := ho.2.1; omega, hc⟩
                unfold mWk at q1
                rw [fs 19 (by decide) (by decide), fs' 20 (by decide) (by decide) (by decide), r.2] at q1
                obtain ⟨p1, p2⟩ := hw h s ho a b
                unfold mWk at p1
                rw [r.2, r.1] at p1
                rw [r.1] at p2
                by_cases hc1h : c1 h ≠ 0
                · have p1 := p1 ⟨by have := ho.2.1; omega, hc1h⟩
                  rcases Classical.em (γ 3 (γ 4 h + 2 + s) = 2 ∧ c1 (γ 2 (γ 4 h + 2 + s)) = 0) with w | w
                  · rw [p1.1 w] at q1
                    exact ⟨fun _ => q1.1 ⟨w.1, K2.1⟩, fun y => absurd ⟨w.1, Or.inl ⟨hc1h, w.2⟩⟩ y⟩
                  · rw [p1.2 w] at q1
                    refine ⟨fun y => q1.1 ⟨y.1, ?_⟩, fun y => q1.2 (fun x => y ⟨x.1, Or.inr x.2⟩)⟩
                    rcases y.2 with x | x
                    · exact absurd ⟨y.1, x.2⟩ w
                    · exact x
                · rw [p2 (fun y => hc1h y.2)] at q1
                  refine ⟨fun y => q1.1 ⟨y.1, ?_⟩, fun y => q1.2 (fun x => y ⟨x.1, Or.inr x.2⟩)⟩
                  rcases y.2 with x | x
                  · exact absurd x.1 hc1h
                  · exact x
            · rw [f' 23 (by decide) (by decide) (by decide) (by decide), f3 23 (by decide) (by decide) (by decide) (by decide) (by decide), hc2]; exact K2.1
        | succ d ihB =>
          intro m hm α3 f3 g22 g43 g1 g2 g19 v3 v4
          have eq : pu_q dd (α 22) (α 43 0) (m + 1) = if dd ((m : Int) + 1) = 0 then pu_q dd (α 22) (α 43 0) m else (am_u1 (pu_q dd (α 22) (α 43 0) m).1 (pu_q dd (α 22) (α 43 0) m).2 ((m : Int) + 1), (pu_q dd (α 22) (α 43 0) m).2 + 1) := rfl
          have e24 : α3 24 = dd := by rw [f3 24 (by decide) (by decide) (by decide) (by decide) (by decide)]; exact hdd
          -- behind the first if
          have snd : ∀ α4 : St, (∀ k, k ≠ 17 → k ≠ 18 → k ≠ 19 → k ≠ 22 → k ≠ 43 → α4 k = αs k) → α4 17 = α3 17 → α4 19 = α3 19 → α4 22 = (pu_q dd (α 22) (α 43 0) (m + 1)).1 → α4 43 0 = (pu_q dd (α 22) (α 43 0) (m + 1)).2 →
              (∀ x, 1 ≤ x → x ≤ ((m + 1 : Nat) : Int) → α4 18 x = if dd x = 0 then α 18 x else 0) → (∀ x, ((m + 1 : Nat) : Int) < x → α4 18 x = α 18 x) → am_wp sc 60 86 [.inr (.inl 1), .inl (γ 30 0), .inl ((m : Int) + 1), v3, v4] [] α4 Q := by
            intro α4 f4 e17 e19 q22 q43 q18 q18'
            have e23' : α4 23 = c2 := by rw [f4 23 (by decide) (by decide) (by decide) (by decide) (by decide)]; exact hc2
            have e16' : α4 16 = α 16 := by rw [f4 16 (by decide) (by decide) (by decide) (by decide) (by decide)]; exact fs' 16 (by decide) (by decide) (by decide)
            have e20' : α4 20 = αs 20 := f4 20 (by decide) (by decide) (by decide) (by decide) (by decide)
            have e20s : αs 20 = α 20 := fs' 20 (by decide) (by decide) (by decide)
            refine b_60_86 _ _ _ _ ⟨by omega, by omega⟩ (fun h1 => b_60_130 _ _ _ _ ⟨by omega, by omega⟩ ?_) (fun h1 => ?_)
            · rw [e23'] at h1
              rw [show (m : Int) + 1 + 1 = ((m + 1 : Nat) : Int) + 1 by omega]
              refine ihB (m + 1) (by omega) α4 f4 q22 q43 (fun x a b => ⟨q18 x a b, fun w => ?_⟩) (fun x a => ⟨q18' x a, by rw [e17]; exact (g2 x (by omega)).2⟩) (fun x s ho a b => ?_) _ _
              · by_cases hx : x = (m : Int) + 1
                · rw [hx] at w; exact absurd h1 w
                · rw [e17]; exact (g1 x a (by omega)).2 w
              · rw [e19]
                obtain ⟨p, q⟩ := g19 x s ho a b
                by_cases hx : x = (m : Int) + 1
                · exact ⟨fun w => absurd (by rw [hx]; exact h1) w.2, fun _ => q (fun w => by omega)⟩
                · exact ⟨fun w => p ⟨by omega, w.2⟩, fun w => q (fun y => w ⟨by omega, y.2⟩)⟩
            · rw [e23'] at h1
              have ho := ob2 ((m : Int) + 1) (by omega) (by omega) h1
              have h16 := s16 _ ho
              have old : ∀ s, 0 ≤ s → s < γ 5 ((m : Int) + 1) → α3 19 (10 * ((m : Int) + 1) + s) = αs 19 (10 * ((m : Int) + 1) + s) := fun s a b => (g19 _ s ho a b).2 (fun w => by omega)
              have age := (g2 ((m : Int) + 1) (by omega)).2
              have r4 := hR.2.2.2.1 _ ho
              have i4 := hI.2.2.2.1 _ ho
              refine b_60_95 _ _ _ _ (m_weaken (by omega) (by omega) (by rw [e16']; omega) (fun s a b c => ?_) (by rw [e23']; exact K2.1) (fun α5 f5 w5 o5 => am_bi ?_))
              · rw [e16', h16.1] at b
                have r := hR.2.2.2.2.1 _ s ho a b
                rw [e20', e20s, r.2] at c
                have bd := hI.val ho a b (by omega)
                rw [e19, old s a b, fs 19 (by decide) (by decide)]
                obtain ⟨p1, p2⟩ := hw _ s ho a b
                by_cases hh : (m : Int) + 1 < z ∧ c1 ((m : Int) + 1) ≠ 0
                · rcases Classical.em (α 20 (10 * ((m : Int) + 1) + s) = 2 ∧ c1 (α 19 (10 * ((m : Int) + 1) + s)) = 0) with w | w
                  · rw [(p1 hh).1 w]; omega
                  · rw [(p1 hh).2 w, r.1]; exact bd
                · rw [p2 hh, r.1]; exact bd
              · rw [e16', h16.1, e23'] at w5
                rw [e16', h16.1] at o5
                have a5 : α5 17 ((m : Int) + 1) = γ 6 ((m : Int) + 1) := by rw [f5 17 (by decide), e17, age]; exact r4.2.1
                have fin : ∀ v : Int, v = (if 99 < γ 6 ((m : Int) + 1) + 1 then 99 else γ 6 ((m : Int) + 1) + 1) → am_wp sc 60 129 [.inr (.inl 1), .inl (γ 30 0), .inl ((m : Int) + 1), v3, v4] [.inl v, .inl ((m : Int) + 1), .inr (.inl 17)] α5 Q := by
                  intro v hv
                  refine b_60_129 _ _ _ _ _ _ ⟨by omega, by omega⟩ (b_60_130 _ _ _ _ ⟨by omega, by omega⟩ ?_)
                  rw [show (m : Int) + 1 + 1 = ((m + 1 : Nat) : Int) + 1 by omega]
                  refine ihB (m + 1) (by omega) _ (fun k a b c d e => by rw [am_up_n a, f5 k c]; exact f4 k a b c d e) ?_ ?_ (fun x a b => ⟨?_, fun w => ?_⟩) (fun x a => ⟨?_, ?_⟩) (fun x s hox a b => ?_) _ _
                  · show α5 22 = _
                    rw [f5 22 (by decide)]; exact q22
                  · show α5 43 0 = _
                    rw [f5 43 (by decide)]; exact q43
                  · show α5 18 x = _
                    rw [f5 18 (by decide)]; exact q18 x a b
                  · rw [am_up_k]
                    by_cases hx : x = (m : Int) + 1
                    · rw [hx, am_u1_s]; exact hv
                    · rw [am_u1_n hx, f5 17 (by decide), e17]; exact (g1 x a (by omega)).2 w
                  · show α5 18 x = _
                    rw [f5 18 (by decide)]; exact q18' x a
                  · rw [am_up_k, am_u1_n (by omega), f5 17 (by decide), e17]; exact (g2 x (by omega)).2
                  · show (_ → mWk αs c2 x s (α5 19 (10 * x + s))) ∧ (_ → α5 19 (10 * x + s) = _)
                    by_cases hx : x = (m : Int) + 1
                    · rw [hx] at b ⊢
                      have h5 := w5 s a b
                      unfold mWk at h5
                      rw [e20', e19, old s a b] at h5
                      exact ⟨fun _ => h5, fun w => absurd ⟨by omega, h1⟩ w⟩
                    · have hgx := s16 x hox
                      obtain ⟨p, q⟩ := g19 x s hox a b
                      rw [o5 (10 * x + s) (by omega), e19]
                      exact ⟨fun w => p ⟨by omega, w.2⟩, fun w => q (fun y => w ⟨by omega, y.2⟩)⟩
                refine b_60_100 _ _ _ _ ⟨by omega, by omega⟩ (fun h2 => b_60_127 _ _ _ _ _ (fin 99 ?_)) (fun h2 => b_60_116 _ _ _ _ _ ⟨by omega, by omega⟩ (by rw [a5]; exact ⟨by omega, by omega⟩) (fin _ ?_))
                · rw [a5] at h2; rw [if_pos (by omega)]
                · rw [a5] at h2; rw [a5, if_neg (by omega)]
          refine b_60_44 _ _ _ _ (fun h9 => absurd h9 (by omega)) (fun _ => ?_)
          refine b_60_50 _ _ _ _ ⟨by omega, by omega⟩ (fun h1 => ?_) (fun h1 => ?_)
          · rw [e24] at h1
            refine snd α3 f3 rfl rfl (by rw [eq, if_pos h1]; exact g22) (by rw [eq, if_pos h1]; exact g43) (fun x a b => ?_) (fun x a => (g2 x (by omega)).1)
            by_cases hx : x = (m : Int) + 1
            · rw [hx, if_pos h1]; exact (g2 _ (by omega)).1
            · exact (g1 x a (by omega)).1
          · rw [e24] at h1
            have b1 := hqb (m + 1) (by omega)
            rw [eq, if_neg h1] at b1
            have b1 : (pu_q dd (α 22) (α 43 0) m).2 + 1 ≤ 14 := b1
            have b2 := (inv m).1
            have b3 := hI.2.2.2.2.2.2.2.2.1
            refine b_60_59 _ _ _ _ (by rw [g43]; exact ⟨by omega, by omega⟩) (by rw [g43]; exact ⟨by omega, by omega⟩) ⟨by omega, by omega⟩ (snd _ (fun k a b c d e => by rw [am_up_n b, am_up_n e, am_up_n d]; exact f3 k a b c d e) rfl rfl ?_ ?_ (fun x a b => ?_) (fun x a => ?_))
            · rw [eq, if_neg h1]
              show am_u1 (α3 22) (α3 43 0) _ = am_u1 _ _ _
              rw [g22, g43]
            · rw [eq, if_neg h1]
              show α3 43 0 + 1 = _ + 1
              rw [g43]
            · rw [am_up_k]
              by_cases hx : x = (m : Int) + 1
              · rw [hx, am_u1_s, if_neg h1]
              · rw [am_u1_n hx]; exact (g1 x a (by omega)).1
            · rw [am_up_k, am_u1_n (by omega)]; exact (g2 x (by omega)).1
      exact LB 14 0 rfl αs (fun _ _ _ _ _ _ => rfl) (fs' 22 (by decide) (by decide) (by decide)) (by rw [fs' 43 (by decide) (by decide) (by decide)]; rfl) (fun x a b => absurd a (by omega)) (fun x _ => ⟨by rw [fs' 18 (by decide) (by decide) (by decide)], by rw [fs' 17 (by decide) (by decide) (by decide)]⟩) (fun x s ho _ _ => ⟨fun w => absurd w.1 (by have := ho.1; omega), fun _ => rfl⟩) _ _
  exact LA 14 1 (by omega) (by omega) α1 (fun _ _ => rfl) (fun x s ho _ _ => ⟨fun w => absurd w.1 (by have := ho.1; omega), fun _ => by rw [f1 19 (by decide)]⟩) _ _
end MC
