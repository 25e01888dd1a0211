/-! the reference: alloc and take -/
def isM (k : Nat) : Prop := (14 ≤ k ∧ k ≤ 25) ∨ (40 ≤ k ∧ k ≤ 44)
def isC (k : Nat) : Prop := (2 ≤ k ∧ k ≤ 13) ∨ (30 ≤ k ∧ k ≤ 35)
theorem RM.m {γ α α' : St} {n : Nat} (h : RM γ α n) (e : ∀ k, isM k → α' k = α k) : RM γ α' n := by
  unfold RM
  rw [e 14 (by unfold isM; omega), e 15 (by unfold isM; omega), e 16 (by unfold isM; omega), e 17 (by unfold isM; omega), e 18 (by unfold isM; omega), e 19 (by unfold isM; omega), e 20 (by unfold isM; omega), e 21 (by unfold isM; omega), e 22 (by unfold isM; omega), e 23 (by unfold isM; omega), e 41 (by unfold isM; omega), e 42 (by unfold isM; omega), e 43 (by unfold isM; omega), e 44 (by unfold isM; omega)]
  exact h
theorem RM.c {γ γ' α : St} {n : Nat} (h : RM γ α n) (e : ∀ k, isC k → k ≠ 11 → k ≠ 12 → k ≠ 13 → k ≠ 35 → γ' k = γ k) : RM γ' α n := by
  have e2 := e 2 (by unfold isC; omega) (by decide) (by decide) (by decide) (by decide)
  have e3 := e 3 (by unfold isC; omega) (by decide) (by decide) (by decide) (by decide)
  have e4 := e 4 (by unfold isC; omega) (by decide) (by decide) (by decide) (by decide)
  have e5 := e 5 (by unfold isC; omega) (by decide) (by decide) (by decide) (by decide)
  have e6 := e 6 (by unfold isC; omega) (by decide) (by decide) (by decide) (by decide)
  have e7 := e 7 (by unfold isC; omega) (by decide) (by decide) (by decide) (by decide)
  have e8 := e 8 (by unfold isC; omega) (by decide) (by decide) (by decide) (by decide)
  have e9 := e 9 (by unfold isC; omega) (by decide) (by decide) (by decide) (by decide)
  have e10 := e 10 (by unfold isC; omega) (by decide) (by decide) (by decide) (by decide)
  have e32 := e 32 (by unfold isC; omega) (by decide) (by decide) (by decide) (by decide)
  have e33 := e 33 (by unfold isC; omega) (by decide) (by decide) (by decide) (by decide)
  have e34 := e 34 (by unfold isC; omega) (by decide) (by decide) (by decide) (by decide)
  unfold RM xO at *
  rw [e2, e3, e4, e5, e6, e7, e8, e9, e10, e32, e33, e34]
  exact h
theorem CI.c {γ γ' : St} {n : Nat} (h : CI γ n) (e : ∀ k, isC k → k ≠ 13 → γ' k = γ k) : CI γ' n := by
  have e2 := e 2 (by unfold isC; omega) (by decide)
  have e3 := e 3 (by unfold isC; omega) (by decide)
  have e4 := e 4 (by unfold isC; omega) (by decide)
  have e5 := e 5 (by unfold isC; omega) (by decide)
  have e6 := e 6 (by unfold isC; omega) (by decide)
  have e7 := e 7 (by unfold isC; omega) (by decide)
  have e8 := e 8 (by unfold isC; omega) (by decide)
  have e9 := e 9 (by unfold isC; omega) (by decide)
  have e10 := e 10 (by unfold isC; omega) (by decide)
  have e11 := e 11 (by unfold isC; omega) (by decide)
  have e30 := e 30 (by unfold isC; omega) (by decide)
  have e31 := e 31 (by unfold isC; omega) (by decide)
  have e32 := e 32 (by unfold isC; omega) (by decide)
  have e33 := e 33 (by unfold isC; omega) (by decide)
  refine ⟨h.1.congr e31 e8 e4 e5 e30, ?_⟩
  have h2 := h.2
  unfold xsrc xO at h2 ⊢
  rw [e2, e3, e4, e5, e6, e7, e8, e9, e10, e11, e30, e32, e33]
  exact h2
theorem RM_col {γ α σ' α' : St} {n : Nat} {c1 c2 e1 e2 d : Int → Int} (hI : CI γ n) (hR : RM γ α n) (hX : xCol γ n c1 c2 σ') (hM : mCol γ α n e1 e2 d α') : RM σ' α' (pu_f c2 (γ 8) n).2 := by
  obtain ⟨x1, x2, x3, x4, x5, x6, x7, x8, x9, x10⟩ := hX
  obtain ⟨m1, m2, m3, m4, m5, m6, m7, m8, m9, m10, m11, m12⟩ := hM
  obtain ⟨r1, r2, r3, r4, r5, r6, r7, r8, r9, r10, r11⟩ := hR
  have q1 : ∀ x, 0 ≤ x → x ≤ 14 → e1 x = c1 x := fun x a b => m1.eq x1 a b
  have q2 : ∀ x, 0 ≤ x → x ≤ 14 → e2 x = c2 x := fun x a b => m2.eq x2 a b
  have hf := pu_f_congr (c := e2) (c' := c2) (o := α 14) (o' := γ 8) (n := n) r2 (fun i hi => by
    have := hI.1.2.1 i hi
    rw [r2 i hi, q2 _ (by omega) (by omega)]) n (Nat.le_refl n)
  have hle := (pu_f_inv (c := c2) (o := γ 8) n).1
  have hq := pu_q_congr (c := d) (c' := fun h => if γ 7 h = 0 ∨ c1 h ≠ 0 then 0 else 1) (q := α 22) (q' := γ 10) (n := α 43 0) (fun i a b => r9 i a (by omega)) 14 (fun h a b => by
    rw [m3 h a (by omega), q1 h (by omega) (by omega)]
    show _ ↔ (if γ 7 h = 0 ∨ c1 h ≠ 0 then (0 : Int) else 1) = 0
    split
    · rename_i z; exact ⟨fun _ => rfl, fun _ => z⟩
    · rename_i z; exact ⟨fun w => absurd w z, fun w => absurd w (by decide)⟩)
  rw [r8] at hq
  have hO : ∀ h, xO σ' h → xO γ h ∧ c2 h ≠ 0 := fun h hh => ⟨(x9 h hh).1, ((x8 h).mp hh).2.2⟩
  have k32 : σ' 32 = γ 32 := x3 32 (by decide) (by decide) (by decide) (by decide) (by decide) (by decide) (by decide) (by decide) (by decide) (by decide) (by decide) (by decide) (by decide) (by decide) (by decide)
  have k9 : σ' 9 = γ 9 := x3 9 (by decide) (by decide) (by decide) (by decide) (by decide) (by decide) (by decide) (by decide) (by decide) (by decide) (by decide) (by decide) (by decide) (by decide) (by decide)
  have l16 : α' 16 = α 16 := m4 16 (by decide) (by decide) (by decide) (by decide) (by decide) (by decide) (by decide) (by decide) (by decide) (by decide) (by decide)
  have l20 : α' 20 = α 20 := m4 20 (by decide) (by decide) (by decide) (by decide) (by decide) (by decide) (by decide) (by decide) (by decide) (by decide) (by decide)
  have l21 : α' 21 = α 21 := m4 21 (by decide) (by decide) (by decide) (by decide) (by decide) (by decide) (by decide) (by decide) (by decide) (by decide) (by decide)
  have l42 : α' 42 = α 42 := m4 42 (by decide) (by decide) (by decide) (by decide) (by decide) (by decide) (by decide) (by decide) (by decide) (by decide) (by decide)
  refine ⟨by rw [m6, hf.1], fun i hi => by rw [m5, x4]; exact hf.2 i (by omega), fun h a b => ?_, fun h hh => ?_, fun h s hh a b => ?_, by rw [l42, k32]; exact r6, by rw [l21, k32, k9]; exact r7, ?_, fun i a b => ?_, by rw [m9, x7, r10], m12⟩
  · rw [m10 h a b, q2 h (by omega) b]
    rcases x2.2.1 h a b with w | w
    · exact Or.inr ⟨w, fun z => ((x8 h).mp z).2.2 w⟩
    · exact Or.inl ⟨w, (x8 h).mpr ⟨a, b, by omega⟩⟩
  · obtain ⟨ho, hc⟩ := hO h hh
    have y := x9 h hh
    have m := m11 h ho (by rw [q2 h (by have := ho.1; omega) ho.2.1]; exact hc)
    rw [l16, m.1, m.2.1, y.2.1, y.2.2.1, y.2.2.2.1, q1 h (by have := ho.1; omega) ho.2.1]
    exact ⟨(r4 h ho).1, rfl, rfl⟩
  · obtain ⟨ho, hc⟩ := hO h hh
    have y := x9 h hh
    rw [y.2.1] at b
    have m := (m11 h ho (by rw [q2 h (by have := ho.1; omega) ho.2.1]; exact hc)).2.2 s a b
    obtain ⟨y1, y2⟩ := y.2.2.2.2 s a b
    have r := r5 h s ho a b
    rw [l20, y1]
    refine ⟨?_, r.2⟩
    by_cases hk : γ 3 (γ 4 h + 2 + s) = 2
    · have bd := hI.val ho a b (by omega)
      unfold xV at m
      rw [q1 h (by have := ho.1; omega) ho.2.1, q1 _ bd.1 bd.2, q2 _ bd.1 bd.2] at m
      rcases Classical.em (γ 3 (γ 4 h + 2 + s) = 2 ∧ ((c1 h ≠ 0 ∧ c1 (γ 2 (γ 4 h + 2 + s)) = 0) ∨ c2 (γ 2 (γ 4 h + 2 + s)) = 0)) with w | w
      · rw [m.1 w, y2.1 w]
      · rw [m.2 w, y2.2 w]
    · rw [m.2 (fun w => hk w.1), y2.2 (fun w => hk w.1)]
  · rw [m8, x6, r8]; exact hq.1
  · rw [m7, x5, r8]
    rw [x6, ← hq.1] at b
    exact hq.2 i a b
section MA
variable {sc : Int → Int} {Q : Ou → St → Nat → Prop} {γ α : St} {n : Nat}
theorem m_isRoom {m : Int} (hI : CI γ n) (hR : RM γ α n) (hm : 0 ≤ m ∧ m ≤ 10) (k1 : n < 14 ∧ γ 30 0 + 2 + m ≤ 90 → Q (.inl (some 1)) α 0) (k0 : ¬ (n < 14 ∧ γ 30 0 + 2 + m ≤ 90) → Q (.inl (some 0)) α 0) : am_wp sc 63 0 [.inr (.inl 1), .inl m] [] α Q := by
  have htop := hI.top
  have hW := hR.w
  refine b_63_0 m (m_freeHandle (fun h a b c _ => am_bi ?_) (fun hall => am_bi ?_))
  · have hno : ¬ xO γ h := fun z => (hW.is a b).mpr z c
    have hn : n < 14 := by
      have h1 := hI.cnt
      have h2 : xob γ h = 0 := by
        rcases Classical.em (γ 4 h = -1) with w | w
        · unfold xob; rw [if_pos w]
        · exact absurd ⟨a, b, w⟩ hno
      have h3 := pu_h_up (c := xob γ) a b h2
      have h4 := pu_h_le (c := am_u1 (xob γ) h 1)
      omega
    refine b_63_4 m h (fun h9 => absurd h9 (by omega)) (fun _ => b_63_7 m (m_wordsOf (xob γ) (fun x a b => ?_) (fun x a b c => ?_) (am_bi ?_)))
    · rw [xob_i, hW.is a b]
      exact ⟨fun z => ⟨⟨a, b, z⟩, Or.inr rfl⟩, fun z => z.1.2.2⟩
    · have ho : xO γ x := ⟨a, b, xob_i.mp c⟩
      have := hI.geo x ho
      rw [(hW.2.1 x ho).1]; omega
    · rw [show pu_h (xob γ) (fun x => α 16 x + 2) = γ 30 0 from by
        rw [hI.sum]
        refine pu_h_congr (fun x a b => ⟨Iff.rfl, fun c => ?_⟩)
        rw [(hW.2.1 x ⟨a, b, xob_i.mp c⟩).1]]
      refine b_63_12 m _ ⟨by omega, by omega⟩ ⟨by omega, by omega⟩ (fun h5 => b_63_25 m (b_63_26 m 0 (Or.inl rfl) (k0 (by omega)))) (fun h5 => b_63_21 m (b_63_26 m 1 (Or.inr rfl) (k1 ⟨hn, by omega⟩)))
  · refine b_63_4 m (-1) (fun _ => b_63_25 m (b_63_26 m 0 (Or.inl rfl) (k0 (fun z => ?_)))) (fun h9 => absurd (by decide) h9)
    obtain ⟨x, a, b, c⟩ := hI.free z.1
    exact ((hW.is a b).mp (hall x a b)).2.2 c
theorem m_would {m : Int} (hI : CI γ n) (hR : RM γ α n) (hm : 0 ≤ m ∧ m ≤ 10)
    (k1 : ∀ α' : St, (∀ k, k ≠ 23 → k ≠ 24 → α' k = α k) → xK γ (xsrc2 γ) (α' 23) → (pu_h (α' 23) (fun _ => 1) < 14 ∧ pu_h (α' 23) (fun x => γ 5 x + 2) + 2 + m ≤ 90) → Q (.inl (some 1)) α' 0)
    (k0 : ∀ α' : St, (∀ k, k ≠ 23 → k ≠ 24 → α' k = α k) → xK γ (xsrc2 γ) (α' 23) → ¬ (pu_h (α' 23) (fun _ => 1) < 14 ∧ pu_h (α' 23) (fun x => γ 5 x + 2) + 2 + m ≤ 90) → Q (.inl (some 0)) α' 0) : am_wp sc 64 0 [.inr (.inl 1), .inl m] [] α Q := by
  have hso := hI.2.2.2.2.2.2.2.2.2.1
  have hso2 : ∀ x, xsrc2 γ x → xO γ x := fun x hx => hx.elim (hso x) (fun z => z.1)
  refine b_64_0 m (m_findLive hI hR.w (fun α1 f1 K1 => am_bi (b_64_4 m ?_)))
  have hW1 : RW γ α1 := hR.w.scr (fun k a _ _ _ => f1 k a) K1.1
  refine m_save hI hW1 K1 (fun α2 f2 K2 _ => am_bi (b_64_8 m ?_))
  have f : ∀ k, k ≠ 23 → k ≠ 24 → α2 k = α k := fun k a b => by rw [f2 k a b]; exact f1 k a
  have hW2 : RW γ α2 := hR.w.scr (fun k a b _ _ => f k a b) K2.1
  have ob2 : ∀ x, 1 ≤ x → x ≤ 14 → α2 23 x ≠ 0 → xO γ x := fun x a b c => K2.obj hso2 a b c
  refine m_countLive K2.2.1 (am_bi (b_64_12 m _ (fun h1 => b_64_35 m (b_64_36 m 0 (Or.inl rfl) (k0 α2 f K2 (fun z => by omega)))) (fun h1 => b_64_17 m ?_)))
  refine m_wordsOf (α2 23) (fun h a b => ?_) (fun h a b c => ?_) (am_bi ?_)
  · rw [hW2.is a b]
    constructor
    · intro z; exact ⟨ob2 h a b (by omega), Or.inl (by omega)⟩
    · rintro ⟨-, z | z⟩
      · rcases K2.2.1 h a b with w | w
        · exact absurd w z
        · exact w
      · exact absurd z (by decide)
  · have ho := ob2 h a b (by omega)
    have := hI.geo h ho
    rw [(hW2.2.1 h ho).1]; omega
  · have e : pu_h (α2 23) (fun x => α2 16 x + 2) = pu_h (α2 23) (fun x => γ 5 x + 2) := pu_h_congr (fun x a b => ⟨Iff.rfl, fun c => by rw [(hW2.2.1 x (ob2 x a b (by omega))).1]⟩)
    have bd := pu_h_bd (c := α2 23) (g := fun x => γ 5 x + 2) (fun x a b c => by
      have := hI.geo x (ob2 x a b (by omega))
      show 0 ≤ γ 5 x + 2 ∧ γ 5 x + 2 ≤ 12
      omega)
    rw [e]
    refine b_64_22 m _ ⟨by omega, by omega⟩ ⟨by omega, by omega⟩ (fun h2 => b_64_35 m (b_64_36 m 0 (Or.inl rfl) (k0 α2 f K2 (fun z => by omega)))) (fun h2 => b_64_31 m (b_64_36 m 1 (Or.inr rfl) (k1 α2 f K2 ⟨by omega, by omega⟩)))
theorem m_put {m z2 : Int} {v3 v4 : AV} (hI : CI γ n) (hR : RM γ α n) (hm : 0 ≤ m ∧ m ≤ 10) (hn : n < 14) (hput : γ 30 0 + 2 + m ≤ 90) (hr : γ 32 0 < 10)
    (k : ∀ (h : Int) (α' : St), xLF γ h → RM (xPut γ h m) α' (n + 1) → (∀ k, ¬ isM k ∨ k = 40 → α' k = α k) → Q (.inl (some h)) α' 0) : am_wp sc 65 80 [.inr (.inl 1), .inl m, .inl z2, v3, v4] [] α Q := by
  have hW := hR.w
  obtain ⟨r1, r2, r3, r4, r5, r6, r7, r8, r9, r10, r11⟩ := id hR
  have h32 := hI.2.2.2.2.2.2.2.1
  refine b_65_80 _ _ _ _ (m_freeHandle (fun h a b c hl => am_bi ?_) (fun hall => ?_))
  · have hf : γ 4 h = -1 := by
      rcases Classical.em (γ 4 h = -1) with w | w
      · exact w
      · exact absurd c ((hW.is a b).mpr ⟨a, b, w⟩)
    have hLF : xLF γ h := ⟨a, b, hf, fun x x1 x2 => ((hW.is x1 (by omega)).mp (hl x x1 x2)).2.2⟩
    have hno : ∀ i : Nat, i < n → γ 8 i ≠ h := fun i hi he => ((hI.2.1 h).mpr ⟨i, hi, he⟩).2.2 hf
    have hne : ∀ x, xO γ x → x ≠ h := fun x hx he => hx.2.2 (by rw [he]; exact hf)
    refine b_65_84 _ _ _ _ _ ⟨by omega, by omega⟩ ⟨by omega, by omega⟩ ⟨by omega, by omega⟩ ⟨by omega, by omega⟩ ?_
    have loop : ∀ (d : Nat) (z : Int), 0 ≤ z → z + d = 10 → ∀ α1 : St, (∀ k, k ≠ 15 → k ≠ 16 → k ≠ 17 → k ≠ 18 → k ≠ 19 → k ≠ 20 → α1 k = α k) → α1 15 = am_u1 (α 15) h 1 → α1 16 = am_u1 (α 16) h m → α1 17 = am_u1 (α 17) h 0 → α1 18 = am_u1 (α 18) h 0 →
        (∀ q, q = 19 ∨ q = 20 → (∀ s, 0 ≤ s → s < z → α1 q (10 * h + s) = 0) ∧ ∀ x, x < 10 * h ∨ 10 * h + 10 ≤ x → α1 q x = α q x) → am_wp sc 65 116 [.inr (.inl 1), .inl m, .inl z2, .inl h, .inl z] [] α1 Q := by
      intro d
      induction d with
      | zero =>
        intro z hz hd α1 hk g15 g16 g17 g18 gq
        have e41 : α1 41 0 = (n : Int) := by rw [hk 41 (by decide) (by decide) (by decide) (by decide) (by decide) (by decide)]; exact r1
        have e42 : α1 42 0 = γ 32 0 := by rw [hk 42 (by decide) (by decide) (by decide) (by decide) (by decide) (by decide)]; exact r6
        have e14 : α1 14 = α 14 := hk 14 (by decide) (by decide) (by decide) (by decide) (by decide) (by decide)
        have e21 : α1 21 = α 21 := hk 21 (by decide) (by decide) (by decide) (by decide) (by decide) (by decide)
        refine b_65_116 _ _ _ _ (fun _ => b_65_155 _ _ _ _ (by rw [e41]; omega) (by rw [e41]; exact ⟨by omega, by omega⟩) (by rw [e42]; omega) (by rw [e42]; exact ⟨by omega, by omega⟩) (k h _ hLF ?_ (fun k hkk => ?_))) (fun h9 => absurd (by omega) h9)
        · rw [e41, e42]
          have p4 : xPut γ h m 4 = am_u1 (γ 4) h (γ 30 0) := rfl
          have p5 : xPut γ h m 5 = am_u1 (γ 5) h m := rfl
          have p8 : xPut γ h m 8 = am_u1 (γ 8) (n : Int) h := by rw [← hI.1.1]; rfl
          have p9 : xPut γ h m 9 = am_u1 (γ 9) (γ 32 0) h := rfl
          have htop := hI.top
          have hob : ∀ x, xO (xPut γ h m) x ↔ x = h ∨ xO γ x := by
            intro x
            unfold xO
            rw [p4]
            by_cases hx : x = h
            · rw [hx, am_u1_s]; exact ⟨fun _ => Or.inl rfl, fun _ => ⟨a, b, by omega⟩⟩
            · rw [am_u1_n hx]; exact ⟨fun z => Or.inr z, fun z => z.elim (fun w => absurd w hx) id⟩
          have w2 : ∀ x, x < γ 30 0 ∨ γ 30 0 + 2 ≤ x → xPut γ h m 2 x = γ 2 x := by
            intro x hx
            show am_u1 (am_u1 (γ 2) (γ 30 0) m) (γ 30 0 + 1) h x = _
            rw [am_u1_n (by omega), am_u1_n (by omega)]
          refine ⟨by show (n : Int) + 1 = _; omega, fun i hi => ?_, fun x x1 x2 => ?_, fun x hx => ?_, fun x s hx s1 s2 => ?_, rfl, fun i i1 i2 => ?_, ?_, fun i i1 i2 => ?_, ?_, ?_⟩
          · show am_u1 (α1 14) (n : Int) h i = xPut γ h m 8 i
            rw [p8, e14]
            by_cases hin : i = n
            · rw [hin, am_u1_s, am_u1_s]
            · rw [am_u1_n (by omega), am_u1_n (by omega)]; exact r2 i (by omega)
          · show (α1 15 x = 1 ∧ _) ∨ (α1 15 x = 0 ∧ _)
            rw [g15, hob]
            by_cases hx : x = h
            · rw [hx, am_u1_s]; exact Or.inl ⟨rfl, Or.inl rfl⟩
            · rw [am_u1_n hx]
              rcases r3 x x1 x2 with w | w
              · exact Or.inl ⟨w.1, Or.inr w.2⟩
              · exact Or.inr ⟨w.1, fun z => z.elim hx w.2⟩
          · show α1 16 x = _ ∧ α1 17 x = γ 6 x ∧ α1 18 x = γ 7 x
            rw [g16, g17, g18, p5]
            rcases (hob x).mp hx with hx | hx
            · rw [hx, am_u1_s, am_u1_s, am_u1_s, am_u1_s]
              have := hI.2.2.1 h a b (fun z => z.2.2 hf)
              exact ⟨rfl, this.2.1.symm, this.2.2.symm⟩
            · rw [am_u1_n (hne x hx), am_u1_n (hne x hx), am_u1_n (hne x hx), am_u1_n (hne x hx)]; exact r4 x hx
          · show α1 19 (10 * x + s) = _ ∧ α1 20 (10 * x + s) = γ 3 _
            rw [p5] at s2
            rw [p4]
            rcases (hob x).mp hx with hx | hx
            · rw [hx, am_u1_s] at s2
              rw [hx, am_u1_s, (gq 19 (Or.inl rfl)).1 s s1 (by omega), (gq 20 (Or.inr rfl)).1 s s1 (by omega), w2 _ (by omega)]
              by_cases hlt : γ 30 0 + 2 + s < 90
              · have := hI.2.2.2.2.2.2.1 (γ 30 0 + 2 + s) (by omega) hlt
                exact ⟨this.1.symm, this.2.symm⟩
              · exact absurd hlt (by
                  have := hput
                  omega)
            · rw [am_u1_n (hne x hx)] at s2
              have hx1 := hne x hx
              have hg := hI.geo x hx
              have hbl := hI.below hx
              rw [am_u1_n (hne x hx), (gq 19 (Or.inl rfl)).2 _ (by omega), (gq 20 (Or.inr rfl)).2 _ (by omega), w2 _ (by omega)]
              exact r5 x s hx s1 s2
          · show am_u1 (α1 21) (γ 32 0) h i = xPut γ h m 9 i
            have i2 : i < γ 32 0 + 1 := i2
            rw [p9, e21]
            by_cases hir : i = γ 32 0
            · rw [hir, am_u1_s, am_u1_s]
            · rw [am_u1_n hir, am_u1_n hir]; exact r7 i i1 (by omega)
          · show α1 43 0 = γ 33 0
            rw [hk 43 (by decide) (by decide) (by decide) (by decide) (by decide) (by decide)]; exact r8
          · show α1 22 i = γ 10 i
            rw [hk 22 (by decide) (by decide) (by decide) (by decide) (by decide) (by decide)]; exact r9 i i1 i2
          · show α1 44 0 = γ 34 0
            rw [hk 44 (by decide) (by decide) (by decide) (by decide) (by decide) (by decide)]; exact r10
          · show α1 23 0 = 0
            rw [hk 23 (by decide) (by decide) (by decide) (by decide) (by decide) (by decide)]; exact r11
        · unfold isM at hkk
          rw [am_up_n (by omega), am_up_n (by omega), am_up_n (by omega), am_up_n (by omega)]
          exact hk k (by omega) (by omega) (by omega) (by omega) (by omega) (by omega)
      | succ d ih =>
        intro z hz hd α1 hk g15 g16 g17 g18 gq
        refine b_65_116 _ _ _ _ (fun h9 => absurd h9 (by omega)) (fun _ => b_65_123 _ _ _ _ ⟨by omega, by omega⟩ ⟨by omega, by omega⟩ ⟨by omega, by omega⟩ ⟨by omega, by omega⟩ ⟨by omega, by omega⟩ ⟨by omega, by omega⟩ ⟨by omega, by omega⟩ (ih (z + 1) (by omega) (by omega) _ (fun k a b c d e f => by rw [am_up_n f, am_up_n e]; exact hk k a b c d e f) g15 g16 g17 g18 (fun q hqq => ?_)))
        have e : (am_up (am_up α1 19 (10 * h + z) 0) 20 (10 * h + z) 0) q = am_u1 (α1 q) (10 * h + z) 0 := by rcases hqq with rfl | rfl <;> rfl
        rw [e]
        obtain ⟨q1, q2⟩ := gq q hqq
        refine ⟨fun s s1 s2 => ?_, fun x hx => ?_⟩
        · by_cases hsz : s = z
          · rw [hsz, am_u1_s]
          · rw [am_u1_n (by omega)]; exact q1 s s1 (by omega)
        · rw [am_u1_n (by omega)]; exact q2 x hx
    exact loop 10 0 (by omega) (by omega) _ (fun k a b c d _ _ => by rw [am_up_n d, am_up_n c, am_up_n b, am_up_n a]) rfl rfl rfl rfl (fun q hq => ⟨fun s s1 s2 => absurd s1 (by omega), fun x _ => by rcases hq with rfl | rfl <;> rfl⟩)
  · exfalso
    obtain ⟨x, a, b, c⟩ := hI.free hn
    exact ((hW.is a b).mp (hall x a b)).2.2 c
end MA
