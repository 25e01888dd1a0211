/-! sliding -/
theorem pu_s_mono {f : Int → Int} {n : Nat} (h : ∀ i : Nat, i < n → 0 ≤ f i) : ∀ {i j : Nat}, i ≤ j → j ≤ n → pu_s f i ≤ pu_s f j := by
  intro i j hij
  induction j with
  | zero => intro _; rw [show i = 0 by omega]; exact Int.le_refl _
  | succ j ih =>
    intro hj
    by_cases hh : i = j + 1
    · rw [hh]; exact Int.le_refl _
    · have h1 := ih (by omega) (by omega)
      have h2 := h j (by omega)
      show pu_s f i ≤ pu_s f j + f j
      omega
theorem pu_s_lele {f g : Int → Int} : ∀ {n : Nat}, (∀ i : Nat, i < n → f i ≤ g i) → pu_s f n ≤ pu_s g n := by
  intro n
  induction n with
  | zero => intro _; exact Int.le_refl _
  | succ n ih =>
    intro h
    have h1 := ih (fun i hi => h i (by omega))
    have h2 := h n (by omega)
    show pu_s f n + f n ≤ pu_s g n + g n
    omega
/-- where an element stands that is kept -/
theorem pu_f_pos {c o g : Int → Int} : ∀ i : Nat, ∀ j : Nat, j < (pu_f c o i).2 → ∃ j0 : Nat, j0 < i ∧ (pu_f c o i).1 j = o j0 ∧ c (o j0) ≠ 0 ∧ pu_s (fun k => g ((pu_f c o i).1 k)) j = pu_s (fun k => if c (o k) = 0 then 0 else g (o k)) j0 := by
  intro i
  induction i with
  | zero => intro j hj; exact absurd hj (Nat.not_lt_zero j)
  | succ i ih =>
    have hs := pu_f_sum (c := c) (o := o) (g := g) i
    obtain ⟨g1, g2, -, -⟩ := pu_f_inv (c := c) (o := o) i
    rw [show pu_f c o (i + 1) = if c ((pu_f c o i).1 i) = 0 then pu_f c o i else (am_u1 (pu_f c o i).1 (pu_f c o i).2 ((pu_f c o i).1 i), (pu_f c o i).2 + 1) from rfl]
    rw [g2 i g1]
    by_cases hc : c (o i) = 0
    · rw [if_pos hc]
      intro j hj
      obtain ⟨j0, x, y⟩ := ih j hj
      exact ⟨j0, by omega, y⟩
    · rw [if_neg hc]
      generalize pu_f c o i = r at *
      intro j hj
      have hj : j < r.2 + 1 := hj
      have ec : pu_s (fun k => g (am_u1 r.1 r.2 (o i) k)) j = pu_s (fun k => g (r.1 k)) j := pu_s_congr (fun k hk => by show g (am_u1 r.1 r.2 (o i) k) = g (r.1 k); rw [am_u1_n (by omega)])
      show ∃ j0 : Nat, j0 < i + 1 ∧ am_u1 r.1 r.2 (o i) j = o j0 ∧ c (o j0) ≠ 0 ∧ pu_s (fun k => g (am_u1 r.1 r.2 (o i) k)) j = _
      rw [ec]
      by_cases hjr : j = r.2
      · exact ⟨i, by omega, by rw [hjr, am_u1_s], hc, by rw [hjr]; exact hs⟩
      · obtain ⟨j0, x, y, z⟩ := ih j (by omega)
        exact ⟨j0, by omega, by rw [am_u1_n (by omega)]; exact y, z⟩
section XV
variable {sc : Int → Int} {Q : Ou → St → Nat → Prop} {σ : St}
theorem x_move {h to : Int} {v3 v4 v5 : AV} (h0 : 0 ≤ h ∧ h < 15) (h5 : 0 ≤ σ 5 h ∧ σ 5 h ≤ 10) (ht : 0 ≤ to ∧ to ≤ σ 4 h) (hf : σ 4 h + (σ 5 h + 2) ≤ 90)
    (k : ∀ σ' : St, (∀ k, k ≠ 2 → k ≠ 3 → k ≠ 4 → σ' k = σ k) → σ' 4 = am_u1 (σ 4) h to → (∀ q, q = 2 ∨ q = 3 → (∀ b : Int, 0 ≤ b → b < σ 5 h + 2 → σ' q (to + b) = σ q (σ 4 h + b)) ∧ ∀ a : Int, a < to ∨ to + (σ 5 h + 2) ≤ a → σ' q a = σ q a) → Q (.inl none) σ' 0) : am_wp sc 39 0 [.inr (.inl 0), .inl h, .inl to, v3, v4, v5] [] σ Q := by
  refine b_39_0 h to v3 v4 v5 h0 (b_22_0 h h0 ⟨by omega, by omega⟩ (am_bi (b_39_12 h to _ v4 v5 _ ?_)))
  have loop : ∀ (d i : Nat), (i : Int) + d = σ 5 h + 2 → ∀ σ1 : St, (∀ k, k ≠ 2 → k ≠ 3 → σ1 k = σ k) → (∀ q, q = 2 ∨ q = 3 → (∀ b : Int, 0 ≤ b → b < i → σ1 q (to + b) = σ q (σ 4 h + b)) ∧ ∀ a : Int, a < to ∨ to + i ≤ a → σ1 q a = σ q a) →
      am_wp sc 39 17 [.inr (.inl 0), .inl h, .inl to, .inl (σ 4 h), .inl (σ 5 h + 2), .inl (i : Int)] [] σ1 Q := by
    intro d
    induction d with
    | zero =>
      intro i hi σ1 hk hq
      refine b_39_17 _ _ _ _ _ (fun _ => b_39_66 _ _ _ _ _ h0 (k _ (fun k a b c => by rw [am_up_n c]; exact hk k a b) ?_ (fun q hqq => ?_))) (fun h9 => absurd (by omega) h9)
      · show am_u1 (σ1 4) h to = _
        rw [hk 4 (by decide) (by decide)]
      · have := hq q hqq
        rw [show (i : Int) = σ 5 h + 2 by omega] at this
        rw [am_up_n (show q ≠ 4 by rcases hqq with rfl | rfl <;> decide)]
        exact this
    | succ d ih =>
      intro i hi σ1 hk hq
      refine b_39_17 _ _ _ _ _ (fun h9 => absurd h9 (by omega)) (fun _ => ?_)
      refine b_39_24 _ _ _ _ _ ⟨by omega, by omega⟩ ⟨by omega, by omega⟩ ⟨by omega, by omega⟩ ⟨by omega, by omega⟩ ⟨by omega, by omega⟩ ⟨by omega, by omega⟩ ⟨by omega, by omega⟩ ⟨by omega, by omega⟩ ⟨by omega, by omega⟩ ?_
      rw [show (i : Int) + 1 = ((i + 1 : Nat) : Int) by omega]
      refine ih (i + 1) (by omega) _ (fun k a b => ?_) (fun q hqq => ?_)
      · rw [am_up_n b, am_up_n a]; exact hk k a b
      · have e : (am_up (am_up σ1 2 (to + i) (σ1 2 (σ 4 h + i))) 3 (to + i) (σ1 3 (σ 4 h + i))) q = am_u1 (σ1 q) (to + i) (σ1 q (σ 4 h + i)) := by
          rcases hqq with rfl | rfl <;> rfl
        rw [e]
        obtain ⟨q1, q2⟩ := hq q hqq
        refine ⟨fun b hb1 hb2 => ?_, fun a ha => ?_⟩
        · by_cases hbi : b = i
          · rw [hbi, am_u1_s]; exact q2 _ (Or.inr (by omega))
          · rw [am_u1_n (by omega)]; exact q1 b hb1 (by omega)
        · rw [am_u1_n (by omega)]; exact q2 a (by omega)
  exact loop (σ 5 h + 2).toNat 0 (by omega) σ (fun _ _ _ => rfl) (fun q _ => ⟨fun b a c => absurd c (by omega), fun _ _ => rfl⟩)
theorem x_wipe {f e : Int} {v3 : AV} (hf : 0 ≤ f) (he : e ≤ 90)
    (k : ∀ σ' : St, (∀ k, k ≠ 2 → k ≠ 3 → σ' k = σ k) → (∀ q, q = 2 ∨ q = 3 → (∀ a : Int, f ≤ a → a < e → σ' q a = 0) ∧ ∀ a : Int, a < f ∨ e ≤ a → σ' q a = σ q a) → Q (.inl none) σ' 0) : am_wp sc 40 0 [.inr (.inl 0), .inl f, .inl e, v3] [] σ Q := by
  have loop : ∀ (d : Nat) (z : Int), f ≤ z → (z + d = e ∨ (d = 0 ∧ e ≤ z)) → (d ≠ 0 ∨ e ≤ f ∨ z = e) → ∀ σ1 : St, (∀ k, k ≠ 2 → k ≠ 3 → σ1 k = σ k) → (∀ q, q = 2 ∨ q = 3 → (∀ a : Int, f ≤ a → a < z → a < e → σ1 q a = 0) ∧ ∀ a : Int, a < f ∨ z ≤ a ∨ e ≤ a → σ1 q a = σ q a) → am_wp sc 40 2 [.inr (.inl 0), .inl f, .inl e, .inl z] [] σ1 Q := by
    intro d
    induction d with
    | zero =>
      intro z hz hd hx σ1 hk hq
      refine b_40_2 _ _ _ (fun h9 => b_40_27 _ _ _ (k σ1 hk (fun q hqq => ⟨fun a b c => (hq q hqq).1 a b (by omega) c, fun a b => (hq q hqq).2 a (by omega)⟩))) (fun h9 => absurd (by omega) h9)
    | succ d ih =>
      intro z hz hd hx σ1 hk hq
      refine b_40_2 _ _ _ (fun h9 => absurd h9 (by omega)) (fun h9 => ?_)
      refine b_40_7 _ _ _ ⟨by omega, by omega⟩ ⟨by omega, by omega⟩ ⟨by omega, by omega⟩ (ih (z + 1) (by omega) (by omega) (by omega) _ (fun k a b => ?_) (fun q hqq => ?_))
      · rw [am_up_n b, am_up_n a]; exact hk k a b
      · have e1 : (am_up (am_up σ1 2 z 0) 3 z 0) q = am_u1 (σ1 q) z 0 := by rcases hqq with rfl | rfl <;> rfl
        rw [e1]
        obtain ⟨q1, q2⟩ := hq q hqq
        refine ⟨fun a b c d => ?_, fun a b => ?_⟩
        · by_cases haz : a = z
          · rw [haz, am_u1_s]
          · rw [am_u1_n haz]; exact q1 a b (by omega) d
        · rw [am_u1_n (by omega)]; exact q2 a (by omega)
  refine b_40_0 f e v3 (loop (e - f).toNat f (by omega) (by omega) (by omega) σ (fun _ _ _ => rfl) (fun q _ => ⟨fun a b c => absurd c (by omega), fun _ _ => rfl⟩))
def sN (σ : St) (i : Nat) : Int := pu_s (fun j => if σ 11 (σ 8 j) = 0 then 0 else σ 5 (σ 8 j) + 2) i
def sT (σ : St) (i : Nat) : Int := pu_s (fun j => σ 5 (σ 8 j) + 2) i
/-- the order's objects stand one behind the other -/
def xP (σ : St) (n : Nat) : Prop :=
  σ 31 0 = (n : Int) ∧ (∀ i : Nat, i < n → 1 ≤ σ 8 i ∧ σ 8 i ≤ 14) ∧ (∀ i j : Nat, i < n → j < n → σ 8 i = σ 8 j → i = j) ∧ (∀ i : Nat, i < n → σ 4 (σ 8 i) = sT σ i ∧ 0 ≤ σ 5 (σ 8 i) ∧ σ 5 (σ 8 i) ≤ 10) ∧ σ 30 0 = sT σ n ∧ sT σ n ≤ 90
theorem xP.n14 {n : Nat} (h : xP σ n) : n ≤ 14 := pu_inj_le h.2.1 h.2.2.1
theorem xP.mono {n : Nat} (h : xP σ n) {i j : Nat} (h1 : i ≤ j) (h2 : j ≤ n) : sT σ i ≤ sT σ j := pu_s_mono (n := n) (fun x hx => by have := h.2.2.2.1 x hx; show 0 ≤ σ 5 (σ 8 x) + 2; omega) h1 h2
theorem xP.nn {n : Nat} (h : xP σ n) {i : Nat} (h1 : i ≤ n) : 0 ≤ sT σ i := h.mono (Nat.zero_le i) h1
theorem xP.nmono {n : Nat} (h : xP σ n) {i j : Nat} (h1 : i ≤ j) (h2 : j ≤ n) : sN σ i ≤ sN σ j := pu_s_mono (n := n) (fun x hx => by have := h.2.2.2.1 x hx; show 0 ≤ (if σ 11 (σ 8 x) = 0 then 0 else σ 5 (σ 8 x) + 2); split <;> omega) h1 h2
theorem xP.nle {n : Nat} (h : xP σ n) {i : Nat} (h1 : i ≤ n) : 0 ≤ sN σ i ∧ sN σ i ≤ sT σ i :=
  ⟨h.nmono (Nat.zero_le i) h1, pu_s_lele (fun x hx => by have := h.2.2.2.1 x (by omega); show (if σ 11 (σ 8 x) = 0 then 0 else σ 5 (σ 8 x) + 2) ≤ σ 5 (σ 8 x) + 2; split <;> omega)⟩
theorem sN_k {i : Nat} (h : σ 11 (σ 8 i) ≠ 0) : sN σ (i + 1) = sN σ i + (σ 5 (σ 8 i) + 2) := by
  show sN σ i + (if _ then _ else _) = _
  rw [if_neg h]
theorem sN_r {i : Nat} (h : σ 11 (σ 8 i) = 0) : sN σ (i + 1) = sN σ i := by
  show sN σ i + (if _ then _ else _) = _
  rw [if_pos h]; omega
/-- slid as far as i -/
def xSl (σ : St) (i : Nat) (σ1 : St) : Prop :=
  (∀ k, k ≠ 2 → k ≠ 3 → k ≠ 4 → k ≠ 5 → k ≠ 6 → k ≠ 7 → k ≠ 8 → σ1 k = σ k) ∧ σ1 8 = (pu_f (σ 11) (σ 8) i).1 ∧
  (∀ j : Nat, j < i → σ 11 (σ 8 j) ≠ 0 → σ1 4 (σ 8 j) = sN σ j ∧ ∀ q, q = 2 ∨ q = 3 → ∀ b : Int, 0 ≤ b → b < σ 5 (σ 8 j) + 2 → σ1 q (sN σ j + b) = σ q (sT σ j + b)) ∧
  (∀ j : Nat, j < i → σ 11 (σ 8 j) = 0 → σ1 4 (σ 8 j) = -1 ∧ σ1 5 (σ 8 j) = 0 ∧ σ1 6 (σ 8 j) = 0 ∧ σ1 7 (σ 8 j) = 0) ∧
  (∀ h, (∀ j : Nat, j < i → σ 8 j ≠ h) → σ1 4 h = σ 4 h) ∧
  (∀ h, (∀ j : Nat, j < i → σ 11 (σ 8 j) = 0 → σ 8 j ≠ h) → σ1 5 h = σ 5 h ∧ σ1 6 h = σ 6 h ∧ σ1 7 h = σ 7 h)
theorem x_slide {n : Nat} {v1 v2 v3 v4 : AV} (hP : xP σ n)
    (k : ∀ σ1 σ' : St, xSl σ n σ1 → (∀ k, k ≠ 2 → k ≠ 3 → k ≠ 30 → k ≠ 31 → σ' k = σ1 k) → σ' 30 0 = sN σ n → σ' 31 0 = ((pu_f (σ 11) (σ 8) n).2 : Int) → (∀ q, q = 2 ∨ q = 3 → (∀ a : Int, sN σ n ≤ a → a < sT σ n → σ' q a = 0) ∧ (∀ a : Int, a < sN σ n → σ' q a = σ1 q a) ∧ ∀ a : Int, sT σ n ≤ a → σ' q a = σ q a) → Q (.inl none) σ' 0) : am_wp sc 38 0 [.inr (.inl 0), v1, v2, v3, v4] [] σ Q := by
  obtain ⟨p1, p2, p3, p4, p5, p6⟩ := id hP
  have hn := hP.n14
  have loop : ∀ (d i : Nat), i + d = n → ∀ (v4 : AV) (σ1 : St), xSl σ i σ1 → (∀ q, q = 2 ∨ q = 3 → ∀ a : Int, sT σ i ≤ a → σ1 q a = σ q a) →
      am_wp sc 38 6 [.inr (.inl 0), .inl (sN σ i), .inl ((pu_f (σ 11) (σ 8) i).2 : Int), .inl (i : Int), v4] [] σ1 Q := by
    intro d
    induction d with
    | zero =>
      intro i hi v4 σ1 hS hq
      have : i = n := by omega
      subst this
      have e31 := hS.1 31 (by decide) (by decide) (by decide) (by decide) (by decide) (by decide) (by decide)
      have e30 := hS.1 30 (by decide) (by decide) (by decide) (by decide) (by decide) (by decide) (by decide)
      have hb := hP.nle (Nat.le_refl _)
      refine b_38_6 _ _ _ _ (fun _ => ?_) (fun h9 => absurd (by rw [e31, p1]; omega) h9)
      refine b_38_74 _ _ _ _ (x_wipe (by omega) (by rw [e30, p5]; omega) (fun σ2 hk2 hq2 => am_bi (b_38_83 _ _ _ _ ?_)))
      rw [e30, p5] at hq2
      refine k σ1 _ hS (fun k a b c d => ?_) rfl rfl (fun q hqq => ⟨fun a x y => ?_, fun a x => ?_, fun a x => ?_⟩)
      · rw [am_up_n d, am_up_n c]; exact hk2 k a b
      · rw [am_up_n (show q ≠ 31 by rcases hqq with rfl | rfl <;> decide), am_up_n (show q ≠ 30 by rcases hqq with rfl | rfl <;> decide)]; exact (hq2 q hqq).1 a x y
      · rw [am_up_n (show q ≠ 31 by rcases hqq with rfl | rfl <;> decide), am_up_n (show q ≠ 30 by rcases hqq with rfl | rfl <;> decide)]; exact (hq2 q hqq).2 a (Or.inl x)
      · rw [am_up_n (show q ≠ 31 by rcases hqq with rfl | rfl <;> decide), am_up_n (show q ≠ 30 by rcases hqq with rfl | rfl <;> decide), (hq2 q hqq).2 a (Or.inr x)]; exact hq q hqq a x
    | succ d ih =>
      intro i hi v4 σ1 hS hq
      obtain ⟨s1, s2, s3, s4, s5, s6⟩ := hS
      have e31 := s1 31 (by decide) (by decide) (by decide) (by decide) (by decide) (by decide) (by decide)
      have e11 := s1 11 (by decide) (by decide) (by decide) (by decide) (by decide) (by decide) (by decide)
      obtain ⟨g1, g2, g3, g4⟩ := pu_f_inv (c := σ 11) (o := σ 8) i
      have e8 : σ1 8 i = σ 8 i := by rw [s2]; exact g2 i g1
      have hi1 := p2 i (by omega)
      have hi4 := p4 i (by omega)
      have hbi := hP.nle (i := i) (by omega)
      have hbn := hP.mono (i := i + 1) (j := n) (by omega) (Nat.le_refl _)
      have eT : sT σ (i + 1) = sT σ i + (σ 5 (σ 8 i) + 2) := rfl
      have eF : pu_f (σ 11) (σ 8) (i + 1) = if σ 11 (σ 8 i) = 0 then pu_f (σ 11) (σ 8) i else (am_u1 (pu_f (σ 11) (σ 8) i).1 (pu_f (σ 11) (σ 8) i).2 (σ 8 i), (pu_f (σ 11) (σ 8) i).2 + 1) := by
        show (if σ 11 ((pu_f (σ 11) (σ 8) i).1 i) = 0 then _ else _) = _
        rw [g2 i g1]
      have hnew : ∀ j : Nat, j < i → σ 8 j ≠ σ 8 i := fun j hj he => by have := p3 j i (by omega) (by omega) he; omega
      have h4 := s5 (σ 8 i) hnew
      have h567 := s6 (σ 8 i) (fun j hj _ => hnew j hj)
      refine b_38_6 _ _ _ _ (fun h9 => absurd h9 (by rw [e31, p1]; omega)) (fun _ => ?_)
      refine b_38_14 _ _ _ _ ⟨by omega, by omega⟩ (by rw [e8]; exact ⟨by omega, by omega⟩) (fun hc => ?_) (fun hc => ?_)
      · rw [e8, e11] at hc
        rw [e8]
        refine b_38_62 _ _ _ _ (b_28_0 _ ⟨by omega, by omega⟩ ⟨by omega, by omega⟩ ⟨by omega, by omega⟩ ⟨by omega, by omega⟩ (am_bi (b_38_68 _ _ _ _ ⟨by omega, by omega⟩ ?_)))
        rw [show (i : Int) + 1 = ((i + 1 : Nat) : Int) by omega, ← sN_r hc, show pu_f (σ 11) (σ 8) i = pu_f (σ 11) (σ 8) (i + 1) by rw [eF, if_pos hc]]
        refine ih (i + 1) (by omega) _ _ ⟨fun k a b c d e f g => ?_, ?_, fun j hj hcj => ?_, fun j hj hcj => ?_, fun h hh => ?_, fun h hh => ?_⟩ (fun q hqq a ha => ?_)
        · rw [am_up_n f, am_up_n e, am_up_n d, am_up_n c]; exact s1 k a b c d e f g
        · rw [eF, if_pos hc]; exact s2
        · have hji : j < i := by
            rcases Nat.lt_or_ge j i with h | h
            · exact h
            · exfalso; rw [show j = i by omega] at hcj; exact hcj hc
          obtain ⟨x, y⟩ := s3 j hji hcj
          refine ⟨?_, fun q hqq b hb1 hb2 => ?_⟩
          · show am_u1 (σ1 4) (σ 8 i) (-1) (σ 8 j) = _
            rw [am_u1_n (hnew j hji)]; exact x
          · have := y q hqq b hb1 hb2
            rcases hqq with rfl | rfl <;> exact this
        · show am_u1 (σ1 4) (σ 8 i) (-1) (σ 8 j) = -1 ∧ am_u1 (σ1 5) (σ 8 i) 0 (σ 8 j) = 0 ∧ am_u1 (σ1 6) (σ 8 i) 0 (σ 8 j) = 0 ∧ am_u1 (σ1 7) (σ 8 i) 0 (σ 8 j) = 0
          by_cases hji : j = i
          · rw [hji, am_u1_s, am_u1_s, am_u1_s, am_u1_s]; exact ⟨rfl, rfl, rfl, rfl⟩
          · have hne := hnew j (by omega)
            rw [am_u1_n hne, am_u1_n hne, am_u1_n hne, am_u1_n hne]; exact s4 j (by omega) hcj
        · show am_u1 (σ1 4) (σ 8 i) (-1) h = _
          rw [am_u1_n (fun e => hh i (by omega) e.symm)]; exact s5 h (fun j hj => hh j (by omega))
        · show am_u1 (σ1 5) (σ 8 i) 0 h = _ ∧ am_u1 (σ1 6) (σ 8 i) 0 h = _ ∧ am_u1 (σ1 7) (σ 8 i) 0 h = _
          have hne : h ≠ σ 8 i := fun e => hh i (by omega) hc e.symm
          rw [am_u1_n hne, am_u1_n hne, am_u1_n hne]; exact s6 h (fun j hj hcj => hh j (by omega) hcj)
        · have := hq q hqq a (by omega)
          rcases hqq with rfl | rfl <;> exact this
      · rw [e8, e11] at hc
        rw [e8]
        refine b_38_32 _ _ _ _ (x_move ⟨by omega, by omega⟩ (by rw [h567.1]; omega) (by rw [h4]; omega) (by rw [h4, h567.1]; omega) (fun σ2 hk2 h42 hq2 => am_bi ?_))
        rw [h567.1, h4] at hq2
        have e52 := hk2 5 (by decide) (by decide) (by decide)
        refine b_38_39 _ _ _ _ (b_22_0 _ ⟨by omega, by omega⟩ (by rw [e52, h567.1]; exact ⟨by omega, by omega⟩) (am_bi ?_))
        rw [e52, h567.1]
        refine b_38_46 _ _ _ _ _ _ ⟨by omega, by omega⟩ ⟨by omega, by omega⟩ ⟨by omega, by omega⟩ (b_38_68 _ _ _ _ ⟨by omega, by omega⟩ ?_)
        have e2 : ((pu_f (σ 11) (σ 8) i).2 : Int) + 1 = ((pu_f (σ 11) (σ 8) (i + 1)).2 : Int) := by rw [eF, if_neg hc]; rfl
        rw [show (i : Int) + 1 = ((i + 1 : Nat) : Int) by omega, ← sN_k hc, e2]
        have eN := sN_k hc
        refine ih (i + 1) (by omega) _ _ ⟨fun k a b c d e f g => ?_, ?_, fun j hj hcj => ?_, fun j hj hcj => ?_, fun h hh => ?_, fun h hh => ?_⟩ (fun q hqq a ha => ?_)
        · rw [am_up_n g, hk2 k a b c]; exact s1 k a b c d e f g
        · rw [eF, if_neg hc]
          show am_u1 (σ2 8) _ _ = am_u1 _ _ _
          rw [hk2 8 (by decide) (by decide) (by decide), s2]
        · by_cases hji : j = i
          · rw [hji]
            refine ⟨?_, fun q hqq b hb1 hb2 => ?_⟩
            · show σ2 4 (σ 8 i) = _
              rw [h42, am_u1_s]
            · rw [am_up_n (show q ≠ 8 by rcases hqq with rfl | rfl <;> decide), (hq2 q hqq).1 b hb1 hb2, hi4.1]
              exact hq q hqq _ (by omega)
          · obtain ⟨x, y⟩ := s3 j (by omega) hcj
            have hm := hP.nmono (i := j + 1) (j := i) (by omega) (by omega)
            rw [sN_k hcj] at hm
            refine ⟨?_, fun q hqq b hb1 hb2 => ?_⟩
            · show σ2 4 (σ 8 j) = _
              rw [h42, am_u1_n (hnew j (by omega))]; exact x
            · rw [am_up_n (show q ≠ 8 by rcases hqq with rfl | rfl <;> decide), (hq2 q hqq).2 _ (Or.inl (by omega))]
              exact y q hqq b hb1 hb2
        · have hji : j ≠ i := fun e => hc (by rw [← e]; exact hcj)
          have := s4 j (by omega) hcj
          show σ2 4 (σ 8 j) = -1 ∧ σ2 5 (σ 8 j) = 0 ∧ σ2 6 (σ 8 j) = 0 ∧ σ2 7 (σ 8 j) = 0
          rw [h42, am_u1_n (hnew j (by omega)), e52, hk2 6 (by decide) (by decide) (by decide), hk2 7 (by decide) (by decide) (by decide)]
          exact this
        · show σ2 4 h = _
          rw [h42, am_u1_n (fun e => hh i (by omega) e.symm)]; exact s5 h (fun j hj => hh j (by omega))
        · show σ2 5 h = _ ∧ σ2 6 h = _ ∧ σ2 7 h = _
          rw [e52, hk2 6 (by decide) (by decide) (by decide), hk2 7 (by decide) (by decide) (by decide)]
          exact s6 h (fun j hj hcj => hh j (by omega) hcj)
        · rw [am_up_n (show q ≠ 8 by rcases hqq with rfl | rfl <;> decide), (hq2 q hqq).2 _ (Or.inr (by omega))]
          exact hq q hqq a (by omega)
  exact b_38_0 v1 v2 v3 v4 (loop n 0 (by omega) v4 σ ⟨fun _ _ _ _ _ _ _ _ => rfl, rfl, fun j hj => absurd hj (Nat.not_lt_zero j), fun j hj => absurd hj (Nat.not_lt_zero j), fun _ _ => rfl, fun _ _ => ⟨rfl, rfl, rfl⟩⟩ (fun _ _ _ _ => rfl))
theorem x_grow {n : Nat} {v1 v2 : AV} (h31 : σ 31 0 = (n : Int)) (ho : ∀ i : Nat, i < n → 1 ≤ σ 8 i ∧ σ 8 i ≤ 14) (hi : ∀ i j : Nat, i < n → j < n → σ 8 i = σ 8 j → i = j) (ha : ∀ i : Nat, i < n → 0 ≤ σ 6 (σ 8 i) ∧ σ 6 (σ 8 i) ≤ 99)
    (k : ∀ σ' : St, (∀ k, k ≠ 6 → σ' k = σ k) → (∀ i : Nat, i < n → σ' 6 (σ 8 i) = if 99 < σ 6 (σ 8 i) + 1 then 99 else σ 6 (σ 8 i) + 1) → (∀ h, (∀ i : Nat, i < n → σ 8 i ≠ h) → σ' 6 h = σ 6 h) → Q (.inl none) σ' 0) : am_wp sc 41 0 [.inr (.inl 0), v1, v2] [] σ Q := by
  have hn := pu_inj_le ho hi
  have loop : ∀ (d i : Nat), i + d = n → ∀ (v2 : AV) (σ1 : St), (∀ k, k ≠ 6 → σ1 k = σ k) → (∀ j : Nat, j < i → σ1 6 (σ 8 j) = if 99 < σ 6 (σ 8 j) + 1 then 99 else σ 6 (σ 8 j) + 1) → (∀ h, (∀ j : Nat, j < i → σ 8 j ≠ h) → σ1 6 h = σ 6 h) → am_wp sc 41 2 [.inr (.inl 0), .inl (i : Int), v2] [] σ1 Q := by
    intro d
    induction d with
    | zero =>
      intro i hin v2 σ1 hk h1 h2
      have : i = n := by omega
      subst this
      exact b_41_2 _ _ (fun _ => b_41_42 _ _ (k σ1 hk h1 h2)) (fun h9 => absurd (by rw [hk 31 (by decide), h31]; omega) h9)
    | succ d ih =>
      intro i hin v2 σ1 hk h1 h2
      have e8 := hk 8 (by decide)
      have hoi := ho i (by omega)
      have hai := ha i (by omega)
      have hnew : ∀ j : Nat, j < i → σ 8 j ≠ σ 8 i := fun j hj he => by have := hi j i (by omega) (by omega) he; omega
      have e6 := h2 (σ 8 i) hnew
      refine b_41_2 _ _ (fun h9 => absurd h9 (by rw [hk 31 (by decide), h31]; omega)) (fun _ => ?_)
      refine b_41_10 _ _ ⟨by omega, by omega⟩ (by rw [e8]; exact ⟨by omega, by omega⟩) (by rw [e8, e6]; exact ⟨by omega, by omega⟩) (by rw [e8]; exact ⟨by omega, by omega⟩) ⟨by omega, by omega⟩ ?_
      rw [e8, e6, show (i : Int) + 1 = ((i + 1 : Nat) : Int) by omega]
      refine ih (i + 1) (by omega) _ _ (fun k a => by rw [am_up_n a]; exact hk k a) (fun j hj => ?_) (fun h hh => ?_)
      · show am_u1 (σ1 6) (σ 8 i) _ (σ 8 j) = _
        by_cases hji : j = i
        · rw [hji, am_u1_s]
        · rw [am_u1_n (hnew j (by omega))]; exact h1 j (by omega)
      · show am_u1 (σ1 6) (σ 8 i) _ h = _
        rw [am_u1_n (fun e => hh i (by omega) e.symm)]; exact h2 h (fun j hj => hh j (by omega))
  exact b_41_0 v1 v2 (loop n 0 (by omega) v2 σ (fun _ _ => rfl) (fun j hj => absurd hj (Nat.not_lt_zero j)) (fun _ _ => rfl))
end XV
