/-! lists kept in rows: appending in order, and keeping some -/
theorem pu_inj_le {e : Int → Int} {n : Nat} (h1 : ∀ i : Nat, i < n → 1 ≤ e i ∧ e i ≤ 14) (h2 : ∀ i j : Nat, i < n → j < n → e i = e j → i = j) : n ≤ 14 := by
  have := Classical.propDecidable
  refine pu_en_le (e := e) (c := fun h => if ∃ i : Nat, i < n ∧ e i = h then 1 else 0) ⟨h1, h2, fun h a b => ?_⟩
  by_cases hh : ∃ i : Nat, i < n ∧ e i = h
  · exact Or.inl ⟨if_pos hh, hh⟩
  · exact Or.inr ⟨if_neg hh, fun i hi he => hh ⟨i, hi, he⟩⟩
theorem pu_inj_le' {e : Int → Int} {n : Int} (h1 : ∀ i : Int, 0 ≤ i → i < n → 1 ≤ e i ∧ e i ≤ 14) (h2 : ∀ i j : Int, 0 ≤ i → i < n → 0 ≤ j → j < n → e i = e j → i = j) : n ≤ 14 := by
  have := pu_inj_le (e := e) (n := n.toNat) (fun i hi => h1 i (by omega) (by omega)) (fun i j hi hj he => by have := h2 i j (by omega) (by omega) (by omega) (by omega) he; omega)
  omega
/-- those h of 1 .. m with c h ≠ 0, put in order behind the n first of q -/
def pu_q (c q : Int → Int) (n : Int) : Nat → (Int → Int) × Int
  | 0 => (q, n)
  | m + 1 => if c ((m : Int) + 1) = 0 then pu_q c q n m else (am_u1 (pu_q c q n m).1 (pu_q c q n m).2 ((m : Int) + 1), (pu_q c q n m).2 + 1)
def pu_qi (c q : Int → Int) (n : Int) (m : Nat) (r : (Int → Int) × Int) : Prop :=
  n ≤ r.2 ∧ (∀ i : Int, i < n → r.1 i = q i) ∧ (∀ i : Int, n ≤ i → i < r.2 → 1 ≤ r.1 i ∧ r.1 i ≤ m ∧ c (r.1 i) ≠ 0) ∧ (∀ i j : Int, 0 ≤ i → i < r.2 → 0 ≤ j → j < r.2 → r.1 i = r.1 j → i = j) ∧ ∀ h : Int, 1 ≤ h → h ≤ m → c h ≠ 0 → ∃ i : Int, n ≤ i ∧ i < r.2 ∧ r.1 i = h
theorem pu_q_inv {c q : Int → Int} {n : Int} (h1 : ∀ i : Int, 0 ≤ i → i < n → c (q i) = 0) (h2 : ∀ i j : Int, 0 ≤ i → i < n → 0 ≤ j → j < n → q i = q j → i = j) : ∀ m : Nat, pu_qi c q n m (pu_q c q n m) := by
  intro m
  induction m with
  | zero => exact ⟨Int.le_refl _, fun i _ => rfl, fun i a b => absurd b (Int.not_lt.mpr a), h2, fun h a b => by omega⟩
  | succ m ih =>
    obtain ⟨g1, g2, g3, g4, g5⟩ := ih
    unfold pu_q
    by_cases hc : c ((m : Int) + 1) = 0
    · rw [if_pos hc]
      refine ⟨g1, g2, fun i a b => ?_, g4, fun h a b d => ?_⟩
      · have := g3 i a b; exact ⟨this.1, by omega, this.2.2⟩
      · by_cases hh : h = (m : Int) + 1
        · rw [hh] at d; exact absurd hc d
        · exact g5 h a (by omega) d
    · rw [if_neg hc]
      generalize pu_q c q n m = r at *
      have en : am_u1 r.1 r.2 ((m : Int) + 1) r.2 = (m : Int) + 1 := am_u1_s
      have eo : ∀ i, i ≠ r.2 → am_u1 r.1 r.2 ((m : Int) + 1) i = r.1 i := fun i hi => am_u1_n hi
      have hno : ∀ i, 0 ≤ i → i < r.2 → r.1 i ≠ (m : Int) + 1 := by
        intro i a b he
        by_cases hin : i < n
        · rw [g2 i hin] at he
          exact hc (by rw [← he]; exact h1 i a hin)
        · have := g3 i (by omega) b; omega
      refine ⟨by show n ≤ r.2 + 1; omega, fun i hi => ?_, fun i a b => ?_, fun i j a b a' b' he => ?_, fun h a b d => ?_⟩
      · show am_u1 r.1 r.2 ((m : Int) + 1) i = q i
        rw [eo i (by omega)]; exact g2 i hi
      · show 1 ≤ am_u1 r.1 r.2 ((m : Int) + 1) i ∧ am_u1 r.1 r.2 ((m : Int) + 1) i ≤ _ ∧ c (am_u1 r.1 r.2 ((m : Int) + 1) i) ≠ 0
        by_cases hir : i = r.2
        · rw [hir, en]; exact ⟨by omega, by omega, hc⟩
        · have b : i < r.2 + 1 := b
          rw [eo i hir]; have := g3 i a (by omega); exact ⟨this.1, by omega, this.2.2⟩
      · have b : i < r.2 + 1 := b
        have b' : j < r.2 + 1 := b'
        have he : am_u1 r.1 r.2 ((m : Int) + 1) i = am_u1 r.1 r.2 ((m : Int) + 1) j := he
        by_cases hir : i = r.2
        · by_cases hjr : j = r.2
          · omega
          · rw [hir, en, eo j hjr] at he
            exact absurd he.symm (hno j a' (by omega))
        · by_cases hjr : j = r.2
          · rw [hjr, en, eo i hir] at he
            exact absurd he (hno i a (by omega))
          · rw [eo i hir, eo j hjr] at he
            exact g4 i j a (by omega) a' (by omega) he
      · by_cases hh : h = (m : Int) + 1
        · exact ⟨r.2, g1, by show r.2 < r.2 + 1; omega, by rw [hh]; exact en⟩
        · obtain ⟨i, x, y, z⟩ := g5 h a (by omega) d
          exact ⟨i, x, by show i < r.2 + 1; omega, by show am_u1 r.1 r.2 ((m : Int) + 1) i = h; rw [eo i (by omega)]; exact z⟩
/-- two rows that agree as far as they count go on to agree -/
theorem pu_q_congr {c c' q q' : Int → Int} {n : Int} (hq : ∀ i : Int, 0 ≤ i → i < n → q i = q' i) : ∀ m : Nat, (∀ h : Int, 1 ≤ h → h ≤ m → (c h = 0 ↔ c' h = 0)) → (pu_q c q n m).2 = (pu_q c' q' n m).2 ∧ ∀ i : Int, 0 ≤ i → i < (pu_q c q n m).2 → (pu_q c q n m).1 i = (pu_q c' q' n m).1 i := by
  intro m
  induction m with
  | zero => intro _; exact ⟨rfl, hq⟩
  | succ m ih =>
    intro h
    obtain ⟨g1, g2⟩ := ih (fun x a b => h x a (by omega))
    have hh := h ((m : Int) + 1) (by omega) (by omega)
    unfold pu_q
    by_cases hc : c ((m : Int) + 1) = 0
    · rw [if_pos hc, if_pos (hh.mp hc)]; exact ⟨g1, g2⟩
    · rw [if_neg hc, if_neg (fun z => hc (hh.mpr z))]
      generalize pu_q c q n m = r at *
      generalize pu_q c' q' n m = r' at *
      refine ⟨by show r.2 + 1 = r'.2 + 1; omega, fun i a b => ?_⟩
      have b : i < r.2 + 1 := b
      show am_u1 r.1 r.2 ((m : Int) + 1) i = am_u1 r'.1 r'.2 ((m : Int) + 1) i
      rw [← g1]
      by_cases hir : i = r.2
      · rw [hir, am_u1_s, am_u1_s]
      · rw [am_u1_n hir, am_u1_n hir]; exact g2 i a (by omega)
/-- the first i of o, those kept with c ≠ 0, in place -/
def pu_f (c o : Int → Int) : Nat → (Int → Int) × Nat
  | 0 => (o, 0)
  | i + 1 => if c ((pu_f c o i).1 i) = 0 then pu_f c o i else (am_u1 (pu_f c o i).1 (pu_f c o i).2 ((pu_f c o i).1 i), (pu_f c o i).2 + 1)
def pu_fi (c o : Int → Int) (i : Nat) (r : (Int → Int) × Nat) : Prop :=
  r.2 ≤ i ∧ (∀ j : Nat, r.2 ≤ j → r.1 j = o j) ∧ (∀ j : Nat, j < r.2 → ∃ j0 : Nat, j ≤ j0 ∧ j0 < i ∧ r.1 j = o j0 ∧ c (o j0) ≠ 0) ∧ (∀ j0 : Nat, j0 < i → c (o j0) ≠ 0 → ∃ j : Nat, j < r.2 ∧ r.1 j = o j0)
theorem pu_f_inv {c o : Int → Int} : ∀ i : Nat, pu_fi c o i (pu_f c o i) := by
  intro i
  induction i with
  | zero => exact ⟨Nat.le_refl _, fun j _ => rfl, fun j hj => absurd hj (Nat.not_lt_zero j), fun j hj => absurd hj (Nat.not_lt_zero j)⟩
  | succ i ih =>
    obtain ⟨g1, g2, g3, g4⟩ := ih
    unfold pu_f
    have ei : (pu_f c o i).1 i = o i := g2 i g1
    rw [ei]
    by_cases hc : c (o i) = 0
    · rw [if_pos hc]
      refine ⟨by omega, g2, fun j hj => ?_, fun j0 hj hcj => ?_⟩
      · obtain ⟨j0, x, y, z⟩ := g3 j hj; exact ⟨j0, x, by omega, z⟩
      · by_cases hji : j0 = i
        · rw [hji] at hcj; exact absurd hc hcj
        · exact g4 j0 (by omega) hcj
    · rw [if_neg hc]
      generalize pu_f c o i = r at *
      have en : am_u1 r.1 r.2 (o i) r.2 = o i := am_u1_s
      have eo : ∀ j : Nat, j ≠ r.2 → am_u1 r.1 r.2 (o i) j = r.1 j := fun j hj => am_u1_n (by omega)
      refine ⟨by show r.2 + 1 ≤ i + 1; omega, fun j hj => ?_, fun j hj => ?_, fun j0 hj hcj => ?_⟩
      · have hj : r.2 + 1 ≤ j := hj
        show am_u1 r.1 r.2 (o i) j = o j
        rw [eo j (by omega)]; exact g2 j (by omega)
      · have hj : j < r.2 + 1 := hj
        show ∃ j0 : Nat, j ≤ j0 ∧ j0 < i + 1 ∧ am_u1 r.1 r.2 (o i) j = o j0 ∧ c (o j0) ≠ 0
        by_cases hjr : j = r.2
        · exact ⟨i, by omega, by omega, by rw [hjr]; exact en, hc⟩
        · obtain ⟨j0, x, y, z, w⟩ := g3 j (by omega)
          exact ⟨j0, x, by omega, by rw [eo j hjr]; exact z, w⟩
      · show ∃ j : Nat, j < r.2 + 1 ∧ am_u1 r.1 r.2 (o i) j = o j0
        by_cases hji : j0 = i
        · exact ⟨r.2, by omega, by rw [hji]; exact en⟩
        · obtain ⟨j, x, y⟩ := g4 j0 (by omega) hcj
          exact ⟨j, by omega, by rw [eo j (by omega)]; exact y⟩
theorem pu_f_inj {c o : Int → Int} {n : Nat} (h : ∀ i j : Nat, i < n → j < n → o i = o j → i = j) : ∀ i : Nat, i ≤ n → ∀ j j' : Nat, j < (pu_f c o i).2 → j' < (pu_f c o i).2 → (pu_f c o i).1 j = (pu_f c o i).1 j' → j = j' := by
  intro i
  induction i with
  | zero => intro _ j j' hj; exact absurd hj (Nat.not_lt_zero j)
  | succ i ih =>
    intro hi
    have ih := ih (by omega)
    obtain ⟨g1, g2, g3, g4⟩ := pu_f_inv (c := c) (o := o) i
    unfold pu_f
    rw [g2 i g1]
    by_cases hc : c (o i) = 0
    · rw [if_pos hc]; exact ih
    · rw [if_neg hc]
      generalize pu_f c o i = r at *
      intro j j' hj hj' he
      have hj : j < r.2 + 1 := hj
      have hj' : j' < r.2 + 1 := hj'
      have he : am_u1 r.1 r.2 (o i) j = am_u1 r.1 r.2 (o i) j' := he
      have en : am_u1 r.1 r.2 (o i) r.2 = o i := am_u1_s
      have eo : ∀ j : Nat, j ≠ r.2 → am_u1 r.1 r.2 (o i) j = r.1 j := fun j hj => am_u1_n (by omega)
      have hno : ∀ j : Nat, j < r.2 → r.1 j ≠ o i := by
        intro j hj hh
        obtain ⟨j0, x, y, z, w⟩ := g3 j hj
        have := h j0 i (by omega) (by omega) (by rw [← z, hh])
        omega
      by_cases hjr : j = r.2
      · by_cases hjr' : j' = r.2
        · omega
        · rw [hjr, en, eo j' hjr'] at he
          exact absurd he.symm (hno j' (by omega))
      · by_cases hjr' : j' = r.2
        · rw [hjr', en, eo j hjr] at he
          exact absurd he (hno j (by omega))
        · rw [eo j hjr, eo j' hjr'] at he
          exact ih j j' (by omega) (by omega) he
theorem pu_f_sum {c o g : Int → Int} : ∀ i : Nat, pu_s (fun j => g ((pu_f c o i).1 j)) (pu_f c o i).2 = pu_s (fun j => if c (o j) = 0 then 0 else g (o j)) i := by
  intro i
  induction i with
  | zero => rfl
  | succ i ih =>
    obtain ⟨g1, g2, g3, g4⟩ := pu_f_inv (c := c) (o := o) i
    show _ = pu_s (fun j => if c (o j) = 0 then 0 else g (o j)) i + (if c (o i) = 0 then 0 else g (o i))
    rw [← ih]
    clear ih
    rw [show pu_f c o (i + 1) = if c ((pu_f c o i).1 i) = 0 then pu_f c o i else (am_u1 (pu_f c o i).1 (pu_f c o i).2 ((pu_f c o i).1 i), (pu_f c o i).2 + 1) from rfl]
    rw [g2 i g1]
    by_cases hc : c (o i) = 0
    · rw [if_pos hc, if_pos hc]; omega
    · rw [if_neg hc, if_neg hc]
      generalize pu_f c o i = r at *
      show pu_s (fun j => g (am_u1 r.1 r.2 (o i) j)) r.2 + g (am_u1 r.1 r.2 (o i) r.2) = _
      rw [am_u1_s, pu_s_congr (f := fun j => g (am_u1 r.1 r.2 (o i) j)) (g := fun j => g (r.1 j)) (fun j hj => by show g (am_u1 r.1 r.2 (o i) j) = g (r.1 j); rw [am_u1_n (by omega)])]
theorem pu_f_congr {c c' o o' : Int → Int} {n : Nat} (ho : ∀ i : Nat, i < n → o i = o' i) (hc : ∀ i : Nat, i < n → (c (o i) = 0 ↔ c' (o i) = 0)) : ∀ i : Nat, i ≤ n → (pu_f c o i).2 = (pu_f c' o' i).2 ∧ ∀ j : Nat, j < n → (pu_f c o i).1 j = (pu_f c' o' i).1 j := by
  intro i
  induction i with
  | zero => intro _; exact ⟨rfl, ho⟩
  | succ i ih =>
    intro hi
    obtain ⟨e1, e2⟩ := ih (by omega)
    obtain ⟨g1, g2, -, -⟩ := pu_f_inv (c := c) (o := o) i
    obtain ⟨g1', g2', -, -⟩ := pu_f_inv (c := c') (o := o') i
    unfold pu_f
    rw [g2 i g1, g2' i g1', ← ho i (by omega)]
    have hci := hc i (by omega)
    by_cases hh : c (o i) = 0
    · rw [if_pos hh, if_pos (hci.mp hh)]; exact ⟨e1, e2⟩
    · rw [if_neg hh, if_neg (fun z => hh (hci.mpr z))]
      generalize pu_f c o i = r at *
      generalize pu_f c' o' i = r' at *
      refine ⟨by show r.2 + 1 = r'.2 + 1; omega, fun j hj => ?_⟩
      show am_u1 r.1 r.2 (o i) j = am_u1 r'.1 r'.2 (o i) j
      rw [← e1]
      by_cases hjr : j = r.2
      · rw [hjr, am_u1_s, am_u1_s]
      · rw [am_u1_n (by omega), am_u1_n (by omega)]; exact e2 j hj
/-! cutting weak slots -/
def xCutD (D : Int → Prop) (σ σ' : St) : Prop :=
  (∀ k, k ≠ 2 → σ' k = σ k) ∧ ∀ a, (D a ∧ σ 3 a = 2 ∧ σ 11 (σ 2 a) = 0 → σ' 2 a = 0) ∧ (¬ (D a ∧ σ 3 a = 2 ∧ σ 11 (σ 2 a) = 0) → σ' 2 a = σ 2 a)
def xIn (σ : St) (h a : Int) : Prop := σ 4 h + 2 ≤ a ∧ a < σ 4 h + 2 + σ 5 h
theorem xCutD.congr {D D' : Int → Prop} {σ σ' : St} (h : xCutD D σ σ') (hd : ∀ a, D a ↔ D' a) : xCutD D' σ σ' :=
  ⟨h.1, fun a => ⟨fun z => (h.2 a).1 ⟨(hd a).mpr z.1, z.2⟩, fun z => (h.2 a).2 (fun y => z ⟨(hd a).mp y.1, y.2⟩)⟩⟩
theorem xCutD.keep {D : Int → Prop} {σ σ' : St} {z : Int} (h : xCutD D σ σ') (hz : ¬ (σ 3 z = 2 ∧ σ 11 (σ 2 z) = 0)) : xCutD (fun a => D a ∨ a = z) σ σ' :=
  ⟨h.1, fun a => ⟨fun y => (h.2 a).1 ⟨y.1.elim id (fun e => absurd (by rw [← e]; exact y.2) hz), y.2⟩, fun y => (h.2 a).2 (fun w => y ⟨Or.inl w.1, w.2⟩)⟩⟩
theorem xCutD.cut {D : Int → Prop} {σ σ' : St} {z : Int} (h : xCutD D σ σ') (hz : σ' 2 z = 0 ∨ (σ 3 z = 2 ∧ σ 11 (σ 2 z) = 0)) : xCutD (fun a => D a ∨ a = z) σ (am_up σ' 2 z 0) := by
  refine ⟨fun k hk => by rw [am_up_n hk]; exact h.1 k hk, fun a => ?_⟩
  show (_ → am_u1 (σ' 2) z 0 a = 0) ∧ (_ → am_u1 (σ' 2) z 0 a = σ 2 a)
  by_cases haz : a = z
  · rw [haz, am_u1_s]
    refine ⟨fun _ => rfl, fun y => ?_⟩
    rcases hz with h0 | h0
    · rw [← (h.2 z).2 (fun w => y ⟨Or.inl w.1, w.2⟩)]; exact h0.symm
    · exact absurd ⟨Or.inr rfl, h0⟩ y
  · rw [am_u1_n haz]
    exact ⟨fun y => (h.2 a).1 ⟨y.1.elim id (fun e => absurd e haz), y.2⟩, fun y => (h.2 a).2 (fun w => y ⟨Or.inl w.1, w.2⟩)⟩
section XC
variable {sc : Int → Int} {Q : Ou → St → Nat → Prop} {σ : St}
theorem x_cut {fc : Nat} {v1 v2 v3 : AV} (h35 : σ 35 0 = (fc : Int)) (hle : fc ≤ 14) (ho : ∀ i : Nat, i < fc → xO σ (σ 12 i)) (hg : xG σ)
    (hw : ∀ h s, xO σ h → 0 ≤ s → s < σ 5 h → σ 3 (σ 4 h + 2 + s) = 2 → 0 ≤ σ 2 (σ 4 h + 2 + s) ∧ σ 2 (σ 4 h + 2 + s) < 15) (h0 : σ 11 0 = 0)
    (k : ∀ σ', xCutD (fun a => ∃ i : Nat, i < fc ∧ xIn σ (σ 12 i) a) σ σ' → Q (.inl none) σ' 0) : am_wp sc 36 0 [.inr (.inl 0), v1, v2, v3] [] σ Q := by
  have inner : ∀ (i : Nat), i < fc → ∀ (D : Int → Prop), (∀ (σ1 : St) (z3 : Int), xCutD (fun a => D a ∨ xIn σ (σ 12 i) a) σ σ1 → am_wp sc 36 69 [.inr (.inl 0), .inl (i : Int), .inl (σ 12 i), .inl z3] [] σ1 Q) →
      ∀ (d s : Nat), s + d = (σ 5 (σ 12 i)).toNat → ∀ σ1 : St, xCutD (fun a => D a ∨ (σ 4 (σ 12 i) + 2 ≤ a ∧ a < σ 4 (σ 12 i) + 2 + (s : Int))) σ σ1 → am_wp sc 36 23 [.inr (.inl 0), .inl (i : Int), .inl (σ 12 i), .inl (σ 4 (σ 12 i) + 2 + (s : Int))] [] σ1 Q := by
    intro i hi D kk d
    have hoi := ho i hi
    obtain ⟨g1, g2, g3, g4⟩ := hg _ hoi
    have a1 := hoi.1; have a2 := hoi.2.1
    induction d with
    | zero =>
      intro s hs σ1 hC
      have e4 := hC.1 4 (by decide); have e5 := hC.1 5 (by decide)
      refine b_36_23 _ _ _ (x_endOf ⟨by omega, by omega⟩ (by rw [e5]; exact ⟨by omega, by omega⟩) (by rw [e4, e5]; exact ⟨by omega, by omega⟩) (am_bi ?_))
      rw [e4, e5]
      refine b_36_29 _ _ _ _ _ (fun _ => kk σ1 _ (hC.congr (fun a => ?_))) (fun h9 => absurd (by omega) h9)
      unfold xIn
      rw [show (s : Int) = σ 5 (σ 12 i) by omega]
    | succ d ih =>
      intro s hs σ1 hC
      have e4 := hC.1 4 (by decide); have e5 := hC.1 5 (by decide); have e3 := hC.1 3 (by decide); have e11 := hC.1 11 (by decide)
      refine b_36_23 _ _ _ (x_endOf ⟨by omega, by omega⟩ (by rw [e5]; exact ⟨by omega, by omega⟩) (by rw [e4, e5]; exact ⟨by omega, by omega⟩) (am_bi ?_))
      rw [e4, e5]
      have nx : ∀ σ2 : St, xCutD (fun a => (D a ∨ (σ 4 (σ 12 i) + 2 ≤ a ∧ a < σ 4 (σ 12 i) + 2 + (s : Int))) ∨ a = σ 4 (σ 12 i) + 2 + (s : Int)) σ σ2 → am_wp sc 36 63 [.inr (.inl 0), .inl (i : Int), .inl (σ 12 i), .inl (σ 4 (σ 12 i) + 2 + (s : Int))] [] σ2 Q := by
        intro σ2 h2
        refine b_36_63 _ _ _ ⟨by omega, by omega⟩ ?_
        rw [show σ 4 (σ 12 i) + 2 + (s : Int) + 1 = σ 4 (σ 12 i) + 2 + ((s + 1 : Nat) : Int) by omega]
        refine ih (s + 1) (by omega) σ2 (h2.congr (fun a => ?_))
        constructor
        · rintro ((h3 | h3) | h3)
          · exact Or.inl h3
          · exact Or.inr ⟨h3.1, by omega⟩
          · exact Or.inr ⟨by omega, by omega⟩
        · rintro (h3 | h3)
          · exact Or.inl (Or.inl h3)
          · by_cases h4 : a = σ 4 (σ 12 i) + 2 + (s : Int)
            · exact Or.inr h4
            · exact Or.inl (Or.inr ⟨h3.1, by omega⟩)
      have hold : σ1 2 (σ 4 (σ 12 i) + 2 + (s : Int)) = 0 ∨ σ1 2 (σ 4 (σ 12 i) + 2 + (s : Int)) = σ 2 (σ 4 (σ 12 i) + 2 + (s : Int)) := by
        have h5 := hC.2 (σ 4 (σ 12 i) + 2 + (s : Int))
        rcases Classical.em ((fun a => D a ∨ (σ 4 (σ 12 i) + 2 ≤ a ∧ a < σ 4 (σ 12 i) + 2 + (s : Int))) (σ 4 (σ 12 i) + 2 + (s : Int)) ∧ σ 3 (σ 4 (σ 12 i) + 2 + (s : Int)) = 2 ∧ σ 11 (σ 2 (σ 4 (σ 12 i) + 2 + (s : Int))) = 0) with h6 | h6
        · exact Or.inl (h5.1 h6)
        · exact Or.inr (h5.2 h6)
      refine b_36_29 _ _ _ _ _ (fun h9 => absurd h9 (by omega)) (fun _ => ?_)
      refine b_36_32 _ _ _ ⟨by omega, by omega⟩ (fun h3 => nx σ1 (hC.keep (fun z => h3 (by rw [e3]; exact z.1)))) (fun h3 => ?_)
      have h3 : σ 3 (σ 4 (σ 12 i) + 2 + (s : Int)) = 2 := by rw [e3] at h3; omega
      have hw1 := hw _ s hoi (by omega) (by omega) h3
      refine b_36_42 _ _ _ ⟨by omega, by omega⟩ ⟨by omega, by omega⟩ (fun h4 => nx σ1 (hC.keep (fun z => h4 ?_))) (fun h4 => ?_)
      · rw [e11]
        rcases hold with h5 | h5
        · rw [h5]; exact h0
        · rw [h5]; exact z.2
      · refine b_36_56 _ _ _ ⟨by omega, by omega⟩ (nx _ (hC.cut ?_))
        rw [e11] at h4
        rcases hold with h5 | h5
        · exact Or.inl h5
        · exact Or.inr ⟨h3, by rw [h5] at h4; omega⟩
  have loop : ∀ (d i : Nat), i + d = fc → ∀ (v2 v3 : AV) (σ1 : St), xCutD (fun a => ∃ j : Nat, j < i ∧ xIn σ (σ 12 j) a) σ σ1 → am_wp sc 36 2 [.inr (.inl 0), .inl (i : Int), v2, v3] [] σ1 Q := by
    intro d
    induction d with
    | zero =>
      intro i hi v2 v3 σ1 hC
      have e35 := hC.1 35 (by decide)
      refine b_36_2 _ v2 v3 (fun _ => b_36_75 _ v2 v3 (k σ1 (by rw [show fc = i by omega]; exact hC))) (fun h9 => absurd (by rw [e35]; omega) h9)
    | succ d ih =>
      intro i hi v2 v3 σ1 hC
      have e35 := hC.1 35 (by decide); have e12 := hC.1 12 (by decide); have e4 := hC.1 4 (by decide)
      have hoi := ho i (by omega)
      obtain ⟨g1, g2, g3, g4⟩ := hg _ hoi
      have a1 := hoi.1; have a2 := hoi.2.1
      refine b_36_2 _ v2 v3 (fun h9 => absurd h9 (by rw [e35]; omega)) (fun _ => ?_)
      refine b_36_10 _ v2 v3 ⟨by omega, by omega⟩ ?_
      rw [e12]
      refine b_21_0 _ ⟨by omega, by omega⟩ (by rw [e4]; exact ⟨by omega, by omega⟩) (am_bi ?_)
      rw [e4]
      refine b_36_22 _ _ v3 _ ?_
      have h9 := inner i (by omega) (fun a => ∃ j : Nat, j < i ∧ xIn σ (σ 12 j) a) (fun σ2 z3 h2 => by
        refine b_36_69 _ _ _ ⟨by omega, by omega⟩ ?_
        rw [show (i : Int) + 1 = ((i + 1 : Nat) : Int) by omega]
        refine ih (i + 1) (by omega) _ _ σ2 (h2.congr (fun a => ?_))
        constructor
        · rintro (⟨j, h3, h4⟩ | h3)
          · exact ⟨j, by omega, h4⟩
          · exact ⟨i, by omega, h3⟩
        · rintro ⟨j, h3, h4⟩
          by_cases hji : j = i
          · exact Or.inr (by rw [← hji]; exact h4)
          · exact Or.inl ⟨j, by omega, h4⟩) (σ 5 (σ 12 i)).toNat 0 (by omega) σ1 (hC.congr (fun a => by
        constructor
        · exact Or.inl
        · rintro (h3 | h3)
          · exact h3
          · omega))
      rw [show σ 4 (σ 12 (i : Int)) + 2 + ((0 : Nat) : Int) = σ 4 (σ 12 (i : Int)) + 2 by omega] at h9
      exact h9
  exact b_36_0 v1 v2 v3 (loop fc 0 (by omega) v2 v3 σ ⟨fun _ _ => rfl, fun a => ⟨fun z => absurd z.1 (fun ⟨j, hj, _⟩ => absurd hj (Nat.not_lt_zero j)), fun _ => rfl⟩⟩)
/-! the lost to the queue -/
theorem x_queueLost {v1 : AV} (hq0 : 0 ≤ σ 33 0) (hqo : ∀ i : Int, 0 ≤ i → i < σ 33 0 → 1 ≤ σ 10 i ∧ σ 10 i ≤ 14 ∧ σ 11 (σ 10 i) ≠ 0) (hqi : ∀ i j : Int, 0 ≤ i → i < σ 33 0 → 0 ≤ j → j < σ 33 0 → σ 10 i = σ 10 j → i = j)
    (k : ∀ σ' : St, (∀ k, k ≠ 7 → k ≠ 10 → k ≠ 33 → σ' k = σ k) → σ' 10 = (pu_q (fun h => if σ 7 h = 0 ∨ σ 11 h ≠ 0 then 0 else 1) (σ 10) (σ 33 0) 14).1 → σ' 33 0 = (pu_q (fun h => if σ 7 h = 0 ∨ σ 11 h ≠ 0 then 0 else 1) (σ 10) (σ 33 0) 14).2 →
      (∀ h, 1 ≤ h → h ≤ 14 → σ' 7 h = if σ 11 h = 0 then 0 else σ 7 h) → Q (.inl none) σ' 0) : am_wp sc 37 0 [.inr (.inl 0), v1] [] σ Q := by
  generalize hc : (fun h => if σ 7 h = 0 ∨ σ 11 h ≠ 0 then (0 : Int) else 1) = c at k
  have cv : ∀ h, c h = if σ 7 h = 0 ∨ σ 11 h ≠ 0 then 0 else 1 := fun h => by rw [← hc]
  have inv := pu_q_inv (c := c) (q := σ 10) (n := σ 33 0) (fun i a b => by rw [cv, if_pos (Or.inr (hqo i a b).2.2)]) hqi
  have hb : ∀ m : Nat, m ≤ 14 → (pu_q c (σ 10) (σ 33 0) m).2 ≤ 14 := by
    intro m hm
    obtain ⟨g1, g2, g3, g4, g5⟩ := inv m
    refine pu_inj_le' (e := (pu_q c (σ 10) (σ 33 0) m).1) (fun i a b => ?_) g4
    by_cases hi : i < σ 33 0
    · rw [g2 i hi]; have := hqo i a hi; omega
    · have := g3 i (by omega) b; omega
  have loop : ∀ (d m : Nat), m + d = 14 → ∀ σ1 : St, (∀ k, k ≠ 7 → k ≠ 10 → k ≠ 33 → σ1 k = σ k) → σ1 10 = (pu_q c (σ 10) (σ 33 0) m).1 → σ1 33 0 = (pu_q c (σ 10) (σ 33 0) m).2 → (∀ h, 1 ≤ h → h ≤ (m : Int) → σ1 7 h = if σ 11 h = 0 then 0 else σ 7 h) → (∀ h, (m : Int) < h → σ1 7 h = σ 7 h) →
      am_wp sc 37 2 [.inr (.inl 0), .inl ((m : Int) + 1)] [] σ1 Q := by
    intro d
    induction d with
    | zero =>
      intro m hm σ1 hf h10 h33 h7 h7'
      have : m = 14 := by omega
      subst this
      exact b_37_2 _ (fun _ => b_37_59 _ (k σ1 hf h10 h33 (fun h a b => h7 h a b))) (fun h9 => absurd (by omega) h9)
    | succ d ih =>
      intro m hm σ1 hf h10 h33 h7 h7'
      have e11 := hf 11 (by decide) (by decide) (by decide)
      have e7 := h7' ((m : Int) + 1) (by omega)
      have eq : pu_q c (σ 10) (σ 33 0) (m + 1) = if c ((m : Int) + 1) = 0 then pu_q c (σ 10) (σ 33 0) m else (am_u1 (pu_q c (σ 10) (σ 33 0) m).1 (pu_q c (σ 10) (σ 33 0) m).2 ((m : Int) + 1), (pu_q c (σ 10) (σ 33 0) m).2 + 1) := rfl
      have stay : c ((m : Int) + 1) = 0 → (σ 7 ((m : Int) + 1) = 0 ∨ σ 11 ((m : Int) + 1) ≠ 0) → am_wp sc 37 53 [.inr (.inl 0), .inl ((m : Int) + 1)] [] σ1 Q := by
        intro h1 h2
        refine b_37_53 _ ⟨by omega, by omega⟩ (ih (m + 1) (by omega) σ1 hf (by rw [eq, if_pos h1]; exact h10) (by rw [eq, if_pos h1]; exact h33) (fun h a b => ?_) (fun h a => h7' h (by omega)))
        by_cases hh : h = (m : Int) + 1
        · rw [hh, e7]
          split
          · rcases h2 with h3 | h3
            · exact h3
            · omega
          · rfl
        · exact h7 h a (by omega)
      refine b_37_2 _ (fun h9 => absurd h9 (by omega)) (fun _ => ?_)
      refine b_37_8 _ ⟨by omega, by omega⟩ (fun h3 => ?_) (fun h3 => ?_)
      · rw [e7] at h3
        exact stay (by rw [cv, if_pos (Or.inl h3)]) (Or.inl h3)
      · refine b_37_17 _ ⟨by omega, by omega⟩ (fun h4 => ?_) (fun h4 => ?_)
        · rw [e11] at h4
          exact stay (by rw [cv, if_pos (Or.inr h4)]) (Or.inr h4)
        · rw [e7] at h3
          rw [e11] at h4
          have hc1 : c ((m : Int) + 1) ≠ 0 := by rw [cv, if_neg (by rintro (z | z) <;> omega)]; decide
          have hb1 := hb (m + 1) (by omega)
          rw [eq, if_neg hc1] at hb1
          have hb1 : (pu_q c (σ 10) (σ 33 0) m).2 + 1 ≤ 14 := hb1
          have hb2 := (inv m).1
          refine b_37_26 _ (by rw [h33]; exact ⟨by omega, by omega⟩) (by rw [h33]; exact ⟨by omega, by omega⟩) ⟨by omega, by omega⟩ (b_37_53 _ ⟨by omega, by omega⟩ (ih (m + 1) (by omega) _ (fun k k1 k2 k3 => ?_) ?_ ?_ (fun h a b => ?_) (fun h a => ?_)))
          · rw [am_up_n k1, am_up_n k3, am_up_n k2]; exact hf k k1 k2 k3
          · rw [eq, if_neg hc1]
            show am_u1 (σ1 10) (σ1 33 0) ((m : Int) + 1) = am_u1 _ _ _
            rw [h10, h33]
          · rw [eq, if_neg hc1]
            show am_u1 (σ1 33) 0 (σ1 33 0 + 1) 0 = _ + 1
            rw [am_u1_s, h33]
          · show am_u1 (σ1 7) ((m : Int) + 1) 0 h = _
            by_cases hh : h = (m : Int) + 1
            · rw [hh, am_u1_s, if_pos (by omega)]
            · rw [am_u1_n hh]; exact h7 h a (by omega)
          · show am_u1 (σ1 7) ((m : Int) + 1) 0 h = _
            rw [am_u1_n (by omega)]; exact h7' h (by omega)
  exact b_37_0 v1 (loop 14 0 rfl σ (fun _ _ _ _ => rfl) rfl rfl (fun h a b => by omega) (fun h _ => rfl))
end XC
