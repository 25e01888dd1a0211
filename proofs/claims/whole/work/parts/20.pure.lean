/-! sums and enumerations -/
def pu_s (f : Int → Int) : Nat → Int
  | 0 => 0
  | n + 1 => pu_s f n + f n
theorem pu_s_congr {f g : Int → Int} : ∀ {n : Nat}, (∀ i : Nat, i < n → f i = g i) → pu_s f n = pu_s g n := by
  intro n
  induction n with
  | zero => intro _; rfl
  | succ n ih =>
    intro h
    show pu_s f n + f n = pu_s g n + g n
    rw [ih (fun i hi => h i (by omega)), h n (by omega)]
theorem pu_s_one {f g : Int → Int} {k : Nat} : ∀ {n : Nat}, k < n → (∀ i : Nat, i < n → i ≠ k → f i = g i) → pu_s f n = pu_s g n + (f k - g k) := by
  intro n
  induction n with
  | zero => intro h; omega
  | succ n ih =>
    intro hk h
    show pu_s f n + f n = pu_s g n + g n + (f k - g k)
    by_cases hkn : k = n
    · subst hkn
      rw [pu_s_congr (fun i hi => h i (by omega) (by omega))]
      omega
    · rw [ih (by omega) (fun i hi hne => h i (by omega) hne), h n (by omega) (fun e => hkn e.symm)]
      omega
theorem pu_s_le {f : Int → Int} {c : Int} : ∀ {n : Nat}, (∀ i : Nat, i < n → f i ≤ c) → pu_s f n ≤ n * c := by
  intro n
  induction n with
  | zero => intro _; show (0 : Int) ≤ _; simp
  | succ n ih =>
    intro h
    have h1 := ih (fun i hi => h i (by omega))
    have h2 := h n (by omega)
    show pu_s f n + f n ≤ ((n + 1 : Nat) : Int) * c
    rw [show ((n + 1 : Nat) : Int) * c = n * c + c by rw [Int.natCast_add, Int.add_mul]; simp]
    omega
theorem pu_s_ge {f : Int → Int} {c : Int} : ∀ {n : Nat}, (∀ i : Nat, i < n → c ≤ f i) → n * c ≤ pu_s f n := by
  intro n
  induction n with
  | zero => intro _; show _ ≤ (0 : Int); simp
  | succ n ih =>
    intro h
    have h1 := ih (fun i hi => h i (by omega))
    have h2 := h n (by omega)
    show ((n + 1 : Nat) : Int) * c ≤ pu_s f n + f n
    rw [show ((n + 1 : Nat) : Int) * c = n * c + c by rw [Int.natCast_add, Int.add_mul]; simp]
    omega
theorem pu_s_const {c : Int} : ∀ {n : Nat}, pu_s (fun _ => c) n = n * c := by
  intro n
  induction n with
  | zero => show (0 : Int) = _; simp
  | succ n ih =>
    show pu_s (fun _ => c) n + c = _
    rw [ih, Int.natCast_add, Int.add_mul]; simp
/-- the numbers e 0 .. e (n-1) are apart, of 1 .. 14, and are those h with c h = 1 -/
def pu_en (e : Int → Int) (n : Nat) (c : Int → Int) : Prop :=
  (∀ i : Nat, i < n → 1 ≤ e i ∧ e i ≤ 14) ∧ (∀ i j : Nat, i < n → j < n → e i = e j → i = j) ∧ (∀ h : Nat, 1 ≤ h → h ≤ 14 → (c h = 1 ∧ ∃ i : Nat, i < n ∧ e i = h) ∨ (c h = 0 ∧ ∀ i : Nat, i < n → e i ≠ h))
theorem pu_en_sum {e g : Int → Int} : ∀ {n : Nat} {c : Int → Int}, pu_en e n c → pu_s (fun i => g (e i)) n = pu_s (fun h => if 1 ≤ h ∧ c h = 1 then g h else 0) 15 := by
  intro n
  induction n with
  | zero =>
    intro c h
    rw [pu_s_congr (g := fun _ => 0) (n := 15), pu_s_const]
    · show (0 : Int) = _; simp
    · intro i hi
      show (if _ then _ else _) = _
      rw [if_neg]
      rintro ⟨h1, h2⟩
      rcases h.2.2 i (by omega) (by omega) with ⟨-, j, hj, -⟩ | ⟨h0, -⟩
      · omega
      · omega
  | succ n ih =>
    intro c h
    obtain ⟨h1, h2, h3⟩ := h
    have hen := h1 n (by omega)
    obtain ⟨k, hk⟩ : ∃ k : Nat, (k : Int) = e n := ⟨(e n).toNat, by omega⟩
    have hck : c k = 1 := by
      rcases h3 k (by omega) (by omega) with ⟨h4, -⟩ | ⟨-, h4⟩
      · exact h4
      · exact absurd hk.symm (h4 n (by omega))
    have hsub : pu_en e n (fun x => if x = k then 0 else c x) := by
      refine ⟨fun i hi => h1 i (by omega), fun i j hi hj he => h2 i j (by omega) (by omega) he, fun x hx1 hx2 => ?_⟩
      by_cases hxk : (x : Int) = k
      · right
        refine ⟨if_pos hxk, fun i hi he => ?_⟩
        have := h2 i n (by omega) (by omega) (by rw [he, hxk, hk])
        omega
      · rcases h3 x hx1 hx2 with ⟨h4, i, hi, he⟩ | ⟨h4, h5⟩
        · left
          refine ⟨by show (if _ then _ else _) = _; rw [if_neg hxk]; exact h4, i, ?_, he⟩
          rcases Nat.lt_or_ge i n with h6 | h6
          · exact h6
          · exfalso
            have : i = n := by omega
            subst this
            exact hxk (by rw [← he, hk])
        · right
          exact ⟨by show (if _ then _ else _) = _; rw [if_neg hxk]; exact h4, fun i hi => h5 i (by omega)⟩
    show pu_s (fun i => g (e i)) n + g (e n) = _
    rw [ih hsub, pu_s_one (f := fun h => if 1 ≤ h ∧ c h = 1 then g h else 0) (g := fun h => if 1 ≤ h ∧ (if h = (k : Int) then 0 else c h) = 1 then g h else 0) (k := k) (n := 15) (by omega)]
    · show _ = _ + ((if _ then _ else _) - (if _ then _ else _))
      rw [if_pos (show 1 ≤ (k : Int) ∧ c k = 1 from ⟨by omega, hck⟩), if_neg (by rintro ⟨-, h7⟩; simp at h7), hk]
      omega
    · intro i hi hne
      show (if _ then _ else _) = (if _ then _ else _)
      rw [if_neg (show ¬ ((i : Int) = (k : Int)) by omega)]
/-- .. so there are at most 14 -/
theorem pu_en_le {e c : Int → Int} {n : Nat} (h : pu_en e n c) : n ≤ 14 := by
  have h1 := pu_en_sum (g := fun _ => 1) h
  have h2 : pu_s (fun h => if 1 ≤ h ∧ c h = 1 then (1 : Int) else 0) 15 = pu_s (fun h => if 1 ≤ h ∧ c h = 1 then (1 : Int) else 0) 15 := rfl
  have h3 : pu_s (fun i => (fun _ => (1 : Int)) (e i)) n = n := by
    show pu_s (fun _ => (1 : Int)) n = n
    rw [pu_s_const]; simp
  rw [h3] at h1
  have h4 : pu_s (fun h => if 1 ≤ h ∧ c h = 1 then (1 : Int) else 0) 15 ≤ 14 := by
    have h5 := pu_s_one (f := fun h => if 1 ≤ h ∧ c h = 1 then (1 : Int) else 0) (g := fun h => if h = 0 then 1 else if 1 ≤ h ∧ c h = 1 then (1 : Int) else 0) (k := 0) (n := 15) (by omega) (fun i hi hne => by
      show (if _ then _ else _) = (if _ then _ else _)
      rw [if_neg (show ¬ ((i : Int) = 0) by omega)])
    have h6 : pu_s (fun h => if h = 0 then 1 else if 1 ≤ h ∧ c h = 1 then (1 : Int) else 0) 15 ≤ (15 : Nat) * 1 := pu_s_le (fun i hi => by
      show (if _ then _ else if _ then _ else _) ≤ _
      split
      · omega
      · split <;> omega)
    rw [if_neg (by rintro ⟨h9, -⟩; simp at h9), if_pos (by simp)] at h5
    omega
  omega
