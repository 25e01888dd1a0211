/-! the class: take, about, count, clear -/
theorem pu_s_add {f : Int → Int} (a : Nat) : ∀ b : Nat, pu_s f (a + b) = pu_s f a + pu_s (fun j => f ((a : Int) + j)) b := by
  intro b
  induction b with
  | zero => show pu_s f a = pu_s f a + 0; omega
  | succ b ih =>
    show pu_s f (a + b) + f ((a + b : Nat) : Int) = pu_s f a + (pu_s (fun j => f ((a : Int) + j)) b + f ((a : Int) + (b : Int)))
    rw [ih, show ((a + b : Nat) : Int) = (a : Int) + (b : Int) by omega]; omega
/-- a word that shows h -/
def xSh (σ : St) (h a : Int) : Int := if σ 3 a = 0 then 0 else if σ 2 a = h then 1 else 0
theorem xSh_01 {σ : St} {h a : Int} : 0 ≤ xSh σ h a ∧ xSh σ h a ≤ 1 := by
  unfold xSh
  split
  · omega
  · split <;> omega
theorem CI.show {σ : St} {n : Nat} (hI : CI σ n) (h : Int) : pu_s (xSh σ h) (σ 30 0).toNat = pu_h (xob σ) (fun x => pu_s (fun s => xSh σ h (σ 4 x + 2 + s)) (σ 5 x).toNat) := by
  have h1 : ∀ i : Nat, i ≤ n → pu_s (xSh σ h) (sT σ i).toNat = pu_s (fun i => (fun x => pu_s (fun s => xSh σ h (σ 4 x + 2 + s)) (σ 5 x).toNat) (σ 8 i)) i := by
    intro i
    induction i with
    | zero => intro _; rfl
    | succ i ih =>
      intro hi
      have g := hI.1.nn (i := i) (by omega)
      have p := hI.1.2.2.2.1 i (by omega)
      have ho := (hI.2.1 (σ 8 i)).mpr ⟨i, by omega, rfl⟩
      have hd := hI.2.2.2.2.1 _ ho
      have e1 : (sT σ (i + 1)).toNat = (sT σ i).toNat + (2 + (σ 5 (σ 8 i)).toNat) := by
        show (sT σ i + (σ 5 (σ 8 i) + 2)).toNat = _
        omega
      rw [e1, pu_s_add, ih (by omega), pu_s_add]
      rw [show (((sT σ i).toNat : Nat) : Int) = σ 4 (σ 8 i) by omega]
      have e2 : pu_s (fun j => xSh σ h (σ 4 (σ 8 i) + j)) 2 = 0 := by
        show 0 + xSh σ h (σ 4 (σ 8 i) + ((0 : Nat) : Int)) + xSh σ h (σ 4 (σ 8 i) + ((1 : Nat) : Int)) = 0
        rw [show σ 4 (σ 8 i) + ((0 : Nat) : Int) = σ 4 (σ 8 i) by omega, show σ 4 (σ 8 i) + ((1 : Nat) : Int) = σ 4 (σ 8 i) + 1 by omega]
        unfold xSh
        rw [if_pos hd.2.2.1, if_pos hd.2.2.2]; rfl
      rw [e2]
      show _ + (0 + pu_s (fun j => xSh σ h (σ 4 (σ 8 i) + (((2 : Nat) : Int) + j))) (σ 5 (σ 8 i)).toNat) = _ + pu_s (fun s => xSh σ h (σ 4 (σ 8 i) + 2 + s)) (σ 5 (σ 8 i)).toNat
      rw [pu_s_congr (f := fun j => xSh σ h (σ 4 (σ 8 i) + (((2 : Nat) : Int) + j))) (g := fun s => xSh σ h (σ 4 (σ 8 i) + 2 + s)) (fun j hj => by
        show xSh σ h (σ 4 (σ 8 i) + (((2 : Nat) : Int) + j)) = xSh σ h (σ 4 (σ 8 i) + 2 + j)
        rw [show σ 4 (σ 8 i) + (((2 : Nat) : Int) + (j : Int)) = σ 4 (σ 8 i) + 2 + (j : Int) by omega])]
      omega
  rw [hI.1.2.2.2.2.1, h1 n (Nat.le_refl n)]
  exact pu_en_sum (g := fun x => pu_s (fun s => xSh σ h (σ 4 x + 2 + s)) (σ 5 x).toNat) hI.en
section XT
variable {sc : Int → Int} {Q : Ou → St → Nat → Prop} {σ : St}
theorem x_take {v1 : AV} (hr : 0 ≤ σ 32 0 ∧ σ 32 0 ≤ 10) (hq : 0 ≤ σ 33 0 ∧ σ 33 0 ≤ 14) (k0 : σ 33 0 = 0 → Q (.inl (some (-1))) σ 0) (k2 : σ 33 0 ≠ 0 → ¬ σ 32 0 < 10 → Q (.inr 1) σ 1)
    (k1 : σ 33 0 ≠ 0 → σ 32 0 < 10 → ∀ σ' : St, (∀ k, k ≠ 9 → k ≠ 10 → k ≠ 32 → k ≠ 33 → σ' k = σ k) → σ' 33 0 = σ 33 0 - 1 → (∀ i : Int, 0 ≤ i → i < σ 33 0 - 1 → σ' 10 i = σ 10 (i + 1)) → σ' 9 = am_u1 (σ 9) (σ 32 0) (σ 10 0) → σ' 32 0 = σ 32 0 + 1 → Q (.inl (some (σ 10 0))) σ' 0) : am_wp sc 9 0 [.inr (.inl 0), v1] [] σ Q := by
  refine b_9_0 v1 (fun h1 => ?_) (fun h1 => b_9_7 v1 (k0 (by omega)))
  refine b_9_9 v1 (fun h2 => ?_) (fun h2 => b_9_18 v1 (k2 h1 h2))
  refine b_9_26 v1 (b_30_0 _ _ ⟨by omega, by omega⟩ ⟨by omega, by omega⟩ ?_)
  have loop : ∀ (d : Nat) (z : Int), 0 ≤ z → z + d = σ 33 0 - 1 → ∀ σ1 : St, (∀ k, k ≠ 10 → k ≠ 33 → σ1 k = σ k) → σ1 33 0 = σ 33 0 - 1 → (∀ i : Int, 0 ≤ i → i < z → σ1 10 i = σ 10 (i + 1)) → (∀ i : Int, z ≤ i → σ1 10 i = σ 10 i) →
      am_wp sc 30 19 [.inr (.inl 0), .inl (σ 10 0), .inl z] [] σ1 (am_bk sc 9 27 [.inr (.inl 0), v1] [] Q) := by
    intro d
    induction d with
    | zero =>
      intro z hz hd σ1 hk h33 ha hb
      refine b_30_19 _ _ (fun _ => b_30_47 _ _ (am_bi (b_9_30 v1 _ ?_))) (fun h9 => absurd (by omega) h9)
      have e32 := hk 32 (by decide) (by decide)
      have e9 := hk 9 (by decide) (by decide)
      refine b_29_0 _ (by rw [e32]; omega) (by rw [e32]; exact ⟨by omega, by omega⟩) (am_bi (b_9_36 _ (k1 h1 h2 _ (fun k a b c d => ?_) h33 (fun i a b => ha i a (by omega)) ?_ ?_)))
      · rw [am_up_n c, am_up_n a]; exact hk k b d
      · show am_u1 (σ1 9) (σ1 32 0) _ = _
        rw [e9, e32]
      · show σ1 32 0 + 1 = _
        rw [e32]
    | succ d ih =>
      intro z hz hd σ1 hk h33 ha hb
      refine b_30_19 _ _ (fun h9 => absurd h9 (by omega)) (fun _ => ?_)
      refine b_30_27 _ _ ⟨by omega, by omega⟩ ⟨by omega, by omega⟩ ⟨by omega, by omega⟩ ⟨by omega, by omega⟩ (ih (z + 1) (by omega) (by omega) _ (fun k a b => by rw [am_up_n a]; exact hk k a b) h33 (fun i a b => ?_) (fun i a => ?_))
      · show am_u1 (σ1 10) z (σ1 10 (z + 1)) i = _
        by_cases hiz : i = z
        · rw [hiz, am_u1_s]; exact hb _ (by omega)
        · rw [am_u1_n hiz]; exact ha i a (by omega)
      · show am_u1 (σ1 10) z (σ1 10 (z + 1)) i = _
        rw [am_u1_n (by omega)]; exact hb i (by omega)
  exact loop (σ 33 0 - 1).toNat 0 (by omega) (by omega) _ (fun k a b => by rw [am_up_n b]) rfl (fun i a b => absurd a (by omega)) (fun _ _ => rfl)
theorem x_show {h : Int} {v2 v3 : AV} (ht : 0 ≤ σ 30 0 ∧ σ 30 0 ≤ 90) (k : Q (.inl (some (pu_s (xSh σ h) (σ 30 0).toNat))) σ 0) : am_wp sc 42 0 [.inr (.inl 0), .inl h, v2, v3] [] σ Q := by
  have hb : ∀ i : Nat, 0 ≤ pu_s (xSh σ h) i ∧ pu_s (xSh σ h) i ≤ i := by
    intro i
    have h1 := pu_s_ge (f := xSh σ h) (c := 0) (n := i) (fun i hi => xSh_01.1)
    have h2 := pu_s_le (f := xSh σ h) (c := 1) (n := i) (fun i hi => xSh_01.2)
    omega
  have loop : ∀ (d i : Nat), (i : Int) + d = σ 30 0 → am_wp sc 42 4 [.inr (.inl 0), .inl h, .inl (pu_s (xSh σ h) i), .inl (i : Int)] [] σ Q := by
    intro d
    induction d with
    | zero =>
      intro i hi
      refine b_42_4 _ _ _ (fun _ => b_42_40 _ _ _ ?_) (fun h9 => absurd (by omega) h9)
      rw [show i = (σ 30 0).toNat by omega]; exact k
    | succ d ih =>
      intro i hi
      have hbi := hb i
      have nx : pu_s (xSh σ h) (i + 1) = pu_s (xSh σ h) i + xSh σ h i := rfl
      have ih := ih (i + 1) (by omega)
      rw [nx, show ((i + 1 : Nat) : Int) = (i : Int) + 1 by omega] at ih
      unfold xSh at ih
      refine b_42_4 _ _ _ (fun h9 => absurd h9 (by omega)) (fun _ => ?_)
      refine b_42_12 _ _ _ ⟨by omega, by omega⟩ (fun h1 => b_42_34 _ _ _ ⟨by omega, by omega⟩ ?_) (fun h1 => ?_)
      · rw [if_pos h1, Int.add_zero] at ih; exact ih
      · rw [if_neg h1] at ih
        refine b_42_21 _ _ _ ⟨by omega, by omega⟩ (fun h2 => b_42_34 _ _ _ ⟨by omega, by omega⟩ ?_) (fun h2 => b_42_31 _ _ _ ⟨by omega, by omega⟩ (b_42_34 _ _ _ ⟨by omega, by omega⟩ ?_))
        · rw [if_neg h2, Int.add_zero] at ih; exact ih
        · rw [if_pos (Classical.not_not.mp h2)] at ih; exact ih
  exact b_42_0 h v2 v3 (loop (σ 30 0).toNat 0 (by omega))
theorem x_about {n : Nat} {h w : Int} (hI : CI σ n) (k0 : ¬ xO σ h → Q (.inr 3) σ 1) (kd : xO σ h → ¬ (0 ≤ w ∧ w ≤ 5) → Q (.inr 0) σ 1)
    (k1 : xO σ h → w = 0 → Q (.inl (some (σ 4 h))) σ 0) (k2 : xO σ h → w = 1 → Q (.inl (some (σ 5 h))) σ 0) (k3 : xO σ h → w = 2 → Q (.inl (some (σ 6 h))) σ 0) (k4 : xO σ h → w = 3 → Q (.inl (some (σ 7 h))) σ 0)
    (k5 : xO σ h → w = 4 → ∀ σm : St, (∀ k, k ≠ 11 → k ≠ 12 → k ≠ 35 → σm k = σ k) → CI σm n → xK σ (xsrc σ) (σm 11) → Q (.inl (some (σm 11 h))) σm 0)
    (k6 : xO σ h → w = 5 → Q (.inl (some (pu_h (xob σ) (fun x => pu_s (fun s => xSh σ h (σ 4 x + 2 + s)) (σ 5 x).toNat)))) σ 0) : am_wp sc 13 0 [.inr (.inl 0), .inl h, .inl w] [] σ Q := by
  refine b_13_0 h w (x_requireObject (fun q => am_bi ?_) (fun q => am_bx rfl (k0 q)))
  have hh : 0 ≤ h ∧ h < 15 := by have := q.1; have := q.2.1; omega
  have h7 := hI.2.2.2.1 h q
  by_cases w0 : w = 0
  · exact b_13_5_c0 h w w0 (b_13_44 h w hh (k1 q w0))
  by_cases w1 : w = 1
  · exact b_13_5_c1 h w w1 (b_13_51 h w hh (k2 q w1))
  by_cases w2 : w = 2
  · exact b_13_5_c2 h w w2 (b_13_58 h w hh (k3 q w2))
  by_cases w3 : w = 3
  · refine b_13_5_c3 h w w3 (b_13_65 h w hh (fun h1 => b_13_78 h w (b_13_79 h w 0 ?_)) (fun h1 => b_13_74 h w (b_13_79 h w 1 ?_)))
    · have := k4 q w3; rw [h1] at this; exact this
    · have := k4 q w3; rw [show σ 7 h = 1 by omega] at this; exact this
  by_cases w4 : w = 4
  · refine b_13_5_c4 h w w4 (b_13_80 h w (x_markLive hI.geo hI.2.2.2.2.2.2.2.1 hI.2.2.2.2.2.2.2.2.1 hI.2.2.2.2.2.2.2.2.2.1 (fun σm fc hM hL => am_bi ?_)))
    have h0 := hI.2.2.2.2.2.2.2.2.2.2.2
    have K := hM.K hL h0
    have := k5 q w4 σm hM.1 (hI.mk hM.1 K.1) K
    refine b_13_84 h w hh (fun h1 => b_13_97 h w (b_13_98 h w 0 ?_)) (fun h1 => b_13_93 h w (b_13_98 h w 1 ?_))
    · rw [h1] at this; exact this
    · have h2 := K.2.1 h q.1 q.2.1
      rw [show σm 11 h = 1 by omega] at this; exact this
  by_cases w5 : w = 5
  · refine b_13_5_c5 h w w5 (b_13_99 h w (x_show hI.top (am_bi (b_13_104 h w _ ?_))))
    rw [hI.show]; exact k6 q w5
  · exact b_13_5_d h w (by omega) (b_13_105 h w (kd q (by omega)))
theorem x_count {n : Nat} {w : Int} (hI : CI σ n) (kd : ¬ (0 ≤ w ∧ w ≤ 6) → Q (.inr 0) σ 1) (k0 : w = 0 → Q (.inl (some (n : Int))) σ 0)
    (k1 : w = 1 → ∀ σm : St, (∀ k, k ≠ 11 → k ≠ 12 → k ≠ 35 → σm k = σ k) → CI σm n → xK σ (xsrc σ) (σm 11) → Q (.inl (some (pu_h (σm 11) (fun _ => 1)))) σm 0)
    (k2 : w = 2 → Q (.inl (some (σ 30 0))) σ 0)
    (k3 : w = 3 → ∀ σm : St, (∀ k, k ≠ 11 → k ≠ 12 → k ≠ 35 → σm k = σ k) → CI σm n → xK σ (xsrc σ) (σm 11) → Q (.inl (some (pu_h (σm 11) (fun x => σ 5 x + 2)))) σm 0)
    (k4 : w = 4 → Q (.inl (some (σ 32 0))) σ 0) (k5 : w = 5 → Q (.inl (some (σ 33 0))) σ 0) (k6 : w = 6 → Q (.inl (some (σ 34 0))) σ 0) : am_wp sc 16 0 [.inr (.inl 0), .inl w] [] σ Q := by
  have h0 := hI.2.2.2.2.2.2.2.2.2.2.2
  by_cases w0 : w = 0
  · refine b_16_0_c0 w w0 (b_16_44 w ?_); rw [hI.1.1]; exact k0 w0
  by_cases w1 : w = 1
  · refine b_16_0_c1 w w1 (b_16_49 w (x_markLive hI.geo hI.2.2.2.2.2.2.2.1 hI.2.2.2.2.2.2.2.2.1 hI.2.2.2.2.2.2.2.2.2.1 (fun σm fc hM hL => am_bi (b_16_53 w ?_))))
    have K := hM.K hL h0
    have h1 := pu_en_sum (g := fun _ => 1) hM.2.2.2.1
    have h3 : pu_s (fun i => (fun _ => (1 : Int)) (σm 12 i)) fc = fc := by
      show pu_s (fun _ => (1 : Int)) fc = fc
      rw [pu_s_const]; simp
    rw [h3] at h1
    rw [hM.2.2.1, h1]
    exact k1 w1 σm hM.1 (hI.mk hM.1 K.1) K
  by_cases w2 : w = 2
  · exact b_16_0_c2 w w2 (b_16_58 w (k2 w2))
  by_cases w3 : w = 3
  · refine b_16_0_c3 w w3 (b_16_63 w (x_markLive hI.geo hI.2.2.2.2.2.2.2.1 hI.2.2.2.2.2.2.2.2.1 hI.2.2.2.2.2.2.2.2.2.1 (fun σm fc hM hL => am_bi (b_16_67 w (x_markedWords hI.geo hM (am_bi (b_16_71 w _ ?_)))))))
    have K := hM.K hL h0
    have h1 := pu_en_sum (g := fun x => σ 5 x + 2) hM.2.2.2.1
    rw [h1]
    exact k3 w3 σm hM.1 (hI.mk hM.1 K.1) K
  by_cases w4 : w = 4
  · exact b_16_0_c4 w w4 (b_16_72 w (k4 w4))
  by_cases w5 : w = 5
  · exact b_16_0_c5 w w5 (b_16_77 w (k5 w5))
  by_cases w6 : w = 6
  · exact b_16_0_c6 w w6 (b_16_82 w (k6 w6))
  · exact b_16_0_d w (by omega) (b_16_87 w (kd (by omega)))
theorem x_clear {n : Nat} {v1 : AV} (hI : CI σ n)
    (k : ∀ σ' : St, (∀ k, k ≠ 2 → k ≠ 3 → k ≠ 4 → k ≠ 5 → k ≠ 6 → k ≠ 7 → k ≠ 30 → k ≠ 31 → k ≠ 32 → k ≠ 33 → k ≠ 34 → σ' k = σ k) → CI σ' 0 → (∀ h, ¬ xO σ' h) → σ' 32 0 = 0 → σ' 33 0 = 0 → σ' 34 0 = 0 → Q (.inl none) σ' 0) : am_wp sc 17 0 [.inr (.inl 0), v1] [] σ Q := by
  have ht := hI.top
  have loop : ∀ (d : Nat) (z : Int), 1 ≤ z → z + d = 15 → ∀ σ1 : St, (∀ k, k ≠ 4 → k ≠ 5 → k ≠ 6 → k ≠ 7 → σ1 k = σ k) → (∀ x, 1 ≤ x → x < z → σ1 4 x = -1 ∧ σ1 5 x = 0 ∧ σ1 6 x = 0 ∧ σ1 7 x = 0) → am_wp sc 17 2 [.inr (.inl 0), .inl z] [] σ1 Q := by
    intro d
    induction d with
    | zero =>
      intro z hz hd σ1 hk hc
      have e30 := hk 30 (by decide) (by decide) (by decide) (by decide)
      refine b_17_2 z (fun _ => b_17_19 z (x_wipe (by omega) (by rw [e30]; omega) (fun σ2 h2 hq => am_bi (b_17_28 z ?_)))) (fun h9 => absurd (by omega) h9)
      have hno : ∀ h, ¬ xO (am_up (am_up (am_up (am_up (am_up σ2 30 0 0) 31 0 0) 32 0 0) 33 0 0) 34 0 0) h := by
        rintro h ⟨a, b, c⟩
        refine c ?_
        show σ2 4 h = -1
        rw [h2 4 (by decide) (by decide)]; exact (hc h a (by omega)).1
      rw [e30] at hq
      refine k _ (fun k a2 a3 a4 a5 a6 a7 a30 a31 a32 a33 a34 => ?_) ⟨⟨rfl, fun i hi => absurd hi (Nat.not_lt_zero i), fun i j hi => absurd hi (Nat.not_lt_zero i), fun i hi => absurd hi (Nat.not_lt_zero i), rfl, by show (0 : Int) ≤ 90; decide⟩, fun h => ⟨fun z => absurd z (hno h), fun ⟨i, hi, _⟩ => absurd hi (Nat.not_lt_zero i)⟩, fun h a b _ => ?_, fun h z => absurd z (hno h), fun h z => absurd z (hno h), fun h s z => absurd z (hno h), fun a h1 h3 => ?_, ⟨Int.le_refl 0, by show (0 : Int) ≤ 10; decide⟩, ⟨Int.le_refl 0, by show (0 : Int) ≤ 14; decide⟩, fun h hs => ?_, fun i j a b => absurd b (by show ¬ i < 0; omega), ?_⟩ hno rfl rfl rfl
      · rw [am_up_n a34, am_up_n a33, am_up_n a32, am_up_n a31, am_up_n a30, h2 k a2 a3]; exact hk k a4 a5 a6 a7
      · show σ2 5 h = 0 ∧ σ2 6 h = 0 ∧ σ2 7 h = 0
        rw [h2 5 (by decide) (by decide), h2 6 (by decide) (by decide), h2 7 (by decide) (by decide)]
        exact (hc h a (by omega)).2
      · show σ2 2 a = 0 ∧ σ2 3 a = 0
        have h1 : (0 : Int) ≤ a := h1
        by_cases hat : a < σ 30 0
        · exact ⟨(hq 2 (Or.inl rfl)).1 a h1 hat, (hq 3 (Or.inr rfl)).1 a h1 hat⟩
        · rw [(hq 2 (Or.inl rfl)).2 a (Or.inr (by omega)), (hq 3 (Or.inr rfl)).2 a (Or.inr (by omega)), hk 2 (by decide) (by decide) (by decide) (by decide), hk 3 (by decide) (by decide) (by decide) (by decide)]
          exact hI.2.2.2.2.2.2.1 a (by omega) h3
      · rcases hs with ⟨i, a, b, _⟩ | ⟨i, a, b, _⟩
        · exact absurd b (by show ¬ i < 0; omega)
        · exact absurd b (by show ¬ i < 0; omega)
      · show σ2 11 0 = 0
        rw [h2 11 (by decide) (by decide), hk 11 (by decide) (by decide) (by decide) (by decide)]
        exact hI.2.2.2.2.2.2.2.2.2.2.2
    | succ d ih =>
      intro z hz hd σ1 hk hc
      refine b_17_2 z (fun h9 => absurd h9 (by omega)) (fun _ => b_17_8 z (b_28_0 z ⟨by omega, by omega⟩ ⟨by omega, by omega⟩ ⟨by omega, by omega⟩ ⟨by omega, by omega⟩ (am_bi (b_17_13 z ⟨by omega, by omega⟩ (ih (z + 1) (by omega) (by omega) _ (fun k a4 a5 a6 a7 => ?_) (fun x a b => ?_))))))
      · rw [am_up_n a7, am_up_n a6, am_up_n a5, am_up_n a4]; exact hk k a4 a5 a6 a7
      · show am_u1 (σ1 4) z (-1) x = -1 ∧ am_u1 (σ1 5) z 0 x = 0 ∧ am_u1 (σ1 6) z 0 x = 0 ∧ am_u1 (σ1 7) z 0 x = 0
        by_cases hxz : x = z
        · rw [hxz, am_u1_s, am_u1_s, am_u1_s, am_u1_s]; exact ⟨rfl, rfl, rfl, rfl⟩
        · rw [am_u1_n hxz, am_u1_n hxz, am_u1_n hxz, am_u1_n hxz]; exact hc x a (by omega)
  exact b_17_0 v1 (loop 14 1 (by omega) (by omega) σ (fun _ _ _ _ _ => rfl) (fun x a b => absurd a (by omega)))
end XT
