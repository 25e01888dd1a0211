/-! the law's loop -/
theorem Iv.mk {γ σ' : St} {n : Nat} {m : Int} (hI : CI γ n) (hR : RM γ σ' n) (ec : ∀ k, isC k → k ≠ 13 → σ' k = γ k) (h0 : 0 ≤ γ 34 0) (h1 : γ 34 0 ≤ m) : Iv σ' m :=
  ⟨n, hI.c ec, hR.c (fun k a b c d e => ec k a d), by rw [ec 34 (by unfold isC; omega) (by decide)]; exact h0, by rw [ec 34 (by unfold isC; omega) (by decide)]; exact h1⟩
/-- only rows for work have changed -/
theorem Iv.same {σ γ σ' : St} {n : Nat} {m : Int} (hI : CI γ n) (hR : RM σ σ n) (eg : ∀ k, k ≠ 11 → k ≠ 12 → k ≠ 35 → k ≠ 13 → k ≠ 26 → γ k = σ k) (ec : ∀ k, isC k → k ≠ 13 → σ' k = γ k) (em : ∀ k, isM k → k ≠ 23 → k ≠ 24 → k ≠ 25 → k ≠ 40 → σ' k = σ k) (e23 : σ' 23 0 = 0) (h0 : 0 ≤ σ 34 0) (h1 : σ 34 0 ≤ m) : Iv σ' m := by
  have hR1 : RM γ σ n := hR.c (fun k w a b c d => eg k a b d c (by unfold isC at w; omega))
  have hR2 : RM γ (fun k => if (14 ≤ k ∧ k ≤ 25) ∨ (40 ≤ k ∧ k ≤ 44) then σ' k else σ k) n := by
    refine hR1.scr (fun k a b c d => ?_) ?_
    · by_cases hk : isM k
      · show (if (14 ≤ k ∧ k ≤ 25) ∨ (40 ≤ k ∧ k ≤ 44) then σ' k else σ k) = σ k
        rw [if_pos (show (14 ≤ k ∧ k ≤ 25) ∨ (40 ≤ k ∧ k ≤ 44) from hk)]; exact em k hk a b c d
      · show (if (14 ≤ k ∧ k ≤ 25) ∨ (40 ≤ k ∧ k ≤ 44) then σ' k else σ k) = σ k
        rw [if_neg (show ¬ ((14 ≤ k ∧ k ≤ 25) ∨ (40 ≤ k ∧ k ≤ 44)) from hk)]
    · show (if (14 ≤ 23 ∧ 23 ≤ 25) ∨ (40 ≤ 23 ∧ 23 ≤ 44) then σ' 23 else σ 23) 0 = 0
      rw [if_pos (by omega)]; exact e23
  have hR3 : RM γ σ' n := hR2.m (fun k hk => by show σ' k = (if (14 ≤ k ∧ k ≤ 25) ∨ (40 ≤ k ∧ k ≤ 44) then σ' k else σ k); rw [if_pos (show (14 ≤ k ∧ k ≤ 25) ∨ (40 ≤ k ∧ k ≤ 44) from hk)])
  exact Iv.mk hI hR3 ec (by rw [eg 34 (by decide) (by decide) (by decide) (by decide) (by decide)]; exact h0) (by rw [eg 34 (by decide) (by decide) (by decide) (by decide) (by decide)]; exact h1)

section LT
variable {sc : Int → Int} {σ : St} {Q : Ou → St → Nat → Prop} {z k b : Int} {v6 : AV}
theorem lz_0 (h40 : σ 40 0 = k) (hb : k = 0 → σ 26 0 = b) (nx : ∀ v5 v6 : AV, am_wp sc am_law 1019 [.inr (.inl 28), .inr (.inl 0), .inr (.inl 1), .inr (.inl 26), .inl z, v5, v6] [] σ Q) : am_wp sc am_law 147 [.inr (.inl 28), .inr (.inl 0), .inr (.inl 1), .inr (.inl 26), .inl z, .inl k, v6] [.inl b] σ Q := by
  refine b_law_147 _ _ _ _ (b_48_0 (am_bi (b_law_153 _ _ _ _ (fun _ => b_law_160 _ _ _ (fun _ => b_law_177 _ _ _ (nx _ _)) (fun hk => b_law_165 _ _ _ (fun _ => b_law_177 _ _ _ (nx _ _)) (fun h9 => absurd ?_ h9))) (fun h9 => absurd h40 h9))))
  rw [hb (by omega), if_neg (by omega), if_pos rfl]
theorem lz_3 (h40 : σ 40 0 = k) (hb : k = 0 → σ 26 0 = b) (nx : ∀ v5 v6 : AV, am_wp sc am_law 1019 [.inr (.inl 28), .inr (.inl 0), .inr (.inl 1), .inr (.inl 26), .inl z, v5, v6] [] σ Q) : am_wp sc am_law 363 [.inr (.inl 28), .inr (.inl 0), .inr (.inl 1), .inr (.inl 26), .inl z, .inl k, v6] [.inl b] σ Q := by
  refine b_law_363 _ _ _ _ (b_48_0 (am_bi (b_law_369 _ _ _ _ (fun _ => b_law_376 _ _ _ (fun _ => b_law_393 _ _ _ (nx _ _)) (fun hk => b_law_381 _ _ _ (fun _ => b_law_393 _ _ _ (nx _ _)) (fun h9 => absurd ?_ h9))) (fun h9 => absurd h40 h9))))
  rw [hb (by omega), if_neg (by omega), if_pos rfl]
theorem lz_4 (h40 : σ 40 0 = k) (hb : k = 0 → σ 26 0 = b) (nx : ∀ v5 v6 : AV, am_wp sc am_law 1019 [.inr (.inl 28), .inr (.inl 0), .inr (.inl 1), .inr (.inl 26), .inl z, v5, v6] [] σ Q) : am_wp sc am_law 431 [.inr (.inl 28), .inr (.inl 0), .inr (.inl 1), .inr (.inl 26), .inl z, .inl k, v6] [.inl b] σ Q := by
  refine b_law_431 _ _ _ _ (b_48_0 (am_bi (b_law_437 _ _ _ _ (fun _ => b_law_444 _ _ _ (fun _ => b_law_461 _ _ _ (nx _ _)) (fun hk => b_law_449 _ _ _ (fun _ => b_law_461 _ _ _ (nx _ _)) (fun h9 => absurd ?_ h9))) (fun h9 => absurd h40 h9))))
  rw [hb (by omega), if_neg (by omega), if_pos rfl]
theorem lz_5 (h40 : σ 40 0 = k) (hb : k = 0 → σ 26 0 = b) (nx : ∀ v5 v6 : AV, am_wp sc am_law 1019 [.inr (.inl 28), .inr (.inl 0), .inr (.inl 1), .inr (.inl 26), .inl z, v5, v6] [] σ Q) : am_wp sc am_law 487 [.inr (.inl 28), .inr (.inl 0), .inr (.inl 1), .inr (.inl 26), .inl z, .inl k, v6] [.inl b] σ Q := by
  refine b_law_487 _ _ _ _ (b_48_0 (am_bi (b_law_493 _ _ _ _ (fun _ => b_law_500 _ _ _ (fun _ => b_law_517 _ _ _ (nx _ _)) (fun hk => b_law_505 _ _ _ (fun _ => b_law_517 _ _ _ (nx _ _)) (fun h9 => absurd ?_ h9))) (fun h9 => absurd h40 h9))))
  rw [hb (by omega), if_neg (by omega), if_pos rfl]
theorem lz_9 (h40 : σ 40 0 = k) (hb : k = 0 → σ 26 0 = b) (nx : ∀ v5 v6 : AV, am_wp sc am_law 1019 [.inr (.inl 28), .inr (.inl 0), .inr (.inl 1), .inr (.inl 26), .inl z, v5, v6] [] σ Q) : am_wp sc am_law 633 [.inr (.inl 28), .inr (.inl 0), .inr (.inl 1), .inr (.inl 26), .inl z, .inl k, v6] [.inl b] σ Q := by
  refine b_law_633 _ _ _ _ (b_48_0 (am_bi (b_law_639 _ _ _ _ (fun _ => b_law_646 _ _ _ (fun _ => b_law_663 _ _ _ (nx _ _)) (fun hk => b_law_651 _ _ _ (fun _ => b_law_663 _ _ _ (nx _ _)) (fun h9 => absurd ?_ h9))) (fun h9 => absurd h40 h9))))
  rw [hb (by omega), if_neg (by omega), if_pos rfl]
theorem lz_12 (h40 : σ 40 0 = k) (hb : k = 0 → σ 26 0 = b) (nx : ∀ v5 v6 : AV, am_wp sc am_law 1019 [.inr (.inl 28), .inr (.inl 0), .inr (.inl 1), .inr (.inl 26), .inl z, v5, v6] [] σ Q) : am_wp sc am_law 727 [.inr (.inl 28), .inr (.inl 0), .inr (.inl 1), .inr (.inl 26), .inl z, .inl k, v6] [.inl b] σ Q := by
  refine b_law_727 _ _ _ _ (b_48_0 (am_bi (b_law_733 _ _ _ _ (fun _ => b_law_740 _ _ _ (fun _ => b_law_757 _ _ _ (nx _ _)) (fun hk => b_law_745 _ _ _ (fun _ => b_law_757 _ _ _ (nx _ _)) (fun h9 => absurd ?_ h9))) (fun h9 => absurd h40 h9))))
  rw [hb (by omega), if_neg (by omega), if_pos rfl]
theorem lz_13 (h40 : σ 40 0 = k) (hb : k = 0 → σ 26 0 = b) (nx : ∀ v5 v6 : AV, am_wp sc am_law 1019 [.inr (.inl 28), .inr (.inl 0), .inr (.inl 1), .inr (.inl 26), .inl z, v5, v6] [] σ Q) : am_wp sc am_law 795 [.inr (.inl 28), .inr (.inl 0), .inr (.inl 1), .inr (.inl 26), .inl z, .inl k, v6] [.inl b] σ Q := by
  refine b_law_795 _ _ _ _ (b_48_0 (am_bi (b_law_801 _ _ _ _ (fun _ => b_law_808 _ _ _ (fun _ => b_law_825 _ _ _ (nx _ _)) (fun hk => b_law_813 _ _ _ (fun _ => b_law_825 _ _ _ (nx _ _)) (fun h9 => absurd ?_ h9))) (fun h9 => absurd h40 h9))))
  rw [hb (by omega), if_neg (by omega), if_pos rfl]
theorem lz_14 (h40 : σ 40 0 = k) (hb : k = 0 → σ 26 0 = b) (nx : ∀ v5 v6 : AV, am_wp sc am_law 1019 [.inr (.inl 28), .inr (.inl 0), .inr (.inl 1), .inr (.inl 26), .inl z, v5, v6] [] σ Q) : am_wp sc am_law 851 [.inr (.inl 28), .inr (.inl 0), .inr (.inl 1), .inr (.inl 26), .inl z, .inl k, v6] [.inl b] σ Q := by
  refine b_law_851 _ _ _ _ (b_48_0 (am_bi (b_law_857 _ _ _ _ (fun _ => b_law_864 _ _ _ (fun _ => b_law_881 _ _ _ (nx _ _)) (fun hk => b_law_869 _ _ _ (fun _ => b_law_881 _ _ _ (nx _ _)) (fun h9 => absurd ?_ h9))) (fun h9 => absurd h40 h9))))
  rw [hb (by omega), if_neg (by omega), if_pos rfl]
theorem lz_15 (h40 : σ 40 0 = k) (hb : k = 0 → σ 26 0 = b) (nx : ∀ v5 v6 : AV, am_wp sc am_law 1019 [.inr (.inl 28), .inr (.inl 0), .inr (.inl 1), .inr (.inl 26), .inl z, v5, v6] [] σ Q) : am_wp sc am_law 919 [.inr (.inl 28), .inr (.inl 0), .inr (.inl 1), .inr (.inl 26), .inl z, .inl k, v6] [.inl b] σ Q := by
  refine b_law_919 _ _ _ _ (b_48_0 (am_bi (b_law_925 _ _ _ _ (fun _ => b_law_932 _ _ _ (fun _ => b_law_949 _ _ _ (nx _ _)) (fun hk => b_law_937 _ _ _ (fun _ => b_law_949 _ _ _ (nx _ _)) (fun h9 => absurd ?_ h9))) (fun h9 => absurd h40 h9))))
  rw [hb (by omega), if_neg (by omega), if_pos rfl]
theorem lz_16 (h40 : σ 40 0 = k) (hb : k = 0 → σ 26 0 = b) (nx : ∀ v5 v6 : AV, am_wp sc am_law 1019 [.inr (.inl 28), .inr (.inl 0), .inr (.inl 1), .inr (.inl 26), .inl z, v5, v6] [] σ Q) : am_wp sc am_law 975 [.inr (.inl 28), .inr (.inl 0), .inr (.inl 1), .inr (.inl 26), .inl z, .inl k, v6] [.inl b] σ Q := by
  refine b_law_975 _ _ _ _ (b_48_0 (am_bi (b_law_981 _ _ _ _ (fun _ => b_law_988 _ _ _ (fun _ => b_law_1005 _ _ _ (nx _ _)) (fun hk => b_law_993 _ _ _ (fun _ => b_law_1005 _ _ _ (nx _ _)) (fun h9 => absurd ?_ h9))) (fun h9 => absurd h40 h9))))
  rw [hb (by omega), if_neg (by omega), if_pos rfl]
theorem lz_1 (h40 : σ 40 0 = k) (nx : ∀ v5 v6 : AV, am_wp sc am_law 1019 [.inr (.inl 28), .inr (.inl 0), .inr (.inl 1), .inr (.inl 26), .inl z, v5, v6] [] σ Q) : am_wp sc am_law 226 [.inr (.inl 28), .inr (.inl 0), .inr (.inl 1), .inr (.inl 26), .inl z, .inl k, v6] [] σ Q :=
  b_law_226 _ _ _ (b_48_0 (am_bi (b_law_230 _ _ _ _ (fun _ => b_law_237 _ _ _ (nx _ _)) (fun h9 => absurd h40 h9))))
theorem lz_2 (h40 : σ 40 0 = k) (nx : ∀ v5 v6 : AV, am_wp sc am_law 1019 [.inr (.inl 28), .inr (.inl 0), .inr (.inl 1), .inr (.inl 26), .inl z, v5, v6] [] σ Q) : am_wp sc am_law 314 [.inr (.inl 28), .inr (.inl 0), .inr (.inl 1), .inr (.inl 26), .inl z, .inl k, v6] [] σ Q :=
  b_law_314 _ _ _ (b_48_0 (am_bi (b_law_318 _ _ _ _ (fun _ => b_law_325 _ _ _ (nx _ _)) (fun h9 => absurd h40 h9))))
theorem lz_8 (h40 : σ 40 0 = k) (nx : ∀ v5 v6 : AV, am_wp sc am_law 1019 [.inr (.inl 28), .inr (.inl 0), .inr (.inl 1), .inr (.inl 26), .inl z, v5, v6] [] σ Q) : am_wp sc am_law 608 [.inr (.inl 28), .inr (.inl 0), .inr (.inl 1), .inr (.inl 26), .inl z, .inl k, v6] [] σ Q :=
  b_law_608 _ _ _ (b_48_0 (am_bi (b_law_612 _ _ _ _ (fun _ => b_law_619 _ _ _ (nx _ _)) (fun h9 => absurd h40 h9))))
end LT
