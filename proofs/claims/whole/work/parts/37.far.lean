/-! distances, as the class has them -/
/-- a walk of d steps from h to e -/
def xR (γ : St) (e : Int) : Nat → Int → Prop
  | 0, h => h = e
  | d + 1, h => ∃ s t, xE γ h s t ∧ xR γ e d t
def xDi (γ : St) (e h : Int) (d : Nat) : Prop := xR γ e d h ∧ ∀ d', d' < d → ¬ xR γ e d' h
theorem xDi.uniq {γ : St} {e h : Int} {d d' : Nat} (a : xDi γ e h d) (b : xDi γ e h d') : d = d' := by
  rcases Nat.lt_trichotomy d d' with q | q | q
  · exact absurd a.1 (b.2 d q)
  · exact q
  · exact absurd b.1 (a.2 d' q)
theorem xR.min {γ : St} {e h : Int} : ∀ d : Nat, xR γ e d h → ∃ d', d' ≤ d ∧ xDi γ e h d' := by
  intro d
  induction d using Nat.strongRecOn with
  | ind d ih =>
    intro hd
    rcases Classical.em (∃ d', d' < d ∧ xR γ e d' h) with ⟨d', a, b⟩ | q
    · obtain ⟨d'', c, f⟩ := ih d' a b
      exact ⟨d'', by omega, f⟩
    · exact ⟨d, Nat.le_refl d, hd, fun d' a b => q ⟨d', a, b⟩⟩
theorem xDi.next {γ : St} {e h : Int} {d : Nat} (a : xDi γ e h (d + 1)) : ∃ s t, xE γ h s t ∧ xDi γ e t d := by
  obtain ⟨s, t, he, hr⟩ := a.1
  exact ⟨s, t, he, hr, fun d' q w => a.2 (d' + 1) (by omega) ⟨s, t, he, w⟩⟩
theorem xDi.down {γ : St} {e : Int} : ∀ (d : Nat) (h : Int), xO γ h → xDi γ e h d → ∀ i, i ≤ d → ∃ x, xO γ x ∧ xDi γ e x i := by
  intro d
  induction d with
  | zero => intro h ho a i hi; rw [show i = 0 by omega]; exact ⟨h, ho, a⟩
  | succ d ih =>
    intro h ho a i hi
    by_cases hid : i = d + 1
    · rw [hid]; exact ⟨h, ho, a⟩
    · obtain ⟨s, t, he, ht⟩ := a.next
      exact ih t he.2.2.2.2 ht i (by omega)
theorem xDi.le {γ : St} {e h : Int} {d : Nat} (ho : xO γ h) (a : xDi γ e h d) : d ≤ 13 := by
  have ex : ∀ i : Nat, ∃ x, i ≤ d → xO γ x ∧ xDi γ e x i := by
    intro i
    rcases Nat.lt_or_ge d i with q | q
    · exact ⟨0, fun w => absurd w (by omega)⟩
    · obtain ⟨x, hx⟩ := xDi.down d h ho a i q
      exact ⟨x, fun _ => hx⟩
  obtain ⟨f, hf⟩ := Classical.axiomOfChoice ex
  have hl : d + 1 ≤ 14 := by
    refine pu_inj_le (e := fun z => f z.toNat) (n := d + 1) (fun i hi => ?_) (fun i j hi hj he => ?_)
    · have := (hf i (by omega)).1
      show 1 ≤ f ((i : Int)).toNat ∧ f ((i : Int)).toNat ≤ 14
      rw [Int.toNat_natCast]
      exact ⟨this.1, this.2.1⟩
    · have he : f ((i : Int)).toNat = f ((j : Int)).toNat := he
      rw [Int.toNat_natCast, Int.toNat_natCast] at he
      have si := (hf i (by omega)).2
      have sj := (hf j (by omega)).2
      rw [he] at si
      exact si.uniq sj
  omega
/-- D h tells the distance, as far as r -/
def dI (γ : St) (e : Int) (r : Nat) (D : Int → Int) (h : Int) : Prop := (D h = -1 ∧ ∀ d, d ≤ r → ¬ xR γ e d h) ∨ ∃ d : Nat, d ≤ r ∧ D h = (d : Int) ∧ xDi γ e h d
theorem dI.val {γ : St} {e h : Int} {r r' : Nat} {D : Int → Int} (a : dI γ e r' D h) (hr : r ≤ r') : D h = (r : Int) ↔ xDi γ e h r := by
  rcases a with ⟨q, w⟩ | ⟨d, q, w, u⟩
  · exact ⟨fun z => by omega, fun z => absurd z.1 (w r hr)⟩
  · constructor
    · intro z; rw [show r = d by omega]; exact u
    · intro z; rw [w, u.uniq z]
/-- .. and wholly -/
def dC (γ : St) (e : Int) (D : Int → Int) : Prop := D 0 = -1 ∧ ∀ h, 1 ≤ h → h ≤ 14 → (D h = -1 ∧ ∀ d, ¬ xR γ e d h) ∨ ∃ d : Nat, d ≤ 13 ∧ D h = (d : Int) ∧ xDi γ e h d
/-- the best start, or none -/
def xBe (γ : St) (e b : Int) (d : Nat) : Prop := xsrc γ b ∧ xDi γ e b d ∧ ∀ x, xsrc γ x → ∀ d', xDi γ e x d' → d < d' ∨ (d = d' ∧ b ≤ x)
def xNo (γ : St) (e : Int) : Prop := ∀ x, xsrc γ x → ∀ d, ¬ xR γ e d x
/-- the next on the way -/
def xNx (γ : St) (e a t : Int) : Prop := ∃ d, xDi γ e a (d + 1) ∧ (∃ s, xE γ a s t) ∧ xDi γ e t d ∧ ∀ t', (∃ s, xE γ a s t') → xDi γ e t' d → t ≤ t'
def xWy (γ : St) (e : Int) : Nat → Int → Int → Prop
  | 0, a, v => v = a
  | k + 1, a, v => ∃ t, xNx γ e a t ∧ xWy γ e k t v
section XF
variable {sc : Int → Int} {Q : Ou → St → Nat → Prop} {σ : St} {n : Nat}
theorem x_fill13 {v2 v3 : AV} (k : ∀ σ' : St, (∀ k, k ≠ 13 → σ' k = σ k) → (∀ x, 0 ≤ x → x < 15 → σ' 13 x = -1) → Q (.inl none) σ' 0) : am_wp sc 87 0 [.inr (.inl 13), .inl (-1), v2, v3] [] σ Q := by
  have loop : ∀ (d : Nat) (z : Int), 0 ≤ z → z + d = 15 → ∀ σ1 : St, (∀ k, k ≠ 13 → σ1 k = σ k) → (∀ x, 0 ≤ x → x < z → σ1 13 x = -1) → am_wp sc 87 5 [.inr (.inl 13), .inl (-1), .inl z, .inl 15] [] σ1 Q := by
    intro d
    induction d with
    | zero =>
      intro z hz hd σ1 hk hx
      exact b_87_5 13 _ _ _ (fun _ => b_87_20 13 _ _ _ (k σ1 hk (fun x a b => hx x a (by omega)))) (fun h9 => absurd (by omega) h9)
    | succ d ih =>
      intro z hz hd σ1 hk hx
      refine b_87_5 13 _ _ _ (fun h9 => absurd h9 (by omega)) (fun _ => b_87_10 13 _ _ _ (by decide) (show 0 ≤ z ∧ z < 15 from ⟨by omega, by omega⟩) ⟨by omega, by omega⟩ (ih (z + 1) (by omega) (by omega) _ (fun k a => by rw [am_up_n a]; exact hk k a) (fun x a b => ?_)))
      rw [am_up_k]
      by_cases hxz : x = z
      · rw [hxz, am_u1_s]
      · rw [am_u1_n hxz]; exact hx x a (by omega)
  exact b_87_0 13 _ _ _ (by decide) (loop 15 0 (by omega) (by omega) σ (fun _ _ => rfl) (fun x a b => absurd a (by omega)))
theorem x_refersTo {h r : Int} {v3 : AV} {γ : St} (hI : CI γ n) (hf : ∀ k, k ≠ 13 → σ k = γ k) (ho : xO γ h) (h0 : σ 13 0 ≠ r)
    (k1 : (∃ s t, xE γ h s t ∧ σ 13 t = r) → Q (.inl (some 1)) σ 0) (k0 : (∀ s t, xE γ h s t → σ 13 t ≠ r) → Q (.inl (some 0)) σ 0) : am_wp sc 44 0 [.inr (.inl 0), .inl h, .inl r, v3] [] σ Q := by
  have e4 := hf 4 (by decide); have e5 := hf 5 (by decide); have e3 := hf 3 (by decide); have e2 := hf 2 (by decide)
  obtain ⟨g1, g2, g3, g4⟩ := hI.geo h ho
  have a1 := ho.1; have a2 := ho.2.1
  have loop : ∀ (d s : Nat), s + d = (γ 5 h).toNat → (∀ s' t, s' < (s : Int) → xE γ h s' t → σ 13 t ≠ r) → am_wp sc 44 6 [.inr (.inl 0), .inl h, .inl r, .inl (γ 4 h + 2 + (s : Int))] [] σ Q := by
    intro d
    induction d with
    | zero =>
      intro s hs hn
      refine b_44_6 _ _ _ (x_endOf ⟨by omega, by omega⟩ (by rw [e5]; exact ⟨by omega, by omega⟩) (by rw [e4, e5]; exact ⟨by omega, by omega⟩) (am_bi ?_))
      rw [e4, e5]
      refine b_44_12 _ _ _ _ _ (fun _ => b_44_48 _ _ _ (k0 (fun s' t e => hn s' t (by have := e.2.1; omega) e))) (fun h9 => absurd (by omega) h9)
    | succ d ih =>
      intro s hs hn
      refine b_44_6 _ _ _ (x_endOf ⟨by omega, by omega⟩ (by rw [e5]; exact ⟨by omega, by omega⟩) (by rw [e4, e5]; exact ⟨by omega, by omega⟩) (am_bi ?_))
      rw [e4, e5]
      have nx : (∀ t, xE γ h s t → σ 13 t ≠ r) → am_wp sc 44 42 [.inr (.inl 0), .inl h, .inl r, .inl (γ 4 h + 2 + (s : Int))] [] σ Q := by
        intro hh
        refine b_44_42 _ _ _ ⟨by omega, by omega⟩ ?_
        rw [show γ 4 h + 2 + (s : Int) + 1 = γ 4 h + 2 + ((s + 1 : Nat) : Int) by omega]
        refine ih (s + 1) (by omega) (fun s' t hs' e => ?_)
        by_cases hss : s' = (s : Int)
        · rw [hss] at e; exact hh t e
        · exact hn s' t (by omega) e
      refine b_44_12 _ _ _ _ _ (fun h9 => absurd h9 (by omega)) (fun _ => ?_)
      refine b_44_15 _ _ _ ⟨by omega, by omega⟩ (fun h1 => nx (fun t e => absurd (by rw [e3]; exact e.2.2.1) h1)) (fun h1 => ?_)
      rw [e3] at h1
      have h1 : γ 3 (γ 4 h + 2 + (s : Int)) = 1 := by omega
      have bd := hI.val ho (s := s) (by omega) (by omega) (by omega)
      refine b_44_25 _ _ _ ⟨by omega, by omega⟩ (by rw [e2]; exact ⟨by omega, by omega⟩) (fun h2 => nx (fun t e => ?_)) (fun h2 => ?_)
      · rw [e2, e.2.2.2.1] at h2; exact h2
      · rw [e2] at h2
        have h2 : σ 13 (γ 2 (γ 4 h + 2 + (s : Int))) = r := by omega
        refine b_44_40 _ _ _ (k1 ⟨s, _, ⟨by omega, by omega, h1, rfl, ?_⟩, h2⟩)
        rcases hI.2.2.2.2.2.1 h s ho (by omega) (by omega) with z | ⟨-, z | z⟩
        · omega
        · rw [z] at h2; exact absurd h2 h0
        · exact z
  refine b_44_0 _ _ _ (b_21_0 _ ⟨by omega, by omega⟩ (by rw [e4]; exact ⟨by omega, by omega⟩) (am_bi (b_44_5 _ _ _ _ ?_)))
  have h9 := loop (γ 5 h).toNat 0 (by omega) (fun s' t hs e => absurd e.1 (by omega))
  rw [show γ 4 h + 2 + ((0 : Nat) : Int) = γ 4 h + 2 by omega] at h9
  rw [e4]; exact h9
theorem x_measure {e : Int} {v2 v3 v4 : AV} (hI : CI σ n) (he : xO σ e) (k : ∀ σ' : St, (∀ k, k ≠ 13 → σ' k = σ k) → dC σ e (σ' 13) → Q (.inl none) σ' 0) : am_wp sc 43 0 [.inr (.inl 0), .inl e, v2, v3, v4] [] σ Q := by
  have a1 := he.1; have a2 := he.2.1
  have hn14 := hI.1.n14
  have noE : ∀ h, 1 ≤ h → h ≤ 14 → ¬ xO σ h → ∀ d, ¬ xR σ e d h := by
    intro h b1 b2 hno d hd
    cases d with
    | zero => exact hno (by rw [show h = e from hd]; exact he)
    | succ d =>
      obtain ⟨s, t, ee, -⟩ := hd
      have := (hI.2.2.1 h b1 b2 hno).1
      have := ee.1; have := ee.2.1
      omega
  refine b_43_0 _ _ _ _ (x_fill13 (fun σ1 f1 hx => am_bi (b_43_8 _ _ _ _ ⟨by omega, by omega⟩ ?_)))
  -- one round
  have inner : ∀ (r : Nat), r < 14 → (∀ (σ2 : St) (z3 : Int) (v4 : AV), (∀ k, k ≠ 13 → σ2 k = σ k) → σ2 13 0 = -1 → (∀ h, 1 ≤ h → h ≤ 14 → dI σ e (r + 1) (σ2 13) h) → am_wp sc 43 78 [.inr (.inl 0), .inl e, .inl (r : Int), .inl z3, v4] [] σ2 Q) →
      ∀ (d i : Nat), i + d = n → ∀ (v4 : AV) (σ2 : St), (∀ k, k ≠ 13 → σ2 k = σ k) → σ2 13 0 = -1 → (∀ h, 1 ≤ h → h ≤ 14 → dI σ e r (σ2 13) h ∨ dI σ e (r + 1) (σ2 13) h) → (∀ j : Nat, j < i → dI σ e (r + 1) (σ2 13) (σ 8 j)) → (∀ j : Nat, i ≤ j → j < n → dI σ e r (σ2 13) (σ 8 j)) →
      am_wp sc 43 25 [.inr (.inl 0), .inl e, .inl (r : Int), .inl (i : Int), v4] [] σ2 Q := by
    intro r hr kk d
    induction d with
    | zero =>
      intro i hi v4 σ2 hf h0 hall hpro _
      refine b_43_25 _ _ _ _ (fun _ => kk σ2 _ _ hf h0 (fun h b1 b2 => ?_)) (fun h9 => absurd (by rw [hf 31 (by decide), hI.1.1]; omega) h9)
      rcases Classical.em (xO σ h) with q | q
      · obtain ⟨j, hj, hje⟩ := (hI.2.1 h).mp q
        rw [← hje]; exact hpro j (by omega)
      · rcases hall h b1 b2 with w | w
        · rcases w with w | ⟨d, x, y⟩
          · exact Or.inl ⟨w.1, fun d _ => noE h b1 b2 q d⟩
          · exact Or.inr ⟨d, by omega, y⟩
        · exact w
    | succ d ih =>
      intro i hi v4 σ2 hf h0 hall hpro hrest
      have e8 := hf 8 (by decide)
      have hr1 := hI.1.2.1 i (by omega)
      have ho := (hI.2.1 (σ 8 i)).mpr ⟨i, by omega, rfl⟩
      have hnew : ∀ j : Nat, j < n → j ≠ i → σ 8 j ≠ σ 8 i := fun j hj hne he => hne (hI.1.2.2.1 j i hj (by omega) he)
      have hcur := hrest i (Nat.le_refl i) (by omega)
      have skip : dI σ e (r + 1) (σ2 13) (σ 8 i) → am_wp sc 43 72 [.inr (.inl 0), .inl e, .inl (r : Int), .inl (i : Int), .inl (σ 8 i)] [] σ2 Q := by
        intro hd
        refine b_43_72 _ _ _ _ ⟨by omega, by omega⟩ ?_
        rw [show (i : Int) + 1 = ((i + 1 : Nat) : Int) by omega]
        refine ih (i + 1) (by omega) _ σ2 hf h0 hall (fun j hj => ?_) (fun j a b => hrest j (by omega) b)
        by_cases hji : j = i
        · rw [hji]; exact hd
        · exact hpro j (by omega)
      refine b_43_25 _ _ _ _ (fun h9 => absurd h9 (by rw [hf 31 (by decide), hI.1.1]; omega)) (fun _ => ?_)
      have h33 := b_43_33 (sc := sc) (σ := σ2) (Q := Q) e (r : Int) (i : Int) v4 ⟨by omega, by omega⟩ (by rw [e8]; exact ⟨by omega, by omega⟩)
      rw [e8] at h33
      refine h33 (fun h1 => skip ?_) (fun h1 => ?_)
      · rcases hcur with w | ⟨d, x, y⟩
        · exact absurd w.1 h1
        · exact Or.inr ⟨d, by omega, y⟩
      · have h1 : σ2 13 (σ 8 i) = -1 := by omega
        have hnw : ∀ d, d ≤ r → ¬ xR σ e d (σ 8 i) := by
          rcases hcur with w | ⟨d, x, y, -⟩
          · exact w.2
          · omega
        have hv : ∀ t, xO σ t → (σ2 13 t = (r : Int) ↔ xDi σ e t r) := by
          intro t ht
          rcases hall t ht.1 ht.2.1 with w | w
          · exact w.val (Nat.le_refl r)
          · exact w.val (by omega)
        refine b_43_52 _ _ _ _ (x_refersTo hI hf ho (by omega) (fun hy => am_bi ?_) (fun hn => am_bi ?_))
        · refine b_43_59 _ _ _ _ 1 (fun h9 => absurd h9 (by decide)) (fun _ => b_43_62 _ _ _ _ ⟨by omega, by omega⟩ ⟨by omega, by omega⟩ (b_43_72 _ _ _ _ ⟨by omega, by omega⟩ ?_))
          obtain ⟨s, t, ee, hd⟩ := hy
          have hdt := (hv t ee.2.2.2.2).mp hd
          have hdi : xDi σ e (σ 8 i) (r + 1) := ⟨⟨s, t, ee, hdt.1⟩, fun d' q => hnw d' (by omega)⟩
          have hD : dI σ e (r + 1) (am_u1 (σ2 13) (σ 8 i) ((r : Int) + 1)) (σ 8 i) := Or.inr ⟨r + 1, Nat.le_refl _, by rw [am_u1_s]; omega, hdi⟩
          have oth : ∀ (q : Nat) (h : Int), h ≠ σ 8 i → dI σ e q (σ2 13) h → dI σ e q (am_u1 (σ2 13) (σ 8 i) ((r : Int) + 1)) h := by
            intro q h hne w
            unfold dI at w ⊢
            rw [am_u1_n hne]; exact w
          rw [show (i : Int) + 1 = ((i + 1 : Nat) : Int) by omega]
          refine ih (i + 1) (by omega) _ _ (fun k a => by rw [am_up_n a]; exact hf k a) ?_ (fun h b1 b2 => ?_) (fun j hj => ?_) (fun j a b => ?_)
          · rw [am_up_k, am_u1_n (by omega)]; exact h0
          · rw [am_up_k]
            by_cases hh : h = σ 8 i
            · rw [hh]; exact Or.inr hD
            · exact (hall h b1 b2).elim (fun w => Or.inl (oth _ h hh w)) (fun w => Or.inr (oth _ h hh w))
          · rw [am_up_k]
            by_cases hji : j = i
            · rw [hji]; exact hD
            · exact oth _ _ (hnew j (by omega) hji) (hpro j (by omega))
          · rw [am_up_k]
            exact oth _ _ (hnew j b (by omega)) (hrest j (by omega) b)
        · refine b_43_59 _ _ _ _ 0 (fun _ => skip (Or.inl ⟨h1, fun d hd => ?_⟩)) (fun h9 => absurd rfl h9)
          by_cases hdr : d ≤ r
          · exact hnw d hdr
          · intro hx
            rw [show d = r + 1 by omega] at hx
            obtain ⟨s, t, ee, hr2⟩ := hx
            refine hn s t ee ((hv t ee.2.2.2.2).mpr ⟨hr2, fun d' q w => ?_⟩)
            exact hnw (d' + 1) (by omega) ⟨s, t, ee, w⟩
  have outer : ∀ (d r : Nat), r + d = 14 → ∀ (v3 v4 : AV) (σ2 : St), (∀ k, k ≠ 13 → σ2 k = σ k) → σ2 13 0 = -1 → (∀ h, 1 ≤ h → h ≤ 14 → dI σ e r (σ2 13) h) → am_wp sc 43 17 [.inr (.inl 0), .inl e, .inl (r : Int), v3, v4] [] σ2 Q := by
    intro d
    induction d with
    | zero =>
      intro r hr v3 v4 σ2 hf h0 hall
      refine b_43_17 _ _ _ _ (fun _ => b_43_84 _ _ _ _ (k σ2 hf ⟨h0, fun h b1 b2 => ?_⟩)) (fun h9 => absurd (by omega) h9)
      rcases Classical.em (xO σ h) with q | q
      · rcases hall h b1 b2 with ⟨w, u⟩ | ⟨d, x, y, u⟩
        · refine Or.inl ⟨w, fun d hd => ?_⟩
          obtain ⟨d', -, hd'⟩ := xR.min d hd
          exact u d' (by have := hd'.le q; omega) hd'.1
        · exact Or.inr ⟨d, u.le q, y, u⟩
      · rcases hall h b1 b2 with ⟨w, u⟩ | ⟨d, x, y, u⟩
        · exact Or.inl ⟨w, noE h b1 b2 q⟩
        · exact absurd u.1 (noE h b1 b2 q d)
    | succ d ih =>
      intro r hr v3 v4 σ2 hf h0 hall
      refine b_43_17 _ _ _ _ (fun h9 => absurd h9 (by omega)) (fun _ => b_43_23 _ _ _ _ ?_)
      refine inner r (by omega) (fun σ3 z3 v4 f3 g0 g1 => b_43_78 _ _ _ _ ⟨by omega, by omega⟩ ?_) n 0 (by omega) _ σ2 hf h0 (fun h b1 b2 => Or.inl (hall h b1 b2)) (fun j hj => absurd hj (Nat.not_lt_zero j)) (fun j _ hj => hall _ (hI.1.2.1 j hj).1 (hI.1.2.1 j hj).2)
      rw [show (r : Int) + 1 = ((r + 1 : Nat) : Int) by omega]
      exact ih (r + 1) (by omega) _ _ σ3 f3 g0 g1
  refine outer 14 0 (by omega) _ _ _ (fun k a => by rw [am_up_n a]; exact f1 k a) ?_ (fun h b1 b2 => ?_)
  · rw [am_up_k, am_u1_n (by omega)]; exact hx 0 (by omega) (by omega)
  · unfold dI
    rw [am_up_k]
    by_cases hh : h = e
    · rw [hh, am_u1_s]; exact Or.inr ⟨0, Nat.le_refl 0, rfl, rfl, fun d' q => absurd q (Nat.not_lt_zero d')⟩
    · rw [am_u1_n hh]
      refine Or.inl ⟨hx h (by omega) (by omega), fun d hd w => hh ?_⟩
      rw [show d = 0 by omega] at w; exact w
end XF
