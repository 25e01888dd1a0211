/-! The machine's words for the abstract ones; each step of the abstract machine is a step of the machine. -/
def am_cv (a : Nat → Nat) (v : AV) : Value := match v with
  | .inl z => .int (Int32.ofInt z)
  | .inr (.inl k) => .ref (a k)
  | .inr (.inr z) => .long (Int64.ofInt z)
def am_okV (v : AV) : Prop := match v with
  | .inl z => am_R z
  | .inr (.inl _) => True
  | .inr (.inr z) => am_R z
def am_okL (L : List AV) : Prop := ∀ v ∈ L, am_okV v
def am_okS (σ : St) : Prop := ∀ (k : Nat) (j : Int), am_R (σ k j)
/-- field k of the object at place o -/
def am_fv (a : Nat → Nat) (σ : St) (o k : Nat) : Value := if am_fl o k < 30 then .ref (a (am_fl o k)) else .int (Int32.ofInt (σ (am_fl o k) 0))
def am_cell (a : Nat → Nat) (cs : Nat → ClassId) (σ : St) (j : Nat) : Nat × va_E :=
  (a j, if j < 2 then .inr (j, (List.range (am_nf j)).map (am_fv a σ j)) else .inl (cs (am_at j), (am_ln j).toNat, if am_at j = 2 then .inr (.inl (fun i => Int64.ofInt (σ j i))) else .inl (fun i => Int32.ofInt (σ j i))))
def am_wd (a : Nat → Nat) (cs : Nat → ClassId) (σ : St) : va_W := (List.range 27).map (am_cell a cs σ)
def am_A (a : Nat → Nat) (sz : Nat) : Nat → Prop := fun q => (∃ k, k < 27 ∧ q = a k) ∨ sz ≤ q
def am_ty (cs : Nat → ClassId) : List (ClassId × FieldType) := [(cs 0, .int), (cs 1, .boolean), (cs 2, .long)]
def am_hl (a : Nat → Nat) (ls : Array Slot) (n : Nat) (L : List AV) : Prop := ls.size = n ∧ L.length = n ∧ lv_wf ls ∧ ∀ (i : Nat) (v : AV), L[i]? = some v → am_one v = true → ls[i]? = some (.val (am_cv a v))
-- numbers
theorem am_ofI {x : Int} (h : am_R x) : (Int32.ofInt x).toInt = x := Int32.toInt_ofInt_of_le (by have := h.1; omega) (by have := h.2; omega)
theorem am_eqI {x y : Int} (hx : am_R x) (hy : am_R y) : Int32.ofInt x = Int32.ofInt y ↔ x = y := by
  rw [← Int32.toInt_inj, am_ofI hx, am_ofI hy]
theorem am_ltI {x y : Int} (hx : am_R x) (hy : am_R y) : Int32.ofInt x < Int32.ofInt y ↔ x < y := by
  rw [Int32.lt_iff_toInt_lt, am_ofI hx, am_ofI hy]
theorem am_leI {x y : Int} (hx : am_R x) (hy : am_R y) : Int32.ofInt x ≤ Int32.ofInt y ↔ x ≤ y := by
  rw [Int32.le_iff_toInt_le, am_ofI hx, am_ofI hy]
theorem am_ofN (n : Nat) : Int32.ofNat n = Int32.ofInt (n : Int) := by
  rw [Int32.ofInt_eq_ofNat]
theorem am_0I : Int32.ofInt 0 = 0 := rfl
theorem am_R0 : am_R 0 := ⟨by decide, by decide⟩
theorem am_ofJ {x : Int} (h : am_R x) : (Int64.ofInt x).toInt = x := Int64.toInt_ofInt_of_le (by have := h.1; omega) (by have := h.2; omega)
theorem am_ij {x : Int} (h : am_R x) : (Int32.ofInt x).toInt64 = Int64.ofInt x := by
  rw [← Int64.toInt_inj, Int32.toInt_toInt64, am_ofI h, am_ofJ h]
theorem am_clamp {i : Int} (h : am_R i) : (Int32.ofInt i).toNatClampNeg = i.toNat := Int32.toNatClampNeg_ofInt_of_le (by have := h.1; omega) (by have := h.2; omega)
theorem am_in {i : Int} {n : Nat} (h : am_R i) (h0 : 0 ≤ i) (h1 : i < n) : vp_in (Int32.ofInt i) n := by
  intro q
  rcases q with q | q
  · rw [← am_0I, am_ltI h am_R0] at q
    omega
  · rw [am_clamp h] at q
    omega
theorem am_and {x : Int} (h : am_R x) : Int32.ofInt x &&& Int32.ofInt 31 = Int32.ofInt (x % 32) := by
  rw [pk_and (Int32.ofInt x) (m := Int32.ofInt 31) 5 (by decide)]
  have e : ((Int32.ofInt x).toBitVec.toNat : Int) = x % 2 ^ 32 := by
    have h1 : (Int32.ofInt x).toBitVec = BitVec.ofInt 32 x := rfl
    rw [h1, BitVec.toNat_ofInt]
    omega
  rw [← Int32.toInt_inj, am_ofI ⟨by omega, by omega⟩, nI_toInt (by omega)]
  omega
-- the world
theorem am_wd_at {a : Nat → Nat} {cs : Nat → ClassId} {σ : St} {j : Nat} (h : j < 27) : (am_wd a cs σ)[j]? = some (am_cell a cs σ j) := by
  simp [am_wd, List.getElem?_map, List.getElem?_range h]
theorem am_wd_len {a : Nat → Nat} {cs : Nat → ClassId} {σ : St} : (am_wd a cs σ).length = 27 := by simp [am_wd]
theorem am_wd_set {a : Nat → Nat} {cs : Nat → ClassId} {σ σ' : St} {j : Nat} {q : Nat × va_E} (h : j < 27) (hq : am_cell a cs σ' j = q) (ho : ∀ i, i < 27 → i ≠ j → am_cell a cs σ' i = am_cell a cs σ i) : (am_wd a cs σ).set j q = am_wd a cs σ' := by
  apply List.ext_getElem?
  intro i
  by_cases hi : i < 27
  · by_cases hj : i = j
    · subst hj
      rw [List.getElem?_set_self (by rw [am_wd_len]; exact hi), am_wd_at hi, hq]
    · rw [List.getElem?_set_ne (Ne.symm hj), am_wd_at hi, am_wd_at hi, ho i hi hj]
  · rw [List.getElem?_eq_none (by rw [List.length_set, am_wd_len]; omega), List.getElem?_eq_none (by rw [am_wd_len]; omega)]
theorem am_fv_n {a : Nat → Nat} {σ : St} {o k n : Nat} {j v : Int} (h : n < 30 ∨ am_fl o k ≠ n) : am_fv a (am_up σ n j v) o k = am_fv a σ o k := by
  unfold am_fv
  by_cases hf : am_fl o k < 30
  · rw [if_pos hf, if_pos hf]
  · rw [if_neg hf, if_neg hf, am_up_n]
    rcases h with h | h
    · omega
    · exact h
/-- behind a store into the array at place j -/
theorem am_wd_arr {a : Nat → Nat} {cs : Nat → ClassId} {σ : St} {j : Nat} {i v : Int} {q : Nat × va_E} (h : j < 27) (h2 : 2 ≤ j) (hq : am_cell a cs (am_up σ j i v) j = q) : (am_wd a cs σ).set j q = am_wd a cs (am_up σ j i v) := by
  refine am_wd_set h hq (fun i' hi' hne => ?_)
  unfold am_cell
  by_cases hlt : i' < 2
  · rw [if_pos hlt, if_pos hlt]
    have e : (List.range (am_nf i')).map (am_fv a (am_up σ j i v) i') = (List.range (am_nf i')).map (am_fv a σ i') := List.map_congr_left (fun k _ => am_fv_n (Or.inl (by omega)))
    rw [e]
  · rw [if_neg hlt, if_neg hlt, am_up_n hne]
/-- behind a store into the scalar n of the object o -/
theorem am_wd_fld {a : Nat → Nat} {cs : Nat → ClassId} {σ : St} {o k : Nat} {v : Int} (h : o < 2) (hk : k < am_nf o) (hn : 30 ≤ am_fl o k) :
    (am_wd a cs σ).set o (a o, .inr (o, ((List.range (am_nf o)).map (am_fv a σ o)).set k (.int (Int32.ofInt v)))) = am_wd a cs (am_up σ (am_fl o k) 0 v) := by
  refine am_wd_set (by omega) ?_ (fun i' hi' hne => ?_)
  · unfold am_cell
    rw [if_pos h]
    congr 3
    apply List.ext_getElem?
    intro i
    by_cases hi : i < am_nf o
    · by_cases hik : i = k
      · subst hik
        rw [List.getElem?_set_self (by simpa using hi), List.getElem?_map, List.getElem?_range hi]
        simp only [Option.map_some, am_fv]
        rw [if_neg (by omega), am_up_s, am_u1_s]
      · rw [List.getElem?_set_ne (Ne.symm hik), List.getElem?_map, List.getElem?_map, List.getElem?_range hi]
        simp only [Option.map_some]
        rw [am_fv_n]
        right
        intro he
        exact hik (am_fl_inj h hi hk he (by omega))
    · rw [List.getElem?_eq_none (by simpa using hi), List.getElem?_eq_none (by simpa using hi)]
  · unfold am_cell
    by_cases hlt : i' < 2
    · rw [if_pos hlt, if_pos hlt]
      have e : (List.range (am_nf i')).map (am_fv a (am_up σ (am_fl o k) 0 v) i') = (List.range (am_nf i')).map (am_fv a σ i') := by
        refine List.map_congr_left (fun k' hk' => am_fv_n (Or.inr ?_))
        intro he
        exact am_fl_two hlt h hne (List.mem_range.mp hk') hk he hn
      rw [e]
    · rw [if_neg hlt, if_neg hlt, am_up_n (by omega)]
-- the locals
theorem am_hl_at {a : Nat → Nat} {ls : Array Slot} {n : Nat} {L : List AV} (h : am_hl a ls n L) {i : Nat} {v : AV} (hv : L[i]? = some v) (hc : am_one v = true) : ls[i]? = some (.val (am_cv a v)) := h.2.2.2 i v hv hc
def am_lv (a : Nat → Nat) (L : List AV) : List (Nat × Value) := (List.range L.length).filterMap (fun i => match L[i]? with
  | some v => if am_one v = true then some (i, am_cv a v) else none
  | none => none)
theorem am_lv_has {a : Nat → Nat} {ls : Array Slot} {n : Nat} {L : List AV} (h : am_hl a ls n L) : lv_has ls n (am_lv a L) := by
  refine ⟨h.1, h.2.2.1, fun q hq => ?_⟩
  obtain ⟨i, hi, he⟩ := List.mem_filterMap.mp hq
  cases hv : L[i]? with
  | none => rw [hv] at he; cases he
  | some v =>
    rw [hv] at he
    by_cases hc : am_one v = true
    · simp only [hc, if_true] at he
      cases he
      exact h.2.2.2 i v hv hc
    · simp [hc] at he
theorem am_lv_in {a : Nat → Nat} {L : List AV} {i : Nat} {v : AV} (hv : L[i]? = some v) (hc : am_one v = true) : (i, am_cv a v) ∈ am_lv a L := by
  refine List.mem_filterMap.mpr ⟨i, List.mem_range.mpr (List.getElem?_eq_some_iff.mp hv).1, ?_⟩
  rw [hv]
  simp [hc]
theorem am_cat1 {a : Nat → Nat} {v : AV} (hc : am_one v = true) : (am_cv a v).category = 1 := by
  rcases v with z | k | z
  · rfl
  · rfl
  · cases hc
theorem am_hl_set {a : Nat → Nat} {ls : Array Slot} {n k : Nat} {L : List AV} {w : AV} (h : L.length = n)
    (h2 : lv_has ls n ((k, am_cv a w) :: (am_lv a L).filter (fun q => !(q.1 == k) && !(q.1 + 1 == k && q.2.category == 2)))) : am_hl a ls n (L.set k w) := by
  refine ⟨h2.1, by rw [List.length_set]; exact h, h2.2.1, fun i v hv hc => ?_⟩
  by_cases hik : i = k
  · subst hik
    have hlt : i < L.length := by
      have := (List.getElem?_eq_some_iff.mp hv).1
      rwa [List.length_set] at this
    rw [List.getElem?_set_self hlt] at hv
    cases hv
    exact h2.2.2 (i, _) List.mem_cons_self
  · rw [List.getElem?_set_ne (Ne.symm hik)] at hv
    refine h2.2.2 (i, am_cv a v) (List.mem_cons_of_mem _ (List.mem_filter.mpr ⟨am_lv_in hv hc, ?_⟩))
    have hcat := am_cat1 (a := a) hc
    simp [hik, hcat]
theorem am_i8 {x : Int} (h1 : -128 ≤ x) (h2 : x < 128) : (Int8.ofInt x).toInt32 = Int32.ofInt x := by
  rw [← Int32.toInt_inj, Int8.toInt_toInt32, Int8.toInt_ofInt_of_le (by omega) (by omega), am_ofI ⟨by omega, by omega⟩]
theorem am_i16 {x : Int} (h1 : -32768 ≤ x) (h2 : x < 32768) : (Int16.ofInt x).toInt32 = Int32.ofInt x := by
  rw [← Int32.toInt_inj, Int16.toInt_toInt32, Int16.toInt_ofInt_of_le (by omega) (by omega), am_ofI ⟨by omega, by omega⟩]
theorem am_wd_obj {a : Nat → Nat} {cs : Nat → ClassId} {σ : St} {o : Nat} (h : o < 2) : (am_wd a cs σ)[o]? = some (a o, .inr (o, (List.range (am_nf o)).map (am_fv a σ o))) := by
  rw [am_wd_at (by omega)]
  unfold am_cell
  rw [if_pos h]
theorem am_at_lt {j : Nat} (h : am_at j < 3) : 2 ≤ j ∧ j < 27 := by
  have h27 : j < 27 := Nat.not_le.mp (fun q => by
    unfold am_at at h
    rw [List.getD_eq_getElem?_getD, List.getElem?_eq_none (by show _ ≤ j; exact q)] at h
    exact absurd h (by decide))
  refine ⟨Nat.not_lt.mp (fun q => ?_), h27⟩
  rcases (show j = 0 ∨ j = 1 by omega) with rfl | rfl <;> exact absurd h (by decide)
theorem am_ln_all : ∀ v ∈ am_lns, 0 ≤ v ∧ v ≤ 150 := by decide
theorem am_ln_ok {j : Nat} (_h : am_at j < 3) : 0 ≤ am_ln j ∧ am_ln j ≤ 150 := by
  unfold am_ln
  rw [List.getD_eq_getElem?_getD]
  cases hv : am_lns[j]? with
  | none => exact ⟨by decide, by decide⟩
  | some v => exact am_ln_all v (List.mem_of_getElem? hv)
theorem am_wd_ar {a : Nat → Nat} {cs : Nat → ClassId} {σ : St} {j t : Nat} (hj : 2 ≤ j ∧ j < 27) (ha : am_at j = t) (ht : t ≠ 2 := by decide) : (am_wd a cs σ)[j]? = some (a j, .inl (cs (am_at j), (am_ln j).toNat, .inl (fun i => Int32.ofInt (σ j i)))) := by
  rw [am_wd_at hj.2]
  unfold am_cell
  rw [if_neg (by omega), if_neg (by omega)]
theorem am_wd_arL {a : Nat → Nat} {cs : Nat → ClassId} {σ : St} {j : Nat} (hj : 2 ≤ j ∧ j < 27) (ha : am_at j = 2) : (am_wd a cs σ)[j]? = some (a j, .inl (cs (am_at j), (am_ln j).toNat, .inr (.inl (fun i => Int64.ofInt (σ j i))))) := by
  rw [am_wd_at hj.2]
  unfold am_cell
  rw [if_neg (by omega), if_pos ha]
theorem am_wd_arA {a : Nat → Nat} {cs : Nat → ClassId} {σ : St} {j : Nat} (hj : 2 ≤ j ∧ j < 27) : ∃ xx : vp_A, (am_wd a cs σ)[j]? = some (a j, .inl (cs (am_at j), xx)) ∧ xx.1 = (am_ln j).toNat := by
  by_cases h : am_at j = 2
  · exact ⟨_, am_wd_arL hj h, rfl⟩
  · exact ⟨_, am_wd_ar hj rfl h, rfl⟩
theorem am_cell_ar {a : Nat → Nat} {cs : Nat → ClassId} {σ : St} {j t : Nat} {i v : Int} (hj : 2 ≤ j) (ha : am_at j = t) (h0 : 0 ≤ i) (ht : t ≠ 2 := by decide) : am_cell a cs (am_up σ j i v) j = (a j, .inl (cs (am_at j), (am_ln j).toNat, .inl (upd (fun i => Int32.ofInt (σ j i)) i.toNat (Int32.ofInt v)))) := by
  unfold am_cell
  rw [if_neg (by omega), if_neg (by omega), am_up_s]
  congr 5
  funext n
  unfold upd am_u1
  by_cases hn : n = i.toNat
  · rw [if_pos hn, if_pos (by omega)]
  · rw [if_neg hn, if_neg (by omega)]
theorem am_cell_arL {a : Nat → Nat} {cs : Nat → ClassId} {σ : St} {j : Nat} {i v : Int} (hj : 2 ≤ j) (ha : am_at j = 2) (h0 : 0 ≤ i) : am_cell a cs (am_up σ j i v) j = (a j, .inl (cs (am_at j), (am_ln j).toNat, .inr (.inl (vp_updL (fun i => Int64.ofInt (σ j i)) i.toNat (Int64.ofInt v))))) := by
  unfold am_cell
  rw [if_neg (by omega), if_pos ha, am_up_s]
  congr 6
  funext n
  unfold vp_updL am_u1
  by_cases hn : n = i.toNat
  · rw [if_pos hn, if_pos (by omega)]
  · rw [if_neg hn, if_neg (by omega)]
theorem am_nz {v : Int} (h : v = 0 ∨ v = 1) : vp_nar .boolean (Int32.ofInt v) = Int32.ofInt v := by
  rcases h with rfl | rfl <;> rfl
def am_tyOf (t : Nat) : FieldType := if t = 0 then .int else if t = 1 then .boolean else .long
theorem am_ty_at {cs : Nat → ClassId} {j : Nat} (h : am_at j < 3) : (am_ty cs)[am_at j]? = some (cs (am_at j), am_tyOf (am_at j)) := by
  rcases (show am_at j = 0 ∨ am_at j = 1 ∨ am_at j = 2 by omega) with e | e | e <;> rw [e] <;> rfl
theorem am_lcmp {x y : Int} (hx : am_R x) (hy : am_R y) : lg_cmp (Int64.ofInt x) (Int64.ofInt y) = Int32.ofInt (if y < x then 1 else if x = y then 0 else -1) := by
  unfold lg_cmp
  by_cases h : y < x
  · rw [if_pos h, if_pos (show Int64.ofInt y < Int64.ofInt x by rw [Int64.lt_iff_toInt_lt, am_ofJ hx, am_ofJ hy]; exact h)]
    rfl
  · rw [if_neg h, if_neg (show ¬ Int64.ofInt x > Int64.ofInt y by show ¬ Int64.ofInt y < Int64.ofInt x; rw [Int64.lt_iff_toInt_lt, am_ofJ hx, am_ofJ hy]; exact h)]
    by_cases h2 : x = y
    · rw [if_pos h2, if_pos (by rw [h2])]; rfl
    · rw [if_neg h2, if_neg (show ¬ Int64.ofInt x = Int64.ofInt y by rw [← Int64.toInt_inj, am_ofJ hx, am_ofJ hy]; exact h2)]; rfl
theorem am_catsum (a : Nat → Nat) (S : List AV) : ((S.map (am_cv a)).map fun v => v.category).sum ≤ 2 * S.length := by
  induction S with
  | nil => simp
  | cons v S ih =>
    have hv : (am_cv a v).category ≤ 2 := by rcases v with z | k | z <;> simp [am_cv, Value.category]
    simp only [List.map_cons, List.sum_cons, List.length_cons]
    omega
