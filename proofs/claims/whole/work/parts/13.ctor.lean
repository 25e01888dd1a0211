/-! making the two objects: the constructors, walked -/
/-- the state at the start -/
def am_st0 : St := fun k _ => if k = 4 then -1 else 0
theorem ct_oX : Cond.methodLink (am_cC 0) 1 objectInit ∈ lw_tbl := by decide +kernel
theorem ct_oM : Cond.methodLink (am_cC 1) 1 objectInit ∈ lw_tbl := by decide +kernel
theorem ct_oi : Cond.instanceMethod objectInit ∈ lw_tbl := by decide +kernel
theorem ct_oc : Cond.code objectInit ⟨#[0xb1]⟩ 1 none ∈ lw_tbl := by decide +kernel
theorem ct_aI : Cond.arrayClass .int ∈ lw_tbl := by decide +kernel
theorem ct_aZ : Cond.arrayClass .boolean ∈ lw_tbl := by decide +kernel
theorem ct_aL : Cond.arrayClass .long ∈ lw_tbl := by decide +kernel
theorem ct_arr {cA : ClassId} {n : Nat} {f g : Nat → Int32} (h : ∀ j, j < n → f j = g j) : vp_cell cA (n, .inl f) = vp_cell cA (n, .inl g) := by
  rw [vp_cell_i, vp_cell_i]
  unfold arrV
  congr 2
  funext j
  show Value.int (f j.val) = Value.int (g j.val)
  rw [h j.val j.isLt]
theorem ct_dF_0 : decode prog_12_method_103_code 0 = .ok (.iconst 0, 1) := by decide +kernel
theorem ct_dF_1 : decode prog_12_method_103_code 1 = .ok (.istore_n 2, 1) := by decide +kernel
theorem ct_dF_2 : decode prog_12_method_103_code 2 = .ok (.aload_n 0, 1) := by decide +kernel
theorem ct_dF_3 : decode prog_12_method_103_code 3 = .ok (.arraylength, 1) := by decide +kernel
theorem ct_dF_4 : decode prog_12_method_103_code 4 = .ok (.istore_n 3, 1) := by decide +kernel
theorem ct_dF_5 : decode prog_12_method_103_code 5 = .ok (.iload_n 2, 1) := by decide +kernel
theorem ct_dF_6 : decode prog_12_method_103_code 6 = .ok (.iload_n 3, 1) := by decide +kernel
theorem ct_dF_7 : decode prog_12_method_103_code 7 = .ok (.if_icmp .ge 13, 3) := by decide +kernel
theorem ct_dF_10 : decode prog_12_method_103_code 10 = .ok (.aload_n 0, 1) := by decide +kernel
theorem ct_dF_11 : decode prog_12_method_103_code 11 = .ok (.iload_n 2, 1) := by decide +kernel
theorem ct_dF_12 : decode prog_12_method_103_code 12 = .ok (.iload_n 1, 1) := by decide +kernel
theorem ct_dF_13 : decode prog_12_method_103_code 13 = .ok (.iastore, 1) := by decide +kernel
theorem ct_dF_14 : decode prog_12_method_103_code 14 = .ok (.iinc 2 1, 3) := by decide +kernel
theorem ct_dF_17 : decode prog_12_method_103_code 17 = .ok (.goto (-12), 3) := by decide +kernel
theorem ct_dF_20 : decode prog_12_method_103_code 20 = .ok (.return_, 1) := by decide +kernel
def ct_yF : MethodName := ⟨"java/util/Arrays", "fill", "([II)V"⟩
def ct_wF : List Cond := [.code ct_yF prog_12_method_103_code 4 none]
set_option maxHeartbeats 4000000 in
set_option maxRecDepth 100000 in
/-- Arrays.fill of an array of 15 places -/
theorem ct_fill (l : Launch) (D : va_G) (q sz : Nat) (cA : ClassId) (v : Int32) : Met l ct_yF ct_wF ({ frames := 0, cells := 0, slots := 0, locals := 0 }) (va_Pc [.ref q, .int v] (fun U => U.heap.size = sz ∧ va_P D am_cl [(q, .inl (cA, 15, .inl (fun _ => 0)))] U.heap ∧ va_K D am_cl [(cA, .int)] U ∧ va_D (fun _ => True) [(q, .inl (cA, 15, .inl (fun _ => 0)))])) (va_Qv (fun _ : Unit => True) (fun _ t => va_P D am_cl [(q, .inl (cA, 15, .inl (fun _ => v)))] t.heap) (va_A [(q, .inl (cA, 15, .inl (fun _ => 0)))] sz)) 0 0 (va_A [(q, .inl (cA, 15, .inl (fun _ => 0)))] sz) := by
  refine Met.ofW (cc := prog_12_method_103_code) (maxL := 4) (ret := none) (by decide) rfl ?_
  intro p e s m args below meth c s₁ B hml hv
  obtain ⟨rfl, hsz, hP, hK, hD0⟩ := hv
  have hx := B.exec
  have hb := B.bytes
  have hr := B.returns
  have hlocks := B.notSynchronized
  subst hsz
  have hD := hD0.self (sz := s.heap.size)
  generalize hAe : va_A [(q, .inl (cA, 15, .inl (fun _ => 0)))] s.heap.size = A at hD ⊢
  have hS : va_S A s.heap s.heap [] := va_S.rf
  have hl := lv_entry ([.ref q, .int v]) (n := 4) (Nat.le_of_ble_eq_true rfl)
  rw [lg_entry_eq]
  generalize (lg_sl ([.ref q, .int v]) ++ List.replicate (4 - (lg_sl ([.ref q, .int v])).length) Slot.unset).toArray = ls at hl ⊢
  have hl : lv_has ls 4 [(0, .ref q), (1, .int v)] := hl
  have loop : ∀ (d i : Nat), i + d = 15 → ∀ (g : Nat → Int32) (H : Heap) (locs : List Loc) (ls : Array Slot), (∀ j, j < i → g j = v) → va_P D am_cl [(q, .inl (cA, 15, .inl g))] H → va_D A [(q, .inl (cA, 15, .inl g))] → va_S A s.heap H locs → lv_has ls 4 [(0, .ref q), (1, .int v), (2, .int (nI i)), (3, .int 15)] →
      W p l e (headSpec ct_wF { frames := 0, cells := 0, slots := 0, locals := 0 }).room s m [Value.ref q, Value.int v].toArray below meth c H locs 0 0 (MQ below (va_Qv (fun _ : Unit => True) (fun _ t => va_P D am_cl [(q, .inl (cA, 15, .inl (fun _ => v)))] t.heap) A) [Value.ref q, Value.int v].toArray s 0 0 A) (F0 m 5 ls []) := by
    intro d
    induction d with
    | zero =>
      intro i hi g H locs ls hg hP hD hS hl
      refine lv_iload_n hx hb ct_dF_5 rfl (lv_at hl 2 rfl) ?_
      refine lv_iload_n hx hb ct_dF_6 rfl (lv_at hl 3 rfl) ?_
      refine lv_icmp_ge hx hb ct_dF_7 (tgt := 20) (by decide) (fun h => ?_) (fun h => ?_)
      · refine W.vret hx hb hr (fun t ht hW => ⟨⟨(), rfl, trivial, ?_⟩, hS.F ht⟩) hS.2.2 ct_dF_20
        show va_P D am_cl [(q, .inl (cA, 15, .inl (fun _ => v)))] t.heap
        rw [ht]
        intro k z hz
        have h0 := hP k
        match k, hz with
        | 0, hz =>
          cases hz
          have h1 := h0 _ rfl
          show H[q]? = some (vp_cell cA (15, .inl (fun _ => v)))
          rw [← ct_arr (f := g) (fun j hj => hg j (by omega))]
          exact h1
      · exact absurd (show (15 : Int32) ≤ nI i by rw [show i = 15 by omega]; decide) h
    | succ d ih =>
      intro i hi g H locs ls hg hP hD hS hl
      refine lv_iload_n hx hb ct_dF_5 rfl (lv_at hl 2 rfl) ?_
      refine lv_iload_n hx hb ct_dF_6 rfl (lv_at hl 3 rfl) ?_
      refine lv_icmp_ge hx hb ct_dF_7 (tgt := 20) (by decide) (fun h => ?_) (fun h => ?_)
      · exact absurd h (show ¬ nI 15 ≤ nI i from nI_ge (by omega) (by omega))
      · refine lv_aload_n hx hb ct_dF_10 rfl (lv_at hl 0 rfl) ?_
        refine lv_iload_n hx hb ct_dF_11 rfl (lv_at hl 2 rfl) ?_
        refine lv_iload_n hx hb ct_dF_12 rfl (lv_at hl 1 rfl) ?_
        refine va_iast hx hb hK hP hD hS 0 0 rfl rfl (i := nI i) (x := v) (vp_in_nI (by omega) (by omega)) ct_dF_13 (fun H1 locs1 hP hD hS => ?_)
        rw [nI_clamp (by omega)] at hP hD
        refine lv_iinc (k := 2) (v := nI (i + 1)) hx hb ct_dF_14 hl rfl (by rw [nI_succ]; rfl) (by decide) rfl (fun ls' hl' => ?_)
        refine lv_goto hx hb ct_dF_17 (tgt := 5) (by decide) ?_
        refine ih (i + 1) (by omega) (upd g i v) H1 locs1 ls' (fun j hj => ?_) hP hD hS (lv_sub hl' [1, 2, 0, 3] rfl)
        by_cases hji : j = i
        · rw [hji]; exact pk_us
        · rw [pk_un hji]; exact hg j (by omega)
  refine lv_iconst (v := 0) hx hb ct_dF_0 (by decide) ?_
  refine lv_istore_n hx hb ct_dF_1 rfl hl (by decide) rfl (fun ls hl => ?_)
  refine lv_aload_n hx hb ct_dF_2 rfl (lv_at hl 1 rfl) ?_
  refine va_alen hx hb hK hP 0 0 rfl rfl (v := 15) rfl ct_dF_3 ?_
  refine lv_istore_n hx hb ct_dF_4 rfl hl (by decide) rfl (fun ls hl => ?_)
  exact loop 15 0 rfl _ s.heap [] ls (fun j hj => absurd hj (Nat.not_lt_zero j)) hP hD hS (lv_sub hl [2, 3, 1, 0] rfl)
theorem ct_fw : GoodIn am_ws (va_wsS (am_cC 0) 47 ct_yF ct_wF) := by
  refine am_gin (fun w hw => ?_)
  have hall := am_mlS_w (0, 47, 87) (by decide)
  exact am_inw (hall w hw).1 (hall w hw).2
/-! the constructor of SlidingHeap -/
def ct_yX : MethodName := ⟨"SlidingHeap", "<init>", "()V"⟩
def ct_wX : List Cond := .code ct_yX prog_1_method_1_code 1 none :: am_ws
theorem ct_dX_0 : decode prog_1_method_1_code 0 = .ok (.aload_n 0, 1) := by decide +kernel
theorem ct_dX_1 : decode prog_1_method_1_code 1 = .ok (.invokespecial 1, 3) := by decide +kernel
theorem ct_dX_4 : decode prog_1_method_1_code 4 = .ok (.aload_n 0, 1) := by decide +kernel
theorem ct_dX_5 : decode prog_1_method_1_code 5 = .ok (.bipush 90, 2) := by decide +kernel
theorem ct_dX_7 : decode prog_1_method_1_code 7 = .ok (.newarray .int, 2) := by decide +kernel
theorem ct_dX_9 : decode prog_1_method_1_code 9 = .ok (.putfield 9, 3) := by decide +kernel
theorem ct_dX_12 : decode prog_1_method_1_code 12 = .ok (.aload_n 0, 1) := by decide +kernel
theorem ct_dX_13 : decode prog_1_method_1_code 13 = .ok (.bipush 90, 2) := by decide +kernel
theorem ct_dX_15 : decode prog_1_method_1_code 15 = .ok (.newarray .int, 2) := by decide +kernel
theorem ct_dX_17 : decode prog_1_method_1_code 17 = .ok (.putfield 13, 3) := by decide +kernel
theorem ct_dX_20 : decode prog_1_method_1_code 20 = .ok (.aload_n 0, 1) := by decide +kernel
theorem ct_dX_21 : decode prog_1_method_1_code 21 = .ok (.bipush 15, 2) := by decide +kernel
theorem ct_dX_23 : decode prog_1_method_1_code 23 = .ok (.newarray .int, 2) := by decide +kernel
theorem ct_dX_25 : decode prog_1_method_1_code 25 = .ok (.putfield 16, 3) := by decide +kernel
theorem ct_dX_28 : decode prog_1_method_1_code 28 = .ok (.aload_n 0, 1) := by decide +kernel
theorem ct_dX_29 : decode prog_1_method_1_code 29 = .ok (.bipush 15, 2) := by decide +kernel
theorem ct_dX_31 : decode prog_1_method_1_code 31 = .ok (.newarray .int, 2) := by decide +kernel
theorem ct_dX_33 : decode prog_1_method_1_code 33 = .ok (.putfield 19, 3) := by decide +kernel
theorem ct_dX_36 : decode prog_1_method_1_code 36 = .ok (.aload_n 0, 1) := by decide +kernel
theorem ct_dX_37 : decode prog_1_method_1_code 37 = .ok (.bipush 15, 2) := by decide +kernel
theorem ct_dX_39 : decode prog_1_method_1_code 39 = .ok (.newarray .int, 2) := by decide +kernel
theorem ct_dX_41 : decode prog_1_method_1_code 41 = .ok (.putfield 22, 3) := by decide +kernel
theorem ct_dX_44 : decode prog_1_method_1_code 44 = .ok (.aload_n 0, 1) := by decide +kernel
theorem ct_dX_45 : decode prog_1_method_1_code 45 = .ok (.bipush 15, 2) := by decide +kernel
theorem ct_dX_47 : decode prog_1_method_1_code 47 = .ok (.newarray .boolean, 2) := by decide +kernel
theorem ct_dX_49 : decode prog_1_method_1_code 49 = .ok (.putfield 25, 3) := by decide +kernel
theorem ct_dX_52 : decode prog_1_method_1_code 52 = .ok (.aload_n 0, 1) := by decide +kernel
theorem ct_dX_53 : decode prog_1_method_1_code 53 = .ok (.bipush 14, 2) := by decide +kernel
theorem ct_dX_55 : decode prog_1_method_1_code 55 = .ok (.newarray .int, 2) := by decide +kernel
theorem ct_dX_57 : decode prog_1_method_1_code 57 = .ok (.putfield 29, 3) := by decide +kernel
theorem ct_dX_60 : decode prog_1_method_1_code 60 = .ok (.aload_n 0, 1) := by decide +kernel
theorem ct_dX_61 : decode prog_1_method_1_code 61 = .ok (.bipush 10, 2) := by decide +kernel
theorem ct_dX_63 : decode prog_1_method_1_code 63 = .ok (.newarray .int, 2) := by decide +kernel
theorem ct_dX_65 : decode prog_1_method_1_code 65 = .ok (.putfield 32, 3) := by decide +kernel
theorem ct_dX_68 : decode prog_1_method_1_code 68 = .ok (.aload_n 0, 1) := by decide +kernel
theorem ct_dX_69 : decode prog_1_method_1_code 69 = .ok (.bipush 14, 2) := by decide +kernel
theorem ct_dX_71 : decode prog_1_method_1_code 71 = .ok (.newarray .int, 2) := by decide +kernel
theorem ct_dX_73 : decode prog_1_method_1_code 73 = .ok (.putfield 35, 3) := by decide +kernel
theorem ct_dX_76 : decode prog_1_method_1_code 76 = .ok (.aload_n 0, 1) := by decide +kernel
theorem ct_dX_77 : decode prog_1_method_1_code 77 = .ok (.bipush 15, 2) := by decide +kernel
theorem ct_dX_79 : decode prog_1_method_1_code 79 = .ok (.newarray .boolean, 2) := by decide +kernel
theorem ct_dX_81 : decode prog_1_method_1_code 81 = .ok (.putfield 38, 3) := by decide +kernel
theorem ct_dX_84 : decode prog_1_method_1_code 84 = .ok (.aload_n 0, 1) := by decide +kernel
theorem ct_dX_85 : decode prog_1_method_1_code 85 = .ok (.bipush 14, 2) := by decide +kernel
theorem ct_dX_87 : decode prog_1_method_1_code 87 = .ok (.newarray .int, 2) := by decide +kernel
theorem ct_dX_89 : decode prog_1_method_1_code 89 = .ok (.putfield 41, 3) := by decide +kernel
theorem ct_dX_92 : decode prog_1_method_1_code 92 = .ok (.aload_n 0, 1) := by decide +kernel
theorem ct_dX_93 : decode prog_1_method_1_code 93 = .ok (.bipush 15, 2) := by decide +kernel
theorem ct_dX_95 : decode prog_1_method_1_code 95 = .ok (.newarray .int, 2) := by decide +kernel
theorem ct_dX_97 : decode prog_1_method_1_code 97 = .ok (.putfield 44, 3) := by decide +kernel
theorem ct_dX_100 : decode prog_1_method_1_code 100 = .ok (.aload_n 0, 1) := by decide +kernel
theorem ct_dX_101 : decode prog_1_method_1_code 101 = .ok (.getfield 16, 3) := by decide +kernel
theorem ct_dX_104 : decode prog_1_method_1_code 104 = .ok (.iconst (-1), 1) := by decide +kernel
theorem ct_dX_105 : decode prog_1_method_1_code 105 = .ok (.invokestatic 47, 3) := by decide +kernel
theorem ct_dX_108 : decode prog_1_method_1_code 108 = .ok (.return_, 1) := by decide +kernel
/-- the world behind it: the object and its arrays -/
def ct_WX (a : Nat → Nat) (cs : Nat → ClassId) : va_W := ([0, 2, 3, 4, 5, 6, 7, 8, 9, 10, 11, 12, 13] : List Nat).map (am_cell a cs am_st0)
abbrev ct_BX (D : va_G) (A : Nat → Prop) (h0 : Nat) (u : (Nat → Nat) × (Nat → ClassId)) (t : State) : Prop := u.1 0 = h0 ∧ va_P D am_cl (ct_WX u.1 u.2) t.heap ∧ va_K D am_cl [(u.2 0, .int), (u.2 1, .boolean)] t ∧ va_D A (ct_WX u.1 u.2)
set_option maxHeartbeats 4000000 in
set_option maxRecDepth 100000 in
theorem ct_X (l : Launch) (D : va_G) (h0 sz : Nat) : Met l ct_yX ct_wX ({ frames := 1, cells := 12, slots := 322, locals := 23 }) (va_Pc [.ref h0] (fun U => U.heap.size = sz ∧ va_P D am_cl [(h0, .inr (0, [.null, .null, .int 0, .null, .null, .null, .null, .null, .int 0, .null, .int 0, .null, .int 0, .int 0, .null, .null, .int 0, .null]))] U.heap ∧ va_K D am_cl [] U ∧ va_D (fun _ => True) [(h0, .inr (0, [.null, .null, .int 0, .null, .null, .null, .null, .null, .int 0, .null, .int 0, .null, .int 0, .int 0, .null, .null, .int 0, .null]))])) (va_Qv (fun _ : (Nat → Nat) × (Nat → ClassId) => True) (ct_BX D (va_A [(h0, .inr (0, [.null, .null, .int 0, .null, .null, .null, .null, .null, .int 0, .null, .int 0, .null, .int 0, .int 0, .null, .null, .int 0, .null]))] sz) h0) (va_A [(h0, .inr (0, [.null, .null, .int 0, .null, .null, .null, .null, .null, .int 0, .null, .int 0, .null, .int 0, .int 0, .null, .null, .int 0, .null]))] sz)) 12 322 (va_A [(h0, .inr (0, [.null, .null, .int 0, .null, .null, .null, .null, .null, .int 0, .null, .int 0, .null, .int 0, .int 0, .null, .null, .int 0, .null]))] sz) := by
  refine Met.ofW (cc := prog_1_method_1_code) (maxL := 1) (ret := none) (by decide) rfl ?_
  intro p e s m args below meth c s₁ B hml hv
  obtain ⟨rfl, hsz, hP, hK, hD0⟩ := hv
  have hx := B.exec
  have hb := B.bytes
  have hr := B.returns
  have hts0 := atoms_spec (ws := ct_wX) B.pre
  have hts : ∀ w ∈ am_ws, w.before _ s = true := fun w hw => hts0 w (List.mem_cons_of_mem _ hw)
  have hown : s.vm.findClass (am_cC 0) = some m.cls := findClass_of_methodNamed B.named
  have hlocks := B.notSynchronized
  have hin : meth.name = "<init>" := (name_of_methodNamed B.named B.method).1
  subst hsz
  have hD := hD0.self (sz := s.heap.size)
  generalize hAe : va_A [(h0, .inr (0, [.null, .null, .int 0, .null, .null, .null, .null, .null, .int 0, .null, .int 0, .null, .int 0, .int 0, .null, .null, .int 0, .null]))] s.heap.size = A at hD ⊢
  have hA : ∀ q : Nat, s.heap.size ≤ q → A q := fun q h => by rw [← hAe]; exact Or.inr h
  have hS : va_S A s.heap s.heap [] := va_S.rf
  have hl := lv_entry ([.ref h0]) (n := 1) (Nat.le_of_ble_eq_true rfl)
  rw [lg_entry_eq]
  generalize (lg_sl ([.ref h0]) ++ List.replicate (1 - (lg_sl ([.ref h0])).length) Slot.unset).toArray = ls at hl ⊢
  have hl : lv_has ls 1 [(0, .ref h0)] := hl
  refine lv_aload_n hx hb ct_dX_0 rfl (lv_at hl 0 rfl) ?_
  refine W.objInit hx hb hown (hts _ (am_inw ct_oX rfl)) (hts _ (am_inw ct_oi rfl)) (hts _ (am_inw ct_oc rfl)) rfl (by rw [hml]; exact hl.1) rfl ct_dX_1 (Nat.le_of_ble_eq_true rfl) (Nat.le_of_ble_eq_true rfl) ?_
  refine W.eq (g2 := F0 m 4 ls []) rfl ?_
  refine lv_aload_n hx hb ct_dX_4 rfl (lv_at hl 0 rfl) ?_
  refine lv_bipush (v := 90) hx hb ct_dX_5 (by decide) ?_
  refine va_newa (atype := .int) (ty := .int) (a0 := (90, .inl (fun _ => 0))) hx hb (hts _ (am_inw ct_aI rfl)) rfl hK hP hD hS hA (fun cA => rfl) (by decide) rfl (by decide) (by show 0 + 1 ≤ 12; decide) (by show 0 + 90 ≤ 322; decide) ct_dX_7 (fun q0 c0 H hK hP hD hS => ?_)
  have hP : va_P D am_cl [(h0, .inr (0, [.null, .null, .int 0, .null, .null, .null, .null, .null, .int 0, .null, .int 0, .null, .int 0, .int 0, .null, .null, .int 0, .null])), (q0, .inl (c0, 90, .inl (fun _ => 0)))] H := hP
  have hD : va_D A [(h0, .inr (0, [.null, .null, .int 0, .null, .null, .null, .null, .null, .int 0, .null, .int 0, .null, .int 0, .int 0, .null, .null, .int 0, .null])), (q0, .inl (c0, 90, .inl (fun _ => 0)))] := hD
  refine W.widen (k := 1) (n := 90) (by decide) (by decide) ?_
  refine va_putF (D := D) (ci := 0) (v := .ref q0) (ty := am_cY 0 0) (C := am_cC 0) (T := am_cT 0) (N := am_nf 0) hx hb hts (am_fin (by decide)) (am_cY 0) (am_cY_ok0 0 (by decide)) (am_nm0 0 (by decide)) hown hK hP hD hS 0 rfl rfl 0 (by decide) (hts _ (am_flk_in (o := 0) (k := 0) (by decide) (by decide))) (fun _ h9 => h9) rfl hin rfl (am_cY_ok0 0 (by decide) 0 (by decide)) rfl rfl (Nat.le_of_ble_eq_true rfl) ct_dX_9 (fun H locs hP hD hS => ?_)
  have hP : va_P D am_cl [(h0, .inr (0, [.ref q0, .null, .int 0, .null, .null, .null, .null, .null, .int 0, .null, .int 0, .null, .int 0, .int 0, .null, .null, .int 0, .null])), (q0, .inl (c0, 90, .inl (fun _ => 0)))] H := hP
  have hD : va_D A [(h0, .inr (0, [.ref q0, .null, .int 0, .null, .null, .null, .null, .null, .int 0, .null, .int 0, .null, .int 0, .int 0, .null, .null, .int 0, .null])), (q0, .inl (c0, 90, .inl (fun _ => 0)))] := hD
  refine lv_aload_n hx hb ct_dX_12 rfl (lv_at hl 0 rfl) ?_
  refine lv_bipush (v := 90) hx hb ct_dX_13 (by decide) ?_
  refine va_newa (atype := .int) (ty := .int) (a0 := (90, .inl (fun _ => 0))) hx hb (hts _ (am_inw ct_aI rfl)) rfl hK hP hD hS hA (fun cA => rfl) (by decide) rfl (by decide) (by show 1 + 1 ≤ 12; decide) (by show 90 + 90 ≤ 322; decide) ct_dX_15 (fun q1 c1 H hK hP hD hS => ?_)
  have hP : va_P D am_cl [(h0, .inr (0, [.ref q0, .null, .int 0, .null, .null, .null, .null, .null, .int 0, .null, .int 0, .null, .int 0, .int 0, .null, .null, .int 0, .null])), (q0, .inl (c0, 90, .inl (fun _ => 0))), (q1, .inl (c1, 90, .inl (fun _ => 0)))] H := hP
  have hD : va_D A [(h0, .inr (0, [.ref q0, .null, .int 0, .null, .null, .null, .null, .null, .int 0, .null, .int 0, .null, .int 0, .int 0, .null, .null, .int 0, .null])), (q0, .inl (c0, 90, .inl (fun _ => 0))), (q1, .inl (c1, 90, .inl (fun _ => 0)))] := hD
  refine W.widen (k := 2) (n := 180) (by decide) (by decide) ?_
  refine va_putF (D := D) (ci := 0) (v := .ref q1) (ty := am_cY 0 1) (C := am_cC 0) (T := am_cT 0) (N := am_nf 0) hx hb hts (am_fin (by decide)) (am_cY 0) (am_cY_ok0 0 (by decide)) (am_nm0 0 (by decide)) hown hK hP hD hS 0 rfl rfl 1 (by decide) (hts _ (am_flk_in (o := 0) (k := 1) (by decide) (by decide))) (fun _ h9 => h9) rfl hin rfl (am_cY_ok0 0 (by decide) 1 (by decide)) rfl rfl (Nat.le_of_ble_eq_true rfl) ct_dX_17 (fun H locs hP hD hS => ?_)
  have hP : va_P D am_cl [(h0, .inr (0, [.ref q0, .ref q1, .int 0, .null, .null, .null, .null, .null, .int 0, .null, .int 0, .null, .int 0, .int 0, .null, .null, .int 0, .null])), (q0, .inl (c0, 90, .inl (fun _ => 0))), (q1, .inl (c1, 90, .inl (fun _ => 0)))] H := hP
  have hD : va_D A [(h0, .inr (0, [.ref q0, .ref q1, .int 0, .null, .null, .null, .null, .null, .int 0, .null, .int 0, .null, .int 0, .int 0, .null, .null, .int 0, .null])), (q0, .inl (c0, 90, .inl (fun _ => 0))), (q1, .inl (c1, 90, .inl (fun _ => 0)))] := hD
  refine lv_aload_n hx hb ct_dX_20 rfl (lv_at hl 0 rfl) ?_
  refine lv_bipush (v := 15) hx hb ct_dX_21 (by decide) ?_
  refine va_newa (atype := .int) (ty := .int) (a0 := (15, .inl (fun _ => 0))) hx hb (hts _ (am_inw ct_aI rfl)) rfl hK hP hD hS hA (fun cA => rfl) (by decide) rfl (by decide) (by show 2 + 1 ≤ 12; decide) (by show 180 + 15 ≤ 322; decide) ct_dX_23 (fun q2 c2 H hK hP hD hS => ?_)
  have hP : va_P D am_cl [(h0, .inr (0, [.ref q0, .ref q1, .int 0, .null, .null, .null, .null, .null, .int 0, .null, .int 0, .null, .int 0, .int 0, .null, .null, .int 0, .null])), (q0, .inl (c0, 90, .inl (fun _ => 0))), (q1, .inl (c1, 90, .inl (fun _ => 0))), (q2, .inl (c2, 15, .inl (fun _ => 0)))] H := hP
  have hD : va_D A [(h0, .inr (0, [.ref q0, .ref q1, .int 0, .null, .null, .null, .null, .null, .int 0, .null, .int 0, .null, .int 0, .int 0, .null, .null, .int 0, .null])), (q0, .inl (c0, 90, .inl (fun _ => 0))), (q1, .inl (c1, 90, .inl (fun _ => 0))), (q2, .inl (c2, 15, .inl (fun _ => 0)))] := hD
  refine W.widen (k := 3) (n := 195) (by decide) (by decide) ?_
  refine va_putF (D := D) (ci := 0) (v := .ref q2) (ty := am_cY 0 3) (C := am_cC 0) (T := am_cT 0) (N := am_nf 0) hx hb hts (am_fin (by decide)) (am_cY 0) (am_cY_ok0 0 (by decide)) (am_nm0 0 (by decide)) hown hK hP hD hS 0 rfl rfl 3 (by decide) (hts _ (am_flk_in (o := 0) (k := 3) (by decide) (by decide))) (fun _ h9 => h9) rfl hin rfl (am_cY_ok0 0 (by decide) 3 (by decide)) rfl rfl (Nat.le_of_ble_eq_true rfl) ct_dX_25 (fun H locs hP hD hS => ?_)
  have hP : va_P D am_cl [(h0, .inr (0, [.ref q0, .ref q1, .int 0, .ref q2, .null, .null, .null, .null, .int 0, .null, .int 0, .null, .int 0, .int 0, .null, .null, .int 0, .null])), (q0, .inl (c0, 90, .inl (fun _ => 0))), (q1, .inl (c1, 90, .inl (fun _ => 0))), (q2, .inl (c2, 15, .inl (fun _ => 0)))] H := hP
  have hD : va_D A [(h0, .inr (0, [.ref q0, .ref q1, .int 0, .ref q2, .null, .null, .null, .null, .int 0, .null, .int 0, .null, .int 0, .int 0, .null, .null, .int 0, .null])), (q0, .inl (c0, 90, .inl (fun _ => 0))), (q1, .inl (c1, 90, .inl (fun _ => 0))), (q2, .inl (c2, 15, .inl (fun _ => 0)))] := hD
  refine lv_aload_n hx hb ct_dX_28 rfl (lv_at hl 0 rfl) ?_
  refine lv_bipush (v := 15) hx hb ct_dX_29 (by decide) ?_
  refine va_newa (atype := .int) (ty := .int) (a0 := (15, .inl (fun _ => 0))) hx hb (hts _ (am_inw ct_aI rfl)) rfl hK hP hD hS hA (fun cA => rfl) (by decide) rfl (by decide) (by show 3 + 1 ≤ 12; decide) (by show 195 + 15 ≤ 322; decide) ct_dX_31 (fun q3 c3 H hK hP hD hS => ?_)
  have hP : va_P D am_cl [(h0, .inr (0, [.ref q0, .ref q1, .int 0, .ref q2, .null, .null, .null, .null, .int 0, .null, .int 0, .null, .int 0, .int 0, .null, .null, .int 0, .null])), (q0, .inl (c0, 90, .inl (fun _ => 0))), (q1, .inl (c1, 90, .inl (fun _ => 0))), (q2, .inl (c2, 15, .inl (fun _ => 0))), (q3, .inl (c3, 15, .inl (fun _ => 0)))] H := hP
  have hD : va_D A [(h0, .inr (0, [.ref q0, .ref q1, .int 0, .ref q2, .null, .null, .null, .null, .int 0, .null, .int 0, .null, .int 0, .int 0, .null, .null, .int 0, .null])), (q0, .inl (c0, 90, .inl (fun _ => 0))), (q1, .inl (c1, 90, .inl (fun _ => 0))), (q2, .inl (c2, 15, .inl (fun _ => 0))), (q3, .inl (c3, 15, .inl (fun _ => 0)))] := hD
  refine W.widen (k := 4) (n := 210) (by decide) (by decide) ?_
  refine va_putF (D := D) (ci := 0) (v := .ref q3) (ty := am_cY 0 4) (C := am_cC 0) (T := am_cT 0) (N := am_nf 0) hx hb hts (am_fin (by decide)) (am_cY 0) (am_cY_ok0 0 (by decide)) (am_nm0 0 (by decide)) hown hK hP hD hS 0 rfl rfl 4 (by decide) (hts _ (am_flk_in (o := 0) (k := 4) (by decide) (by decide))) (fun _ h9 => h9) rfl hin rfl (am_cY_ok0 0 (by decide) 4 (by decide)) rfl rfl (Nat.le_of_ble_eq_true rfl) ct_dX_33 (fun H locs hP hD hS => ?_)
  have hP : va_P D am_cl [(h0, .inr (0, [.ref q0, .ref q1, .int 0, .ref q2, .ref q3, .null, .null, .null, .int 0, .null, .int 0, .null, .int 0, .int 0, .null, .null, .int 0, .null])), (q0, .inl (c0, 90, .inl (fun _ => 0))), (q1, .inl (c1, 90, .inl (fun _ => 0))), (q2, .inl (c2, 15, .inl (fun _ => 0))), (q3, .inl (c3, 15, .inl (fun _ => 0)))] H := hP
  have hD : va_D A [(h0, .inr (0, [.ref q0, .ref q1, .int 0, .ref q2, .ref q3, .null, .null, .null, .int 0, .null, .int 0, .null, .int 0, .int 0, .null, .null, .int 0, .null])), (q0, .inl (c0, 90, .inl (fun _ => 0))), (q1, .inl (c1, 90, .inl (fun _ => 0))), (q2, .inl (c2, 15, .inl (fun _ => 0))), (q3, .inl (c3, 15, .inl (fun _ => 0)))] := hD
  refine lv_aload_n hx hb ct_dX_36 rfl (lv_at hl 0 rfl) ?_
  refine lv_bipush (v := 15) hx hb ct_dX_37 (by decide) ?_
  refine va_newa (atype := .int) (ty := .int) (a0 := (15, .inl (fun _ => 0))) hx hb (hts _ (am_inw ct_aI rfl)) rfl hK hP hD hS hA (fun cA => rfl) (by decide) rfl (by decide) (by show 4 + 1 ≤ 12; decide) (by show 210 + 15 ≤ 322; decide) ct_dX_39 (fun q4 c4 H hK hP hD hS => ?_)
  have hP : va_P D am_cl [(h0, .inr (0, [.ref q0, .ref q1, .int 0, .ref q2, .ref q3, .null, .null, .null, .int 0, .null, .int 0, .null, .int 0, .int 0, .null, .null, .int 0, .null])), (q0, .inl (c0, 90, .inl (fun _ => 0))), (q1, .inl (c1, 90, .inl (fun _ => 0))), (q2, .inl (c2, 15, .inl (fun _ => 0))), (q3, .inl (c3, 15, .inl (fun _ => 0))), (q4, .inl (c4, 15, .inl (fun _ => 0)))] H := hP
  have hD : va_D A [(h0, .inr (0, [.ref q0, .ref q1, .int 0, .ref q2, .ref q3, .null, .null, .null, .int 0, .null, .int 0, .null, .int 0, .int 0, .null, .null, .int 0, .null])), (q0, .inl (c0, 90, .inl (fun _ => 0))), (q1, .inl (c1, 90, .inl (fun _ => 0))), (q2, .inl (c2, 15, .inl (fun _ => 0))), (q3, .inl (c3, 15, .inl (fun _ => 0))), (q4, .inl (c4, 15, .inl (fun _ => 0)))] := hD
  refine W.widen (k := 5) (n := 225) (by decide) (by decide) ?_
  refine va_putF (D := D) (ci := 0) (v := .ref q4) (ty := am_cY 0 5) (C := am_cC 0) (T := am_cT 0) (N := am_nf 0) hx hb hts (am_fin (by decide)) (am_cY 0) (am_cY_ok0 0 (by decide)) (am_nm0 0 (by decide)) hown hK hP hD hS 0 rfl rfl 5 (by decide) (hts _ (am_flk_in (o := 0) (k := 5) (by decide) (by decide))) (fun _ h9 => h9) rfl hin rfl (am_cY_ok0 0 (by decide) 5 (by decide)) rfl rfl (Nat.le_of_ble_eq_true rfl) ct_dX_41 (fun H locs hP hD hS => ?_)
  have hP : va_P D am_cl [(h0, .inr (0, [.ref q0, .ref q1, .int 0, .ref q2, .ref q3, .ref q4, .null, .null, .int 0, .null, .int 0, .null, .int 0, .int 0, .null, .null, .int 0, .null])), (q0, .inl (c0, 90, .inl (fun _ => 0))), (q1, .inl (c1, 90, .inl (fun _ => 0))), (q2, .inl (c2, 15, .inl (fun _ => 0))), (q3, .inl (c3, 15, .inl (fun _ => 0))), (q4, .inl (c4, 15, .inl (fun _ => 0)))] H := hP
  have hD : va_D A [(h0, .inr (0, [.ref q0, .ref q1, .int 0, .ref q2, .ref q3, .ref q4, .null, .null, .int 0, .null, .int 0, .null, .int 0, .int 0, .null, .null, .int 0, .null])), (q0, .inl (c0, 90, .inl (fun _ => 0))), (q1, .inl (c1, 90, .inl (fun _ => 0))), (q2, .inl (c2, 15, .inl (fun _ => 0))), (q3, .inl (c3, 15, .inl (fun _ => 0))), (q4, .inl (c4, 15, .inl (fun _ => 0)))] := hD
  refine lv_aload_n hx hb ct_dX_44 rfl (lv_at hl 0 rfl) ?_
  refine lv_bipush (v := 15) hx hb ct_dX_45 (by decide) ?_
  refine va_newa (atype := .boolean) (ty := .boolean) (a0 := (15, .inl (fun _ => 0))) hx hb (hts _ (am_inw ct_aZ rfl)) rfl hK hP hD hS hA (fun cA => rfl) (by decide) rfl (by decide) (by show 5 + 1 ≤ 12; decide) (by show 225 + 15 ≤ 322; decide) ct_dX_47 (fun q5 c5 H hK hP hD hS => ?_)
  have hP : va_P D am_cl [(h0, .inr (0, [.ref q0, .ref q1, .int 0, .ref q2, .ref q3, .ref q4, .null, .null, .int 0, .null, .int 0, .null, .int 0, .int 0, .null, .null, .int 0, .null])), (q0, .inl (c0, 90, .inl (fun _ => 0))), (q1, .inl (c1, 90, .inl (fun _ => 0))), (q2, .inl (c2, 15, .inl (fun _ => 0))), (q3, .inl (c3, 15, .inl (fun _ => 0))), (q4, .inl (c4, 15, .inl (fun _ => 0))), (q5, .inl (c5, 15, .inl (fun _ => 0)))] H := hP
  have hD : va_D A [(h0, .inr (0, [.ref q0, .ref q1, .int 0, .ref q2, .ref q3, .ref q4, .null, .null, .int 0, .null, .int 0, .null, .int 0, .int 0, .null, .null, .int 0, .null])), (q0, .inl (c0, 90, .inl (fun _ => 0))), (q1, .inl (c1, 90, .inl (fun _ => 0))), (q2, .inl (c2, 15, .inl (fun _ => 0))), (q3, .inl (c3, 15, .inl (fun _ => 0))), (q4, .inl (c4, 15, .inl (fun _ => 0))), (q5, .inl (c5, 15, .inl (fun _ => 0)))] := hD
  refine W.widen (k := 6) (n := 240) (by decide) (by decide) ?_
  refine va_putF (D := D) (ci := 0) (v := .ref q5) (ty := am_cY 0 6) (C := am_cC 0) (T := am_cT 0) (N := am_nf 0) hx hb hts (am_fin (by decide)) (am_cY 0) (am_cY_ok0 0 (by decide)) (am_nm0 0 (by decide)) hown hK hP hD hS 0 rfl rfl 6 (by decide) (hts _ (am_flk_in (o := 0) (k := 6) (by decide) (by decide))) (fun _ h9 => h9) rfl hin rfl (am_cY_ok0 0 (by decide) 6 (by decide)) rfl rfl (Nat.le_of_ble_eq_true rfl) ct_dX_49 (fun H locs hP hD hS => ?_)
  have hP : va_P D am_cl [(h0, .inr (0, [.ref q0, .ref q1, .int 0, .ref q2, .ref q3, .ref q4, .ref q5, .null, .int 0, .null, .int 0, .null, .int 0, .int 0, .null, .null, .int 0, .null])), (q0, .inl (c0, 90, .inl (fun _ => 0))), (q1, .inl (c1, 90, .inl (fun _ => 0))), (q2, .inl (c2, 15, .inl (fun _ => 0))), (q3, .inl (c3, 15, .inl (fun _ => 0))), (q4, .inl (c4, 15, .inl (fun _ => 0))), (q5, .inl (c5, 15, .inl (fun _ => 0)))] H := hP
  have hD : va_D A [(h0, .inr (0, [.ref q0, .ref q1, .int 0, .ref q2, .ref q3, .ref q4, .ref q5, .null, .int 0, .null, .int 0, .null, .int 0, .int 0, .null, .null, .int 0, .null])), (q0, .inl (c0, 90, .inl (fun _ => 0))), (q1, .inl (c1, 90, .inl (fun _ => 0))), (q2, .inl (c2, 15, .inl (fun _ => 0))), (q3, .inl (c3, 15, .inl (fun _ => 0))), (q4, .inl (c4, 15, .inl (fun _ => 0))), (q5, .inl (c5, 15, .inl (fun _ => 0)))] := hD
  refine lv_aload_n hx hb ct_dX_52 rfl (lv_at hl 0 rfl) ?_
  refine lv_bipush (v := 14) hx hb ct_dX_53 (by decide) ?_
  refine va_newa (atype := .int) (ty := .int) (a0 := (14, .inl (fun _ => 0))) hx hb (hts _ (am_inw ct_aI rfl)) rfl hK hP hD hS hA (fun cA => rfl) (by decide) rfl (by decide) (by show 6 + 1 ≤ 12; decide) (by show 240 + 14 ≤ 322; decide) ct_dX_55 (fun q6 c6 H hK hP hD hS => ?_)
  have hP : va_P D am_cl [(h0, .inr (0, [.ref q0, .ref q1, .int 0, .ref q2, .ref q3, .ref q4, .ref q5, .null, .int 0, .null, .int 0, .null, .int 0, .int 0, .null, .null, .int 0, .null])), (q0, .inl (c0, 90, .inl (fun _ => 0))), (q1, .inl (c1, 90, .inl (fun _ => 0))), (q2, .inl (c2, 15, .inl (fun _ => 0))), (q3, .inl (c3, 15, .inl (fun _ => 0))), (q4, .inl (c4, 15, .inl (fun _ => 0))), (q5, .inl (c5, 15, .inl (fun _ => 0))), (q6, .inl (c6, 14, .inl (fun _ => 0)))] H := hP
  have hD : va_D A [(h0, .inr (0, [.ref q0, .ref q1, .int 0, .ref q2, .ref q3, .ref q4, .ref q5, .null, .int 0, .null, .int 0, .null, .int 0, .int 0, .null, .null, .int 0, .null])), (q0, .inl (c0, 90, .inl (fun _ => 0))), (q1, .inl (c1, 90, .inl (fun _ => 0))), (q2, .inl (c2, 15, .inl (fun _ => 0))), (q3, .inl (c3, 15, .inl (fun _ => 0))), (q4, .inl (c4, 15, .inl (fun _ => 0))), (q5, .inl (c5, 15, .inl (fun _ => 0))), (q6, .inl (c6, 14, .inl (fun _ => 0)))] := hD
  refine W.widen (k := 7) (n := 254) (by decide) (by decide) ?_
  refine va_putF (D := D) (ci := 0) (v := .ref q6) (ty := am_cY 0 7) (C := am_cC 0) (T := am_cT 0) (N := am_nf 0) hx hb hts (am_fin (by decide)) (am_cY 0) (am_cY_ok0 0 (by decide)) (am_nm0 0 (by decide)) hown hK hP hD hS 0 rfl rfl 7 (by decide) (hts _ (am_flk_in (o := 0) (k := 7) (by decide) (by decide))) (fun _ h9 => h9) rfl hin rfl (am_cY_ok0 0 (by decide) 7 (by decide)) rfl rfl (Nat.le_of_ble_eq_true rfl) ct_dX_57 (fun H locs hP hD hS => ?_)
  have hP : va_P D am_cl [(h0, .inr (0, [.ref q0, .ref q1, .int 0, .ref q2, .ref q3, .ref q4, .ref q5, .ref q6, .int 0, .null, .int 0, .null, .int 0, .int 0, .null, .null, .int 0, .null])), (q0, .inl (c0, 90, .inl (fun _ => 0))), (q1, .inl (c1, 90, .inl (fun _ => 0))), (q2, .inl (c2, 15, .inl (fun _ => 0))), (q3, .inl (c3, 15, .inl (fun _ => 0))), (q4, .inl (c4, 15, .inl (fun _ => 0))), (q5, .inl (c5, 15, .inl (fun _ => 0))), (q6, .inl (c6, 14, .inl (fun _ => 0)))] H := hP
  have hD : va_D A [(h0, .inr (0, [.ref q0, .ref q1, .int 0, .ref q2, .ref q3, .ref q4, .ref q5, .ref q6, .int 0, .null, .int 0, .null, .int 0, .int 0, .null, .null, .int 0, .null])), (q0, .inl (c0, 90, .inl (fun _ => 0))), (q1, .inl (c1, 90, .inl (fun _ => 0))), (q2, .inl (c2, 15, .inl (fun _ => 0))), (q3, .inl (c3, 15, .inl (fun _ => 0))), (q4, .inl (c4, 15, .inl (fun _ => 0))), (q5, .inl (c5, 15, .inl (fun _ => 0))), (q6, .inl (c6, 14, .inl (fun _ => 0)))] := hD
  refine lv_aload_n hx hb ct_dX_60 rfl (lv_at hl 0 rfl) ?_
  refine lv_bipush (v := 10) hx hb ct_dX_61 (by decide) ?_
  refine va_newa (atype := .int) (ty := .int) (a0 := (10, .inl (fun _ => 0))) hx hb (hts _ (am_inw ct_aI rfl)) rfl hK hP hD hS hA (fun cA => rfl) (by decide) rfl (by decide) (by show 7 + 1 ≤ 12; decide) (by show 254 + 10 ≤ 322; decide) ct_dX_63 (fun q7 c7 H hK hP hD hS => ?_)
  have hP : va_P D am_cl [(h0, .inr (0, [.ref q0, .ref q1, .int 0, .ref q2, .ref q3, .ref q4, .ref q5, .ref q6, .int 0, .null, .int 0, .null, .int 0, .int 0, .null, .null, .int 0, .null])), (q0, .inl (c0, 90, .inl (fun _ => 0))), (q1, .inl (c1, 90, .inl (fun _ => 0))), (q2, .inl (c2, 15, .inl (fun _ => 0))), (q3, .inl (c3, 15, .inl (fun _ => 0))), (q4, .inl (c4, 15, .inl (fun _ => 0))), (q5, .inl (c5, 15, .inl (fun _ => 0))), (q6, .inl (c6, 14, .inl (fun _ => 0))), (q7, .inl (c7, 10, .inl (fun _ => 0)))] H := hP
  have hD : va_D A [(h0, .inr (0, [.ref q0, .ref q1, .int 0, .ref q2, .ref q3, .ref q4, .ref q5, .ref q6, .int 0, .null, .int 0, .null, .int 0, .int 0, .null, .null, .int 0, .null])), (q0, .inl (c0, 90, .inl (fun _ => 0))), (q1, .inl (c1, 90, .inl (fun _ => 0))), (q2, .inl (c2, 15, .inl (fun _ => 0))), (q3, .inl (c3, 15, .inl (fun _ => 0))), (q4, .inl (c4, 15, .inl (fun _ => 0))), (q5, .inl (c5, 15, .inl (fun _ => 0))), (q6, .inl (c6, 14, .inl (fun _ => 0))), (q7, .inl (c7, 10, .inl (fun _ => 0)))] := hD
  refine W.widen (k := 8) (n := 264) (by decide) (by decide) ?_
  refine va_putF (D := D) (ci := 0) (v := .ref q7) (ty := am_cY 0 9) (C := am_cC 0) (T := am_cT 0) (N := am_nf 0) hx hb hts (am_fin (by decide)) (am_cY 0) (am_cY_ok0 0 (by decide)) (am_nm0 0 (by decide)) hown hK hP hD hS 0 rfl rfl 9 (by decide) (hts _ (am_flk_in (o := 0) (k := 9) (by decide) (by decide))) (fun _ h9 => h9) rfl hin rfl (am_cY_ok0 0 (by decide) 9 (by decide)) rfl rfl (Nat.le_of_ble_eq_true rfl) ct_dX_65 (fun H locs hP hD hS => ?_)
  have hP : va_P D am_cl [(h0, .inr (0, [.ref q0, .ref q1, .int 0, .ref q2, .ref q3, .ref q4, .ref q5, .ref q6, .int 0, .ref q7, .int 0, .null, .int 0, .int 0, .null, .null, .int 0, .null])), (q0, .inl (c0, 90, .inl (fun _ => 0))), (q1, .inl (c1, 90, .inl (fun _ => 0))), (q2, .inl (c2, 15, .inl (fun _ => 0))), (q3, .inl (c3, 15, .inl (fun _ => 0))), (q4, .inl (c4, 15, .inl (fun _ => 0))), (q5, .inl (c5, 15, .inl (fun _ => 0))), (q6, .inl (c6, 14, .inl (fun _ => 0))), (q7, .inl (c7, 10, .inl (fun _ => 0)))] H := hP
  have hD : va_D A [(h0, .inr (0, [.ref q0, .ref q1, .int 0, .ref q2, .ref q3, .ref q4, .ref q5, .ref q6, .int 0, .ref q7, .int 0, .null, .int 0, .int 0, .null, .null, .int 0, .null])), (q0, .inl (c0, 90, .inl (fun _ => 0))), (q1, .inl (c1, 90, .inl (fun _ => 0))), (q2, .inl (c2, 15, .inl (fun _ => 0))), (q3, .inl (c3, 15, .inl (fun _ => 0))), (q4, .inl (c4, 15, .inl (fun _ => 0))), (q5, .inl (c5, 15, .inl (fun _ => 0))), (q6, .inl (c6, 14, .inl (fun _ => 0))), (q7, .inl (c7, 10, .inl (fun _ => 0)))] := hD
  refine lv_aload_n hx hb ct_dX_68 rfl (lv_at hl 0 rfl) ?_
  refine lv_bipush (v := 14) hx hb ct_dX_69 (by decide) ?_
  refine va_newa (atype := .int) (ty := .int) (a0 := (14, .inl (fun _ => 0))) hx hb (hts _ (am_inw ct_aI rfl)) rfl hK hP hD hS hA (fun cA => rfl) (by decide) rfl (by decide) (by show 8 + 1 ≤ 12; decide) (by show 264 + 14 ≤ 322; decide) ct_dX_71 (fun q8 c8 H hK hP hD hS => ?_)
  have hP : va_P D am_cl [(h0, .inr (0, [.ref q0, .ref q1, .int 0, .ref q2, .ref q3, .ref q4, .ref q5, .ref q6, .int 0, .ref q7, .int 0, .null, .int 0, .int 0, .null, .null, .int 0, .null])), (q0, .inl (c0, 90, .inl (fun _ => 0))), (q1, .inl (c1, 90, .inl (fun _ => 0))), (q2, .inl (c2, 15, .inl (fun _ => 0))), (q3, .inl (c3, 15, .inl (fun _ => 0))), (q4, .inl (c4, 15, .inl (fun _ => 0))), (q5, .inl (c5, 15, .inl (fun _ => 0))), (q6, .inl (c6, 14, .inl (fun _ => 0))), (q7, .inl (c7, 10, .inl (fun _ => 0))), (q8, .inl (c8, 14, .inl (fun _ => 0)))] H := hP
  have hD : va_D A [(h0, .inr (0, [.ref q0, .ref q1, .int 0, .ref q2, .ref q3, .ref q4, .ref q5, .ref q6, .int 0, .ref q7, .int 0, .null, .int 0, .int 0, .null, .null, .int 0, .null])), (q0, .inl (c0, 90, .inl (fun _ => 0))), (q1, .inl (c1, 90, .inl (fun _ => 0))), (q2, .inl (c2, 15, .inl (fun _ => 0))), (q3, .inl (c3, 15, .inl (fun _ => 0))), (q4, .inl (c4, 15, .inl (fun _ => 0))), (q5, .inl (c5, 15, .inl (fun _ => 0))), (q6, .inl (c6, 14, .inl (fun _ => 0))), (q7, .inl (c7, 10, .inl (fun _ => 0))), (q8, .inl (c8, 14, .inl (fun _ => 0)))] := hD
  refine W.widen (k := 9) (n := 278) (by decide) (by decide) ?_
  refine va_putF (D := D) (ci := 0) (v := .ref q8) (ty := am_cY 0 11) (C := am_cC 0) (T := am_cT 0) (N := am_nf 0) hx hb hts (am_fin (by decide)) (am_cY 0) (am_cY_ok0 0 (by decide)) (am_nm0 0 (by decide)) hown hK hP hD hS 0 rfl rfl 11 (by decide) (hts _ (am_flk_in (o := 0) (k := 11) (by decide) (by decide))) (fun _ h9 => h9) rfl hin rfl (am_cY_ok0 0 (by decide) 11 (by decide)) rfl rfl (Nat.le_of_ble_eq_true rfl) ct_dX_73 (fun H locs hP hD hS => ?_)
  have hP : va_P D am_cl [(h0, .inr (0, [.ref q0, .ref q1, .int 0, .ref q2, .ref q3, .ref q4, .ref q5, .ref q6, .int 0, .ref q7, .int 0, .ref q8, .int 0, .int 0, .null, .null, .int 0, .null])), (q0, .inl (c0, 90, .inl (fun _ => 0))), (q1, .inl (c1, 90, .inl (fun _ => 0))), (q2, .inl (c2, 15, .inl (fun _ => 0))), (q3, .inl (c3, 15, .inl (fun _ => 0))), (q4, .inl (c4, 15, .inl (fun _ => 0))), (q5, .inl (c5, 15, .inl (fun _ => 0))), (q6, .inl (c6, 14, .inl (fun _ => 0))), (q7, .inl (c7, 10, .inl (fun _ => 0))), (q8, .inl (c8, 14, .inl (fun _ => 0)))] H := hP
  have hD : va_D A [(h0, .inr (0, [.ref q0, .ref q1, .int 0, .ref q2, .ref q3, .ref q4, .ref q5, .ref q6, .int 0, .ref q7, .int 0, .ref q8, .int 0, .int 0, .null, .null, .int 0, .null])), (q0, .inl (c0, 90, .inl (fun _ => 0))), (q1, .inl (c1, 90, .inl (fun _ => 0))), (q2, .inl (c2, 15, .inl (fun _ => 0))), (q3, .inl (c3, 15, .inl (fun _ => 0))), (q4, .inl (c4, 15, .inl (fun _ => 0))), (q5, .inl (c5, 15, .inl (fun _ => 0))), (q6, .inl (c6, 14, .inl (fun _ => 0))), (q7, .inl (c7, 10, .inl (fun _ => 0))), (q8, .inl (c8, 14, .inl (fun _ => 0)))] := hD
  refine lv_aload_n hx hb ct_dX_76 rfl (lv_at hl 0 rfl) ?_
  refine lv_bipush (v := 15) hx hb ct_dX_77 (by decide) ?_
  refine va_newa (atype := .boolean) (ty := .boolean) (a0 := (15, .inl (fun _ => 0))) hx hb (hts _ (am_inw ct_aZ rfl)) rfl hK hP hD hS hA (fun cA => rfl) (by decide) rfl (by decide) (by show 9 + 1 ≤ 12; decide) (by show 278 + 15 ≤ 322; decide) ct_dX_79 (fun q9 c9 H hK hP hD hS => ?_)
  have hP : va_P D am_cl [(h0, .inr (0, [.ref q0, .ref q1, .int 0, .ref q2, .ref q3, .ref q4, .ref q5, .ref q6, .int 0, .ref q7, .int 0, .ref q8, .int 0, .int 0, .null, .null, .int 0, .null])), (q0, .inl (c0, 90, .inl (fun _ => 0))), (q1, .inl (c1, 90, .inl (fun _ => 0))), (q2, .inl (c2, 15, .inl (fun _ => 0))), (q3, .inl (c3, 15, .inl (fun _ => 0))), (q4, .inl (c4, 15, .inl (fun _ => 0))), (q5, .inl (c5, 15, .inl (fun _ => 0))), (q6, .inl (c6, 14, .inl (fun _ => 0))), (q7, .inl (c7, 10, .inl (fun _ => 0))), (q8, .inl (c8, 14, .inl (fun _ => 0))), (q9, .inl (c9, 15, .inl (fun _ => 0)))] H := hP
  have hD : va_D A [(h0, .inr (0, [.ref q0, .ref q1, .int 0, .ref q2, .ref q3, .ref q4, .ref q5, .ref q6, .int 0, .ref q7, .int 0, .ref q8, .int 0, .int 0, .null, .null, .int 0, .null])), (q0, .inl (c0, 90, .inl (fun _ => 0))), (q1, .inl (c1, 90, .inl (fun _ => 0))), (q2, .inl (c2, 15, .inl (fun _ => 0))), (q3, .inl (c3, 15, .inl (fun _ => 0))), (q4, .inl (c4, 15, .inl (fun _ => 0))), (q5, .inl (c5, 15, .inl (fun _ => 0))), (q6, .inl (c6, 14, .inl (fun _ => 0))), (q7, .inl (c7, 10, .inl (fun _ => 0))), (q8, .inl (c8, 14, .inl (fun _ => 0))), (q9, .inl (c9, 15, .inl (fun _ => 0)))] := hD
  refine W.widen (k := 10) (n := 293) (by decide) (by decide) ?_
  refine va_putF (D := D) (ci := 0) (v := .ref q9) (ty := am_cY 0 14) (C := am_cC 0) (T := am_cT 0) (N := am_nf 0) hx hb hts (am_fin (by decide)) (am_cY 0) (am_cY_ok0 0 (by decide)) (am_nm0 0 (by decide)) hown hK hP hD hS 0 rfl rfl 14 (by decide) (hts _ (am_flk_in (o := 0) (k := 14) (by decide) (by decide))) (fun _ h9 => h9) rfl hin rfl (am_cY_ok0 0 (by decide) 14 (by decide)) rfl rfl (Nat.le_of_ble_eq_true rfl) ct_dX_81 (fun H locs hP hD hS => ?_)
  have hP : va_P D am_cl [(h0, .inr (0, [.ref q0, .ref q1, .int 0, .ref q2, .ref q3, .ref q4, .ref q5, .ref q6, .int 0, .ref q7, .int 0, .ref q8, .int 0, .int 0, .ref q9, .null, .int 0, .null])), (q0, .inl (c0, 90, .inl (fun _ => 0))), (q1, .inl (c1, 90, .inl (fun _ => 0))), (q2, .inl (c2, 15, .inl (fun _ => 0))), (q3, .inl (c3, 15, .inl (fun _ => 0))), (q4, .inl (c4, 15, .inl (fun _ => 0))), (q5, .inl (c5, 15, .inl (fun _ => 0))), (q6, .inl (c6, 14, .inl (fun _ => 0))), (q7, .inl (c7, 10, .inl (fun _ => 0))), (q8, .inl (c8, 14, .inl (fun _ => 0))), (q9, .inl (c9, 15, .inl (fun _ => 0)))] H := hP
  have hD : va_D A [(h0, .inr (0, [.ref q0, .ref q1, .int 0, .ref q2, .ref q3, .ref q4, .ref q5, .ref q6, .int 0, .ref q7, .int 0, .ref q8, .int 0, .int 0, .ref q9, .null, .int 0, .null])), (q0, .inl (c0, 90, .inl (fun _ => 0))), (q1, .inl (c1, 90, .inl (fun _ => 0))), (q2, .inl (c2, 15, .inl (fun _ => 0))), (q3, .inl (c3, 15, .inl (fun _ => 0))), (q4, .inl (c4, 15, .inl (fun _ => 0))), (q5, .inl (c5, 15, .inl (fun _ => 0))), (q6, .inl (c6, 14, .inl (fun _ => 0))), (q7, .inl (c7, 10, .inl (fun _ => 0))), (q8, .inl (c8, 14, .inl (fun _ => 0))), (q9, .inl (c9, 15, .inl (fun _ => 0)))] := hD
  refine lv_aload_n hx hb ct_dX_84 rfl (lv_at hl 0 rfl) ?_
  refine lv_bipush (v := 14) hx hb ct_dX_85 (by decide) ?_
  refine va_newa (atype := .int) (ty := .int) (a0 := (14, .inl (fun _ => 0))) hx hb (hts _ (am_inw ct_aI rfl)) rfl hK hP hD hS hA (fun cA => rfl) (by decide) rfl (by decide) (by show 10 + 1 ≤ 12; decide) (by show 293 + 14 ≤ 322; decide) ct_dX_87 (fun q10 c10 H hK hP hD hS => ?_)
  have hP : va_P D am_cl [(h0, .inr (0, [.ref q0, .ref q1, .int 0, .ref q2, .ref q3, .ref q4, .ref q5, .ref q6, .int 0, .ref q7, .int 0, .ref q8, .int 0, .int 0, .ref q9, .null, .int 0, .null])), (q0, .inl (c0, 90, .inl (fun _ => 0))), (q1, .inl (c1, 90, .inl (fun _ => 0))), (q2, .inl (c2, 15, .inl (fun _ => 0))), (q3, .inl (c3, 15, .inl (fun _ => 0))), (q4, .inl (c4, 15, .inl (fun _ => 0))), (q5, .inl (c5, 15, .inl (fun _ => 0))), (q6, .inl (c6, 14, .inl (fun _ => 0))), (q7, .inl (c7, 10, .inl (fun _ => 0))), (q8, .inl (c8, 14, .inl (fun _ => 0))), (q9, .inl (c9, 15, .inl (fun _ => 0))), (q10, .inl (c10, 14, .inl (fun _ => 0)))] H := hP
  have hD : va_D A [(h0, .inr (0, [.ref q0, .ref q1, .int 0, .ref q2, .ref q3, .ref q4, .ref q5, .ref q6, .int 0, .ref q7, .int 0, .ref q8, .int 0, .int 0, .ref q9, .null, .int 0, .null])), (q0, .inl (c0, 90, .inl (fun _ => 0))), (q1, .inl (c1, 90, .inl (fun _ => 0))), (q2, .inl (c2, 15, .inl (fun _ => 0))), (q3, .inl (c3, 15, .inl (fun _ => 0))), (q4, .inl (c4, 15, .inl (fun _ => 0))), (q5, .inl (c5, 15, .inl (fun _ => 0))), (q6, .inl (c6, 14, .inl (fun _ => 0))), (q7, .inl (c7, 10, .inl (fun _ => 0))), (q8, .inl (c8, 14, .inl (fun _ => 0))), (q9, .inl (c9, 15, .inl (fun _ => 0))), (q10, .inl (c10, 14, .inl (fun _ => 0)))] := hD
  refine W.widen (k := 11) (n := 307) (by decide) (by decide) ?_
  refine va_putF (D := D) (ci := 0) (v := .ref q10) (ty := am_cY 0 15) (C := am_cC 0) (T := am_cT 0) (N := am_nf 0) hx hb hts (am_fin (by decide)) (am_cY 0) (am_cY_ok0 0 (by decide)) (am_nm0 0 (by decide)) hown hK hP hD hS 0 rfl rfl 15 (by decide) (hts _ (am_flk_in (o := 0) (k := 15) (by decide) (by decide))) (fun _ h9 => h9) rfl hin rfl (am_cY_ok0 0 (by decide) 15 (by decide)) rfl rfl (Nat.le_of_ble_eq_true rfl) ct_dX_89 (fun H locs hP hD hS => ?_)
  have hP : va_P D am_cl [(h0, .inr (0, [.ref q0, .ref q1, .int 0, .ref q2, .ref q3, .ref q4, .ref q5, .ref q6, .int 0, .ref q7, .int 0, .ref q8, .int 0, .int 0, .ref q9, .ref q10, .int 0, .null])), (q0, .inl (c0, 90, .inl (fun _ => 0))), (q1, .inl (c1, 90, .inl (fun _ => 0))), (q2, .inl (c2, 15, .inl (fun _ => 0))), (q3, .inl (c3, 15, .inl (fun _ => 0))), (q4, .inl (c4, 15, .inl (fun _ => 0))), (q5, .inl (c5, 15, .inl (fun _ => 0))), (q6, .inl (c6, 14, .inl (fun _ => 0))), (q7, .inl (c7, 10, .inl (fun _ => 0))), (q8, .inl (c8, 14, .inl (fun _ => 0))), (q9, .inl (c9, 15, .inl (fun _ => 0))), (q10, .inl (c10, 14, .inl (fun _ => 0)))] H := hP
  have hD : va_D A [(h0, .inr (0, [.ref q0, .ref q1, .int 0, .ref q2, .ref q3, .ref q4, .ref q5, .ref q6, .int 0, .ref q7, .int 0, .ref q8, .int 0, .int 0, .ref q9, .ref q10, .int 0, .null])), (q0, .inl (c0, 90, .inl (fun _ => 0))), (q1, .inl (c1, 90, .inl (fun _ => 0))), (q2, .inl (c2, 15, .inl (fun _ => 0))), (q3, .inl (c3, 15, .inl (fun _ => 0))), (q4, .inl (c4, 15, .inl (fun _ => 0))), (q5, .inl (c5, 15, .inl (fun _ => 0))), (q6, .inl (c6, 14, .inl (fun _ => 0))), (q7, .inl (c7, 10, .inl (fun _ => 0))), (q8, .inl (c8, 14, .inl (fun _ => 0))), (q9, .inl (c9, 15, .inl (fun _ => 0))), (q10, .inl (c10, 14, .inl (fun _ => 0)))] := hD
  refine lv_aload_n hx hb ct_dX_92 rfl (lv_at hl 0 rfl) ?_
  refine lv_bipush (v := 15) hx hb ct_dX_93 (by decide) ?_
  refine va_newa (atype := .int) (ty := .int) (a0 := (15, .inl (fun _ => 0))) hx hb (hts _ (am_inw ct_aI rfl)) rfl hK hP hD hS hA (fun cA => rfl) (by decide) rfl (by decide) (by show 11 + 1 ≤ 12; decide) (by show 307 + 15 ≤ 322; decide) ct_dX_95 (fun q11 c11 H hK hP hD hS => ?_)
  have hP : va_P D am_cl [(h0, .inr (0, [.ref q0, .ref q1, .int 0, .ref q2, .ref q3, .ref q4, .ref q5, .ref q6, .int 0, .ref q7, .int 0, .ref q8, .int 0, .int 0, .ref q9, .ref q10, .int 0, .null])), (q0, .inl (c0, 90, .inl (fun _ => 0))), (q1, .inl (c1, 90, .inl (fun _ => 0))), (q2, .inl (c2, 15, .inl (fun _ => 0))), (q3, .inl (c3, 15, .inl (fun _ => 0))), (q4, .inl (c4, 15, .inl (fun _ => 0))), (q5, .inl (c5, 15, .inl (fun _ => 0))), (q6, .inl (c6, 14, .inl (fun _ => 0))), (q7, .inl (c7, 10, .inl (fun _ => 0))), (q8, .inl (c8, 14, .inl (fun _ => 0))), (q9, .inl (c9, 15, .inl (fun _ => 0))), (q10, .inl (c10, 14, .inl (fun _ => 0))), (q11, .inl (c11, 15, .inl (fun _ => 0)))] H := hP
  have hD : va_D A [(h0, .inr (0, [.ref q0, .ref q1, .int 0, .ref q2, .ref q3, .ref q4, .ref q5, .ref q6, .int 0, .ref q7, .int 0, .ref q8, .int 0, .int 0, .ref q9, .ref q10, .int 0, .null])), (q0, .inl (c0, 90, .inl (fun _ => 0))), (q1, .inl (c1, 90, .inl (fun _ => 0))), (q2, .inl (c2, 15, .inl (fun _ => 0))), (q3, .inl (c3, 15, .inl (fun _ => 0))), (q4, .inl (c4, 15, .inl (fun _ => 0))), (q5, .inl (c5, 15, .inl (fun _ => 0))), (q6, .inl (c6, 14, .inl (fun _ => 0))), (q7, .inl (c7, 10, .inl (fun _ => 0))), (q8, .inl (c8, 14, .inl (fun _ => 0))), (q9, .inl (c9, 15, .inl (fun _ => 0))), (q10, .inl (c10, 14, .inl (fun _ => 0))), (q11, .inl (c11, 15, .inl (fun _ => 0)))] := hD
  refine W.widen (k := 12) (n := 322) (by decide) (by decide) ?_
  refine va_putF (D := D) (ci := 0) (v := .ref q11) (ty := am_cY 0 17) (C := am_cC 0) (T := am_cT 0) (N := am_nf 0) hx hb hts (am_fin (by decide)) (am_cY 0) (am_cY_ok0 0 (by decide)) (am_nm0 0 (by decide)) hown hK hP hD hS 0 rfl rfl 17 (by decide) (hts _ (am_flk_in (o := 0) (k := 17) (by decide) (by decide))) (fun _ h9 => h9) rfl hin rfl (am_cY_ok0 0 (by decide) 17 (by decide)) rfl rfl (Nat.le_of_ble_eq_true rfl) ct_dX_97 (fun H locs hP hD hS => ?_)
  have hP : va_P D am_cl [(h0, .inr (0, [.ref q0, .ref q1, .int 0, .ref q2, .ref q3, .ref q4, .ref q5, .ref q6, .int 0, .ref q7, .int 0, .ref q8, .int 0, .int 0, .ref q9, .ref q10, .int 0, .ref q11])), (q0, .inl (c0, 90, .inl (fun _ => 0))), (q1, .inl (c1, 90, .inl (fun _ => 0))), (q2, .inl (c2, 15, .inl (fun _ => 0))), (q3, .inl (c3, 15, .inl (fun _ => 0))), (q4, .inl (c4, 15, .inl (fun _ => 0))), (q5, .inl (c5, 15, .inl (fun _ => 0))), (q6, .inl (c6, 14, .inl (fun _ => 0))), (q7, .inl (c7, 10, .inl (fun _ => 0))), (q8, .inl (c8, 14, .inl (fun _ => 0))), (q9, .inl (c9, 15, .inl (fun _ => 0))), (q10, .inl (c10, 14, .inl (fun _ => 0))), (q11, .inl (c11, 15, .inl (fun _ => 0)))] H := hP
  have hD : va_D A [(h0, .inr (0, [.ref q0, .ref q1, .int 0, .ref q2, .ref q3, .ref q4, .ref q5, .ref q6, .int 0, .ref q7, .int 0, .ref q8, .int 0, .int 0, .ref q9, .ref q10, .int 0, .ref q11])), (q0, .inl (c0, 90, .inl (fun _ => 0))), (q1, .inl (c1, 90, .inl (fun _ => 0))), (q2, .inl (c2, 15, .inl (fun _ => 0))), (q3, .inl (c3, 15, .inl (fun _ => 0))), (q4, .inl (c4, 15, .inl (fun _ => 0))), (q5, .inl (c5, 15, .inl (fun _ => 0))), (q6, .inl (c6, 14, .inl (fun _ => 0))), (q7, .inl (c7, 10, .inl (fun _ => 0))), (q8, .inl (c8, 14, .inl (fun _ => 0))), (q9, .inl (c9, 15, .inl (fun _ => 0))), (q10, .inl (c10, 14, .inl (fun _ => 0))), (q11, .inl (c11, 15, .inl (fun _ => 0)))] := hD
  refine lv_aload_n hx hb ct_dX_100 rfl (lv_at hl 0 rfl) ?_
  refine va_get (D := D) (ci := 0) (v := .ref q2) (C := am_cC 0) (T := am_cT 0) (N := am_nf 0) hx hb hts (am_fin (by decide)) hown hK hP 0 rfl rfl 3 (by decide) (hts _ (am_flk_in (o := 0) (k := 3) (by decide) (by decide))) (fun _ h9 => h9) rfl ct_dX_101 ?_
  refine lv_iconst (v := -1) hx hb ct_dX_104 (by decide) ?_
  have hPc := hP.sub (ws' := [(q2, .inl (c2, 15, .inl (fun _ => 0)))]) [3] rfl
  have hDc := hD.sub (ws' := [(q2, .inl (c2, 15, .inl (fun _ => 0)))]) [3] (by decide) rfl
  have hKc := hK.sub (tys' := [(c2, .int)]) [2] rfl
  have hFc := va_free (wc := [(q2, .inl (c2, 15, .inl (fun _ => 0)))]) hD hS hA [3] rfl
  refine va_callv (va_runS (As := [.ref q2, .int (-1)]) (rest := []) ⟨hx, hb, hml, hown, hts⟩ (ct_fill l D q2 H.size c2 (-1)) (va_cwS 2 hts ct_fw rfl rfl rfl (by decide +kernel) ⟨Nat.le_of_ble_eq_true rfl, Nat.le_of_ble_eq_true rfl⟩) ⟨fun a U g mk q => by obtain ⟨q0, q1, qP, qK, qD⟩ := q; exact ⟨q0, q1, qP, va_K.moved (u := U) (U := U.calling g mk a) (Vm.Alike.refl U.vm) qK, qD⟩, fun U hU hW => ⟨rfl, by rw [hU], by rw [hU]; exact hPc, va_K.moved hW.alike hKc, hDc.weaken (fun _ _ _ _ => trivial)⟩⟩ rfl rfl hl.1 rfl (lv_room (Nat.le_of_ble_eq_true rfl)) ct_dX_105 ⟨by show 12 + 0 ≤ 12; decide, by show 322 + 0 ≤ 322; decide⟩) hS (fun q _ h => hFc q h) hFc (fun u t H1 locs ht hvm hw hB hz1 hk1 hS => ?_)
  rw [ht] at hB
  obtain ⟨hP, hD⟩ := va_join (wr := [(h0, .inr (0, [.ref q0, .ref q1, .int 0, .ref q2, .ref q3, .ref q4, .ref q5, .ref q6, .int 0, .ref q7, .int 0, .ref q8, .int 0, .int 0, .ref q9, .ref q10, .int 0, .ref q11])), (q0, .inl (c0, 90, .inl (fun _ => 0))), (q1, .inl (c1, 90, .inl (fun _ => 0))), (q3, .inl (c3, 15, .inl (fun _ => 0))), (q4, .inl (c4, 15, .inl (fun _ => 0))), (q5, .inl (c5, 15, .inl (fun _ => 0))), (q6, .inl (c6, 14, .inl (fun _ => 0))), (q7, .inl (c7, 10, .inl (fun _ => 0))), (q8, .inl (c8, 14, .inl (fun _ => 0))), (q9, .inl (c9, 15, .inl (fun _ => 0))), (q10, .inl (c10, 14, .inl (fun _ => 0))), (q11, .inl (c11, 15, .inl (fun _ => 0)))]) (w1 := [(q2, .inl (c2, 15, .inl (fun _ => -1)))]) hP hD [3] [0, 1, 2, 4, 5, 6, 7, 8, 9, 10, 11, 12] rfl rfl (by decide) (by decide) hk1 hFc hB (va_D.set (p := 0) (e := .inl (c2, 15, .inl (fun _ => -1))) (hDc.self (sz := H.size)) rfl)
  generalize H1 = H at hP hS ⊢
  have hP := hP.sub (ws' := [(h0, .inr (0, [.ref q0, .ref q1, .int 0, .ref q2, .ref q3, .ref q4, .ref q5, .ref q6, .int 0, .ref q7, .int 0, .ref q8, .int 0, .int 0, .ref q9, .ref q10, .int 0, .ref q11])), (q0, .inl (c0, 90, .inl (fun _ => 0))), (q1, .inl (c1, 90, .inl (fun _ => 0))), (q2, .inl (c2, 15, .inl (fun _ => -1))), (q3, .inl (c3, 15, .inl (fun _ => 0))), (q4, .inl (c4, 15, .inl (fun _ => 0))), (q5, .inl (c5, 15, .inl (fun _ => 0))), (q6, .inl (c6, 14, .inl (fun _ => 0))), (q7, .inl (c7, 10, .inl (fun _ => 0))), (q8, .inl (c8, 14, .inl (fun _ => 0))), (q9, .inl (c9, 15, .inl (fun _ => 0))), (q10, .inl (c10, 14, .inl (fun _ => 0))), (q11, .inl (c11, 15, .inl (fun _ => 0)))]) [0, 1, 2, 12, 3, 4, 5, 6, 7, 8, 9, 10, 11] rfl
  have hD := hD.sub (ws' := [(h0, .inr (0, [.ref q0, .ref q1, .int 0, .ref q2, .ref q3, .ref q4, .ref q5, .ref q6, .int 0, .ref q7, .int 0, .ref q8, .int 0, .int 0, .ref q9, .ref q10, .int 0, .ref q11])), (q0, .inl (c0, 90, .inl (fun _ => 0))), (q1, .inl (c1, 90, .inl (fun _ => 0))), (q2, .inl (c2, 15, .inl (fun _ => -1))), (q3, .inl (c3, 15, .inl (fun _ => 0))), (q4, .inl (c4, 15, .inl (fun _ => 0))), (q5, .inl (c5, 15, .inl (fun _ => 0))), (q6, .inl (c6, 14, .inl (fun _ => 0))), (q7, .inl (c7, 10, .inl (fun _ => 0))), (q8, .inl (c8, 14, .inl (fun _ => 0))), (q9, .inl (c9, 15, .inl (fun _ => 0))), (q10, .inl (c10, 14, .inl (fun _ => 0))), (q11, .inl (c11, 15, .inl (fun _ => 0)))]) [0, 1, 2, 12, 3, 4, 5, 6, 7, 8, 9, 10, 11] (by decide) rfl
  have e1 : c0 = c1 := Option.some.inj (((hK.2 0 _ rfl).2 : s.vm.findClass _ = some c0).symm.trans (hK.2 1 _ rfl).2)
  have e2 : c0 = c2 := Option.some.inj (((hK.2 0 _ rfl).2 : s.vm.findClass _ = some c0).symm.trans (hK.2 2 _ rfl).2)
  have e3 : c0 = c3 := Option.some.inj (((hK.2 0 _ rfl).2 : s.vm.findClass _ = some c0).symm.trans (hK.2 3 _ rfl).2)
  have e4 : c0 = c4 := Option.some.inj (((hK.2 0 _ rfl).2 : s.vm.findClass _ = some c0).symm.trans (hK.2 4 _ rfl).2)
  have e6 : c0 = c6 := Option.some.inj (((hK.2 0 _ rfl).2 : s.vm.findClass _ = some c0).symm.trans (hK.2 6 _ rfl).2)
  have e7 : c0 = c7 := Option.some.inj (((hK.2 0 _ rfl).2 : s.vm.findClass _ = some c0).symm.trans (hK.2 7 _ rfl).2)
  have e8 : c0 = c8 := Option.some.inj (((hK.2 0 _ rfl).2 : s.vm.findClass _ = some c0).symm.trans (hK.2 8 _ rfl).2)
  have e9 : c5 = c9 := Option.some.inj (((hK.2 5 _ rfl).2 : s.vm.findClass _ = some c5).symm.trans (hK.2 9 _ rfl).2)
  have e10 : c0 = c10 := Option.some.inj (((hK.2 0 _ rfl).2 : s.vm.findClass _ = some c0).symm.trans (hK.2 10 _ rfl).2)
  have e11 : c0 = c11 := Option.some.inj (((hK.2 0 _ rfl).2 : s.vm.findClass _ = some c0).symm.trans (hK.2 11 _ rfl).2)
  subst e1
  subst e2
  subst e3
  subst e4
  subst e6
  subst e7
  subst e8
  subst e9
  subst e10
  subst e11
  refine W.widen (k := 12) (n := 322) (by decide) (by decide) ?_
  refine W.vret hx hb hr (fun t ht hW => ⟨⟨((fun k => ([h0, 0, q0, q1, q2, q3, q4, q5, q6, q7, q8, q9, q10, q11, 0, 0, 0, 0, 0, 0, 0, 0, 0, 0, 0, 0, 0] : List Nat).getD k 0), (fun k => if k = 0 then c0 else c5)), rfl, trivial, rfl, by rw [ht]; exact hP, va_K.moved hW.alike (hK.sub [0, 5] rfl), hD⟩, hS.F ht⟩) hS.2.2 ct_dX_108
/-! the constructor of SlidingHeapModel -/
def ct_yM : MethodName := ⟨"SlidingHeapModel", "<init>", "()V"⟩
def ct_wM : List Cond := .code ct_yM prog_3_method_1_code 1 none :: am_ws
theorem ct_dM_0 : decode prog_3_method_1_code 0 = .ok (.aload_n 0, 1) := by decide +kernel
theorem ct_dM_1 : decode prog_3_method_1_code 1 = .ok (.invokespecial 1, 3) := by decide +kernel
theorem ct_dM_4 : decode prog_3_method_1_code 4 = .ok (.aload_n 0, 1) := by decide +kernel
theorem ct_dM_5 : decode prog_3_method_1_code 5 = .ok (.bipush 15, 2) := by decide +kernel
theorem ct_dM_7 : decode prog_3_method_1_code 7 = .ok (.newarray .int, 2) := by decide +kernel
theorem ct_dM_9 : decode prog_3_method_1_code 9 = .ok (.putfield 7, 3) := by decide +kernel
theorem ct_dM_12 : decode prog_3_method_1_code 12 = .ok (.aload_n 0, 1) := by decide +kernel
theorem ct_dM_13 : decode prog_3_method_1_code 13 = .ok (.bipush 15, 2) := by decide +kernel
theorem ct_dM_15 : decode prog_3_method_1_code 15 = .ok (.newarray .boolean, 2) := by decide +kernel
theorem ct_dM_17 : decode prog_3_method_1_code 17 = .ok (.putfield 13, 3) := by decide +kernel
theorem ct_dM_20 : decode prog_3_method_1_code 20 = .ok (.aload_n 0, 1) := by decide +kernel
theorem ct_dM_21 : decode prog_3_method_1_code 21 = .ok (.bipush 15, 2) := by decide +kernel
theorem ct_dM_23 : decode prog_3_method_1_code 23 = .ok (.newarray .int, 2) := by decide +kernel
theorem ct_dM_25 : decode prog_3_method_1_code 25 = .ok (.putfield 17, 3) := by decide +kernel
theorem ct_dM_28 : decode prog_3_method_1_code 28 = .ok (.aload_n 0, 1) := by decide +kernel
theorem ct_dM_29 : decode prog_3_method_1_code 29 = .ok (.bipush 15, 2) := by decide +kernel
theorem ct_dM_31 : decode prog_3_method_1_code 31 = .ok (.newarray .int, 2) := by decide +kernel
theorem ct_dM_33 : decode prog_3_method_1_code 33 = .ok (.putfield 20, 3) := by decide +kernel
theorem ct_dM_36 : decode prog_3_method_1_code 36 = .ok (.aload_n 0, 1) := by decide +kernel
theorem ct_dM_37 : decode prog_3_method_1_code 37 = .ok (.bipush 15, 2) := by decide +kernel
theorem ct_dM_39 : decode prog_3_method_1_code 39 = .ok (.newarray .boolean, 2) := by decide +kernel
theorem ct_dM_41 : decode prog_3_method_1_code 41 = .ok (.putfield 23, 3) := by decide +kernel
theorem ct_dM_44 : decode prog_3_method_1_code 44 = .ok (.aload_n 0, 1) := by decide +kernel
theorem ct_dM_45 : decode prog_3_method_1_code 45 = .ok (.sipush 150, 3) := by decide +kernel
theorem ct_dM_48 : decode prog_3_method_1_code 48 = .ok (.newarray .int, 2) := by decide +kernel
theorem ct_dM_50 : decode prog_3_method_1_code 50 = .ok (.putfield 26, 3) := by decide +kernel
theorem ct_dM_53 : decode prog_3_method_1_code 53 = .ok (.aload_n 0, 1) := by decide +kernel
theorem ct_dM_54 : decode prog_3_method_1_code 54 = .ok (.sipush 150, 3) := by decide +kernel
theorem ct_dM_57 : decode prog_3_method_1_code 57 = .ok (.newarray .int, 2) := by decide +kernel
theorem ct_dM_59 : decode prog_3_method_1_code 59 = .ok (.putfield 29, 3) := by decide +kernel
theorem ct_dM_62 : decode prog_3_method_1_code 62 = .ok (.aload_n 0, 1) := by decide +kernel
theorem ct_dM_63 : decode prog_3_method_1_code 63 = .ok (.bipush 10, 2) := by decide +kernel
theorem ct_dM_65 : decode prog_3_method_1_code 65 = .ok (.newarray .int, 2) := by decide +kernel
theorem ct_dM_67 : decode prog_3_method_1_code 67 = .ok (.putfield 32, 3) := by decide +kernel
theorem ct_dM_70 : decode prog_3_method_1_code 70 = .ok (.aload_n 0, 1) := by decide +kernel
theorem ct_dM_71 : decode prog_3_method_1_code 71 = .ok (.bipush 15, 2) := by decide +kernel
theorem ct_dM_73 : decode prog_3_method_1_code 73 = .ok (.newarray .int, 2) := by decide +kernel
theorem ct_dM_75 : decode prog_3_method_1_code 75 = .ok (.putfield 35, 3) := by decide +kernel
theorem ct_dM_78 : decode prog_3_method_1_code 78 = .ok (.aload_n 0, 1) := by decide +kernel
theorem ct_dM_79 : decode prog_3_method_1_code 79 = .ok (.bipush 15, 2) := by decide +kernel
theorem ct_dM_81 : decode prog_3_method_1_code 81 = .ok (.newarray .boolean, 2) := by decide +kernel
theorem ct_dM_83 : decode prog_3_method_1_code 83 = .ok (.putfield 38, 3) := by decide +kernel
theorem ct_dM_86 : decode prog_3_method_1_code 86 = .ok (.aload_n 0, 1) := by decide +kernel
theorem ct_dM_87 : decode prog_3_method_1_code 87 = .ok (.bipush 15, 2) := by decide +kernel
theorem ct_dM_89 : decode prog_3_method_1_code 89 = .ok (.newarray .boolean, 2) := by decide +kernel
theorem ct_dM_91 : decode prog_3_method_1_code 91 = .ok (.putfield 41, 3) := by decide +kernel
theorem ct_dM_94 : decode prog_3_method_1_code 94 = .ok (.aload_n 0, 1) := by decide +kernel
theorem ct_dM_95 : decode prog_3_method_1_code 95 = .ok (.bipush 15, 2) := by decide +kernel
theorem ct_dM_97 : decode prog_3_method_1_code 97 = .ok (.newarray .int, 2) := by decide +kernel
theorem ct_dM_99 : decode prog_3_method_1_code 99 = .ok (.putfield 44, 3) := by decide +kernel
theorem ct_dM_102 : decode prog_3_method_1_code 102 = .ok (.return_, 1) := by decide +kernel
/-- the world behind it: the object and its arrays -/
def ct_WM (a : Nat → Nat) (cs : Nat → ClassId) : va_W := ([1, 14, 15, 16, 17, 18, 19, 20, 21, 22, 23, 24, 25] : List Nat).map (am_cell a cs am_st0)
abbrev ct_BM (D : va_G) (A : Nat → Prop) (h0 : Nat) (u : (Nat → Nat) × (Nat → ClassId)) (t : State) : Prop := u.1 1 = h0 ∧ va_P D am_cl (ct_WM u.1 u.2) t.heap ∧ va_K D am_cl [(u.2 0, .int), (u.2 1, .boolean)] t ∧ va_D A (ct_WM u.1 u.2)
set_option maxHeartbeats 4000000 in
set_option maxRecDepth 100000 in
theorem ct_M (l : Launch) (D : va_G) (h0 sz : Nat) : Met l ct_yM ct_wM ({ frames := 1, cells := 12, slots := 445, locals := 12 }) (va_Pc [.ref h0] (fun U => U.heap.size = sz ∧ va_P D am_cl [(h0, .inr (1, [.int 0, .int 0, .null, .null, .null, .null, .null, .null, .null, .int 0, .null, .int 0, .null, .int 0, .null, .null, .null]))] U.heap ∧ va_K D am_cl [] U ∧ va_D (fun _ => True) [(h0, .inr (1, [.int 0, .int 0, .null, .null, .null, .null, .null, .null, .null, .int 0, .null, .int 0, .null, .int 0, .null, .null, .null]))])) (va_Qv (fun _ : (Nat → Nat) × (Nat → ClassId) => True) (ct_BM D (va_A [(h0, .inr (1, [.int 0, .int 0, .null, .null, .null, .null, .null, .null, .null, .int 0, .null, .int 0, .null, .int 0, .null, .null, .null]))] sz) h0) (va_A [(h0, .inr (1, [.int 0, .int 0, .null, .null, .null, .null, .null, .null, .null, .int 0, .null, .int 0, .null, .int 0, .null, .null, .null]))] sz)) 12 445 (va_A [(h0, .inr (1, [.int 0, .int 0, .null, .null, .null, .null, .null, .null, .null, .int 0, .null, .int 0, .null, .int 0, .null, .null, .null]))] sz) := by
  refine Met.ofW (cc := prog_3_method_1_code) (maxL := 1) (ret := none) (by decide) rfl ?_
  intro p e s m args below meth c s₁ B hml hv
  obtain ⟨rfl, hsz, hP, hK, hD0⟩ := hv
  have hx := B.exec
  have hb := B.bytes
  have hr := B.returns
  have hts0 := atoms_spec (ws := ct_wM) B.pre
  have hts : ∀ w ∈ am_ws, w.before _ s = true := fun w hw => hts0 w (List.mem_cons_of_mem _ hw)
  have hown : s.vm.findClass (am_cC 1) = some m.cls := findClass_of_methodNamed B.named
  have hlocks := B.notSynchronized
  have hin : meth.name = "<init>" := (name_of_methodNamed B.named B.method).1
  subst hsz
  have hD := hD0.self (sz := s.heap.size)
  generalize hAe : va_A [(h0, .inr (1, [.int 0, .int 0, .null, .null, .null, .null, .null, .null, .null, .int 0, .null, .int 0, .null, .int 0, .null, .null, .null]))] s.heap.size = A at hD ⊢
  have hA : ∀ q : Nat, s.heap.size ≤ q → A q := fun q h => by rw [← hAe]; exact Or.inr h
  have hS : va_S A s.heap s.heap [] := va_S.rf
  have hl := lv_entry ([.ref h0]) (n := 1) (Nat.le_of_ble_eq_true rfl)
  rw [lg_entry_eq]
  generalize (lg_sl ([.ref h0]) ++ List.replicate (1 - (lg_sl ([.ref h0])).length) Slot.unset).toArray = ls at hl ⊢
  have hl : lv_has ls 1 [(0, .ref h0)] := hl
  refine lv_aload_n hx hb ct_dM_0 rfl (lv_at hl 0 rfl) ?_
  refine W.objInit hx hb hown (hts _ (am_inw ct_oM rfl)) (hts _ (am_inw ct_oi rfl)) (hts _ (am_inw ct_oc rfl)) rfl (by rw [hml]; exact hl.1) rfl ct_dM_1 (Nat.le_of_ble_eq_true rfl) (Nat.le_of_ble_eq_true rfl) ?_
  refine W.eq (g2 := F0 m 4 ls []) rfl ?_
  refine lv_aload_n hx hb ct_dM_4 rfl (lv_at hl 0 rfl) ?_
  refine lv_bipush (v := 15) hx hb ct_dM_5 (by decide) ?_
  refine va_newa (atype := .int) (ty := .int) (a0 := (15, .inl (fun _ => 0))) hx hb (hts _ (am_inw ct_aI rfl)) rfl hK hP hD hS hA (fun cA => rfl) (by decide) rfl (by decide) (by show 0 + 1 ≤ 12; decide) (by show 0 + 15 ≤ 445; decide) ct_dM_7 (fun q0 c0 H hK hP hD hS => ?_)
  have hP : va_P D am_cl [(h0, .inr (1, [.int 0, .int 0, .null, .null, .null, .null, .null, .null, .null, .int 0, .null, .int 0, .null, .int 0, .null, .null, .null])), (q0, .inl (c0, 15, .inl (fun _ => 0)))] H := hP
  have hD : va_D A [(h0, .inr (1, [.int 0, .int 0, .null, .null, .null, .null, .null, .null, .null, .int 0, .null, .int 0, .null, .int 0, .null, .null, .null])), (q0, .inl (c0, 15, .inl (fun _ => 0)))] := hD
  refine W.widen (k := 1) (n := 15) (by decide) (by decide) ?_
  refine va_putF (D := D) (ci := 1) (v := .ref q0) (ty := am_cY 1 2) (C := am_cC 1) (T := am_cT 1) (N := am_nf 1) hx hb hts (am_fin (by decide)) (am_cY 1) (am_cY_ok0 1 (by decide)) (am_nm0 1 (by decide)) hown hK hP hD hS 0 rfl rfl 2 (by decide) (hts _ (am_flk_in (o := 1) (k := 2) (by decide) (by decide))) (fun _ h9 => h9) rfl hin rfl (am_cY_ok0 1 (by decide) 2 (by decide)) rfl rfl (Nat.le_of_ble_eq_true rfl) ct_dM_9 (fun H locs hP hD hS => ?_)
  have hP : va_P D am_cl [(h0, .inr (1, [.int 0, .int 0, .ref q0, .null, .null, .null, .null, .null, .null, .int 0, .null, .int 0, .null, .int 0, .null, .null, .null])), (q0, .inl (c0, 15, .inl (fun _ => 0)))] H := hP
  have hD : va_D A [(h0, .inr (1, [.int 0, .int 0, .ref q0, .null, .null, .null, .null, .null, .null, .int 0, .null, .int 0, .null, .int 0, .null, .null, .null])), (q0, .inl (c0, 15, .inl (fun _ => 0)))] := hD
  refine lv_aload_n hx hb ct_dM_12 rfl (lv_at hl 0 rfl) ?_
  refine lv_bipush (v := 15) hx hb ct_dM_13 (by decide) ?_
  refine va_newa (atype := .boolean) (ty := .boolean) (a0 := (15, .inl (fun _ => 0))) hx hb (hts _ (am_inw ct_aZ rfl)) rfl hK hP hD hS hA (fun cA => rfl) (by decide) rfl (by decide) (by show 1 + 1 ≤ 12; decide) (by show 15 + 15 ≤ 445; decide) ct_dM_15 (fun q1 c1 H hK hP hD hS => ?_)
  have hP : va_P D am_cl [(h0, .inr (1, [.int 0, .int 0, .ref q0, .null, .null, .null, .null, .null, .null, .int 0, .null, .int 0, .null, .int 0, .null, .null, .null])), (q0, .inl (c0, 15, .inl (fun _ => 0))), (q1, .inl (c1, 15, .inl (fun _ => 0)))] H := hP
  have hD : va_D A [(h0, .inr (1, [.int 0, .int 0, .ref q0, .null, .null, .null, .null, .null, .null, .int 0, .null, .int 0, .null, .int 0, .null, .null, .null])), (q0, .inl (c0, 15, .inl (fun _ => 0))), (q1, .inl (c1, 15, .inl (fun _ => 0)))] := hD
  refine W.widen (k := 2) (n := 30) (by decide) (by decide) ?_
  refine va_putF (D := D) (ci := 1) (v := .ref q1) (ty := am_cY 1 3) (C := am_cC 1) (T := am_cT 1) (N := am_nf 1) hx hb hts (am_fin (by decide)) (am_cY 1) (am_cY_ok0 1 (by decide)) (am_nm0 1 (by decide)) hown hK hP hD hS 0 rfl rfl 3 (by decide) (hts _ (am_flk_in (o := 1) (k := 3) (by decide) (by decide))) (fun _ h9 => h9) rfl hin rfl (am_cY_ok0 1 (by decide) 3 (by decide)) rfl rfl (Nat.le_of_ble_eq_true rfl) ct_dM_17 (fun H locs hP hD hS => ?_)
  have hP : va_P D am_cl [(h0, .inr (1, [.int 0, .int 0, .ref q0, .ref q1, .null, .null, .null, .null, .null, .int 0, .null, .int 0, .null, .int 0, .null, .null, .null])), (q0, .inl (c0, 15, .inl (fun _ => 0))), (q1, .inl (c1, 15, .inl (fun _ => 0)))] H := hP
  have hD : va_D A [(h0, .inr (1, [.int 0, .int 0, .ref q0, .ref q1, .null, .null, .null, .null, .null, .int 0, .null, .int 0, .null, .int 0, .null, .null, .null])), (q0, .inl (c0, 15, .inl (fun _ => 0))), (q1, .inl (c1, 15, .inl (fun _ => 0)))] := hD
  refine lv_aload_n hx hb ct_dM_20 rfl (lv_at hl 0 rfl) ?_
  refine lv_bipush (v := 15) hx hb ct_dM_21 (by decide) ?_
  refine va_newa (atype := .int) (ty := .int) (a0 := (15, .inl (fun _ => 0))) hx hb (hts _ (am_inw ct_aI rfl)) rfl hK hP hD hS hA (fun cA => rfl) (by decide) rfl (by decide) (by show 2 + 1 ≤ 12; decide) (by show 30 + 15 ≤ 445; decide) ct_dM_23 (fun q2 c2 H hK hP hD hS => ?_)
  have hP : va_P D am_cl [(h0, .inr (1, [.int 0, .int 0, .ref q0, .ref q1, .null, .null, .null, .null, .null, .int 0, .null, .int 0, .null, .int 0, .null, .null, .null])), (q0, .inl (c0, 15, .inl (fun _ => 0))), (q1, .inl (c1, 15, .inl (fun _ => 0))), (q2, .inl (c2, 15, .inl (fun _ => 0)))] H := hP
  have hD : va_D A [(h0, .inr (1, [.int 0, .int 0, .ref q0, .ref q1, .null, .null, .null, .null, .null, .int 0, .null, .int 0, .null, .int 0, .null, .null, .null])), (q0, .inl (c0, 15, .inl (fun _ => 0))), (q1, .inl (c1, 15, .inl (fun _ => 0))), (q2, .inl (c2, 15, .inl (fun _ => 0)))] := hD
  refine W.widen (k := 3) (n := 45) (by decide) (by decide) ?_
  refine va_putF (D := D) (ci := 1) (v := .ref q2) (ty := am_cY 1 4) (C := am_cC 1) (T := am_cT 1) (N := am_nf 1) hx hb hts (am_fin (by decide)) (am_cY 1) (am_cY_ok0 1 (by decide)) (am_nm0 1 (by decide)) hown hK hP hD hS 0 rfl rfl 4 (by decide) (hts _ (am_flk_in (o := 1) (k := 4) (by decide) (by decide))) (fun _ h9 => h9) rfl hin rfl (am_cY_ok0 1 (by decide) 4 (by decide)) rfl rfl (Nat.le_of_ble_eq_true rfl) ct_dM_25 (fun H locs hP hD hS => ?_)
  have hP : va_P D am_cl [(h0, .inr (1, [.int 0, .int 0, .ref q0, .ref q1, .ref q2, .null, .null, .null, .null, .int 0, .null, .int 0, .null, .int 0, .null, .null, .null])), (q0, .inl (c0, 15, .inl (fun _ => 0))), (q1, .inl (c1, 15, .inl (fun _ => 0))), (q2, .inl (c2, 15, .inl (fun _ => 0)))] H := hP
  have hD : va_D A [(h0, .inr (1, [.int 0, .int 0, .ref q0, .ref q1, .ref q2, .null, .null, .null, .null, .int 0, .null, .int 0, .null, .int 0, .null, .null, .null])), (q0, .inl (c0, 15, .inl (fun _ => 0))), (q1, .inl (c1, 15, .inl (fun _ => 0))), (q2, .inl (c2, 15, .inl (fun _ => 0)))] := hD
  refine lv_aload_n hx hb ct_dM_28 rfl (lv_at hl 0 rfl) ?_
  refine lv_bipush (v := 15) hx hb ct_dM_29 (by decide) ?_
  refine va_newa (atype := .int) (ty := .int) (a0 := (15, .inl (fun _ => 0))) hx hb (hts _ (am_inw ct_aI rfl)) rfl hK hP hD hS hA (fun cA => rfl) (by decide) rfl (by decide) (by show 3 + 1 ≤ 12; decide) (by show 45 + 15 ≤ 445; decide) ct_dM_31 (fun q3 c3 H hK hP hD hS => ?_)
  have hP : va_P D am_cl [(h0, .inr (1, [.int 0, .int 0, .ref q0, .ref q1, .ref q2, .null, .null, .null, .null, .int 0, .null, .int 0, .null, .int 0, .null, .null, .null])), (q0, .inl (c0, 15, .inl (fun _ => 0))), (q1, .inl (c1, 15, .inl (fun _ => 0))), (q2, .inl (c2, 15, .inl (fun _ => 0))), (q3, .inl (c3, 15, .inl (fun _ => 0)))] H := hP
  have hD : va_D A [(h0, .inr (1, [.int 0, .int 0, .ref q0, .ref q1, .ref q2, .null, .null, .null, .null, .int 0, .null, .int 0, .null, .int 0, .null, .null, .null])), (q0, .inl (c0, 15, .inl (fun _ => 0))), (q1, .inl (c1, 15, .inl (fun _ => 0))), (q2, .inl (c2, 15, .inl (fun _ => 0))), (q3, .inl (c3, 15, .inl (fun _ => 0)))] := hD
  refine W.widen (k := 4) (n := 60) (by decide) (by decide) ?_
  refine va_putF (D := D) (ci := 1) (v := .ref q3) (ty := am_cY 1 5) (C := am_cC 1) (T := am_cT 1) (N := am_nf 1) hx hb hts (am_fin (by decide)) (am_cY 1) (am_cY_ok0 1 (by decide)) (am_nm0 1 (by decide)) hown hK hP hD hS 0 rfl rfl 5 (by decide) (hts _ (am_flk_in (o := 1) (k := 5) (by decide) (by decide))) (fun _ h9 => h9) rfl hin rfl (am_cY_ok0 1 (by decide) 5 (by decide)) rfl rfl (Nat.le_of_ble_eq_true rfl) ct_dM_33 (fun H locs hP hD hS => ?_)
  have hP : va_P D am_cl [(h0, .inr (1, [.int 0, .int 0, .ref q0, .ref q1, .ref q2, .ref q3, .null, .null, .null, .int 0, .null, .int 0, .null, .int 0, .null, .null, .null])), (q0, .inl (c0, 15, .inl (fun _ => 0))), (q1, .inl (c1, 15, .inl (fun _ => 0))), (q2, .inl (c2, 15, .inl (fun _ => 0))), (q3, .inl (c3, 15, .inl (fun _ => 0)))] H := hP
  have hD : va_D A [(h0, .inr (1, [.int 0, .int 0, .ref q0, .ref q1, .ref q2, .ref q3, .null, .null, .null, .int 0, .null, .int 0, .null, .int 0, .null, .null, .null])), (q0, .inl (c0, 15, .inl (fun _ => 0))), (q1, .inl (c1, 15, .inl (fun _ => 0))), (q2, .inl (c2, 15, .inl (fun _ => 0))), (q3, .inl (c3, 15, .inl (fun _ => 0)))] := hD
  refine lv_aload_n hx hb ct_dM_36 rfl (lv_at hl 0 rfl) ?_
  refine lv_bipush (v := 15) hx hb ct_dM_37 (by decide) ?_
  refine va_newa (atype := .boolean) (ty := .boolean) (a0 := (15, .inl (fun _ => 0))) hx hb (hts _ (am_inw ct_aZ rfl)) rfl hK hP hD hS hA (fun cA => rfl) (by decide) rfl (by decide) (by show 4 + 1 ≤ 12; decide) (by show 60 + 15 ≤ 445; decide) ct_dM_39 (fun q4 c4 H hK hP hD hS => ?_)
  have hP : va_P D am_cl [(h0, .inr (1, [.int 0, .int 0, .ref q0, .ref q1, .ref q2, .ref q3, .null, .null, .null, .int 0, .null, .int 0, .null, .int 0, .null, .null, .null])), (q0, .inl (c0, 15, .inl (fun _ => 0))), (q1, .inl (c1, 15, .inl (fun _ => 0))), (q2, .inl (c2, 15, .inl (fun _ => 0))), (q3, .inl (c3, 15, .inl (fun _ => 0))), (q4, .inl (c4, 15, .inl (fun _ => 0)))] H := hP
  have hD : va_D A [(h0, .inr (1, [.int 0, .int 0, .ref q0, .ref q1, .ref q2, .ref q3, .null, .null, .null, .int 0, .null, .int 0, .null, .int 0, .null, .null, .null])), (q0, .inl (c0, 15, .inl (fun _ => 0))), (q1, .inl (c1, 15, .inl (fun _ => 0))), (q2, .inl (c2, 15, .inl (fun _ => 0))), (q3, .inl (c3, 15, .inl (fun _ => 0))), (q4, .inl (c4, 15, .inl (fun _ => 0)))] := hD
  refine W.widen (k := 5) (n := 75) (by decide) (by decide) ?_
  refine va_putF (D := D) (ci := 1) (v := .ref q4) (ty := am_cY 1 6) (C := am_cC 1) (T := am_cT 1) (N := am_nf 1) hx hb hts (am_fin (by decide)) (am_cY 1) (am_cY_ok0 1 (by decide)) (am_nm0 1 (by decide)) hown hK hP hD hS 0 rfl rfl 6 (by decide) (hts _ (am_flk_in (o := 1) (k := 6) (by decide) (by decide))) (fun _ h9 => h9) rfl hin rfl (am_cY_ok0 1 (by decide) 6 (by decide)) rfl rfl (Nat.le_of_ble_eq_true rfl) ct_dM_41 (fun H locs hP hD hS => ?_)
  have hP : va_P D am_cl [(h0, .inr (1, [.int 0, .int 0, .ref q0, .ref q1, .ref q2, .ref q3, .ref q4, .null, .null, .int 0, .null, .int 0, .null, .int 0, .null, .null, .null])), (q0, .inl (c0, 15, .inl (fun _ => 0))), (q1, .inl (c1, 15, .inl (fun _ => 0))), (q2, .inl (c2, 15, .inl (fun _ => 0))), (q3, .inl (c3, 15, .inl (fun _ => 0))), (q4, .inl (c4, 15, .inl (fun _ => 0)))] H := hP
  have hD : va_D A [(h0, .inr (1, [.int 0, .int 0, .ref q0, .ref q1, .ref q2, .ref q3, .ref q4, .null, .null, .int 0, .null, .int 0, .null, .int 0, .null, .null, .null])), (q0, .inl (c0, 15, .inl (fun _ => 0))), (q1, .inl (c1, 15, .inl (fun _ => 0))), (q2, .inl (c2, 15, .inl (fun _ => 0))), (q3, .inl (c3, 15, .inl (fun _ => 0))), (q4, .inl (c4, 15, .inl (fun _ => 0)))] := hD
  refine lv_aload_n hx hb ct_dM_44 rfl (lv_at hl 0 rfl) ?_
  refine lv_sipush (v := 150) hx hb ct_dM_45 (by decide) ?_
  refine va_newa (atype := .int) (ty := .int) (a0 := (150, .inl (fun _ => 0))) hx hb (hts _ (am_inw ct_aI rfl)) rfl hK hP hD hS hA (fun cA => rfl) (by decide) rfl (by decide) (by show 5 + 1 ≤ 12; decide) (by show 75 + 150 ≤ 445; decide) ct_dM_48 (fun q5 c5 H hK hP hD hS => ?_)
  have hP : va_P D am_cl [(h0, .inr (1, [.int 0, .int 0, .ref q0, .ref q1, .ref q2, .ref q3, .ref q4, .null, .null, .int 0, .null, .int 0, .null, .int 0, .null, .null, .null])), (q0, .inl (c0, 15, .inl (fun _ => 0))), (q1, .inl (c1, 15, .inl (fun _ => 0))), (q2, .inl (c2, 15, .inl (fun _ => 0))), (q3, .inl (c3, 15, .inl (fun _ => 0))), (q4, .inl (c4, 15, .inl (fun _ => 0))), (q5, .inl (c5, 150, .inl (fun _ => 0)))] H := hP
  have hD : va_D A [(h0, .inr (1, [.int 0, .int 0, .ref q0, .ref q1, .ref q2, .ref q3, .ref q4, .null, .null, .int 0, .null, .int 0, .null, .int 0, .null, .null, .null])), (q0, .inl (c0, 15, .inl (fun _ => 0))), (q1, .inl (c1, 15, .inl (fun _ => 0))), (q2, .inl (c2, 15, .inl (fun _ => 0))), (q3, .inl (c3, 15, .inl (fun _ => 0))), (q4, .inl (c4, 15, .inl (fun _ => 0))), (q5, .inl (c5, 150, .inl (fun _ => 0)))] := hD
  refine W.widen (k := 6) (n := 225) (by decide) (by decide) ?_
  refine va_putF (D := D) (ci := 1) (v := .ref q5) (ty := am_cY 1 7) (C := am_cC 1) (T := am_cT 1) (N := am_nf 1) hx hb hts (am_fin (by decide)) (am_cY 1) (am_cY_ok0 1 (by decide)) (am_nm0 1 (by decide)) hown hK hP hD hS 0 rfl rfl 7 (by decide) (hts _ (am_flk_in (o := 1) (k := 7) (by decide) (by decide))) (fun _ h9 => h9) rfl hin rfl (am_cY_ok0 1 (by decide) 7 (by decide)) rfl rfl (Nat.le_of_ble_eq_true rfl) ct_dM_50 (fun H locs hP hD hS => ?_)
  have hP : va_P D am_cl [(h0, .inr (1, [.int 0, .int 0, .ref q0, .ref q1, .ref q2, .ref q3, .ref q4, .ref q5, .null, .int 0, .null, .int 0, .null, .int 0, .null, .null, .null])), (q0, .inl (c0, 15, .inl (fun _ => 0))), (q1, .inl (c1, 15, .inl (fun _ => 0))), (q2, .inl (c2, 15, .inl (fun _ => 0))), (q3, .inl (c3, 15, .inl (fun _ => 0))), (q4, .inl (c4, 15, .inl (fun _ => 0))), (q5, .inl (c5, 150, .inl (fun _ => 0)))] H := hP
  have hD : va_D A [(h0, .inr (1, [.int 0, .int 0, .ref q0, .ref q1, .ref q2, .ref q3, .ref q4, .ref q5, .null, .int 0, .null, .int 0, .null, .int 0, .null, .null, .null])), (q0, .inl (c0, 15, .inl (fun _ => 0))), (q1, .inl (c1, 15, .inl (fun _ => 0))), (q2, .inl (c2, 15, .inl (fun _ => 0))), (q3, .inl (c3, 15, .inl (fun _ => 0))), (q4, .inl (c4, 15, .inl (fun _ => 0))), (q5, .inl (c5, 150, .inl (fun _ => 0)))] := hD
  refine lv_aload_n hx hb ct_dM_53 rfl (lv_at hl 0 rfl) ?_
  refine lv_sipush (v := 150) hx hb ct_dM_54 (by decide) ?_
  refine va_newa (atype := .int) (ty := .int) (a0 := (150, .inl (fun _ => 0))) hx hb (hts _ (am_inw ct_aI rfl)) rfl hK hP hD hS hA (fun cA => rfl) (by decide) rfl (by decide) (by show 6 + 1 ≤ 12; decide) (by show 225 + 150 ≤ 445; decide) ct_dM_57 (fun q6 c6 H hK hP hD hS => ?_)
  have hP : va_P D am_cl [(h0, .inr (1, [.int 0, .int 0, .ref q0, .ref q1, .ref q2, .ref q3, .ref q4, .ref q5, .null, .int 0, .null, .int 0, .null, .int 0, .null, .null, .null])), (q0, .inl (c0, 15, .inl (fun _ => 0))), (q1, .inl (c1, 15, .inl (fun _ => 0))), (q2, .inl (c2, 15, .inl (fun _ => 0))), (q3, .inl (c3, 15, .inl (fun _ => 0))), (q4, .inl (c4, 15, .inl (fun _ => 0))), (q5, .inl (c5, 150, .inl (fun _ => 0))), (q6, .inl (c6, 150, .inl (fun _ => 0)))] H := hP
  have hD : va_D A [(h0, .inr (1, [.int 0, .int 0, .ref q0, .ref q1, .ref q2, .ref q3, .ref q4, .ref q5, .null, .int 0, .null, .int 0, .null, .int 0, .null, .null, .null])), (q0, .inl (c0, 15, .inl (fun _ => 0))), (q1, .inl (c1, 15, .inl (fun _ => 0))), (q2, .inl (c2, 15, .inl (fun _ => 0))), (q3, .inl (c3, 15, .inl (fun _ => 0))), (q4, .inl (c4, 15, .inl (fun _ => 0))), (q5, .inl (c5, 150, .inl (fun _ => 0))), (q6, .inl (c6, 150, .inl (fun _ => 0)))] := hD
  refine W.widen (k := 7) (n := 375) (by decide) (by decide) ?_
  refine va_putF (D := D) (ci := 1) (v := .ref q6) (ty := am_cY 1 8) (C := am_cC 1) (T := am_cT 1) (N := am_nf 1) hx hb hts (am_fin (by decide)) (am_cY 1) (am_cY_ok0 1 (by decide)) (am_nm0 1 (by decide)) hown hK hP hD hS 0 rfl rfl 8 (by decide) (hts _ (am_flk_in (o := 1) (k := 8) (by decide) (by decide))) (fun _ h9 => h9) rfl hin rfl (am_cY_ok0 1 (by decide) 8 (by decide)) rfl rfl (Nat.le_of_ble_eq_true rfl) ct_dM_59 (fun H locs hP hD hS => ?_)
  have hP : va_P D am_cl [(h0, .inr (1, [.int 0, .int 0, .ref q0, .ref q1, .ref q2, .ref q3, .ref q4, .ref q5, .ref q6, .int 0, .null, .int 0, .null, .int 0, .null, .null, .null])), (q0, .inl (c0, 15, .inl (fun _ => 0))), (q1, .inl (c1, 15, .inl (fun _ => 0))), (q2, .inl (c2, 15, .inl (fun _ => 0))), (q3, .inl (c3, 15, .inl (fun _ => 0))), (q4, .inl (c4, 15, .inl (fun _ => 0))), (q5, .inl (c5, 150, .inl (fun _ => 0))), (q6, .inl (c6, 150, .inl (fun _ => 0)))] H := hP
  have hD : va_D A [(h0, .inr (1, [.int 0, .int 0, .ref q0, .ref q1, .ref q2, .ref q3, .ref q4, .ref q5, .ref q6, .int 0, .null, .int 0, .null, .int 0, .null, .null, .null])), (q0, .inl (c0, 15, .inl (fun _ => 0))), (q1, .inl (c1, 15, .inl (fun _ => 0))), (q2, .inl (c2, 15, .inl (fun _ => 0))), (q3, .inl (c3, 15, .inl (fun _ => 0))), (q4, .inl (c4, 15, .inl (fun _ => 0))), (q5, .inl (c5, 150, .inl (fun _ => 0))), (q6, .inl (c6, 150, .inl (fun _ => 0)))] := hD
  refine lv_aload_n hx hb ct_dM_62 rfl (lv_at hl 0 rfl) ?_
  refine lv_bipush (v := 10) hx hb ct_dM_63 (by decide) ?_
  refine va_newa (atype := .int) (ty := .int) (a0 := (10, .inl (fun _ => 0))) hx hb (hts _ (am_inw ct_aI rfl)) rfl hK hP hD hS hA (fun cA => rfl) (by decide) rfl (by decide) (by show 7 + 1 ≤ 12; decide) (by show 375 + 10 ≤ 445; decide) ct_dM_65 (fun q7 c7 H hK hP hD hS => ?_)
  have hP : va_P D am_cl [(h0, .inr (1, [.int 0, .int 0, .ref q0, .ref q1, .ref q2, .ref q3, .ref q4, .ref q5, .ref q6, .int 0, .null, .int 0, .null, .int 0, .null, .null, .null])), (q0, .inl (c0, 15, .inl (fun _ => 0))), (q1, .inl (c1, 15, .inl (fun _ => 0))), (q2, .inl (c2, 15, .inl (fun _ => 0))), (q3, .inl (c3, 15, .inl (fun _ => 0))), (q4, .inl (c4, 15, .inl (fun _ => 0))), (q5, .inl (c5, 150, .inl (fun _ => 0))), (q6, .inl (c6, 150, .inl (fun _ => 0))), (q7, .inl (c7, 10, .inl (fun _ => 0)))] H := hP
  have hD : va_D A [(h0, .inr (1, [.int 0, .int 0, .ref q0, .ref q1, .ref q2, .ref q3, .ref q4, .ref q5, .ref q6, .int 0, .null, .int 0, .null, .int 0, .null, .null, .null])), (q0, .inl (c0, 15, .inl (fun _ => 0))), (q1, .inl (c1, 15, .inl (fun _ => 0))), (q2, .inl (c2, 15, .inl (fun _ => 0))), (q3, .inl (c3, 15, .inl (fun _ => 0))), (q4, .inl (c4, 15, .inl (fun _ => 0))), (q5, .inl (c5, 150, .inl (fun _ => 0))), (q6, .inl (c6, 150, .inl (fun _ => 0))), (q7, .inl (c7, 10, .inl (fun _ => 0)))] := hD
  refine W.widen (k := 8) (n := 385) (by decide) (by decide) ?_
  refine va_putF (D := D) (ci := 1) (v := .ref q7) (ty := am_cY 1 10) (C := am_cC 1) (T := am_cT 1) (N := am_nf 1) hx hb hts (am_fin (by decide)) (am_cY 1) (am_cY_ok0 1 (by decide)) (am_nm0 1 (by decide)) hown hK hP hD hS 0 rfl rfl 10 (by decide) (hts _ (am_flk_in (o := 1) (k := 10) (by decide) (by decide))) (fun _ h9 => h9) rfl hin rfl (am_cY_ok0 1 (by decide) 10 (by decide)) rfl rfl (Nat.le_of_ble_eq_true rfl) ct_dM_67 (fun H locs hP hD hS => ?_)
  have hP : va_P D am_cl [(h0, .inr (1, [.int 0, .int 0, .ref q0, .ref q1, .ref q2, .ref q3, .ref q4, .ref q5, .ref q6, .int 0, .ref q7, .int 0, .null, .int 0, .null, .null, .null])), (q0, .inl (c0, 15, .inl (fun _ => 0))), (q1, .inl (c1, 15, .inl (fun _ => 0))), (q2, .inl (c2, 15, .inl (fun _ => 0))), (q3, .inl (c3, 15, .inl (fun _ => 0))), (q4, .inl (c4, 15, .inl (fun _ => 0))), (q5, .inl (c5, 150, .inl (fun _ => 0))), (q6, .inl (c6, 150, .inl (fun _ => 0))), (q7, .inl (c7, 10, .inl (fun _ => 0)))] H := hP
  have hD : va_D A [(h0, .inr (1, [.int 0, .int 0, .ref q0, .ref q1, .ref q2, .ref q3, .ref q4, .ref q5, .ref q6, .int 0, .ref q7, .int 0, .null, .int 0, .null, .null, .null])), (q0, .inl (c0, 15, .inl (fun _ => 0))), (q1, .inl (c1, 15, .inl (fun _ => 0))), (q2, .inl (c2, 15, .inl (fun _ => 0))), (q3, .inl (c3, 15, .inl (fun _ => 0))), (q4, .inl (c4, 15, .inl (fun _ => 0))), (q5, .inl (c5, 150, .inl (fun _ => 0))), (q6, .inl (c6, 150, .inl (fun _ => 0))), (q7, .inl (c7, 10, .inl (fun _ => 0)))] := hD
  refine lv_aload_n hx hb ct_dM_70 rfl (lv_at hl 0 rfl) ?_
  refine lv_bipush (v := 15) hx hb ct_dM_71 (by decide) ?_
  refine va_newa (atype := .int) (ty := .int) (a0 := (15, .inl (fun _ => 0))) hx hb (hts _ (am_inw ct_aI rfl)) rfl hK hP hD hS hA (fun cA => rfl) (by decide) rfl (by decide) (by show 8 + 1 ≤ 12; decide) (by show 385 + 15 ≤ 445; decide) ct_dM_73 (fun q8 c8 H hK hP hD hS => ?_)
  have hP : va_P D am_cl [(h0, .inr (1, [.int 0, .int 0, .ref q0, .ref q1, .ref q2, .ref q3, .ref q4, .ref q5, .ref q6, .int 0, .ref q7, .int 0, .null, .int 0, .null, .null, .null])), (q0, .inl (c0, 15, .inl (fun _ => 0))), (q1, .inl (c1, 15, .inl (fun _ => 0))), (q2, .inl (c2, 15, .inl (fun _ => 0))), (q3, .inl (c3, 15, .inl (fun _ => 0))), (q4, .inl (c4, 15, .inl (fun _ => 0))), (q5, .inl (c5, 150, .inl (fun _ => 0))), (q6, .inl (c6, 150, .inl (fun _ => 0))), (q7, .inl (c7, 10, .inl (fun _ => 0))), (q8, .inl (c8, 15, .inl (fun _ => 0)))] H := hP
  have hD : va_D A [(h0, .inr (1, [.int 0, .int 0, .ref q0, .ref q1, .ref q2, .ref q3, .ref q4, .ref q5, .ref q6, .int 0, .ref q7, .int 0, .null, .int 0, .null, .null, .null])), (q0, .inl (c0, 15, .inl (fun _ => 0))), (q1, .inl (c1, 15, .inl (fun _ => 0))), (q2, .inl (c2, 15, .inl (fun _ => 0))), (q3, .inl (c3, 15, .inl (fun _ => 0))), (q4, .inl (c4, 15, .inl (fun _ => 0))), (q5, .inl (c5, 150, .inl (fun _ => 0))), (q6, .inl (c6, 150, .inl (fun _ => 0))), (q7, .inl (c7, 10, .inl (fun _ => 0))), (q8, .inl (c8, 15, .inl (fun _ => 0)))] := hD
  refine W.widen (k := 9) (n := 400) (by decide) (by decide) ?_
  refine va_putF (D := D) (ci := 1) (v := .ref q8) (ty := am_cY 1 12) (C := am_cC 1) (T := am_cT 1) (N := am_nf 1) hx hb hts (am_fin (by decide)) (am_cY 1) (am_cY_ok0 1 (by decide)) (am_nm0 1 (by decide)) hown hK hP hD hS 0 rfl rfl 12 (by decide) (hts _ (am_flk_in (o := 1) (k := 12) (by decide) (by decide))) (fun _ h9 => h9) rfl hin rfl (am_cY_ok0 1 (by decide) 12 (by decide)) rfl rfl (Nat.le_of_ble_eq_true rfl) ct_dM_75 (fun H locs hP hD hS => ?_)
  have hP : va_P D am_cl [(h0, .inr (1, [.int 0, .int 0, .ref q0, .ref q1, .ref q2, .ref q3, .ref q4, .ref q5, .ref q6, .int 0, .ref q7, .int 0, .ref q8, .int 0, .null, .null, .null])), (q0, .inl (c0, 15, .inl (fun _ => 0))), (q1, .inl (c1, 15, .inl (fun _ => 0))), (q2, .inl (c2, 15, .inl (fun _ => 0))), (q3, .inl (c3, 15, .inl (fun _ => 0))), (q4, .inl (c4, 15, .inl (fun _ => 0))), (q5, .inl (c5, 150, .inl (fun _ => 0))), (q6, .inl (c6, 150, .inl (fun _ => 0))), (q7, .inl (c7, 10, .inl (fun _ => 0))), (q8, .inl (c8, 15, .inl (fun _ => 0)))] H := hP
  have hD : va_D A [(h0, .inr (1, [.int 0, .int 0, .ref q0, .ref q1, .ref q2, .ref q3, .ref q4, .ref q5, .ref q6, .int 0, .ref q7, .int 0, .ref q8, .int 0, .null, .null, .null])), (q0, .inl (c0, 15, .inl (fun _ => 0))), (q1, .inl (c1, 15, .inl (fun _ => 0))), (q2, .inl (c2, 15, .inl (fun _ => 0))), (q3, .inl (c3, 15, .inl (fun _ => 0))), (q4, .inl (c4, 15, .inl (fun _ => 0))), (q5, .inl (c5, 150, .inl (fun _ => 0))), (q6, .inl (c6, 150, .inl (fun _ => 0))), (q7, .inl (c7, 10, .inl (fun _ => 0))), (q8, .inl (c8, 15, .inl (fun _ => 0)))] := hD
  refine lv_aload_n hx hb ct_dM_78 rfl (lv_at hl 0 rfl) ?_
  refine lv_bipush (v := 15) hx hb ct_dM_79 (by decide) ?_
  refine va_newa (atype := .boolean) (ty := .boolean) (a0 := (15, .inl (fun _ => 0))) hx hb (hts _ (am_inw ct_aZ rfl)) rfl hK hP hD hS hA (fun cA => rfl) (by decide) rfl (by decide) (by show 9 + 1 ≤ 12; decide) (by show 400 + 15 ≤ 445; decide) ct_dM_81 (fun q9 c9 H hK hP hD hS => ?_)
  have hP : va_P D am_cl [(h0, .inr (1, [.int 0, .int 0, .ref q0, .ref q1, .ref q2, .ref q3, .ref q4, .ref q5, .ref q6, .int 0, .ref q7, .int 0, .ref q8, .int 0, .null, .null, .null])), (q0, .inl (c0, 15, .inl (fun _ => 0))), (q1, .inl (c1, 15, .inl (fun _ => 0))), (q2, .inl (c2, 15, .inl (fun _ => 0))), (q3, .inl (c3, 15, .inl (fun _ => 0))), (q4, .inl (c4, 15, .inl (fun _ => 0))), (q5, .inl (c5, 150, .inl (fun _ => 0))), (q6, .inl (c6, 150, .inl (fun _ => 0))), (q7, .inl (c7, 10, .inl (fun _ => 0))), (q8, .inl (c8, 15, .inl (fun _ => 0))), (q9, .inl (c9, 15, .inl (fun _ => 0)))] H := hP
  have hD : va_D A [(h0, .inr (1, [.int 0, .int 0, .ref q0, .ref q1, .ref q2, .ref q3, .ref q4, .ref q5, .ref q6, .int 0, .ref q7, .int 0, .ref q8, .int 0, .null, .null, .null])), (q0, .inl (c0, 15, .inl (fun _ => 0))), (q1, .inl (c1, 15, .inl (fun _ => 0))), (q2, .inl (c2, 15, .inl (fun _ => 0))), (q3, .inl (c3, 15, .inl (fun _ => 0))), (q4, .inl (c4, 15, .inl (fun _ => 0))), (q5, .inl (c5, 150, .inl (fun _ => 0))), (q6, .inl (c6, 150, .inl (fun _ => 0))), (q7, .inl (c7, 10, .inl (fun _ => 0))), (q8, .inl (c8, 15, .inl (fun _ => 0))), (q9, .inl (c9, 15, .inl (fun _ => 0)))] := hD
  refine W.widen (k := 10) (n := 415) (by decide) (by decide) ?_
  refine va_putF (D := D) (ci := 1) (v := .ref q9) (ty := am_cY 1 14) (C := am_cC 1) (T := am_cT 1) (N := am_nf 1) hx hb hts (am_fin (by decide)) (am_cY 1) (am_cY_ok0 1 (by decide)) (am_nm0 1 (by decide)) hown hK hP hD hS 0 rfl rfl 14 (by decide) (hts _ (am_flk_in (o := 1) (k := 14) (by decide) (by decide))) (fun _ h9 => h9) rfl hin rfl (am_cY_ok0 1 (by decide) 14 (by decide)) rfl rfl (Nat.le_of_ble_eq_true rfl) ct_dM_83 (fun H locs hP hD hS => ?_)
  have hP : va_P D am_cl [(h0, .inr (1, [.int 0, .int 0, .ref q0, .ref q1, .ref q2, .ref q3, .ref q4, .ref q5, .ref q6, .int 0, .ref q7, .int 0, .ref q8, .int 0, .ref q9, .null, .null])), (q0, .inl (c0, 15, .inl (fun _ => 0))), (q1, .inl (c1, 15, .inl (fun _ => 0))), (q2, .inl (c2, 15, .inl (fun _ => 0))), (q3, .inl (c3, 15, .inl (fun _ => 0))), (q4, .inl (c4, 15, .inl (fun _ => 0))), (q5, .inl (c5, 150, .inl (fun _ => 0))), (q6, .inl (c6, 150, .inl (fun _ => 0))), (q7, .inl (c7, 10, .inl (fun _ => 0))), (q8, .inl (c8, 15, .inl (fun _ => 0))), (q9, .inl (c9, 15, .inl (fun _ => 0)))] H := hP
  have hD : va_D A [(h0, .inr (1, [.int 0, .int 0, .ref q0, .ref q1, .ref q2, .ref q3, .ref q4, .ref q5, .ref q6, .int 0, .ref q7, .int 0, .ref q8, .int 0, .ref q9, .null, .null])), (q0, .inl (c0, 15, .inl (fun _ => 0))), (q1, .inl (c1, 15, .inl (fun _ => 0))), (q2, .inl (c2, 15, .inl (fun _ => 0))), (q3, .inl (c3, 15, .inl (fun _ => 0))), (q4, .inl (c4, 15, .inl (fun _ => 0))), (q5, .inl (c5, 150, .inl (fun _ => 0))), (q6, .inl (c6, 150, .inl (fun _ => 0))), (q7, .inl (c7, 10, .inl (fun _ => 0))), (q8, .inl (c8, 15, .inl (fun _ => 0))), (q9, .inl (c9, 15, .inl (fun _ => 0)))] := hD
  refine lv_aload_n hx hb ct_dM_86 rfl (lv_at hl 0 rfl) ?_
  refine lv_bipush (v := 15) hx hb ct_dM_87 (by decide) ?_
  refine va_newa (atype := .boolean) (ty := .boolean) (a0 := (15, .inl (fun _ => 0))) hx hb (hts _ (am_inw ct_aZ rfl)) rfl hK hP hD hS hA (fun cA => rfl) (by decide) rfl (by decide) (by show 10 + 1 ≤ 12; decide) (by show 415 + 15 ≤ 445; decide) ct_dM_89 (fun q10 c10 H hK hP hD hS => ?_)
  have hP : va_P D am_cl [(h0, .inr (1, [.int 0, .int 0, .ref q0, .ref q1, .ref q2, .ref q3, .ref q4, .ref q5, .ref q6, .int 0, .ref q7, .int 0, .ref q8, .int 0, .ref q9, .null, .null])), (q0, .inl (c0, 15, .inl (fun _ => 0))), (q1, .inl (c1, 15, .inl (fun _ => 0))), (q2, .inl (c2, 15, .inl (fun _ => 0))), (q3, .inl (c3, 15, .inl (fun _ => 0))), (q4, .inl (c4, 15, .inl (fun _ => 0))), (q5, .inl (c5, 150, .inl (fun _ => 0))), (q6, .inl (c6, 150, .inl (fun _ => 0))), (q7, .inl (c7, 10, .inl (fun _ => 0))), (q8, .inl (c8, 15, .inl (fun _ => 0))), (q9, .inl (c9, 15, .inl (fun _ => 0))), (q10, .inl (c10, 15, .inl (fun _ => 0)))] H := hP
  have hD : va_D A [(h0, .inr (1, [.int 0, .int 0, .ref q0, .ref q1, .ref q2, .ref q3, .ref q4, .ref q5, .ref q6, .int 0, .ref q7, .int 0, .ref q8, .int 0, .ref q9, .null, .null])), (q0, .inl (c0, 15, .inl (fun _ => 0))), (q1, .inl (c1, 15, .inl (fun _ => 0))), (q2, .inl (c2, 15, .inl (fun _ => 0))), (q3, .inl (c3, 15, .inl (fun _ => 0))), (q4, .inl (c4, 15, .inl (fun _ => 0))), (q5, .inl (c5, 150, .inl (fun _ => 0))), (q6, .inl (c6, 150, .inl (fun _ => 0))), (q7, .inl (c7, 10, .inl (fun _ => 0))), (q8, .inl (c8, 15, .inl (fun _ => 0))), (q9, .inl (c9, 15, .inl (fun _ => 0))), (q10, .inl (c10, 15, .inl (fun _ => 0)))] := hD
  refine W.widen (k := 11) (n := 430) (by decide) (by decide) ?_
  refine va_putF (D := D) (ci := 1) (v := .ref q10) (ty := am_cY 1 15) (C := am_cC 1) (T := am_cT 1) (N := am_nf 1) hx hb hts (am_fin (by decide)) (am_cY 1) (am_cY_ok0 1 (by decide)) (am_nm0 1 (by decide)) hown hK hP hD hS 0 rfl rfl 15 (by decide) (hts _ (am_flk_in (o := 1) (k := 15) (by decide) (by decide))) (fun _ h9 => h9) rfl hin rfl (am_cY_ok0 1 (by decide) 15 (by decide)) rfl rfl (Nat.le_of_ble_eq_true rfl) ct_dM_91 (fun H locs hP hD hS => ?_)
  have hP : va_P D am_cl [(h0, .inr (1, [.int 0, .int 0, .ref q0, .ref q1, .ref q2, .ref q3, .ref q4, .ref q5, .ref q6, .int 0, .ref q7, .int 0, .ref q8, .int 0, .ref q9, .ref q10, .null])), (q0, .inl (c0, 15, .inl (fun _ => 0))), (q1, .inl (c1, 15, .inl (fun _ => 0))), (q2, .inl (c2, 15, .inl (fun _ => 0))), (q3, .inl (c3, 15, .inl (fun _ => 0))), (q4, .inl (c4, 15, .inl (fun _ => 0))), (q5, .inl (c5, 150, .inl (fun _ => 0))), (q6, .inl (c6, 150, .inl (fun _ => 0))), (q7, .inl (c7, 10, .inl (fun _ => 0))), (q8, .inl (c8, 15, .inl (fun _ => 0))), (q9, .inl (c9, 15, .inl (fun _ => 0))), (q10, .inl (c10, 15, .inl (fun _ => 0)))] H := hP
  have hD : va_D A [(h0, .inr (1, [.int 0, .int 0, .ref q0, .ref q1, .ref q2, .ref q3, .ref q4, .ref q5, .ref q6, .int 0, .ref q7, .int 0, .ref q8, .int 0, .ref q9, .ref q10, .null])), (q0, .inl (c0, 15, .inl (fun _ => 0))), (q1, .inl (c1, 15, .inl (fun _ => 0))), (q2, .inl (c2, 15, .inl (fun _ => 0))), (q3, .inl (c3, 15, .inl (fun _ => 0))), (q4, .inl (c4, 15, .inl (fun _ => 0))), (q5, .inl (c5, 150, .inl (fun _ => 0))), (q6, .inl (c6, 150, .inl (fun _ => 0))), (q7, .inl (c7, 10, .inl (fun _ => 0))), (q8, .inl (c8, 15, .inl (fun _ => 0))), (q9, .inl (c9, 15, .inl (fun _ => 0))), (q10, .inl (c10, 15, .inl (fun _ => 0)))] := hD
  refine lv_aload_n hx hb ct_dM_94 rfl (lv_at hl 0 rfl) ?_
  refine lv_bipush (v := 15) hx hb ct_dM_95 (by decide) ?_
  refine va_newa (atype := .int) (ty := .int) (a0 := (15, .inl (fun _ => 0))) hx hb (hts _ (am_inw ct_aI rfl)) rfl hK hP hD hS hA (fun cA => rfl) (by decide) rfl (by decide) (by show 11 + 1 ≤ 12; decide) (by show 430 + 15 ≤ 445; decide) ct_dM_97 (fun q11 c11 H hK hP hD hS => ?_)
  have hP : va_P D am_cl [(h0, .inr (1, [.int 0, .int 0, .ref q0, .ref q1, .ref q2, .ref q3, .ref q4, .ref q5, .ref q6, .int 0, .ref q7, .int 0, .ref q8, .int 0, .ref q9, .ref q10, .null])), (q0, .inl (c0, 15, .inl (fun _ => 0))), (q1, .inl (c1, 15, .inl (fun _ => 0))), (q2, .inl (c2, 15, .inl (fun _ => 0))), (q3, .inl (c3, 15, .inl (fun _ => 0))), (q4, .inl (c4, 15, .inl (fun _ => 0))), (q5, .inl (c5, 150, .inl (fun _ => 0))), (q6, .inl (c6, 150, .inl (fun _ => 0))), (q7, .inl (c7, 10, .inl (fun _ => 0))), (q8, .inl (c8, 15, .inl (fun _ => 0))), (q9, .inl (c9, 15, .inl (fun _ => 0))), (q10, .inl (c10, 15, .inl (fun _ => 0))), (q11, .inl (c11, 15, .inl (fun _ => 0)))] H := hP
  have hD : va_D A [(h0, .inr (1, [.int 0, .int 0, .ref q0, .ref q1, .ref q2, .ref q3, .ref q4, .ref q5, .ref q6, .int 0, .ref q7, .int 0, .ref q8, .int 0, .ref q9, .ref q10, .null])), (q0, .inl (c0, 15, .inl (fun _ => 0))), (q1, .inl (c1, 15, .inl (fun _ => 0))), (q2, .inl (c2, 15, .inl (fun _ => 0))), (q3, .inl (c3, 15, .inl (fun _ => 0))), (q4, .inl (c4, 15, .inl (fun _ => 0))), (q5, .inl (c5, 150, .inl (fun _ => 0))), (q6, .inl (c6, 150, .inl (fun _ => 0))), (q7, .inl (c7, 10, .inl (fun _ => 0))), (q8, .inl (c8, 15, .inl (fun _ => 0))), (q9, .inl (c9, 15, .inl (fun _ => 0))), (q10, .inl (c10, 15, .inl (fun _ => 0))), (q11, .inl (c11, 15, .inl (fun _ => 0)))] := hD
  refine W.widen (k := 12) (n := 445) (by decide) (by decide) ?_
  refine va_putF (D := D) (ci := 1) (v := .ref q11) (ty := am_cY 1 16) (C := am_cC 1) (T := am_cT 1) (N := am_nf 1) hx hb hts (am_fin (by decide)) (am_cY 1) (am_cY_ok0 1 (by decide)) (am_nm0 1 (by decide)) hown hK hP hD hS 0 rfl rfl 16 (by decide) (hts _ (am_flk_in (o := 1) (k := 16) (by decide) (by decide))) (fun _ h9 => h9) rfl hin rfl (am_cY_ok0 1 (by decide) 16 (by decide)) rfl rfl (Nat.le_of_ble_eq_true rfl) ct_dM_99 (fun H locs hP hD hS => ?_)
  have hP : va_P D am_cl [(h0, .inr (1, [.int 0, .int 0, .ref q0, .ref q1, .ref q2, .ref q3, .ref q4, .ref q5, .ref q6, .int 0, .ref q7, .int 0, .ref q8, .int 0, .ref q9, .ref q10, .ref q11])), (q0, .inl (c0, 15, .inl (fun _ => 0))), (q1, .inl (c1, 15, .inl (fun _ => 0))), (q2, .inl (c2, 15, .inl (fun _ => 0))), (q3, .inl (c3, 15, .inl (fun _ => 0))), (q4, .inl (c4, 15, .inl (fun _ => 0))), (q5, .inl (c5, 150, .inl (fun _ => 0))), (q6, .inl (c6, 150, .inl (fun _ => 0))), (q7, .inl (c7, 10, .inl (fun _ => 0))), (q8, .inl (c8, 15, .inl (fun _ => 0))), (q9, .inl (c9, 15, .inl (fun _ => 0))), (q10, .inl (c10, 15, .inl (fun _ => 0))), (q11, .inl (c11, 15, .inl (fun _ => 0)))] H := hP
  have hD : va_D A [(h0, .inr (1, [.int 0, .int 0, .ref q0, .ref q1, .ref q2, .ref q3, .ref q4, .ref q5, .ref q6, .int 0, .ref q7, .int 0, .ref q8, .int 0, .ref q9, .ref q10, .ref q11])), (q0, .inl (c0, 15, .inl (fun _ => 0))), (q1, .inl (c1, 15, .inl (fun _ => 0))), (q2, .inl (c2, 15, .inl (fun _ => 0))), (q3, .inl (c3, 15, .inl (fun _ => 0))), (q4, .inl (c4, 15, .inl (fun _ => 0))), (q5, .inl (c5, 150, .inl (fun _ => 0))), (q6, .inl (c6, 150, .inl (fun _ => 0))), (q7, .inl (c7, 10, .inl (fun _ => 0))), (q8, .inl (c8, 15, .inl (fun _ => 0))), (q9, .inl (c9, 15, .inl (fun _ => 0))), (q10, .inl (c10, 15, .inl (fun _ => 0))), (q11, .inl (c11, 15, .inl (fun _ => 0)))] := hD
  have e2 : c0 = c2 := Option.some.inj (((hK.2 0 _ rfl).2 : s.vm.findClass _ = some c0).symm.trans (hK.2 2 _ rfl).2)
  have e3 : c0 = c3 := Option.some.inj (((hK.2 0 _ rfl).2 : s.vm.findClass _ = some c0).symm.trans (hK.2 3 _ rfl).2)
  have e4 : c1 = c4 := Option.some.inj (((hK.2 1 _ rfl).2 : s.vm.findClass _ = some c1).symm.trans (hK.2 4 _ rfl).2)
  have e5 : c0 = c5 := Option.some.inj (((hK.2 0 _ rfl).2 : s.vm.findClass _ = some c0).symm.trans (hK.2 5 _ rfl).2)
  have e6 : c0 = c6 := Option.some.inj (((hK.2 0 _ rfl).2 : s.vm.findClass _ = some c0).symm.trans (hK.2 6 _ rfl).2)
  have e7 : c0 = c7 := Option.some.inj (((hK.2 0 _ rfl).2 : s.vm.findClass _ = some c0).symm.trans (hK.2 7 _ rfl).2)
  have e8 : c0 = c8 := Option.some.inj (((hK.2 0 _ rfl).2 : s.vm.findClass _ = some c0).symm.trans (hK.2 8 _ rfl).2)
  have e9 : c1 = c9 := Option.some.inj (((hK.2 1 _ rfl).2 : s.vm.findClass _ = some c1).symm.trans (hK.2 9 _ rfl).2)
  have e10 : c1 = c10 := Option.some.inj (((hK.2 1 _ rfl).2 : s.vm.findClass _ = some c1).symm.trans (hK.2 10 _ rfl).2)
  have e11 : c0 = c11 := Option.some.inj (((hK.2 0 _ rfl).2 : s.vm.findClass _ = some c0).symm.trans (hK.2 11 _ rfl).2)
  subst e2
  subst e3
  subst e4
  subst e5
  subst e6
  subst e7
  subst e8
  subst e9
  subst e10
  subst e11
  refine W.widen (k := 12) (n := 445) (by decide) (by decide) ?_
  refine W.vret hx hb hr (fun t ht hW => ⟨⟨((fun k => ([0, h0, 0, 0, 0, 0, 0, 0, 0, 0, 0, 0, 0, 0, q0, q1, q2, q3, q4, q5, q6, q7, q8, q9, q10, q11, 0] : List Nat).getD k 0), (fun k => if k = 0 then c0 else c1)), rfl, trivial, rfl, by rw [ht]; exact hP, va_K.moved hW.alike (hK.sub [0, 1] rfl), hD⟩, hS.F ht⟩) hS.2.2 ct_dM_102
