/-! THE CLAIM OUT OF ONE WALK OF THE LAW'S BODY. Your part is whole_start (and what it stands on); all else here is the same for every law, but numbers. -/
def R_law : String := "SlidingHeapLaw"
def lw_P (b : Addr) (xs : List Int32) (args : Array Value) (s : State) : Prop := args = #[.ref b] ∧ s.IntsAt b xs ∧ xs.length ≤ 2560 ∧ (Jvm.Cond.and given_1 narrow_1).before args s = true
def lw_Q (_ : Array Value) (s : State) (o : Outcome) (t : State) : Prop := o = .returned (some (.int 1)) ∧ Framed s o t [] 1062 9061
def lw_Z (below : List Frame) (a : Array Value) (s : State) : State → Prop := fun t => ∃ o, t.status = .running ∧ Ended t below o ∧ lw_Q a s o t
/-- the law's own end, with 1 on the stack, nothing written that was there before, its room as the claim has it -/
theorem lw_ret {p : Program} {l : Launch} {e : Env} {s : State} {m : MethodId} {below : List Frame} {meth : Method} {c : Code} {b : Nat} (hx : p.tables.exec = Jvm.exec) (hb : c.code = code) (hr : meth.sig.returnType = ret) (hlocks : meth.locks = false) {pc : Nat} {H : Heap} {ls : Array Slot} (hdg : decode code pc = .ok (.ireturn, 1)) : W p l e room_1 s m #[Value.ref b] below meth c H [] 1062 9061 (lw_Z below #[Value.ref b] s) (F0 m pc ls [.int 1]) := by
  intro T hT X
  obtain ⟨fs, hret, hrun, hended, hW, hframe⟩ := X.leave (v := some (.int 1)) (hlocks := hlocks) (fun h => by rw [hr] at h; cases h)
  have hmeth' : T.vm.method? m = some meth := X.method'
  refine ⟨T.setFrames fs, ?_, .returned (some (.int 1)), hrun, hended, rfl, ⟨_, rfl⟩, hW, hframe⟩
  jvm_step X.here [X.here.top, hx, hb, hdg, hmeth', hr, ret, narrow_b1]
  (try refine ⟨rfl, ?_⟩); (try refine ⟨rfl, ?_⟩)
  first | (intro acts; rw [hret _ acts rfl rfl rfl]) | rw [hret _ _ rfl rfl rfl]
  exact Steps.refl _
/-- what holds at the law's entry: the machine, the code, the tables' words (any of lw_tbl by 'hts w (by decide +kernel)'), the script of L ints xs at the cell b, what the Statement gives of the start (any of its parts by flat_of_before) -/
def lw_At (p : Program) (s : State) (m : MethodId) (meth : Method) (c : Code) (b L : Nat) (xs : Nat → Int32) : Prop :=
  p.tables.exec = Jvm.exec ∧ c.code = code ∧ meth.sig.returnType = ret ∧ c.maxLocals = 7 ∧ s.vm.findClass R_law = some m.cls ∧ (∀ w ∈ lw_tbl, w.before #[Value.ref b] s = true) ∧ va_X b L xs s s.heap ∧ b < s.heap.size ∧ meth.locks = false ∧ (Jvm.Cond.and given_1 narrow_1).before #[Value.ref b] s = true

theorem st_d_0 : decode code 0 = .ok (.new 8, 3) := by decide +kernel
theorem st_d_3 : decode code 3 = .ok (.dup, 1) := by decide +kernel
theorem st_d_4 : decode code 4 = .ok (.invokespecial 62, 3) := by decide +kernel
theorem st_d_7 : decode code 7 = .ok (.astore_n 1, 1) := by decide +kernel
theorem st_d_8 : decode code 8 = .ok (.new 63, 3) := by decide +kernel
theorem st_d_11 : decode code 11 = .ok (.dup, 1) := by decide +kernel
theorem st_d_12 : decode code 12 = .ok (.invokespecial 65, 3) := by decide +kernel
theorem st_d_15 : decode code 15 = .ok (.astore_n 2, 1) := by decide +kernel
theorem st_d_16 : decode code 16 = .ok (.iconst 1, 1) := by decide +kernel
theorem st_d_17 : decode code 17 = .ok (.newarray .long, 2) := by decide +kernel
theorem st_d_19 : decode code 19 = .ok (.astore_n 3, 1) := by decide +kernel
theorem st_w0 : ∀ w ∈ ([.classLink (am_cC 2) 8 (am_cC 0), .instantiable (am_cC 0) 18, .initialized (am_cC 0), .methodLink (am_cC 2) 62 ct_yX, .instanceMethod ct_yX, .code ct_yX prog_1_method_1_code 1 none, .classLink (am_cC 2) 63 (am_cC 1), .instantiable (am_cC 1) 17, .initialized (am_cC 1), .methodLink (am_cC 2) 65 ct_yM, .instanceMethod ct_yM, .code ct_yM prog_3_method_1_code 1 none] : List Cond), w ∈ lw_tbl ∧ goodWord w = true := by decide +kernel
theorem st_gX : GoodIn am_ws ct_wX := am_gin (fun w hw => by
  rcases List.mem_cons.mp hw with rfl | hw
  · exact am_inw (st_w0 _ (by simp)).1 rfl
  · exact hw)
theorem st_gM : GoodIn am_ws ct_wM := am_gin (fun w hw => by
  rcases List.mem_cons.mp hw with rfl | hw
  · exact am_inw (st_w0 _ (by simp)).1 rfl
  · exact hw)
theorem st_zs : Cond.laysStatic Bundle.tN "UNASSIGNED_STACK" Bundle.steD ∈ lw_tbl ∧ Cond.laysStatic Bundle.tN "SUPPRESSED_SENTINEL" Bundle.listD ∈ lw_tbl ∧ Cond.initialized Bundle.tN ∈ lw_tbl := by decide +kernel
theorem st_nf : Cond.isRef (.static Bundle.tN "UNASSIGNED_STACK" Bundle.steD) ∈ flatC (Jvm.Cond.and given_1 narrow_1) ∧ Cond.isRef (.static Bundle.tN "SUPPRESSED_SENTINEL" Bundle.listD) ∈ flatC (Jvm.Cond.and given_1 narrow_1) := by decide +kernel
theorem st_nc : ∀ q ∈ am_nc, Cond.not (.castable q.1 q.2) ∈ flatC (Jvm.Cond.and given_1 narrow_1) := by decide +kernel
-- the cells of the world by where they were made
def st_pos (k : Nat) : Nat := if k = 0 then 0 else if k = 1 then 13 else if k < 14 then k - 1 else k
def st_a (a1 a2 : Nat → Nat) (q b : Nat) : Nat → Nat := fun k => if k = 0 then a1 0 else if k = 1 then a2 1 else if k < 14 then a1 k else if k < 26 then a2 k else if k = 26 then q else b
def st_cs (cs1 : Nat → ClassId) (c3 : ClassId) : Nat → ClassId := fun k => if k = 2 then c3 else cs1 k
theorem st_fl0 : ∀ k, k < 18 → am_fl 0 k < 30 → 2 ≤ am_fl 0 k ∧ am_fl 0 k < 14 := by decide +kernel
theorem st_fl1 : ∀ k, k < 17 → am_fl 1 k < 30 → 14 ≤ am_fl 1 k ∧ am_fl 1 k < 26 := by decide +kernel
theorem st_at : ∀ j, j < 26 → 2 ≤ j → am_at j < 2 := by decide +kernel
theorem st_cellX {a a1 : Nat → Nat} {cs cs1 : Nat → ClassId} {σ : St} (ha : ∀ k, k = 0 ∨ 2 ≤ k ∧ k < 14 → a k = a1 k) (hc : ∀ k, k < 2 → cs k = cs1 k) {j : Nat} (hj : j = 0 ∨ 2 ≤ j ∧ j < 14) : am_cell a1 cs1 σ j = am_cell a cs σ j := by
  unfold am_cell
  rw [ha j hj]
  rcases hj with rfl | ⟨h1, h2⟩
  · rw [if_pos (by decide), if_pos (by decide)]
    congr 3
    refine List.map_congr_left (fun k hk => ?_)
    have hk : k < 18 := List.mem_range.mp hk
    unfold am_fv
    by_cases hf : am_fl 0 k < 30
    · rw [if_pos hf, if_pos hf, ha _ (Or.inr (st_fl0 k hk hf))]
    · rw [if_neg hf, if_neg hf]
  · rw [if_neg (show ¬ j < 2 by omega), if_neg (show ¬ j < 2 by omega), hc _ (st_at j (by omega) h1)]
theorem st_cellM {a a1 : Nat → Nat} {cs cs1 : Nat → ClassId} {σ : St} (ha : ∀ k, k = 1 ∨ 14 ≤ k ∧ k < 26 → a k = a1 k) (hc : ∀ k, k < 2 → cs k = cs1 k) {j : Nat} (hj : j = 1 ∨ 14 ≤ j ∧ j < 26) : am_cell a1 cs1 σ j = am_cell a cs σ j := by
  unfold am_cell
  rw [ha j hj]
  rcases hj with rfl | ⟨h1, h2⟩
  · rw [if_pos (by decide), if_pos (by decide)]
    congr 3
    refine List.map_congr_left (fun k hk => ?_)
    have hk : k < 17 := List.mem_range.mp hk
    unfold am_fv
    by_cases hf : am_fl 1 k < 30
    · rw [if_pos hf, if_pos hf, ha _ (Or.inr (st_fl1 k hk hf))]
    · rw [if_neg hf, if_neg hf]
  · rw [if_neg (show ¬ j < 2 by omega), if_neg (show ¬ j < 2 by omega), hc _ (st_at j (by omega) (by omega))]
theorem st_world {a1 a2 : Nat → Nat} {cs1 cs2 : Nat → ClassId} {q b : Nat} {c3 : ClassId} (h0 : cs2 0 = cs1 0) (h1 : cs2 1 = cs1 1) : ∀ k, k < 27 → (ct_WX a1 cs1 ++ ct_WM a2 cs2 ++ [(q, .inl (c3, 1, .inr (.inl (fun _ => 0))))])[st_pos k]? = some (am_cell (st_a a1 a2 q b) (st_cs cs1 c3) am_st0 k) := by
  intro k hk
  have hcX : ∀ k, k < 2 → st_cs cs1 c3 k = cs1 k := fun k hk => if_neg (by omega)
  have hcM : ∀ k, k < 2 → st_cs cs1 c3 k = cs2 k := fun k hk => by
    rw [hcX k hk]
    rcases (show k = 0 ∨ k = 1 by omega) with rfl | rfl
    · exact h0.symm
    · exact h1.symm
  have haX : ∀ k, k = 0 ∨ 2 ≤ k ∧ k < 14 → st_a a1 a2 q b k = a1 k := fun k hk => by
    unfold st_a
    rcases hk with rfl | ⟨h1, h2⟩
    · rw [if_pos rfl]
    · rw [if_neg (by omega), if_neg (by omega), if_pos h2]
  have haM : ∀ k, k = 1 ∨ 14 ≤ k ∧ k < 26 → st_a a1 a2 q b k = a2 k := fun k hk => by
    unfold st_a
    rcases hk with rfl | ⟨h1, h2⟩
    · rw [if_neg (by decide), if_pos rfl]
    · rw [if_neg (by omega), if_neg (by omega), if_neg (by omega), if_pos h2]
  by_cases hX : k = 0 ∨ 2 ≤ k ∧ k < 14
  · rw [← st_cellX haX hcX hX]
    rcases (show k = 0 ∨ k = 2 ∨ k = 3 ∨ k = 4 ∨ k = 5 ∨ k = 6 ∨ k = 7 ∨ k = 8 ∨ k = 9 ∨ k = 10 ∨ k = 11 ∨ k = 12 ∨ k = 13 by omega) with rfl | rfl | rfl | rfl | rfl | rfl | rfl | rfl | rfl | rfl | rfl | rfl | rfl <;> rfl
  · by_cases hM : k = 1 ∨ 14 ≤ k ∧ k < 26
    · rw [← st_cellM haM hcM hM]
      rcases (show k = 1 ∨ k = 14 ∨ k = 15 ∨ k = 16 ∨ k = 17 ∨ k = 18 ∨ k = 19 ∨ k = 20 ∨ k = 21 ∨ k = 22 ∨ k = 23 ∨ k = 24 ∨ k = 25 by omega) with rfl | rfl | rfl | rfl | rfl | rfl | rfl | rfl | rfl | rfl | rfl | rfl | rfl <;> rfl
    · have : k = 26 := by omega
      subst this
      rfl
theorem st_pos_inj {i j : Nat} (hi : i < 27) (hj : j < 27) (h : st_pos i = st_pos j) : i = j := by
  unfold st_pos at h
  by_cases h1 : i = 0
  · by_cases h2 : j = 0
    · omega
    · rw [if_pos h1, if_neg h2] at h
      by_cases h3 : j = 1
      · rw [if_pos h3] at h; omega
      · rw [if_neg h3] at h
        by_cases h4 : j < 14
        · rw [if_pos h4] at h; omega
        · rw [if_neg h4] at h; omega
  · rw [if_neg h1] at h
    by_cases h2 : j = 0
    · rw [if_pos h2] at h
      by_cases h3 : i = 1
      · rw [if_pos h3] at h; omega
      · rw [if_neg h3] at h
        by_cases h4 : i < 14
        · rw [if_pos h4] at h; omega
        · rw [if_neg h4] at h; omega
    · rw [if_neg h2] at h
      by_cases h3 : i = 1
      · rw [if_pos h3] at h
        by_cases h5 : j = 1
        · omega
        · rw [if_neg h5] at h
          by_cases h4 : j < 14
          · rw [if_pos h4] at h; omega
          · rw [if_neg h4] at h; omega
      · rw [if_neg h3] at h
        by_cases h5 : j = 1
        · rw [if_pos h5] at h
          by_cases h4 : i < 14
          · rw [if_pos h4] at h; omega
          · rw [if_neg h4] at h; omega
        · rw [if_neg h5] at h
          by_cases h4 : i < 14
          · rw [if_pos h4] at h
            by_cases h6 : j < 14
            · rw [if_pos h6] at h; omega
            · rw [if_neg h6] at h; omega
          · rw [if_neg h4] at h
            by_cases h6 : j < 14
            · rw [if_pos h6] at h; omega
            · rw [if_neg h6] at h; omega
/-- the pure claim: the law's loop, from the fresh objects, answers 1, and makes at most 1000 exceptions -/
def st_pure : Prop := ∀ (sc : Int → Int) (L : Nat), L ≤ 2560 → (∀ j, am_R (sc j)) → sc (-1) = (L : Int) →
  am_wp sc am_law 20 [.inr (.inl 28), .inr (.inl 0), .inr (.inl 1), .inr (.inl 26), .inr (.inr 0), .inr (.inr 0), .inr (.inr 0)] [] am_st0 (fun o _ t => o = .inl (some 1) ∧ t ≤ 1000)
set_option maxHeartbeats 8000000 in
set_option maxRecDepth 100000 in
theorem st_start (hpure : st_pure) {p : Program} {e : Env} {s : State} {m : MethodId} {below : List Frame} {meth : Method} {c : Code} (l : Launch) (htr : l.stackTraces = false) (htab : c.exceptionTable.toList = []) {b L : Nat} {xs : Nat → Int32} (hL : L ≤ 2560) (C0 : lw_At p s m meth c b L xs) : W p l e room_1 s m #[Value.ref b] below meth c s.heap [] 0 0 (lw_Z below #[Value.ref b] s) (entryFrame m ([Value.ref b] : List Value).toArray 7) := by
  obtain ⟨hx, hb, hr, hml, hown0, htl, hX, hbl, hlocks, hgv⟩ := C0
  have hown : s.vm.findClass (am_cC 2) = some m.cls := hown0
  have hts : ∀ w ∈ am_ws, w.before #[Value.ref b] s = true := fun w hw => htl w (List.mem_filter.mp hw).1
  have hflat := flat_of_before _ hgv
  obtain ⟨cX, iX, kX⟩ := u_known (C := am_cC 0) (T := am_cT 0) (N := am_nf 0) hts (am_fin (by decide)) (hts _ (am_inw (st_w0 (.instantiable (am_cC 0) 18) (by simp)).1 rfl))
  obtain ⟨cM, iM, kM⟩ := u_known (C := am_cC 1) (T := am_cT 1) (N := am_nf 1) hts (am_fin (by decide)) (hts _ (am_inw (st_w0 (.instantiable (am_cC 1) 17) (by simp)).1 rfl))
  obtain ⟨D, hD1⟩ : ∃ D : va_G, D = ((fun o => if o = 0 then cX else cM), (fun o => if o = 0 then iX else iM)) := ⟨_, rfl⟩
  have hK : va_K D am_cl [] s := by
    refine ⟨fun o q hq => ?_, fun k q hk => by cases hk⟩
    match o, hq with
    | 0, hq => cases hq; rw [hD1]; exact kX
    | 1, hq => cases hq; rw [hD1]; exact kM
    | n + 2, hq => cases hq
  clear hD1 kX kM
  obtain ⟨A, hAe⟩ : ∃ A : Nat → Prop, A = fun q => s.heap.size ≤ q := ⟨_, rfl⟩
  have hA : ∀ q : Nat, s.heap.size ≤ q → A q := fun q h => by rw [hAe]; exact h
  have hS : va_S A s.heap s.heap [] := va_S.rf
  have hP : va_P D am_cl [] s.heap := fun k q hk => by cases hk
  have hD : va_D A [] := ⟨fun i j p q hi _ _ => (by cases hi), fun k q hk => (by cases hk)⟩
  have hl := lv_entry ([.ref b]) (n := 7) (Nat.le_of_ble_eq_true rfl)
  rw [lg_entry_eq]
  generalize (lg_sl ([.ref b]) ++ List.replicate (7 - (lg_sl ([.ref b])).length) Slot.unset).toArray = ls at hl ⊢
  have hl : lv_has ls 7 [(0, .ref b)] := hl
  -- new SlidingHeap()
  refine va_new (ci := 0) (fs := [.null, .null, .int 0, .null, .null, .null, .null, .null, .int 0, .null, .int 0, .null, .int 0, .int 0, .null, .null, .int 0, .null]) (C := am_cC 0) (T := am_cT 0) (N := am_nf 0) hx hb hts (am_fin (by decide)) (am_cY 0) (am_cY_ok0 0 (by decide)) hown (hts _ (am_inw (st_w0 (.classLink (am_cC 2) 8 (am_cC 0)) (by simp)).1 rfl)) (hts _ (am_inw (st_w0 (.instantiable (am_cC 0) 18) (by simp)).1 rfl)) (hts _ (am_inw (st_w0 (.initialized (am_cC 0)) (by simp)).1 rfl)) hK hP hD hS hA rfl (by decide +kernel) (by decide) (by decide) st_d_0 (fun qx H hP hD hS => ?_)
  refine W.widen (k := 1) (n := 18) (by decide) (by decide) ?_
  refine lv_dup hx hb st_d_3 rfl ?_
  have hFc := va_free (wc := [(qx, .inr (0, [.null, .null, .int 0, .null, .null, .null, .null, .null, .int 0, .null, .int 0, .null, .int 0, .int 0, .null, .null, .int 0, .null]))]) hD hS hA [0] rfl
  refine va_callv (va_runI (As := []) (rest := [.ref qx]) ⟨hx, hb, hml, hown, hts⟩ (ct_X l D qx H.size) (cwI 0 hts st_gX rfl rfl rfl (hts _ (am_inw (st_w0 (.initialized (am_cC 0)) (by simp)).1 rfl)) (hts _ (am_inw (st_w0 (.methodLink (am_cC 2) 62 ct_yX) (by simp)).1 rfl)) (hts _ (am_inw (st_w0 (.instanceMethod ct_yX) (by simp)).1 rfl)) rfl (by decide +kernel) ⟨by decide, by decide⟩) ⟨fun a U g mk q => by obtain ⟨q0, q1, qP, qK, qD⟩ := q; exact ⟨q0, q1, qP, va_K.moved (u := U) (U := U.calling g mk a) (Vm.Alike.refl U.vm) qK, qD⟩, fun U hU hW => ⟨rfl, by rw [hU], by rw [hU]; exact hP, va_K.moved hW.alike hK, hD.weaken (fun _ _ _ _ => trivial)⟩⟩ rfl rfl hl.1 rfl (lv_room (Nat.le_of_ble_eq_true rfl)) st_d_4 ⟨by decide, by decide⟩) hS (fun q _ h => hFc q h) hFc (fun u t H1 locs ht hvm hw hB hz1 hk1 hS => ?_)
  obtain ⟨a1, cs1⟩ := u
  obtain ⟨ha1, hP1, hK1, hD1⟩ := hB
  dsimp only at ha1 hP1 hK1 hD1
  rw [ht] at hP1
  have hK1 := va_K.moved hvm.symm hK1
  obtain ⟨hP, hD⟩ := va_join (wr := []) (w1 := ct_WX a1 cs1) hP hD [0] [] rfl rfl (by decide) (by decide) hk1 hFc hP1 hD1
  generalize H1 = H at hP hS ⊢
  have hP : va_P D am_cl (ct_WX a1 cs1) H := hP
  have hD : va_D A (ct_WX a1 cs1) := hD
  refine W.widen (k := 13) (n := 340) (by decide) (by decide) ?_
  refine lv_astore_n hx hb st_d_7 rfl hl (by decide) rfl (fun ls hl => ?_)
  -- new SlidingHeapModel()
  refine va_new (ci := 1) (fs := [.int 0, .int 0, .null, .null, .null, .null, .null, .null, .null, .int 0, .null, .int 0, .null, .int 0, .null, .null, .null]) (C := am_cC 1) (T := am_cT 1) (N := am_nf 1) hx hb hts (am_fin (by decide)) (am_cY 1) (am_cY_ok0 1 (by decide)) hown (hts _ (am_inw (st_w0 (.classLink (am_cC 2) 63 (am_cC 1)) (by simp)).1 rfl)) (hts _ (am_inw (st_w0 (.instantiable (am_cC 1) 17) (by simp)).1 rfl)) (hts _ (am_inw (st_w0 (.initialized (am_cC 1)) (by simp)).1 rfl)) hK hP hD hS hA rfl (by decide +kernel) (by decide) (by decide) st_d_8 (fun qm H hP hD hS => ?_)
  refine W.widen (k := 14) (n := 357) (by decide) (by decide) ?_
  refine lv_dup hx hb st_d_11 rfl ?_
  have hPc := hP.sub (ws' := [(qm, .inr (1, [.int 0, .int 0, .null, .null, .null, .null, .null, .null, .null, .int 0, .null, .int 0, .null, .int 0, .null, .null, .null]))]) [13] rfl
  have hDc := hD.sub (ws' := [(qm, .inr (1, [.int 0, .int 0, .null, .null, .null, .null, .null, .null, .null, .int 0, .null, .int 0, .null, .int 0, .null, .null, .null]))]) [13] (by decide) rfl
  have hFc := va_free (wc := [(qm, .inr (1, [.int 0, .int 0, .null, .null, .null, .null, .null, .null, .null, .int 0, .null, .int 0, .null, .int 0, .null, .null, .null]))]) hD hS hA [13] rfl
  refine va_callv (va_runI (As := []) (rest := [.ref qm]) ⟨hx, hb, hml, hown, hts⟩ (ct_M l D qm H.size) (cwI 0 hts st_gM rfl rfl rfl (hts _ (am_inw (st_w0 (.initialized (am_cC 1)) (by simp)).1 rfl)) (hts _ (am_inw (st_w0 (.methodLink (am_cC 2) 65 ct_yM) (by simp)).1 rfl)) (hts _ (am_inw (st_w0 (.instanceMethod ct_yM) (by simp)).1 rfl)) rfl (by decide +kernel) ⟨by decide, by decide⟩) ⟨fun a U g mk q => by obtain ⟨q0, q1, qP, qK, qD⟩ := q; exact ⟨q0, q1, qP, va_K.moved (u := U) (U := U.calling g mk a) (Vm.Alike.refl U.vm) qK, qD⟩, fun U hU hW => ⟨rfl, by rw [hU], by rw [hU]; exact hPc, va_K.moved hW.alike hK, hDc.weaken (fun _ _ _ _ => trivial)⟩⟩ rfl rfl hl.1 rfl (lv_room (Nat.le_of_ble_eq_true rfl)) st_d_12 ⟨by decide, by decide⟩) hS (fun q _ h => hFc q h) hFc (fun u t H1 locs ht hvm hw hB hz1 hk1 hS => ?_)
  obtain ⟨a2, cs2⟩ := u
  obtain ⟨ha2, hP2, hK2, hD2⟩ := hB
  dsimp only at ha2 hP2 hK2 hD2
  rw [ht] at hP2
  have hK2 := va_K.moved hvm.symm hK2
  obtain ⟨hP, hD⟩ := va_join (wr := ct_WX a1 cs1) (w1 := ct_WM a2 cs2) hP hD [13] [0, 1, 2, 3, 4, 5, 6, 7, 8, 9, 10, 11, 12] rfl rfl (by decide) (by decide) hk1 hFc hP2 hD2
  generalize H1 = H at hP hS ⊢
  refine W.widen (k := 26) (n := 802) (by decide) (by decide) ?_
  refine lv_astore_n hx hb st_d_15 rfl hl (by decide) rfl (fun ls hl => ?_)
  refine lv_iconst (v := 1) hx hb st_d_16 (by decide) ?_
  refine va_newa (atype := .long) (ty := .long) (a0 := (1, .inr (.inl (fun _ => 0)))) hx hb (hts _ (am_inw ct_aL rfl)) rfl hK hP hD hS hA (fun cA => rfl) (by decide) rfl (by decide) (by decide) (by decide) st_d_17 (fun qo c3 H hK3 hP hD hS => ?_)
  refine W.widen (k := 27) (n := 803) (by decide) (by decide) ?_
  refine lv_astore_n hx hb st_d_19 rfl hl (by decide) rfl (fun ls hl => ?_)
  -- the world, in order
  have e0 : cs2 0 = cs1 0 := Option.some.inj (((hK2.2 0 _ rfl).2 : s.vm.findClass _ = some (cs2 0)).symm.trans (hK1.2 0 _ rfl).2)
  have e1 : cs2 1 = cs1 1 := Option.some.inj (((hK2.2 1 _ rfl).2 : s.vm.findClass _ = some (cs2 1)).symm.trans (hK1.2 1 _ rfl).2)
  have hwd := st_world (a1 := a1) (a2 := a2) (q := qo) (b := b) (c3 := c3) e0 e1
  obtain ⟨a, hae⟩ : ∃ a, a = st_a a1 a2 qo b := ⟨_, rfl⟩
  obtain ⟨cs, hce⟩ : ∃ cs, cs = st_cs cs1 c3 := ⟨_, rfl⟩
  rw [← hae, ← hce] at hwd
  have ha0 : a 0 = qx := by rw [hae]; exact ha1
  have ham : a 1 = qm := by rw [hae]; exact ha2
  have hao : a 26 = qo := by rw [hae]; rfl
  have hab : a 28 = b := by rw [hae]; rfl
  have hPw : va_P D am_cl (am_wd a cs am_st0) H := by
    intro k q hk
    by_cases h27 : k < 27
    · rw [am_wd_at h27] at hk
      cases hk
      exact hP _ _ (hwd k h27)
    · rw [List.getElem?_eq_none (by rw [am_wd_len]; omega)] at hk
      cases hk
  have hge : ∀ k, k < 27 → s.heap.size ≤ a k := fun k hk => by
    have h9 := hD.2 _ _ (hwd k hk)
    rw [hAe] at h9
    exact h9
  have hinj : ∀ i j, i < 27 → j < 27 → a i = a j → i = j := fun i j hi hj he => st_pos_inj hi hj (hD.1 _ _ _ _ (hwd i hi) (hwd j hj) he)
  have hAq : ∀ q, am_A a s.heap.size q → s.heap.size ≤ q := fun q hq => by
    rcases hq with ⟨k, hk, rfl⟩ | hq
    · exact hge k hk
    · exact hq
  have hKw : va_K D am_cl (am_ty cs) s := by
    refine ⟨hK.1, fun k q hk => ?_⟩
    match k, hk with
    | 0, hk => cases hk; rw [hce]; exact hK1.2 0 _ rfl
    | 1, hk => cases hk; rw [hce]; exact hK1.2 1 _ rfl
    | 2, hk => cases hk; rw [hce]; exact hK3.2 0 _ rfl
    | n + 3, hk => cases hk
  have hIn : am_In D cs a s am_st0 H locs := ⟨hPw, hS.1, fun q h1 h2 => hS.2.1 q h1 (by rw [hAe]; intro h3; omega), fun z hz => Or.inr (by have h9 := hS.2.2 z hz; rw [hAe] at h9; exact h9)⟩
  have hhl : am_hl a ls (am_nl am_law) [.inr (.inl 28), .inr (.inl 0), .inr (.inl 1), .inr (.inl 26), .inr (.inr 0), .inr (.inr 0), .inr (.inr 0)] := by
    refine ⟨hl.1, rfl, hl.2.1, fun i v hv ho => ?_⟩
    match i, hv with
    | 0, hv => cases hv; show _ = some (Slot.val (Value.ref (a 28))); rw [hab]; exact lv_at hl 3 rfl
    | 1, hv => cases hv; show _ = some (Slot.val (Value.ref (a 0))); rw [ha0]; exact lv_at hl 2 rfl
    | 2, hv => cases hv; show _ = some (Slot.val (Value.ref (a 1))); rw [ham]; exact lv_at hl 1 rfl
    | 3, hv => cases hv; show _ = some (Slot.val (Value.ref (a 26))); rw [hao]; exact lv_at hl 0 rfl
    | 4, hv => cases hv; cases ho
    | 5, hv => cases hv; cases ho
    | 6, hv => cases hv; cases ho
    | n + 7, hv => cases hv
  -- the script
  obtain ⟨sc, hsce⟩ : ∃ sc : Int → Int, sc = fun j => if j = -1 then (L : Int) else (xs j.toNat).toInt := ⟨_, rfl⟩
  have hsc1 : sc (-1) = (L : Int) := by rw [hsce]; rfl
  have hsc : ∀ j, am_R (sc j) := fun j => by
    rw [hsce]
    dsimp only
    by_cases hj : j = -1
    · rw [if_pos hj]; exact ⟨by omega, by omega⟩
    · rw [if_neg hj]
      have h1 := (xs j.toNat).toInt_lt
      have h2 := (xs j.toNat).le_toInt
      exact ⟨by omega, by omega⟩
  have hscx : ∀ j : Nat, j < L → xs j = Int32.ofInt (sc j) := fun j hj => by
    rw [hsce]
    dsimp only
    rw [if_neg (by omega), Int.toNat_natCast, Int32.ofInt_toInt]
  have hZ : am_Zs (am_A a s.heap.size) s s.heap := ⟨vx_Zqof (htl _ st_zs.1) (htl _ st_zs.2.2) (hflat _ st_nf.1) (fun q hq h9 => by have := hAq q h9; omega), vx_Zqof (htl _ st_zs.2.1) (htl _ st_zs.2.2) (hflat _ st_nf.2) (fun q hq h9 => by have := hAq q h9; omega)⟩
  have hN : am_Ncs s := ⟨fun q hq => va_Nc.of (hflat _ (st_nc q hq)), fun w hw => va_Nw.of (am_xw_ot w hw) (htl w (am_xw_in w hw))⟩
  have hCx : am_Cx sc D cs a p l room_1 s m #[Value.ref b] meth c am_law := ⟨⟨hx, hb, hml, hown, hts⟩, ⟨hKw, hinj⟩, ⟨by decide, by decide⟩, ⟨hlocks, hr, htab⟩, ⟨htr, hZ, hN⟩, fun _ => ⟨L, xs, by rw [hab]; exact hX, by rw [hab]; exact hbl, by rw [hab]; intro h9; have := hAq b h9; omega, hsc1, hscx⟩⟩
  obtain ⟨n, o, σr, t, hrun, ho, ht9⟩ := hpure sc L hL hsc hsc1
  refine (am_PA hsc n am_law 20 _ [] am_st0 o σr t hrun (fun v hv => ?_) (fun v hv => nomatch hv) (fun k j => ?_)).2 D cs a p l e room_1 s m #[Value.ref b] below meth c (lw_Z below #[Value.ref b] s) 1062 9061 hCx (by decide) (by decide) ⟨?_, ?_, ?_⟩ H locs 27 803 ls (by omega) (by omega) hIn hhl
  · simp only [List.mem_cons, List.not_mem_nil, or_false] at hv
    rcases hv with rfl | rfl | rfl | rfl | rfl | rfl | rfl
    · trivial
    · trivial
    · trivial
    · trivial
    · exact am_R0
    · exact am_R0
    · exact am_R0
  · unfold am_st0
    by_cases h4 : k = 4
    · rw [if_pos h4]; exact ⟨by decide, by decide⟩
    · rw [if_neg h4]; exact am_R0
  · intro v op pc x k ts H2 locs2 cells slots ls2 ho2 hlk hop hI2 hc2 hs2
    rw [ho] at ho2
    cases ho2
    obtain ⟨hd, hck⟩ := am_okc hlk
    have hd2 : decode code pc = .ok (.ireturn, 1) := by
      rcases hop with ⟨rfl, -⟩ | ⟨rfl, -⟩ | ⟨-, h9⟩
      · exact hd
      · exact hd
      · cases h9
    refine va_forget (fun q hq => hAq _ (hI2.2.2.2 q hq)) (W.widen hc2 hs2 ?_)
    exact lw_ret hx hb hr hlocks hd2
  · intro i pc x ts H2 locs2 cells slots ls2 ho2
    rw [ho] at ho2
    cases ho2
  · intro i pc rest H2 locs2 cells slots ls2 q ce ho2
    rw [ho] at ho2
    cases ho2

