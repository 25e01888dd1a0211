/-! one lemma an instruction -/
def am_Zs (A : Nat → Prop) (U : State) (H : Heap) : Prop := vx_Zq Bundle.tN "UNASSIGNED_STACK" Bundle.steD A U H ∧ vx_Zq Bundle.tN "SUPPRESSED_SENTINEL" Bundle.listD A U H
def am_Ncs (U : State) : Prop := (∀ q ∈ am_nc, va_Nc q.1 q.2 U) ∧ ∀ w ∈ am_xw, va_Nw w U
/-- what holds of a method's frame, whatever its place: machine, code, words, tables, room, statics of Throwable, the script (the law's alone) -/
def am_Cx (sc : Int → Int) (D : va_G) (cs : Nat → ClassId) (a : Nat → Nat) (p : Program) (l : Launch) (R : Room) (s : State) (m : MethodId) (args : Array Value) (meth : Method) (c : Code) (mid : Nat) : Prop :=
  (p.tables.exec = Jvm.exec ∧ c.code = am_cc mid ∧ c.maxLocals = am_nl mid ∧ s.vm.findClass (am_cC (am_ob mid)) = some m.cls ∧ (∀ w ∈ am_ws, w.before args s = true)) ∧
  (va_K D am_cl (am_ty cs) s ∧ ∀ i j, i < 27 → j < 27 → a i = a j → i = j) ∧
  (am_fr mid ≤ R.frames ∧ am_lo mid ≤ R.locals) ∧
  (meth.locks = false ∧ meth.sig.returnType = am_rt mid ∧ c.exceptionTable.toList = tableOf (am_tb mid)) ∧
  (l.stackTraces = false ∧ am_Zs (am_A a s.heap.size) s s.heap ∧ am_Ncs s) ∧
  (mid = am_law → ∃ (L : Nat) (xs : Nat → Int32), va_X (a 28) L xs s s.heap ∧ a 28 < s.heap.size ∧ ¬ am_A a s.heap.size (a 28) ∧ sc (-1) = (L : Int) ∧ ∀ j : Nat, j < L → xs j = Int32.ofInt (sc j))
/-- where the heap holds the state -/
def am_In (D : va_G) (cs : Nat → ClassId) (a : Nat → Nat) (s : State) (σ : St) (H : Heap) (locs : List Loc) : Prop := va_P D am_cl (am_wd a cs σ) H ∧ va_S (am_A a s.heap.size) s.heap H locs
theorem am_D_of {a : Nat → Nat} {cs : Nat → ClassId} {σ : St} {sz : Nat} (h : ∀ i j, i < 27 → j < 27 → a i = a j → i = j) : va_D (am_A a sz) (am_wd a cs σ) := by
  have key : ∀ (k : Nat) (q : Nat × va_E), (am_wd a cs σ)[k]? = some q → k < 27 ∧ q.1 = a k := by
    intro k q hk
    by_cases hl : k < 27
    · rw [am_wd_at hl] at hk
      cases hk
      exact ⟨hl, rfl⟩
    · rw [List.getElem?_eq_none (by rw [am_wd_len]; omega)] at hk
      cases hk
  refine ⟨fun i j x y hi hj hxy => ?_, fun k q hk => ?_⟩
  · obtain ⟨h1, h2⟩ := key i x hi
    obtain ⟨h3, h4⟩ := key j y hj
    exact h i j h1 h3 (h2.symm.trans (hxy.trans h4))
  · obtain ⟨h1, h2⟩ := key k q hk
    exact Or.inl ⟨k, h1, h2⟩
/-- an instruction of the abstract machine is one of the machine's -/
def am_Sd (op : Nat) (f : OpT) : Prop := ∀ (sc : Int → Int), (∀ j, am_R (sc j)) → ∀ (mid pc : Nat) (x : Int) (k : Nat) (ts : List Int) (L S : List AV) (σ : St) (pc' : Nat) (L' S' : List AV) (σ' : St),
  decode (am_cc mid) pc = .ok (am_dcd pc (op, x, k, ts)) → am_ck mid op x k ts = true → f sc x k ts mid pc L S σ = some (pc', L', S', σ') → am_okL L → am_okL S → am_okS σ →
  (am_okL L' ∧ am_okL S' ∧ am_okS σ') ∧ ∀ (D : va_G) (cs : Nat → ClassId) (a : Nat → Nat) (p : Program) (l : Launch) (e : Env) (R : Room) (s : State) (m : MethodId) (args : Array Value) (below : List Frame) (meth : Method) (c : Code) (Q : State → Prop), am_Cx sc D cs a p l R s m args meth c mid →
    ∀ (H : Heap) (locs : List Loc) (cells slots : Nat) (ls : Array Slot), cells ≤ R.cells → slots ≤ R.slots → am_In D cs a s σ H locs → am_hl a ls (am_nl mid) L →
    (∀ (H' : Heap) (locs' : List Loc) (ls' : Array Slot), am_In D cs a s σ' H' locs' → am_hl a ls' (am_nl mid) L' → W p l e R s m args below meth c H' locs' cells slots Q (F0 m pc' ls' (S'.map (am_cv a)))) →
    W p l e R s m args below meth c H locs cells slots Q (F0 m pc ls (S.map (am_cv a)))
theorem am_okS_up {σ : St} {k : Nat} {j v : Int} (h : am_okS σ) (hv : am_R v) : am_okS (am_up σ k j v) := by
  intro k' j'
  unfold am_up
  by_cases hk : k' = k
  · rw [if_pos hk]
    unfold am_u1
    by_cases hj : j' = j
    · rw [if_pos hj]; exact hv
    · rw [if_neg hj]; exact h k j'
  · rw [if_neg hk]; exact h k' j'
theorem am_okL_set {L : List AV} {k : Nat} {v : AV} (h : am_okL L) (hv : am_okV v) : am_okL (L.set k v) := by
  intro w hw
  rcases List.mem_or_eq_of_mem_set hw with h1 | h1
  · exact h w h1
  · rw [h1]; exact hv
theorem am_okL_c {v : AV} {S : List AV} (hv : am_okV v) (h : am_okL S) : am_okL (v :: S) := by
  intro w hw
  rcases List.mem_cons.mp hw with h1 | h1
  · rw [h1]; exact hv
  · exact h w h1
theorem am_okL_h {v : AV} {S : List AV} (h : am_okL (v :: S)) : am_okV v := h v List.mem_cons_self
theorem am_okL_t {v : AV} {S : List AV} (h : am_okL (v :: S)) : am_okL S := fun w hw => h w (List.mem_cons_of_mem _ hw)
set_option maxHeartbeats 4000000 in
theorem am_s0 : am_Sd 0 (am_oK 1) := by
  intro sc hsc mid pc x k ts L S σ pc' L' S' σ' hd hk hf oL oS oσ
  have hd : decode (am_cc mid) pc = .ok (.iconst x, 1) := hd
  simp [am_ck] at hk
  cases hf
  refine ⟨⟨oL, am_okL_c ⟨by omega, by omega⟩ oS, oσ⟩, fun D cs a p l e R s m args below meth c Q hC H locs cells slots ls hc hs hI hl kk => ?_⟩
  obtain ⟨⟨hx, hb, -⟩, -⟩ := hC
  exact lv_iconst (v := Int32.ofInt x) hx hb hd rfl (kk H locs ls hI hl)
set_option maxHeartbeats 4000000 in
theorem am_s1 : am_Sd 1 (am_oK 2) := by
  intro sc hsc mid pc x k ts L S σ pc' L' S' σ' hd hk hf oL oS oσ
  have hd : decode (am_cc mid) pc = .ok (.bipush x, 2) := hd
  simp [am_ck] at hk
  cases hf
  refine ⟨⟨oL, am_okL_c ⟨by omega, by omega⟩ oS, oσ⟩, fun D cs a p l e R s m args below meth c Q hC H locs cells slots ls hc hs hI hl kk => ?_⟩
  obtain ⟨⟨hx, hb, -⟩, -⟩ := hC
  exact lv_bipush (v := Int32.ofInt x) hx hb hd (am_i8 (by omega) (by omega)) (kk H locs ls hI hl)
set_option maxHeartbeats 4000000 in
theorem am_s2 : am_Sd 2 (am_oK 3) := by
  intro sc hsc mid pc x k ts L S σ pc' L' S' σ' hd hk hf oL oS oσ
  have hd : decode (am_cc mid) pc = .ok (.sipush x, 3) := hd
  simp [am_ck] at hk
  cases hf
  refine ⟨⟨oL, am_okL_c ⟨by omega, by omega⟩ oS, oσ⟩, fun D cs a p l e R s m args below meth c Q hC H locs cells slots ls hc hs hI hl kk => ?_⟩
  obtain ⟨⟨hx, hb, -⟩, -⟩ := hC
  exact lv_sipush (v := Int32.ofInt x) hx hb hd (am_i16 (by omega) (by omega)) (kk H locs ls hI hl)
set_option maxHeartbeats 4000000 in
theorem am_s3 : am_Sd 3 (am_oIL 1) := by
  intro sc hsc mid pc x k ts L S σ pc' L' S' σ' hd hk hf oL oS oσ
  have hd : decode (am_cc mid) pc = .ok (.iload_n (Fin.ofNat 4 k), 1) := hd
  simp [am_ck] at hk
  unfold am_oIL at hf
  split at hf
  · rename_i z hz
    cases hf
    refine ⟨⟨oL, am_okL_c (oL _ (List.mem_of_getElem? hz)) oS, oσ⟩, fun D cs a p l e R s m args below meth c Q hC H locs cells slots ls hc hs hI hl kk => ?_⟩
    obtain ⟨⟨hx, hb, -⟩, -⟩ := hC
    exact lv_iload_n hx hb hd (Nat.mod_eq_of_lt hk) (am_hl_at hl hz rfl) (kk H locs ls hI hl)
  · cases hf
set_option maxHeartbeats 4000000 in
theorem am_s4 : am_Sd 4 (am_oIL 2) := by
  intro sc hsc mid pc x k ts L S σ pc' L' S' σ' hd hk hf oL oS oσ
  have hd : decode (am_cc mid) pc = .ok (.iload k, 2) := hd
  simp [am_ck] at hk
  unfold am_oIL at hf
  split at hf
  · rename_i z hz
    cases hf
    refine ⟨⟨oL, am_okL_c (oL _ (List.mem_of_getElem? hz)) oS, oσ⟩, fun D cs a p l e R s m args below meth c Q hC H locs cells slots ls hc hs hI hl kk => ?_⟩
    obtain ⟨⟨hx, hb, -⟩, -⟩ := hC
    exact lv_iload hx hb hd (am_hl_at hl hz rfl) (kk H locs ls hI hl)
  · cases hf
set_option maxHeartbeats 4000000 in
theorem am_s5 : am_Sd 5 (am_oAL 1) := by
  intro sc hsc mid pc x k ts L S σ pc' L' S' σ' hd hk hf oL oS oσ
  have hd : decode (am_cc mid) pc = .ok (.aload_n (Fin.ofNat 4 k), 1) := hd
  simp [am_ck] at hk
  unfold am_oAL at hf
  split at hf
  · rename_i z hz
    cases hf
    refine ⟨⟨oL, am_okL_c (oL _ (List.mem_of_getElem? hz)) oS, oσ⟩, fun D cs a p l e R s m args below meth c Q hC H locs cells slots ls hc hs hI hl kk => ?_⟩
    obtain ⟨⟨hx, hb, -⟩, -⟩ := hC
    exact lv_aload_n hx hb hd (Nat.mod_eq_of_lt hk) (am_hl_at hl hz rfl) (kk H locs ls hI hl)
  · cases hf
set_option maxHeartbeats 4000000 in
theorem am_s6 : am_Sd 6 (am_oAL 2) := by
  intro sc hsc mid pc x k ts L S σ pc' L' S' σ' hd hk hf oL oS oσ
  have hd : decode (am_cc mid) pc = .ok (.aload k, 2) := hd
  simp [am_ck] at hk
  unfold am_oAL at hf
  split at hf
  · rename_i z hz
    cases hf
    refine ⟨⟨oL, am_okL_c (oL _ (List.mem_of_getElem? hz)) oS, oσ⟩, fun D cs a p l e R s m args below meth c Q hC H locs cells slots ls hc hs hI hl kk => ?_⟩
    obtain ⟨⟨hx, hb, -⟩, -⟩ := hC
    exact lv_aload hx hb hd (am_hl_at hl hz rfl) (kk H locs ls hI hl)
  · cases hf
set_option maxHeartbeats 4000000 in
theorem am_s7 : am_Sd 7 (am_oIS 1) := by
  intro sc hsc mid pc x k ts L S σ pc' L' S' σ' hd hk hf oL oS oσ
  have hd : decode (am_cc mid) pc = .ok (.istore_n (Fin.ofNat 4 k), 1) := hd
  simp [am_ck] at hk
  unfold am_oIS at hf
  split at hf
  · rename_i z S1
    by_cases hkl : k < L.length
    · rw [if_pos hkl] at hf
      cases hf
      refine ⟨⟨am_okL_set oL (am_okL_h oS), am_okL_t oS, oσ⟩, fun D cs a p l e R s m args below meth c Q hC H locs cells slots ls hc hs hI hl kk => ?_⟩
      obtain ⟨⟨hx, hb, -⟩, -⟩ := hC
      exact lv_istore_n hx hb hd (Nat.mod_eq_of_lt hk) (am_lv_has hl) (by rw [← hl.2.1]; exact hkl) rfl (fun ls' h' => kk H locs ls' hI (am_hl_set (w := .inl z) hl.2.1 h'))
    · rw [if_neg hkl] at hf
      cases hf
  · cases hf
set_option maxHeartbeats 4000000 in
theorem am_s8 : am_Sd 8 (am_oIS 2) := by
  intro sc hsc mid pc x k ts L S σ pc' L' S' σ' hd hk hf oL oS oσ
  have hd : decode (am_cc mid) pc = .ok (.istore k, 2) := hd
  simp [am_ck] at hk
  unfold am_oIS at hf
  split at hf
  · rename_i z S1
    by_cases hkl : k < L.length
    · rw [if_pos hkl] at hf
      cases hf
      refine ⟨⟨am_okL_set oL (am_okL_h oS), am_okL_t oS, oσ⟩, fun D cs a p l e R s m args below meth c Q hC H locs cells slots ls hc hs hI hl kk => ?_⟩
      obtain ⟨⟨hx, hb, -⟩, -⟩ := hC
      exact lv_istore hx hb hd (am_lv_has hl) (by rw [← hl.2.1]; exact hkl) rfl (fun ls' h' => kk H locs ls' hI (am_hl_set (w := .inl z) hl.2.1 h'))
    · rw [if_neg hkl] at hf
      cases hf
  · cases hf
set_option maxHeartbeats 4000000 in
theorem am_s9 : am_Sd 9 (am_oAS 1) := by
  intro sc hsc mid pc x k ts L S σ pc' L' S' σ' hd hk hf oL oS oσ
  have hd : decode (am_cc mid) pc = .ok (.astore_n (Fin.ofNat 4 k), 1) := hd
  simp [am_ck] at hk
  unfold am_oAS at hf
  split at hf
  · rename_i z S1
    by_cases hkl : k < L.length
    · rw [if_pos hkl] at hf
      cases hf
      refine ⟨⟨am_okL_set oL (am_okL_h oS), am_okL_t oS, oσ⟩, fun D cs a p l e R s m args below meth c Q hC H locs cells slots ls hc hs hI hl kk => ?_⟩
      obtain ⟨⟨hx, hb, -⟩, -⟩ := hC
      exact lv_astore_n hx hb hd (Nat.mod_eq_of_lt hk) (am_lv_has hl) (by rw [← hl.2.1]; exact hkl) rfl (fun ls' h' => kk H locs ls' hI (am_hl_set (w := .inr (.inl z)) hl.2.1 h'))
    · rw [if_neg hkl] at hf
      cases hf
  · cases hf
set_option maxHeartbeats 4000000 in
theorem am_s10 : am_Sd 10 (am_oAS 2) := by
  intro sc hsc mid pc x k ts L S σ pc' L' S' σ' hd hk hf oL oS oσ
  have hd : decode (am_cc mid) pc = .ok (.astore k, 2) := hd
  simp [am_ck] at hk
  unfold am_oAS at hf
  split at hf
  · rename_i z S1
    by_cases hkl : k < L.length
    · rw [if_pos hkl] at hf
      cases hf
      refine ⟨⟨am_okL_set oL (am_okL_h oS), am_okL_t oS, oσ⟩, fun D cs a p l e R s m args below meth c Q hC H locs cells slots ls hc hs hI hl kk => ?_⟩
      obtain ⟨⟨hx, hb, -⟩, -⟩ := hC
      exact lv_astore hx hb hd (am_lv_has hl) (by rw [← hl.2.1]; exact hkl) rfl (fun ls' h' => kk H locs ls' hI (am_hl_set (w := .inr (.inl z)) hl.2.1 h'))
    · rw [if_neg hkl] at hf
      cases hf
  · cases hf
set_option maxHeartbeats 4000000 in
theorem am_s11 : am_Sd 11 am_oInc := by
  intro sc hsc mid pc x k ts L S σ pc' L' S' σ' hd hk hf oL oS oσ
  have hd : decode (am_cc mid) pc = .ok (.iinc k x, 3) := hd
  unfold am_oInc at hf
  split at hf
  · rename_i z hz
    by_cases hr : am_Rb (z + x) = true
    · rw [if_pos hr] at hf
      cases hf
      have hr := am_Rb_iff.mp hr
      refine ⟨⟨am_okL_set oL hr, oS, oσ⟩, fun D cs a p l e R s m args below meth c Q hC H locs cells slots ls hc hs hI hl kk => ?_⟩
      obtain ⟨⟨hx, hb, -⟩, -⟩ := hC
      obtain ⟨j, hj⟩ := List.getElem?_of_mem (am_lv_in (a := a) hz rfl)
      exact lv_iinc (v := Int32.ofInt (z + x)) hx hb hd (am_lv_has hl) hj (Int32.ofInt_add z x).symm (by rw [← hl.2.1]; exact (List.getElem?_eq_some_iff.mp hz).1) rfl (fun ls' h' => kk H locs ls' hI (am_hl_set (w := .inl (z + x)) hl.2.1 h'))
    · rw [if_neg hr] at hf
      cases hf
  · cases hf
set_option maxHeartbeats 4000000 in
theorem am_s12 : am_Sd 12 am_oAdd := by
  intro sc hsc mid pc x k ts L S σ pc' L' S' σ' hd hk hf oL oS oσ
  have hd : decode (am_cc mid) pc = .ok (.iadd, 1) := hd
  unfold am_oAdd at hf
  split at hf
  · rename_i z1 z2 S1
    by_cases hr : am_Rb (z2 + z1) = true
    · rw [if_pos hr] at hf
      cases hf
      have hr := am_Rb_iff.mp hr
      refine ⟨⟨oL, am_okL_c hr (am_okL_t (am_okL_t oS)), oσ⟩, fun D cs a p l e R s m args below meth c Q hC H locs cells slots ls hc hs hI hl kk => ?_⟩
      obtain ⟨⟨hx, hb, -⟩, -⟩ := hC
      have h1 := kk H locs ls hI hl
      refine lv_iadd hx hb hd ?_
      rw [← Int32.ofInt_add]
      exact h1
    · rw [if_neg hr] at hf
      cases hf
  · cases hf
set_option maxHeartbeats 4000000 in
theorem am_s13 : am_Sd 13 am_oSub := by
  intro sc hsc mid pc x k ts L S σ pc' L' S' σ' hd hk hf oL oS oσ
  have hd : decode (am_cc mid) pc = .ok (.isub, 1) := hd
  unfold am_oSub at hf
  split at hf
  · rename_i z1 z2 S1
    by_cases hr : am_Rb (z2 - z1) = true
    · rw [if_pos hr] at hf
      cases hf
      have hr := am_Rb_iff.mp hr
      refine ⟨⟨oL, am_okL_c hr (am_okL_t (am_okL_t oS)), oσ⟩, fun D cs a p l e R s m args below meth c Q hC H locs cells slots ls hc hs hI hl kk => ?_⟩
      obtain ⟨⟨hx, hb, -⟩, -⟩ := hC
      have h1 := kk H locs ls hI hl
      refine lv_isub hx hb hd ?_
      rw [← Int32.ofInt_sub]
      exact h1
    · rw [if_neg hr] at hf
      cases hf
  · cases hf
set_option maxHeartbeats 4000000 in
theorem am_s14 : am_Sd 14 am_oMul := by
  intro sc hsc mid pc x k ts L S σ pc' L' S' σ' hd hk hf oL oS oσ
  have hd : decode (am_cc mid) pc = .ok (.imul, 1) := hd
  unfold am_oMul at hf
  split at hf
  · rename_i z1 z2 S1
    by_cases hr : am_Rb (z2 * z1) = true
    · rw [if_pos hr] at hf
      cases hf
      have hr := am_Rb_iff.mp hr
      refine ⟨⟨oL, am_okL_c hr (am_okL_t (am_okL_t oS)), oσ⟩, fun D cs a p l e R s m args below meth c Q hC H locs cells slots ls hc hs hI hl kk => ?_⟩
      obtain ⟨⟨hx, hb, -⟩, -⟩ := hC
      have h1 := kk H locs ls hI hl
      refine lv_imul hx hb hd ?_
      rw [← Int32.ofInt_mul]
      exact h1
    · rw [if_neg hr] at hf
      cases hf
  · cases hf
set_option maxHeartbeats 4000000 in
theorem am_s15 : am_Sd 15 am_oAnd := by
  intro sc hsc mid pc x k ts L S σ pc' L' S' σ' hd hk hf oL oS oσ
  have hd : decode (am_cc mid) pc = .ok (.iand, 1) := hd
  unfold am_oAnd at hf
  split at hf
  · rename_i z1 z2 S1
    by_cases hr : z1 = 31
    · rw [if_pos hr] at hf
      cases hf
      subst hr
      have hz2 : am_R z2 := am_okL_h (am_okL_t oS)
      refine ⟨⟨oL, am_okL_c (v := .inl (z2 % 32)) ⟨by omega, by omega⟩ (am_okL_t (am_okL_t oS)), oσ⟩, fun D cs a p l e R s m args below meth c Q hC H locs cells slots ls hc hs hI hl kk => ?_⟩
      obtain ⟨⟨hx, hb, -⟩, -⟩ := hC
      have h1 := kk H locs ls hI hl
      refine lv_iand hx hb hd ?_
      rw [am_and hz2]
      exact h1
    · rw [if_neg hr] at hf
      cases hf
  · cases hf
set_option maxHeartbeats 4000000 in
theorem am_s16 : am_Sd 16 am_oDup := by
  intro sc hsc mid pc x k ts L S σ pc' L' S' σ' hd hk hf oL oS oσ
  have hd : decode (am_cc mid) pc = .ok (.dup, 1) := hd
  unfold am_oDup at hf
  split at hf
  · rename_i v S1
    by_cases hr : am_one v = true
    · rw [if_pos hr] at hf
      cases hf
      refine ⟨⟨oL, am_okL_c (am_okL_h oS) oS, oσ⟩, fun D cs a p l e R s m args below meth c Q hC H locs cells slots ls hc hs hI hl kk => ?_⟩
      obtain ⟨⟨hx, hb, -⟩, -⟩ := hC
      exact lv_dup hx hb hd (am_cat1 hr) (kk H locs ls hI hl)
    · rw [if_neg hr] at hf
      cases hf
  · cases hf
set_option maxHeartbeats 4000000 in
theorem am_s17 : am_Sd 17 am_oPop := by
  intro sc hsc mid pc x k ts L S σ pc' L' S' σ' hd hk hf oL oS oσ
  have hd : decode (am_cc mid) pc = .ok (.pop, 1) := hd
  unfold am_oPop at hf
  split at hf
  · rename_i v S1
    by_cases hr : am_one v = true
    · rw [if_pos hr] at hf
      cases hf
      refine ⟨⟨oL, am_okL_t oS, oσ⟩, fun D cs a p l e R s m args below meth c Q hC H locs cells slots ls hc hs hI hl kk => ?_⟩
      obtain ⟨⟨hx, hb, -⟩, -⟩ := hC
      exact lv_pop hx hb hd (am_cat1 hr) (kk H locs ls hI hl)
    · rw [if_neg hr] at hf
      cases hf
  · cases hf
set_option maxHeartbeats 4000000 in
theorem am_s18 : am_Sd 18 (am_oIf (fun z => decide (z = 0))) := by
  intro sc hsc mid pc x k ts L S σ pc' L' S' σ' hd hk hf oL oS oσ
  have hd : decode (am_cc mid) pc = .ok (.ifCond .eq ((k : Int) - (pc : Int)), 3) := hd
  unfold am_oIf at hf
  split at hf
  · rename_i z S1
    cases hf
    have hz : am_R z := am_okL_h oS
    refine ⟨⟨oL, am_okL_t oS, oσ⟩, fun D cs a p l e R s m args below meth c Q hC H locs cells slots ls hc hs hI hl kk => ?_⟩
    obtain ⟨⟨hx, hb, -⟩, -⟩ := hC
    have h1 := kk H locs ls hI hl
    refine lv_if_eq hx hb hd (tgt := k) (by omega) (fun h => ?_) (fun h => ?_)
    · rw [← am_0I, am_eqI hz am_R0] at h
      rw [if_pos (decide_eq_true (show z = 0 from h))] at h1
      exact h1
    · rw [← am_0I, am_eqI hz am_R0] at h
      rw [if_neg (fun h9 => absurd (of_decide_eq_true h9) h)] at h1
      exact h1
  · cases hf
set_option maxHeartbeats 4000000 in
theorem am_s19 : am_Sd 19 (am_oIf (fun z => decide (z ≠ 0))) := by
  intro sc hsc mid pc x k ts L S σ pc' L' S' σ' hd hk hf oL oS oσ
  have hd : decode (am_cc mid) pc = .ok (.ifCond .ne ((k : Int) - (pc : Int)), 3) := hd
  unfold am_oIf at hf
  split at hf
  · rename_i z S1
    cases hf
    have hz : am_R z := am_okL_h oS
    refine ⟨⟨oL, am_okL_t oS, oσ⟩, fun D cs a p l e R s m args below meth c Q hC H locs cells slots ls hc hs hI hl kk => ?_⟩
    obtain ⟨⟨hx, hb, -⟩, -⟩ := hC
    have h1 := kk H locs ls hI hl
    refine lv_if_ne hx hb hd (tgt := k) (by omega) (fun h => ?_) (fun h => ?_)
    · rw [← am_0I, am_eqI hz am_R0] at h
      rw [if_pos (decide_eq_true (show z ≠ 0 from h))] at h1
      exact h1
    · rw [← am_0I, am_eqI hz am_R0] at h
      rw [if_neg (fun h9 => absurd (of_decide_eq_true h9) (fun h8 => h8 h))] at h1
      exact h1
  · cases hf
set_option maxHeartbeats 4000000 in
theorem am_s20 : am_Sd 20 (am_oIf (fun z => decide (z < 0))) := by
  intro sc hsc mid pc x k ts L S σ pc' L' S' σ' hd hk hf oL oS oσ
  have hd : decode (am_cc mid) pc = .ok (.ifCond .lt ((k : Int) - (pc : Int)), 3) := hd
  unfold am_oIf at hf
  split at hf
  · rename_i z S1
    cases hf
    have hz : am_R z := am_okL_h oS
    refine ⟨⟨oL, am_okL_t oS, oσ⟩, fun D cs a p l e R s m args below meth c Q hC H locs cells slots ls hc hs hI hl kk => ?_⟩
    obtain ⟨⟨hx, hb, -⟩, -⟩ := hC
    have h1 := kk H locs ls hI hl
    refine lv_if_lt hx hb hd (tgt := k) (by omega) (fun h => ?_) (fun h => ?_)
    · rw [← am_0I, am_ltI hz am_R0] at h
      rw [if_pos (decide_eq_true (show z < 0 from h))] at h1
      exact h1
    · rw [← am_0I, am_ltI hz am_R0] at h
      rw [if_neg (fun h9 => absurd (of_decide_eq_true h9) h)] at h1
      exact h1
  · cases hf
set_option maxHeartbeats 4000000 in
theorem am_s21 : am_Sd 21 (am_oIf (fun z => decide (0 ≤ z))) := by
  intro sc hsc mid pc x k ts L S σ pc' L' S' σ' hd hk hf oL oS oσ
  have hd : decode (am_cc mid) pc = .ok (.ifCond .ge ((k : Int) - (pc : Int)), 3) := hd
  unfold am_oIf at hf
  split at hf
  · rename_i z S1
    cases hf
    have hz : am_R z := am_okL_h oS
    refine ⟨⟨oL, am_okL_t oS, oσ⟩, fun D cs a p l e R s m args below meth c Q hC H locs cells slots ls hc hs hI hl kk => ?_⟩
    obtain ⟨⟨hx, hb, -⟩, -⟩ := hC
    have h1 := kk H locs ls hI hl
    refine lv_if_ge hx hb hd (tgt := k) (by omega) (fun h => ?_) (fun h => ?_)
    · rw [← am_0I, am_leI am_R0 hz] at h
      rw [if_pos (decide_eq_true (show 0 ≤ z from h))] at h1
      exact h1
    · rw [← am_0I, am_leI am_R0 hz] at h
      rw [if_neg (fun h9 => absurd (of_decide_eq_true h9) h)] at h1
      exact h1
  · cases hf
set_option maxHeartbeats 4000000 in
theorem am_s22 : am_Sd 22 (am_oIf (fun z => decide (0 < z))) := by
  intro sc hsc mid pc x k ts L S σ pc' L' S' σ' hd hk hf oL oS oσ
  have hd : decode (am_cc mid) pc = .ok (.ifCond .gt ((k : Int) - (pc : Int)), 3) := hd
  unfold am_oIf at hf
  split at hf
  · rename_i z S1
    cases hf
    have hz : am_R z := am_okL_h oS
    refine ⟨⟨oL, am_okL_t oS, oσ⟩, fun D cs a p l e R s m args below meth c Q hC H locs cells slots ls hc hs hI hl kk => ?_⟩
    obtain ⟨⟨hx, hb, -⟩, -⟩ := hC
    have h1 := kk H locs ls hI hl
    refine lv_if_gt hx hb hd (tgt := k) (by omega) (fun h => ?_) (fun h => ?_)
    · rw [← am_0I, am_ltI am_R0 hz] at h
      rw [if_pos (decide_eq_true (show 0 < z from h))] at h1
      exact h1
    · rw [← am_0I, am_ltI am_R0 hz] at h
      rw [if_neg (fun h9 => absurd (of_decide_eq_true h9) h)] at h1
      exact h1
  · cases hf
set_option maxHeartbeats 4000000 in
theorem am_s23 : am_Sd 23 (am_oIf (fun z => decide (z ≤ 0))) := by
  intro sc hsc mid pc x k ts L S σ pc' L' S' σ' hd hk hf oL oS oσ
  have hd : decode (am_cc mid) pc = .ok (.ifCond .le ((k : Int) - (pc : Int)), 3) := hd
  unfold am_oIf at hf
  split at hf
  · rename_i z S1
    cases hf
    have hz : am_R z := am_okL_h oS
    refine ⟨⟨oL, am_okL_t oS, oσ⟩, fun D cs a p l e R s m args below meth c Q hC H locs cells slots ls hc hs hI hl kk => ?_⟩
    obtain ⟨⟨hx, hb, -⟩, -⟩ := hC
    have h1 := kk H locs ls hI hl
    refine lv_if_le hx hb hd (tgt := k) (by omega) (fun h => ?_) (fun h => ?_)
    · rw [← am_0I, am_leI hz am_R0] at h
      rw [if_pos (decide_eq_true (show z ≤ 0 from h))] at h1
      exact h1
    · rw [← am_0I, am_leI hz am_R0] at h
      rw [if_neg (fun h9 => absurd (of_decide_eq_true h9) h)] at h1
      exact h1
  · cases hf
set_option maxHeartbeats 4000000 in
theorem am_s24 : am_Sd 24 (am_oCmp (fun x y => decide (x = y))) := by
  intro sc hsc mid pc x k ts L S σ pc' L' S' σ' hd hk hf oL oS oσ
  have hd : decode (am_cc mid) pc = .ok (.if_icmp .eq ((k : Int) - (pc : Int)), 3) := hd
  unfold am_oCmp at hf
  split at hf
  · rename_i z1 z2 S1
    cases hf
    have hy2 : am_R z1 := am_okL_h oS
    have hx2 : am_R z2 := am_okL_h (am_okL_t oS)
    refine ⟨⟨oL, am_okL_t (am_okL_t oS), oσ⟩, fun D cs a p l e R s m args below meth c Q hC H locs cells slots ls hc hs hI hl kk => ?_⟩
    obtain ⟨⟨hx, hb, -⟩, -⟩ := hC
    have h1 := kk H locs ls hI hl
    refine lv_icmp_eq hx hb hd (tgt := k) (by omega) (fun h => ?_) (fun h => ?_)
    · rw [am_eqI hx2 hy2] at h
      rw [if_pos (decide_eq_true (show z2 = z1 from h))] at h1
      exact h1
    · rw [am_eqI hx2 hy2] at h
      rw [if_neg (fun h9 => absurd (of_decide_eq_true h9) h)] at h1
      exact h1
  · cases hf
set_option maxHeartbeats 4000000 in
theorem am_s25 : am_Sd 25 (am_oCmp (fun x y => decide (x ≠ y))) := by
  intro sc hsc mid pc x k ts L S σ pc' L' S' σ' hd hk hf oL oS oσ
  have hd : decode (am_cc mid) pc = .ok (.if_icmp .ne ((k : Int) - (pc : Int)), 3) := hd
  unfold am_oCmp at hf
  split at hf
  · rename_i z1 z2 S1
    cases hf
    have hy2 : am_R z1 := am_okL_h oS
    have hx2 : am_R z2 := am_okL_h (am_okL_t oS)
    refine ⟨⟨oL, am_okL_t (am_okL_t oS), oσ⟩, fun D cs a p l e R s m args below meth c Q hC H locs cells slots ls hc hs hI hl kk => ?_⟩
    obtain ⟨⟨hx, hb, -⟩, -⟩ := hC
    have h1 := kk H locs ls hI hl
    refine lv_icmp_ne hx hb hd (tgt := k) (by omega) (fun h => ?_) (fun h => ?_)
    · rw [am_eqI hx2 hy2] at h
      rw [if_pos (decide_eq_true (show z2 ≠ z1 from h))] at h1
      exact h1
    · rw [am_eqI hx2 hy2] at h
      rw [if_neg (fun h9 => absurd (of_decide_eq_true h9) (fun h8 => h8 h))] at h1
      exact h1
  · cases hf
set_option maxHeartbeats 4000000 in
theorem am_s26 : am_Sd 26 (am_oCmp (fun x y => decide (x < y))) := by
  intro sc hsc mid pc x k ts L S σ pc' L' S' σ' hd hk hf oL oS oσ
  have hd : decode (am_cc mid) pc = .ok (.if_icmp .lt ((k : Int) - (pc : Int)), 3) := hd
  unfold am_oCmp at hf
  split at hf
  · rename_i z1 z2 S1
    cases hf
    have hy2 : am_R z1 := am_okL_h oS
    have hx2 : am_R z2 := am_okL_h (am_okL_t oS)
    refine ⟨⟨oL, am_okL_t (am_okL_t oS), oσ⟩, fun D cs a p l e R s m args below meth c Q hC H locs cells slots ls hc hs hI hl kk => ?_⟩
    obtain ⟨⟨hx, hb, -⟩, -⟩ := hC
    have h1 := kk H locs ls hI hl
    refine lv_icmp_lt hx hb hd (tgt := k) (by omega) (fun h => ?_) (fun h => ?_)
    · rw [am_ltI hx2 hy2] at h
      rw [if_pos (decide_eq_true (show z2 < z1 from h))] at h1
      exact h1
    · rw [am_ltI hx2 hy2] at h
      rw [if_neg (fun h9 => absurd (of_decide_eq_true h9) h)] at h1
      exact h1
  · cases hf
set_option maxHeartbeats 4000000 in
theorem am_s27 : am_Sd 27 (am_oCmp (fun x y => decide (y ≤ x))) := by
  intro sc hsc mid pc x k ts L S σ pc' L' S' σ' hd hk hf oL oS oσ
  have hd : decode (am_cc mid) pc = .ok (.if_icmp .ge ((k : Int) - (pc : Int)), 3) := hd
  unfold am_oCmp at hf
  split at hf
  · rename_i z1 z2 S1
    cases hf
    have hy2 : am_R z1 := am_okL_h oS
    have hx2 : am_R z2 := am_okL_h (am_okL_t oS)
    refine ⟨⟨oL, am_okL_t (am_okL_t oS), oσ⟩, fun D cs a p l e R s m args below meth c Q hC H locs cells slots ls hc hs hI hl kk => ?_⟩
    obtain ⟨⟨hx, hb, -⟩, -⟩ := hC
    have h1 := kk H locs ls hI hl
    refine lv_icmp_ge hx hb hd (tgt := k) (by omega) (fun h => ?_) (fun h => ?_)
    · rw [am_leI hy2 hx2] at h
      rw [if_pos (decide_eq_true (show z1 ≤ z2 from h))] at h1
      exact h1
    · rw [am_leI hy2 hx2] at h
      rw [if_neg (fun h9 => absurd (of_decide_eq_true h9) h)] at h1
      exact h1
  · cases hf
set_option maxHeartbeats 4000000 in
theorem am_s28 : am_Sd 28 (am_oCmp (fun x y => decide (y < x))) := by
  intro sc hsc mid pc x k ts L S σ pc' L' S' σ' hd hk hf oL oS oσ
  have hd : decode (am_cc mid) pc = .ok (.if_icmp .gt ((k : Int) - (pc : Int)), 3) := hd
  unfold am_oCmp at hf
  split at hf
  · rename_i z1 z2 S1
    cases hf
    have hy2 : am_R z1 := am_okL_h oS
    have hx2 : am_R z2 := am_okL_h (am_okL_t oS)
    refine ⟨⟨oL, am_okL_t (am_okL_t oS), oσ⟩, fun D cs a p l e R s m args below meth c Q hC H locs cells slots ls hc hs hI hl kk => ?_⟩
    obtain ⟨⟨hx, hb, -⟩, -⟩ := hC
    have h1 := kk H locs ls hI hl
    refine lv_icmp_gt hx hb hd (tgt := k) (by omega) (fun h => ?_) (fun h => ?_)
    · rw [am_ltI hy2 hx2] at h
      rw [if_pos (decide_eq_true (show z1 < z2 from h))] at h1
      exact h1
    · rw [am_ltI hy2 hx2] at h
      rw [if_neg (fun h9 => absurd (of_decide_eq_true h9) h)] at h1
      exact h1
  · cases hf
set_option maxHeartbeats 4000000 in
theorem am_s29 : am_Sd 29 (am_oCmp (fun x y => decide (x ≤ y))) := by
  intro sc hsc mid pc x k ts L S σ pc' L' S' σ' hd hk hf oL oS oσ
  have hd : decode (am_cc mid) pc = .ok (.if_icmp .le ((k : Int) - (pc : Int)), 3) := hd
  unfold am_oCmp at hf
  split at hf
  · rename_i z1 z2 S1
    cases hf
    have hy2 : am_R z1 := am_okL_h oS
    have hx2 : am_R z2 := am_okL_h (am_okL_t oS)
    refine ⟨⟨oL, am_okL_t (am_okL_t oS), oσ⟩, fun D cs a p l e R s m args below meth c Q hC H locs cells slots ls hc hs hI hl kk => ?_⟩
    obtain ⟨⟨hx, hb, -⟩, -⟩ := hC
    have h1 := kk H locs ls hI hl
    refine lv_icmp_le hx hb hd (tgt := k) (by omega) (fun h => ?_) (fun h => ?_)
    · rw [am_leI hx2 hy2] at h
      rw [if_pos (decide_eq_true (show z2 ≤ z1 from h))] at h1
      exact h1
    · rw [am_leI hx2 hy2] at h
      rw [if_neg (fun h9 => absurd (of_decide_eq_true h9) h)] at h1
      exact h1
  · cases hf
set_option maxHeartbeats 4000000 in
theorem am_s30 : am_Sd 30 am_oGo := by
  intro sc hsc mid pc x k ts L S σ pc' L' S' σ' hd hk hf oL oS oσ
  have hd : decode (am_cc mid) pc = .ok (.goto ((k : Int) - (pc : Int)), 3) := hd
  cases hf
  refine ⟨⟨oL, oS, oσ⟩, fun D cs a p l e R s m args below meth c Q hC H locs cells slots ls hc hs hI hl kk => ?_⟩
  obtain ⟨⟨hx, hb, -⟩, -⟩ := hC
  exact lv_goto hx hb hd (by omega) (kk H locs ls hI hl)
set_option maxHeartbeats 4000000 in
theorem am_s31 : am_Sd 31 am_oSw := by
  intro sc hsc mid pc x k ts L S σ pc' L' S' σ' hd hk hf oL oS oσ
  have hd : decode (am_cc mid) pc = .ok (.tableswitch (ts.getD 0 0 - (pc : Int)) x (x + (ts.length : Int) - 2) ((ts.drop 1).map (fun t => t - (pc : Int))).toArray, k) := hd
  simp [am_ck] at hk
  obtain ⟨hk1, hk2⟩ := hk
  have hpos : ∀ i : Nat, 0 ≤ ts.getD i 0 := by
    intro i
    rw [List.getD_eq_getElem?_getD]
    cases hi : ts[i]? with
    | none => simp
    | some v => simpa using hk1 v (List.mem_of_getElem? hi)
  unfold am_oSw at hf
  split at hf
  · rename_i z S1
    have hz : am_R z := am_okL_h oS
    by_cases hr : z < x ∨ x + ((ts.length : Int) - 1) ≤ z
    · rw [if_pos hr] at hf
      cases hf
      refine ⟨⟨oL, am_okL_t oS, oσ⟩, fun D cs a p l e R s m args below meth c Q hC H locs cells slots ls hc hs hI hl kk => ?_⟩
      obtain ⟨⟨hx, hb, -⟩, -⟩ := hC
      refine lv_tableOut hx hb hd (by rw [am_ofI hz]; omega) ?_ (kk H locs ls hI hl)
      have := hpos 0
      omega
    · rw [if_neg hr] at hf
      cases hf
      refine ⟨⟨oL, am_okL_t oS, oσ⟩, fun D cs a p l e R s m args below meth c Q hC H locs cells slots ls hc hs hI hl kk => ?_⟩
      obtain ⟨⟨hx, hb, -⟩, -⟩ := hC
      refine lv_tableIn (off := ts.getD ((z - x).toNat + 1) 0 - (pc : Int)) hx hb hd (by rw [am_ofI hz]; omega) (by rw [am_ofI hz]; omega) ?_ ?_ (kk H locs ls hI hl)
      · rw [am_ofI hz]
        have hlt : (z - x).toNat + 1 < ts.length := by omega
        simp only [List.getElem?_toArray, List.getElem?_map, List.getElem?_drop]
        rw [Nat.add_comm 1, List.getElem?_eq_getElem hlt, List.getD_eq_getElem?_getD, List.getElem?_eq_getElem hlt]
        rfl
      · have := hpos ((z - x).toNat + 1)
        omega
  · cases hf
set_option maxHeartbeats 4000000 in
theorem am_s32 : am_Sd 32 am_oGet := by
  intro sc hsc mid pc x k ts L S σ pc' L' S' σ' hd hk hf oL oS oσ
  have hd : decode (am_cc mid) pc = .ok (.getfield x.toNat, 3) := hd
  simp [am_ck] at hk
  obtain ⟨ho, hkn, hin⟩ := hk
  unfold am_oGet at hf
  split at hf
  · rename_i o S1
    by_cases hr : o = am_ob mid
    · rw [if_pos hr] at hf
      subst hr
      cases hf
      have hv : am_okV (if am_fl (am_ob mid) k < 30 then (.inr (.inl (am_fl (am_ob mid) k)) : AV) else .inl (σ (am_fl (am_ob mid) k) 0)) := by
        by_cases h30 : am_fl (am_ob mid) k < 30
        · rw [if_pos h30]; trivial
        · rw [if_neg h30]; exact oσ _ _
      refine ⟨⟨oL, am_okL_c hv (am_okL_t oS), oσ⟩, fun D cs a p l e R s m args below meth c Q hC H locs cells slots ls hc hs hI hl kk => ?_⟩
      obtain ⟨⟨hx, hb, hml, hown, hts⟩, ⟨hK, hD0⟩, -⟩ := hC
      have h1 := kk H locs ls hI hl
      have he : am_cv a (if am_fl (am_ob mid) k < 30 then (.inr (.inl (am_fl (am_ob mid) k)) : AV) else .inl (σ (am_fl (am_ob mid) k) 0)) = am_fv a σ (am_ob mid) k := by
        unfold am_fv
        by_cases h30 : am_fl (am_ob mid) k < 30
        · rw [if_pos h30, if_pos h30]; rfl
        · rw [if_neg h30, if_neg h30]; rfl
      refine va_get (D := D) (ci := am_ob mid) (v := am_fv a σ (am_ob mid) k) (C := am_cC (am_ob mid)) (T := am_cT (am_ob mid)) (N := am_nf (am_ob mid)) (own := am_cC (am_ob mid)) (ref := am_cC (am_ob mid)) hx hb hts (am_fin ho) hown hK hI.1 (am_ob mid) (am_wd_obj ho) (am_cl_at ho) k hkn (hts _ (am_flk_in ho hin)) (fun z hz => by rw [am_T10 _ ho _ hkn] at hz; exact hz) ?_ hd ?_
      · rw [List.getElem?_map, List.getElem?_range hkn]; rfl
      · rw [← he]; exact h1
    · rw [if_neg hr] at hf
      cases hf
  · cases hf
set_option maxHeartbeats 4000000 in
theorem am_s33 : am_Sd 33 am_oPut := by
  intro sc hsc mid pc x k ts L S σ pc' L' S' σ' hd hk hf oL oS oσ
  have hd : decode (am_cc mid) pc = .ok (.putfield x.toNat, 3) := hd
  simp [am_ck] at hk
  obtain ⟨ho, hkn, hin⟩ := hk
  unfold am_oPut at hf
  split at hf
  · rename_i z o S1
    by_cases hr : o = am_ob mid ∧ 30 ≤ am_fl o k
    · rw [if_pos hr] at hf
      obtain ⟨hr, h30⟩ := hr
      subst hr
      cases hf
      refine ⟨⟨oL, am_okL_t (am_okL_t oS), am_okS_up oσ (am_okL_h oS)⟩, fun D cs a p l e R s m args below meth c Q hC H locs cells slots ls hc hs hI hl kk => ?_⟩
      obtain ⟨⟨hx, hb, hml, hown, hts⟩, ⟨hK, hD0⟩, -⟩ := hC
      refine va_put (D := D) (ci := am_ob mid) (v := .int (Int32.ofInt z)) (ty := .int) (C := am_cC (am_ob mid)) (T := am_cT (am_ob mid)) (N := am_nf (am_ob mid)) (own := am_cC (am_ob mid)) (ref := am_cC (am_ob mid)) hx hb hts (am_fin ho) (am_cY (am_ob mid)) (am_cY_ok0 _ ho) (am_nm0 _ ho) hown hK hI.1 (am_D_of hD0) hI.2 (am_ob mid) (am_wd_obj ho) (am_cl_at ho) k hkn (hts _ (am_flk_in ho hin)) (fun z hz => by rw [am_T10 _ ho _ hkn] at hz; exact hz) (am_int0 _ ho _ hkn h30).1 (am_int0 _ ho _ hkn h30).2 rfl rfl (by simpa using hkn) hd (fun H1 locs1 hP1 hD1 hS1 => ?_)
      rw [am_wd_fld ho hkn h30] at hP1
      exact kk H1 locs1 ls ⟨hP1, hS1⟩ hl
    · rw [if_neg hr] at hf
      cases hf
  · cases hf
set_option maxHeartbeats 4000000 in
theorem am_s34 : am_Sd 34 am_oIald := by
  intro sc hsc mid pc x k ts L S σ pc' L' S' σ' hd hk hf oL oS oσ
  have hd : decode (am_cc mid) pc = .ok (.iaload, 1) := hd
  unfold am_oIald at hf
  split at hf
  · rename_i i j S1
    have hi : am_R i := am_okL_h oS
    by_cases hr : am_at j = 0 ∧ 0 ≤ i ∧ i < am_ln j
    · rw [if_pos hr] at hf
      obtain ⟨ha, h0, h1⟩ := hr
      cases hf
      have hj := am_at_lt (by omega : am_at j < 3)
      refine ⟨⟨oL, am_okL_c (v := .inl (σ j i)) (oσ j i) (am_okL_t (am_okL_t oS)), oσ⟩, fun D cs a p l e R s m args below meth c Q hC H locs cells slots ls hc hs hI hl kk => ?_⟩
      obtain ⟨⟨hx, hb, hml, hown, hts⟩, ⟨hK, hD0⟩, -, -, -, hscr⟩ := hC
      have h9 := kk H locs ls hI hl
      refine va_iald hx hb hK hI.1 j 0 (n := (am_ln j).toNat) (am_wd_ar hj ha) (by rw [ha]; rfl) (i := Int32.ofInt i) (am_in hi h0 (by omega)) hd ?_
      rw [am_clamp hi, show ((i.toNat : Nat) : Int) = i by omega]
      exact h9
    · by_cases hr2 : j = 28 ∧ mid = am_law ∧ 0 ≤ i ∧ i < sc (-1)
      · rw [if_neg hr, if_pos hr2] at hf
        obtain ⟨rfl, hm, h0, h1⟩ := hr2
        cases hf
        refine ⟨⟨oL, am_okL_c (v := .inl (sc i)) (hsc i) (am_okL_t (am_okL_t oS)), oσ⟩, fun D cs a p l e R s m args below meth c Q hC H locs cells slots ls hc hs hI hl kk => ?_⟩
        obtain ⟨⟨hx, hb, hml, hown, hts⟩, ⟨hK, hD0⟩, -, -, -, hscr⟩ := hC
        obtain ⟨Ls, xs, hX, hbl, hbA, hsl, hsv⟩ := hscr hm
        rw [hsl] at h1
        have hsv := hsv i.toNat (by omega)
        have hin' : ((i.toNat : Nat) : Int) = i := by omega
        rw [hin'] at hsv
        have h9 := kk H locs ls hI hl
        refine va_sld hx hb hX hbl hbA hI.2 (i := Int32.ofInt i) (am_in hi h0 h1) hd ?_
        rw [am_clamp hi, hsv]
        exact h9
      · rw [if_neg hr, if_neg hr2] at hf
        cases hf
  · cases hf
set_option maxHeartbeats 4000000 in
theorem am_s35 : am_Sd 35 am_oIast := by
  intro sc hsc mid pc x k ts L S σ pc' L' S' σ' hd hk hf oL oS oσ
  have hd : decode (am_cc mid) pc = .ok (.iastore, 1) := hd
  unfold am_oIast at hf
  split at hf
  · rename_i v i j S1
    have hv : am_R v := am_okL_h oS
    have hi : am_R i := am_okL_h (am_okL_t oS)
    by_cases hr : am_at j = 0 ∧ 0 ≤ i ∧ i < am_ln j
    · rw [if_pos hr] at hf
      obtain ⟨ha, h0, h1⟩ := hr
      cases hf
      have hj := am_at_lt (by omega : am_at j < 3)
      refine ⟨⟨oL, am_okL_t (am_okL_t (am_okL_t oS)), am_okS_up oσ hv⟩, fun D cs a p l e R s m args below meth c Q hC H locs cells slots ls hc hs hI hl kk => ?_⟩
      obtain ⟨⟨hx, hb, hml, hown, hts⟩, ⟨hK, hD0⟩, -⟩ := hC
      refine va_iast hx hb hK hI.1 (am_D_of hD0) hI.2 j 0 (n := (am_ln j).toNat) (am_wd_ar hj ha) (by rw [ha]; rfl) (i := Int32.ofInt i) (am_in hi h0 (by omega)) hd (fun H1 locs1 hP1 hD1 hS1 => ?_)
      rw [am_clamp hi, am_wd_arr (i := i) (v := v) hj.2 hj.1 (am_cell_ar hj.1 ha h0)] at hP1
      exact kk H1 locs1 ls ⟨hP1, hS1⟩ hl
    · rw [if_neg hr] at hf
      cases hf
  · cases hf
set_option maxHeartbeats 4000000 in
theorem am_s36 : am_Sd 36 am_oBald := by
  intro sc hsc mid pc x k ts L S σ pc' L' S' σ' hd hk hf oL oS oσ
  have hd : decode (am_cc mid) pc = .ok (.baload, 1) := hd
  unfold am_oBald at hf
  split at hf
  · rename_i i j S1
    have hi : am_R i := am_okL_h oS
    by_cases hr : am_at j = 1 ∧ 0 ≤ i ∧ i < am_ln j
    · rw [if_pos hr] at hf
      obtain ⟨ha, h0, h1⟩ := hr
      cases hf
      have hj := am_at_lt (by omega : am_at j < 3)
      refine ⟨⟨oL, am_okL_c (v := .inl (σ j i)) (oσ j i) (am_okL_t (am_okL_t oS)), oσ⟩, fun D cs a p l e R s m args below meth c Q hC H locs cells slots ls hc hs hI hl kk => ?_⟩
      obtain ⟨⟨hx, hb, hml, hown, hts⟩, ⟨hK, hD0⟩, -, -, -, hscr⟩ := hC
      have h9 := kk H locs ls hI hl
      refine va_zald hx hb hK hI.1 j 1 (n := (am_ln j).toNat) (am_wd_ar hj ha) (by rw [ha]; rfl) (i := Int32.ofInt i) (am_in hi h0 (by omega)) hd ?_
      rw [am_clamp hi, show ((i.toNat : Nat) : Int) = i by omega]
      exact h9
    · rw [if_neg hr] at hf
      cases hf
  · cases hf
set_option maxHeartbeats 4000000 in
theorem am_s37 : am_Sd 37 am_oBast := by
  intro sc hsc mid pc x k ts L S σ pc' L' S' σ' hd hk hf oL oS oσ
  have hd : decode (am_cc mid) pc = .ok (.bastore, 1) := hd
  unfold am_oBast at hf
  split at hf
  · rename_i v i j S1
    have hv : am_R v := am_okL_h oS
    have hi : am_R i := am_okL_h (am_okL_t oS)
    by_cases hr : am_at j = 1 ∧ 0 ≤ i ∧ i < am_ln j ∧ (v = 0 ∨ v = 1)
    · rw [if_pos hr] at hf
      obtain ⟨ha, h0, h1, hv01⟩ := hr
      cases hf
      have hj := am_at_lt (by omega : am_at j < 3)
      refine ⟨⟨oL, am_okL_t (am_okL_t (am_okL_t oS)), am_okS_up oσ hv⟩, fun D cs a p l e R s m args below meth c Q hC H locs cells slots ls hc hs hI hl kk => ?_⟩
      obtain ⟨⟨hx, hb, hml, hown, hts⟩, ⟨hK, hD0⟩, -⟩ := hC
      refine va_zast hx hb hK hI.1 (am_D_of hD0) hI.2 j 1 (n := (am_ln j).toNat) (am_wd_ar hj ha) (by rw [ha]; rfl) (i := Int32.ofInt i) (am_in hi h0 (by omega)) hd (fun H1 locs1 hP1 hD1 hS1 => ?_)
      rw [am_clamp hi, am_nz hv01, am_wd_arr (i := i) (v := v) hj.2 hj.1 (am_cell_ar hj.1 ha h0)] at hP1
      exact kk H1 locs1 ls ⟨hP1, hS1⟩ hl
    · rw [if_neg hr] at hf
      cases hf
  · cases hf
set_option maxHeartbeats 4000000 in
theorem am_s38 : am_Sd 38 am_oLald := by
  intro sc hsc mid pc x k ts L S σ pc' L' S' σ' hd hk hf oL oS oσ
  have hd : decode (am_cc mid) pc = .ok (.laload, 1) := hd
  unfold am_oLald at hf
  split at hf
  · rename_i i j S1
    have hi : am_R i := am_okL_h oS
    by_cases hr : am_at j = 2 ∧ 0 ≤ i ∧ i < am_ln j
    · rw [if_pos hr] at hf
      obtain ⟨ha, h0, h1⟩ := hr
      cases hf
      have hj := am_at_lt (by omega : am_at j < 3)
      refine ⟨⟨oL, am_okL_c (v := .inr (.inr (σ j i))) (oσ j i) (am_okL_t (am_okL_t oS)), oσ⟩, fun D cs a p l e R s m args below meth c Q hC H locs cells slots ls hc hs hI hl kk => ?_⟩
      obtain ⟨⟨hx, hb, hml, hown, hts⟩, ⟨hK, hD0⟩, -, -, -, hscr⟩ := hC
      have h9 := kk H locs ls hI hl
      refine va_lald hx hb hK hI.1 j 2 (n := (am_ln j).toNat) (am_wd_arL hj ha) (by rw [ha]; rfl) (i := Int32.ofInt i) (am_in hi h0 (by omega)) hd ?_
      rw [am_clamp hi, show ((i.toNat : Nat) : Int) = i by omega]
      exact h9
    · rw [if_neg hr] at hf
      cases hf
  · cases hf
set_option maxHeartbeats 4000000 in
theorem am_s39 : am_Sd 39 am_oLast := by
  intro sc hsc mid pc x k ts L S σ pc' L' S' σ' hd hk hf oL oS oσ
  have hd : decode (am_cc mid) pc = .ok (.lastore, 1) := hd
  unfold am_oLast at hf
  split at hf
  · rename_i v i j S1
    have hv : am_R v := am_okL_h oS
    have hi : am_R i := am_okL_h (am_okL_t oS)
    by_cases hr : am_at j = 2 ∧ 0 ≤ i ∧ i < am_ln j
    · rw [if_pos hr] at hf
      obtain ⟨ha, h0, h1⟩ := hr
      cases hf
      have hj := am_at_lt (by omega : am_at j < 3)
      refine ⟨⟨oL, am_okL_t (am_okL_t (am_okL_t oS)), am_okS_up oσ hv⟩, fun D cs a p l e R s m args below meth c Q hC H locs cells slots ls hc hs hI hl kk => ?_⟩
      obtain ⟨⟨hx, hb, hml, hown, hts⟩, ⟨hK, hD0⟩, -⟩ := hC
      refine va_last hx hb hK hI.1 (am_D_of hD0) hI.2 j 2 (n := (am_ln j).toNat) (am_wd_arL hj ha) (by rw [ha]; rfl) (i := Int32.ofInt i) (am_in hi h0 (by omega)) hd (fun H1 locs1 hP1 hD1 hS1 => ?_)
      rw [am_clamp hi, am_wd_arr (i := i) (v := v) hj.2 hj.1 (am_cell_arL hj.1 ha h0)] at hP1
      exact kk H1 locs1 ls ⟨hP1, hS1⟩ hl
    · rw [if_neg hr] at hf
      cases hf
  · cases hf
set_option maxHeartbeats 4000000 in
theorem am_s40 : am_Sd 40 am_oLen := by
  intro sc hsc mid pc x k ts L S σ pc' L' S' σ' hd hk hf oL oS oσ
  have hd : decode (am_cc mid) pc = .ok (.arraylength, 1) := hd
  unfold am_oLen at hf
  split at hf
  · rename_i j S1
    by_cases hr : am_at j < 3
    · rw [if_pos hr] at hf
      cases hf
      have hj := am_at_lt hr
      have hln := am_ln_ok hr
      refine ⟨⟨oL, am_okL_c (v := .inl (am_ln j)) ⟨by omega, by omega⟩ (am_okL_t oS), oσ⟩, fun D cs a p l e R s m args below meth c Q hC H locs cells slots ls hc hs hI hl kk => ?_⟩
      obtain ⟨⟨hx, hb, hml, hown, hts⟩, ⟨hK, hD0⟩, -, -, -, hscr⟩ := hC
      have h9 := kk H locs ls hI hl
      obtain ⟨xx, hxx, hx1⟩ := am_wd_arA (a := a) (cs := cs) (σ := σ) hj
      refine va_alen hx hb hK hI.1 j (am_at j) hxx (am_ty_at hr) (v := Int32.ofInt (am_ln j)) ?_ hd h9
      rw [hx1, am_ofN]
      congr 1
      omega
    · by_cases hr2 : j = 28 ∧ mid = am_law
      · rw [if_neg hr, if_pos hr2] at hf
        obtain ⟨rfl, hm⟩ := hr2
        cases hf
        refine ⟨⟨oL, am_okL_c (v := .inl (sc (-1))) (hsc (-1)) (am_okL_t oS), oσ⟩, fun D cs a p l e R s m args below meth c Q hC H locs cells slots ls hc hs hI hl kk => ?_⟩
        obtain ⟨⟨hx, hb, hml, hown, hts⟩, ⟨hK, hD0⟩, -, -, -, hscr⟩ := hC
        obtain ⟨Ls, xs, hX, hbl, hbA, hsl, hsv⟩ := hscr hm
        have h9 := kk H locs ls hI hl
        refine va_slen hx hb hX hbl hbA hI.2 hd ?_
        rw [am_ofN, ← hsl]
        exact h9
      · rw [if_neg hr, if_neg hr2] at hf
        cases hf
  · cases hf
set_option maxHeartbeats 4000000 in
theorem am_s41 : am_Sd 41 am_oI2l := by
  intro sc hsc mid pc x k ts L S σ pc' L' S' σ' hd hk hf oL oS oσ
  have hd : decode (am_cc mid) pc = .ok (.i2l, 1) := hd
  unfold am_oI2l at hf
  split at hf
  · rename_i z S1
    cases hf
    have hz : am_R z := am_okL_h oS
    refine ⟨⟨oL, am_okL_c (v := .inr (.inr z)) hz (am_okL_t oS), oσ⟩, fun D cs a p l e R s m args below meth c Q hC H locs cells slots ls hc hs hI hl kk => ?_⟩
    obtain ⟨⟨hx, hb, -⟩, -⟩ := hC
    exact lv_i2l hx hb hd (am_ij hz) (kk H locs ls hI hl)
  · cases hf
set_option maxHeartbeats 4000000 in
theorem am_s42 : am_Sd 42 am_oLcmp := by
  intro sc hsc mid pc x k ts L S σ pc' L' S' σ' hd hk hf oL oS oσ
  have hd : decode (am_cc mid) pc = .ok (.lcmp, 1) := hd
  unfold am_oLcmp at hf
  split at hf
  · rename_i z1 z2 S1
    cases hf
    have h1 : am_R z1 := am_okL_h oS
    have h2 : am_R z2 := am_okL_h (am_okL_t oS)
    have hr : am_R (if z1 < z2 then 1 else if z2 = z1 then 0 else -1) := by
      constructor <;> split <;> (try split) <;> omega
    refine ⟨⟨oL, am_okL_c (v := .inl _) hr (am_okL_t (am_okL_t oS)), oσ⟩, fun D cs a p l e R s m args below meth c Q hC H locs cells slots ls hc hs hI hl kk => ?_⟩
    obtain ⟨⟨hx, hb, -⟩, -⟩ := hC
    have h9 := kk H locs ls hI hl
    refine W.lcmp hx hb hd ?_
    rw [am_lcmp h2 h1]
    exact h9
  · cases hf
set_option maxHeartbeats 4000000 in
theorem am_s43 : am_Sd 43 am_oMin := by
  intro sc hsc mid pc x k ts L S σ pc' L' S' σ' hd hk hf oL oS oσ
  have hd : decode (am_cc mid) pc = .ok (.invokestatic x.toNat, 3) := hd
  simp [am_ck] at hk
  obtain ⟨hk1, hk0, hk2, hk3⟩ := hk
  rw [hk1] at hd
  unfold am_oMin at hf
  split at hf
  · rename_i z1 z2 S1
    by_cases hr : S1.length ≤ 4
    · rw [if_pos hr] at hf
      cases hf
      have h1 : am_R z1 := am_okL_h oS
      have h2 : am_R z2 := am_okL_h (am_okL_t oS)
      have hmn : am_R (if z1 < z2 then z1 else z2) := by split <;> assumption
      refine ⟨⟨oL, am_okL_c (v := .inl _) hmn (am_okL_t (am_okL_t oS)), oσ⟩, fun D cs a p l e R s m args below meth c Q hC H locs cells slots ls hc hs hI hl kk => ?_⟩
      obtain ⟨⟨hx, hb, hml, hown, hts⟩, ⟨hK, hD0⟩, ⟨hfr, hlo⟩, -⟩ := hC
      have h9 := kk H locs ls hI hl
      have hcat := am_catsum a S1
      rw [hk0] at hown
      refine va_mmin hx hb (by rw [hml, hl.1]) hown (hts _ (am_inw (am_minw0 _ (by simp)).1 (am_minw0 _ (by simp)).2)) (hts _ (am_inw (am_minw0 _ (by simp)).1 (am_minw0 _ (by simp)).2)) (hts _ (am_inw (am_minw0 _ (by simp)).1 (am_minw0 _ (by simp)).2)) (hts _ (am_inw (am_minw0 _ (by simp)).1 (am_minw0 _ (by simp)).2)) (by omega) (by omega) hc hs hd ?_
      have e : (if Int32.ofInt z1 < Int32.ofInt z2 then Int32.ofInt z1 else Int32.ofInt z2) = Int32.ofInt (if z1 < z2 then z1 else z2) := by
        by_cases hlt : z1 < z2
        · rw [if_pos hlt, if_pos ((am_ltI h1 h2).mpr hlt)]
        · rw [if_neg hlt, if_neg (fun q => hlt ((am_ltI h1 h2).mp q))]
      rw [e]
      exact h9
    · rw [if_neg hr] at hf
      cases hf
  · cases hf
theorem am_sAll : ∀ (op : Nat) (f : OpT), am_ops[op]? = some f → am_Sd op f := by
  intro op f h
  match op, h with
  | 0, h => cases h; exact am_s0
  | 1, h => cases h; exact am_s1
  | 2, h => cases h; exact am_s2
  | 3, h => cases h; exact am_s3
  | 4, h => cases h; exact am_s4
  | 5, h => cases h; exact am_s5
  | 6, h => cases h; exact am_s6
  | 7, h => cases h; exact am_s7
  | 8, h => cases h; exact am_s8
  | 9, h => cases h; exact am_s9
  | 10, h => cases h; exact am_s10
  | 11, h => cases h; exact am_s11
  | 12, h => cases h; exact am_s12
  | 13, h => cases h; exact am_s13
  | 14, h => cases h; exact am_s14
  | 15, h => cases h; exact am_s15
  | 16, h => cases h; exact am_s16
  | 17, h => cases h; exact am_s17
  | 18, h => cases h; exact am_s18
  | 19, h => cases h; exact am_s19
  | 20, h => cases h; exact am_s20
  | 21, h => cases h; exact am_s21
  | 22, h => cases h; exact am_s22
  | 23, h => cases h; exact am_s23
  | 24, h => cases h; exact am_s24
  | 25, h => cases h; exact am_s25
  | 26, h => cases h; exact am_s26
  | 27, h => cases h; exact am_s27
  | 28, h => cases h; exact am_s28
  | 29, h => cases h; exact am_s29
  | 30, h => cases h; exact am_s30
  | 31, h => cases h; exact am_s31
  | 32, h => cases h; exact am_s32
  | 33, h => cases h; exact am_s33
  | 34, h => cases h; exact am_s34
  | 35, h => cases h; exact am_s35
  | 36, h => cases h; exact am_s36
  | 37, h => cases h; exact am_s37
  | 38, h => cases h; exact am_s38
  | 39, h => cases h; exact am_s39
  | 40, h => cases h; exact am_s40
  | 41, h => cases h; exact am_s41
  | 42, h => cases h; exact am_s42
  | 43, h => cases h; exact am_s43
  | n + 44, h => rw [List.getElem?_eq_none (by show 44 ≤ n + 44; omega)] at h; cases h
