/-! what the checks say, case by case -/
theorem am_lk_in {pc : Nat} {e : En} : ∀ {l : List (Nat × En)}, am_lk pc l = some e → (pc, e) ∈ l := by
  intro l
  induction l with
  | nil => intro h; cases h
  | cons q r ih =>
    intro h
    unfold am_lk at h
    by_cases hq : q.1 = pc
    · rw [if_pos hq] at h
      cases h
      rw [← hq]
      exact List.mem_cons_self
    · rw [if_neg hq] at h
      exact List.mem_cons_of_mem _ (ih h)
theorem am_okc {pc mid op k : Nat} {x : Int} {ts : List Int} (h : am_lk pc (am_code mid) = some (op, x, k, ts)) : decode (am_cc mid) pc = .ok (am_dcd pc (op, x, k, ts)) ∧ am_ck mid op x k ts = true := am_okc0 (am_lk_in h)
theorem am_okM {mid : Nat} (h : mid < am_law) : plainName (am_y mid).cls = true ∧ (am_y mid).cls = am_cC (am_ob mid) ∧ am_na mid ≤ am_nl mid := am_okM0 mid h
theorem am_rt60 {mid k : Nat} {x : Int} {ts : List Int} (h : am_ck mid 60 x k ts = true) : am_rt mid = some .int := by simpa [am_ck] using h
theorem am_rt61 {mid k : Nat} {x : Int} {ts : List Int} (h : am_ck mid 61 x k ts = true) : am_rt mid = some .boolean := by simpa [am_ck] using h
theorem am_rt62 {mid k : Nat} {x : Int} {ts : List Int} (h : am_ck mid 62 x k ts = true) : am_rt mid = none := by simpa [am_ck] using h
theorem am_op5 {mid op k : Nat} {x : Int} {ts : List Int} (h50 : ¬ op < 50) (h60 : op < 60) (h : am_ck mid op x k ts = true) : op = 50 ∨ op = 51 ∨ op = 52 := by
  rcases (show op = 50 ∨ op = 51 ∨ op = 52 ∨ 53 ≤ op by omega) with h1 | h1 | h1 | h1
  · exact Or.inl h1
  · exact Or.inr (Or.inl h1)
  · exact Or.inr (Or.inr h1)
  · exfalso
    simp [am_ck, show ¬ op < 2 by omega, show op ≠ 2 by omega, show op ≠ 3 by omega, show op ≠ 5 by omega, show op ≠ 7 by omega, show op ≠ 9 by omega, show op ≠ 31 by omega, show op ≠ 32 by omega, show op ≠ 33 by omega, show op ≠ 43 by omega, show op ≠ 50 by omega, show op ≠ 51 by omega, show op ≠ 52 by omega, show op ≠ 60 by omega, show op ≠ 61 by omega, show op ≠ 62 by omega, show op ≠ 63 by omega, show ¬ op < 50 by omega] at h
theorem am_ck50 {mid k : Nat} {x : Int} {ts : List Int} (h : am_ck mid 50 x k ts = true) : (am_ob mid, x.toNat, k) ∈ am_mlV ∧ k < am_law ∧ am_fr k + 1 ≤ am_fr mid ∧ 8 + (am_nl k + 11) + am_lo k ≤ am_lo mid := by simpa [am_ck] using h
theorem am_ck51 {mid k : Nat} {x : Int} {ts : List Int} (h : am_ck mid 51 x k ts = true) : (am_ob mid, x.toNat, k) ∈ am_mlS ∧ k < am_law ∧ am_fr k + 1 ≤ am_fr mid ∧ 8 + (am_nl k + 11) + am_lo k ≤ am_lo mid := by simpa [am_ck] using h
theorem am_ck52 {mid k : Nat} {x : Int} {ts : List Int} (h : am_ck mid 52 x k ts = true) : (am_ob mid, x.toNat, k) ∈ am_mlW ∧ k < am_law ∧ am_fr k + 1 ≤ am_fr mid ∧ 8 + (am_nl k + 11) + am_lo k ≤ am_lo mid := by simpa [am_ck] using h
theorem am_callee {mid op k : Nat} {x : Int} {ts : List Int} (h50 : ¬ op < 50) (h60 : op < 60) (h : am_ck mid op x k ts = true) : k < am_law ∧ am_fr k + 1 ≤ am_fr mid ∧ 8 + (am_nl k + 11) + am_lo k ≤ am_lo mid := by
  rcases am_op5 h50 h60 h with rfl | rfl | rfl
  · exact (am_ck50 h).2
  · exact (am_ck51 h).2
  · exact (am_ck52 h).2
theorem am_gin {ws : List Cond} (h : ∀ w ∈ ws, w ∈ am_ws) : GoodIn am_ws ws := fun w hw => ⟨h w hw, am_goodw (h w hw)⟩
theorem am_cwV {mid k : Nat} {x : Int} {ts : List Int} (h : am_ck mid 50 x k ts = true) : GoodIn am_ws (wsV (am_cC (am_ob mid)) x.toNat (am_cC (am_ob k)) (am_y k) (am_wsm k)) ∧ am_wsm k = Cond.code (am_y k) (am_cc k) (am_nl k) (am_rt k) :: am_ws ∧
    ((am_y k).cls = am_cC (am_ob k) ∧ (am_y k).cls ≠ "java/lang/invoke/MethodHandle" ∧ (am_y k).cls ≠ "java/lang/invoke/VarHandle" ∧ (parseMethodDescriptor (am_y k).desc).map (fun d => d.parameters.length) = some (am_na k - 1)) ∧ am_ob k < 2 ∧ 1 ≤ am_na k := by
  obtain ⟨hq, -⟩ := am_ck50 h
  obtain ⟨n1, n2, n3, n4, n5, n6, n7⟩ := am_mlV_n _ hq
  dsimp only at n1 n2 n3 n4 n5 n6 n7
  have hk := am_wV _ hq
  have e : am_wsm k = Cond.code (am_y k) (am_cc k) (am_nl k) (am_rt k) :: am_ws := by unfold am_wsm; rw [if_pos n1]
  have hini : Cond.initialized (am_cC (am_ob k)) ∈ am_ws := by
    rcases (show am_ob k = 0 ∨ am_ob k = 1 by omega) with e1 | e1 <;> rw [e1]
    · exact am_inw am_ini0.1 rfl
    · exact am_inw am_ini0.2 rfl
  refine ⟨am_gin (fun w hw => ?_), e, ⟨n4, n5, n6, n7⟩, n2, n3⟩
  rw [e] at hw
  unfold wsV at hw
  rcases List.mem_append.mp hw with hw | hw
  · simp only [List.mem_cons, List.not_mem_nil, or_false] at hw
    rcases hw with rfl | rfl | rfl | rfl
    · exact am_inw (am_mlV_a _ hq) rfl
    · exact am_inw (am_wI k hk) rfl
    · exact am_inw (am_wS k hk) rfl
    · exact hini
  · rcases List.mem_cons.mp hw with rfl | hw
    · exact am_inw (am_wC k hk) rfl
    · exact hw
theorem am_cwS {mid k : Nat} {x : Int} {ts : List Int} (h : am_ck mid 51 x k ts = true) : GoodIn am_ws (va_wsS (am_cC (am_ob mid)) x.toNat (am_y k) (am_wsm k)) ∧ am_wsm k = Cond.code (am_y k) (am_cc k) (am_nl k) (am_rt k) :: am_ws ∧
    ((am_y k).cls ≠ "java/lang/invoke/MethodHandle" ∧ (am_y k).cls ≠ "java/lang/invoke/VarHandle" ∧ (parseMethodDescriptor (am_y k).desc).map (fun d => d.parameters.length) = some (am_na k)) := by
  obtain ⟨hq, -⟩ := am_ck51 h
  obtain ⟨n1, n5, n6, n7⟩ := am_mlS_n _ hq
  have e : am_wsm k = Cond.code (am_y k) (am_cc k) (am_nl k) (am_rt k) :: am_ws := by unfold am_wsm; rw [if_pos n1]
  refine ⟨am_gin (fun w hw => ?_), e, n5, n6, n7⟩
  rw [e] at hw
  unfold va_wsS at hw
  have hall := am_mlS_w _ hq
  rcases List.mem_append.mp hw with hw | hw
  · exact am_inw (hall w (by simp only [List.mem_cons, List.not_mem_nil, or_false] at hw ⊢; rcases hw with h1 | h1 | h1 <;> simp [h1])).1 (hall w (by simp only [List.mem_cons, List.not_mem_nil, or_false] at hw ⊢; rcases hw with h1 | h1 | h1 <;> simp [h1])).2
  · rcases List.mem_cons.mp hw with rfl | hw
    · exact am_inw (hall _ (by simp)).1 rfl
    · exact hw
theorem am_cwW {mid k : Nat} {x : Int} {ts : List Int} (h : am_ck mid 52 x k ts = true) : GoodIn am_ws (va_wsS (am_cC (am_ob mid)) x.toNat (am_y k) (am_wsm k)) ∧ am_wsm k = Cond.codeWith (am_y k) (am_cc k) (am_nl k) (am_rt k) (am_tb k) :: am_ws ∧
    ((am_y k).cls ≠ "java/lang/invoke/MethodHandle" ∧ (am_y k).cls ≠ "java/lang/invoke/VarHandle" ∧ (parseMethodDescriptor (am_y k).desc).map (fun d => d.parameters.length) = some (am_na k)) := by
  obtain ⟨hq, -⟩ := am_ck52 h
  obtain ⟨n1, n5, n6, n7⟩ := am_mlW_n _ hq
  have e : am_wsm k = Cond.codeWith (am_y k) (am_cc k) (am_nl k) (am_rt k) (am_tb k) :: am_ws := by unfold am_wsm; rw [if_neg n1]
  refine ⟨am_gin (fun w hw => ?_), e, n5, n6, n7⟩
  rw [e] at hw
  unfold va_wsS at hw
  have hall := am_mlW_w _ hq
  rcases List.mem_append.mp hw with hw | hw
  · exact am_inw (hall w (by simp only [List.mem_cons, List.not_mem_nil, or_false] at hw ⊢; rcases hw with h1 | h1 | h1 <;> simp [h1])).1 (hall w (by simp only [List.mem_cons, List.not_mem_nil, or_false] at hw ⊢; rcases hw with h1 | h1 | h1 <;> simp [h1])).2
  · rcases List.mem_cons.mp hw with rfl | hw
    · exact am_inw (hall _ (by simp)).1 rfl
    · exact hw
theorem am_thr {mid pc i : Nat} {x : Int} {ts : List Int} (h : am_lk pc (am_code mid) = some (63, x, i, ts)) : am_tb mid = [] ∧ 6 ≤ am_fr mid ∧ 81 ≤ am_lo mid ∧ (am_ob mid, x.toNat, i, (ts.getD 0 0).toNat) ∈ am_ths ∧
    decode (am_cc mid) pc = .ok (.new x.toNat, 3) ∧ decode (am_cc mid) (pc + 3) = .ok (.dup, 1) ∧ decode (am_cc mid) (pc + 4) = .ok (.invokespecial (ts.getD 0 0).toNat, 3) ∧ decode (am_cc mid) (pc + 7) = .ok (.athrow, 1) := by
  obtain ⟨h1, h2, h3⟩ := am_okA mid _ (am_lk_in h)
  have h2 : (am_ob mid, x.toNat, i, (ts.getD 0 0).toNat) ∈ am_ths ∧ am_tb mid = [] ∧ 6 ≤ am_fr mid ∧ 81 ≤ am_lo mid := of_decide_eq_true h2
  obtain ⟨d1, d2, d3⟩ := h3 rfl
  exact ⟨h2.2.1, h2.2.2.1, h2.2.2.2, h2.1, h1, d1, d2, d3⟩
-- castability and declarations stay
theorem am_castW {C T : String} {s U : State} (hW : s.WarmedH U.vm) (h : va_Nw (.castable C T) s) : va_Nw (.castable C T) U := by
  obtain ⟨c, t, h1, h2, h3⟩ := Cond.castable_spec h
  show (Cond.castable C T).before #[] U = true
  simp [Cond.before, Cond.holds, Cond.value, hW.alike.findClass, h1, h2, hW.alike.assignable, h3]
theorem am_xwW {s U : State} (hW : s.WarmedH U.vm) (h : ∀ w ∈ am_xw, va_Nw w s) : ∀ w ∈ am_xw, va_Nw w U := by
  intro w hw
  have h9 := h w hw
  simp only [am_xw, List.mem_cons, List.not_mem_nil, or_false] at hw
  rcases hw with rfl | rfl | rfl | rfl | rfl | rfl | rfl
  · exact am_castW hW h9
  · exact am_castW hW h9
  · exact am_castW hW h9
  · exact am_castW hW h9
  · exact va_Nw.warmD hW h9
  · exact va_Nw.warmD hW h9
  · exact va_Nw.warmD hW h9
theorem am_xw_ot : ∀ w ∈ am_xw, w.onTables = true := by decide +kernel
theorem am_ths_g {o ix i ic : Nat} {args : Array Value} {s : State} (h : (o, ix, i, ic) ∈ am_ths) (hts : ∀ w ∈ am_ws, w.before args s = true) (hx : ∀ w ∈ am_xw, va_Nw w s) : ∀ w ∈ vx_at0 (am_cC o) ic (am_en i) am_sup, w.before args s = true := by
  have h1 := am_ths_d (o, ix, i, ic) h
  have h2 := am_ths_e (o, ix, i, ic) h
  dsimp only at h1 h2
  generalize vx_at0 (am_cC o) ic (am_en i) am_sup = Ls at h1 h2 ⊢
  exact vx_hat (B := am_xw) (fun w hw => hts w (am_inw (h1 w hw) (List.mem_filter.mp hw).2)) h2 (fun w hw => va_Nw.use (am_xw_ot w hw) (hx w hw))
theorem am_ths_h {o ix i ic : Nat} (h : (o, ix, i, ic) ∈ am_ths) : ∀ w ∈ Cond.classLink (am_cC o) ix (am_en i) :: Cond.initialized (am_en i) :: vx_at0 (am_cC o) ic (am_en i) am_sup, vx_ot w = true := by
  have h1 := am_ths_f (o, ix, i, ic) h
  dsimp only at h1
  exact h1
theorem am_xw_any {s U : State} (h : s.vm = U.vm) (h2 : ∀ w ∈ am_xw, va_Nw w s) : ∀ w ∈ am_xw, va_Nw w U := fun w hw => va_Nw.same (am_xw_ot w hw) h (h2 w hw)
/-! the run of a method: calls, handlers, throws, answers -/
/-- a method's start -/
def am_Pc (D : va_G) (cs : Nat → ClassId) (a : Nat → Nat) (σ : St) (as : List AV) (sz : Nat) : Array Value → State → Prop :=
  va_Pc (as.map (am_cv a)) (fun U => U.heap.size = sz ∧ va_P D am_cl (am_wd a cs σ) U.heap ∧ va_K D am_cl (am_ty cs) U ∧ am_Zs (am_A a sz) U U.heap ∧ am_Ncs U)
/-- a method's end -/
def am_Q (D : va_G) (cs : Nat → ClassId) (a : Nat → Nat) (o : Ou) (σr : St) (sz : Nat) : Array Value → State → Outcome → State → Prop := fun _ st oc t =>
  ∃ v : Option Int, o = .inl v ∧ oc = .returned (v.map fun z => .int (Int32.ofInt z)) ∧ va_P D am_cl (am_wd a cs σr) t.heap ∧ va_F (am_A a sz) st t
def am_X (D : va_G) (cs : Nat → ClassId) (a : Nat → Nat) (o : Ou) (σr : St) (sz : Nat) : String → State → State → Prop := fun E st t =>
  ∃ i : Nat, o = .inr i ∧ E = am_en i ∧ va_P D am_cl (am_wd a cs σr) t.heap ∧ va_F (am_A a sz) st t
def am_okO (o : Ou) : Prop := match o with
  | .inl (some v) => am_R v
  | _ => True
theorem am_A_mono {a : Nat → Nat} {n k : Nat} (h : n ≤ k) : ∀ q, am_A a k q → am_A a n q := by
  intro q hq
  rcases hq with hq | hq
  · exact Or.inl hq
  · exact Or.inr (Nat.le_trans h hq)
theorem am_blind {D : va_G} {cs : Nat → ClassId} {a : Nat → Nat} {σ : St} {as : List AV} {sz : Nat} : FrameBlind (am_Pc D cs a σ as sz) := by
  intro v U g mk hq
  obtain ⟨q0, q1, qP, qK, ⟨qU, qN⟩, qc, qw⟩ := hq
  exact ⟨q0, q1, qP, va_K.moved (u := U) (U := U.calling g mk v) (Vm.Alike.refl U.vm) qK, ⟨vx_Zq.moved (u := U) (U := U.calling g mk v) (Vm.Alike.refl U.vm) qU, vx_Zq.moved (u := U) (U := U.calling g mk v) (Vm.Alike.refl U.vm) qN⟩, fun z hz => va_Nc.moved (u := U) (U := U.calling g mk v) (Vm.Alike.refl U.vm) (qc z hz), am_xw_any (s := U) (U := U.calling g mk v) rfl qw⟩
theorem am_lv_args {a : Nat → Nat} : ∀ (as : List AV) (i0 i : Nat) (v : AV), as.all am_one = true → as[i]? = some v → (i0 + i, am_cv a v) ∈ lv_args i0 (as.map (am_cv a)) := by
  intro as
  induction as with
  | nil => intro i0 i v _ h; cases h
  | cons w as ih =>
    intro i0 i v hall hv
    simp only [List.all_cons, Bool.and_eq_true] at hall
    have hw : ¬ (am_cv a w).category = 2 := by rw [am_cat1 hall.1]; decide
    simp only [List.map_cons, lv_args, if_neg hw]
    cases i with
    | zero =>
      cases hv
      exact List.mem_cons_self
    | succ i =>
      refine List.mem_cons_of_mem _ ?_
      have h1 := ih (i0 + 1) i v hall.2 hv
      rwa [show i0 + 1 + i = i0 + (i + 1) by omega] at h1
theorem am_lg_len {a : Nat → Nat} : ∀ as : List AV, as.all am_one = true → (lg_sl (as.map (am_cv a))).length = as.length := by
  intro as
  induction as with
  | nil => intro _; rfl
  | cons w as ih =>
    intro hall
    simp only [List.all_cons, Bool.and_eq_true] at hall
    have hw : ¬ (am_cv a w).category = 2 := by rw [am_cat1 hall.1]; decide
    have h1 := ih hall.2
    simp only [lg_sl] at h1
    simp only [List.map_cons, lg_sl, List.flatMap_cons, if_neg hw, List.length_append, List.length_cons, List.length_nil, h1]
    omega
/-- the frame at a method's entry -/
theorem am_entry {a : Nat → Nat} {as : List AV} {mid : Nat} (hall : as.all am_one = true) (hn : as.length ≤ am_nl mid) (m : MethodId) : ∃ ls : Array Slot, entryFrame m (as.map (am_cv a)).toArray (am_nl mid) = F0 m 0 ls [] ∧ am_hl a ls (am_nl mid) (am_ent mid as) := by
  refine ⟨_, lg_entry_eq m (as.map (am_cv a)) (am_nl mid), ?_⟩
  have hl := lv_entry (as.map (am_cv a)) (n := am_nl mid) (by rw [am_lg_len as hall]; exact hn)
  refine ⟨hl.1, by simp [am_ent]; omega, hl.2.1, fun i v hv hc => ?_⟩
  by_cases hi : i < as.length
  · unfold am_ent at hv
    rw [List.getElem?_append_left hi] at hv
    have h1 := am_lv_args (a := a) as 0 i v hall hv
    rw [Nat.zero_add] at h1
    exact hl.2.2 _ h1
  · unfold am_ent at hv
    rw [List.getElem?_append_right (by omega)] at hv
    have := List.mem_of_getElem? hv
    rw [List.eq_of_mem_replicate this] at hc
    cases hc
section AMG
variable {p : Program} {l : Launch} {e : Env} {R : Room} {s : State} {m : MethodId} {args : Array Value} {below : List Frame} {meth : Method} {c : Code} {H : Heap} {locs : List Loc} {cells slots : Nat} {Q : State → Prop}
/-- behind a call -/
theorem am_goW {D : va_G} {cs : Nat → ClassId} {a : Nat → Nat} {σ σr : St} {o : Ou} {mc ms pc : Nat} {ls : Array Slot} {st0 rest : List Value} {av : Array Value}
    (hr : vx_Run p l e R s m args below meth c H locs cells slots mc ms (F0 m pc ls st0) rest (am_Q D cs a o σr H.size av) (am_X D cs a o σr H.size) (am_A a H.size)) (hI : am_In D cs a s σ H locs)
    (kk : ∀ (v : Option Int) (H1 : Heap) (locs1 : List Loc), o = .inl v → am_In D cs a s σr H1 locs1 → W p l e R s m args below meth c H1 locs1 (cells + mc) (slots + ms) Q (F0 m (pc + 3) ls ((v.map fun z => .int (Int32.ofInt z)).toList ++ rest)))
    (kx : ∀ (i : Nat) (q : Addr) (ce : Cell) (H1 : Heap) (locs1 : List Loc), o = .inr i → am_In D cs a s σr H1 locs1 → H1[q]? = some ce → ce.vm = .none → s.vm.findClass (am_en i) = some ce.cls → vx_W p l e R s m args below meth c H1 locs1 (cells + mc) (slots + ms) Q (F0 m pc ls rest) q) :
    W p l e R s m args below meth c H locs cells slots Q (F0 m pc ls st0) := by
  intro T hT X
  have hA : ∀ q, q < H.size → am_A a H.size q → am_A a s.heap.size q := fun q _ h => am_A_mono hI.2.1 q h
  rcases hr T hT X with ⟨v, st₀, t, T', L, h0, X', hL, e1, e2, hq, st⟩ | ⟨q, st₀, t, T', L, E, ce, h0, X', hL, e1, e2, hx, hce, hcv, hcl, st⟩
  · obtain ⟨v', ho, hv, hP, hF⟩ := hq
    obtain ⟨k1, k2, k3⟩ := vx_keep h0 e1 hI.2 hA (am_A_mono hI.2.1) hL hF
    cases hv
    obtain ⟨t2, a1, b1⟩ := kk v' T'.heap (locs ++ L) ho ⟨by rw [e1]; exact hP, k3⟩ T' rfl X'
    exact ⟨t2, st t2 a1, b1⟩
  · obtain ⟨i, ho, hE, hP, hF⟩ := hx
    obtain ⟨k1, k2, k3⟩ := vx_keep h0 e1 hI.2 hA (am_A_mono hI.2.1) hL hF
    subst hE
    obtain ⟨t2, a1, b1⟩ := kx i q ce T'.heap (locs ++ L) ho ⟨by rw [e1]; exact hP, k3⟩ (by rw [e1]; exact hce) hcv hcl T' rfl X'
    exact ⟨t2, st.trans a1, b1⟩
end AMG
/-- what a run owes where it ends: with an answer, with a throw of its own, with one that a callee threw -/
def am_Rt (D : va_G) (cs : Nat → ClassId) (a : Nat → Nat) (p : Program) (l : Launch) (e : Env) (R : Room) (s : State) (m : MethodId) (args : Array Value) (below : List Frame) (meth : Method) (c : Code) (Q : State → Prop) (M N mid : Nat) (o : Ou) (σr : St) : Prop :=
  (∀ (v : Option Int) (op pc : Nat) (x : Int) (k : Nat) (ts : List Int) (H : Heap) (locs : List Loc) (cells slots : Nat) (ls : Array Slot), o = .inl v → am_lk pc (am_code mid) = some (op, x, k, ts) → (op = 60 ∧ (∃ z, v = some z) ∨ op = 61 ∧ (v = some 0 ∨ v = some 1) ∨ op = 62 ∧ v = none) → am_In D cs a s σr H locs → cells ≤ M → slots ≤ N →
    W p l e R s m args below meth c H locs cells slots Q (F0 m pc ls ((am_rv v).map (am_cv a)))) ∧
  (∀ (i pc : Nat) (x : Int) (ts : List Int) (H : Heap) (locs : List Loc) (cells slots : Nat) (ls : Array Slot), o = .inr i → am_lk pc (am_code mid) = some (63, x, i, ts) → am_In D cs a s σr H locs → ls.size = am_nl mid → cells + 1 ≤ M → slots + 6 ≤ N →
    W p l e R s m args below meth c H locs cells slots Q (F0 m pc ls [])) ∧
  (∀ (i pc : Nat) (rest : List Value) (H : Heap) (locs : List Loc) (cells slots : Nat) (ls : Array Slot) (q : Addr) (ce : Cell), o = .inr i → am_tb mid = [] → am_In D cs a s σr H locs → H[q]? = some ce → ce.vm = .none → s.vm.findClass (am_en i) = some ce.cls → cells ≤ M → slots ≤ N →
    vx_W p l e R s m args below meth c H locs cells slots Q (F0 m pc ls rest) q)
def am_P (sc : Int → Int) (n : Nat) : Prop := ∀ (mid pc : Nat) (L S : List AV) (σ : St) (o : Ou) (σr : St) (t : Nat), am_ex sc n mid pc L S σ = some (o, σr, t) → am_okL L → am_okL S → am_okS σ →
  (am_okO o ∧ am_okS σr) ∧ ∀ (D : va_G) (cs : Nat → ClassId) (a : Nat → Nat) (p : Program) (l : Launch) (e : Env) (R : Room) (s : State) (m : MethodId) (args : Array Value) (below : List Frame) (meth : Method) (c : Code) (Q : State → Prop) (M N : Nat),
    am_Cx sc D cs a p l R s m args meth c mid → M ≤ R.cells → N ≤ R.slots → am_Rt D cs a p l e R s m args below meth c Q M N mid o σr →
    ∀ (H : Heap) (locs : List Loc) (cells slots : Nat) (ls : Array Slot), cells + t ≤ M → slots + 6 * t ≤ N → am_In D cs a s σ H locs → am_hl a ls (am_nl mid) L → W p l e R s m args below meth c H locs cells slots Q (F0 m pc ls (S.map (am_cv a)))
-- a caught exception has its place in the names of the cells alone
def am_a27 (a : Nat → Nat) (q : Nat) : Nat → Nat := fun k => if k = 27 then q else a k
theorem am_a27_n {a : Nat → Nat} {q k : Nat} (h : k ≠ 27) : am_a27 a q k = a k := if_neg h
theorem am_fl_lt {o k : Nat} (h : am_fl o k < 30) : am_fl o k < 27 := am_fl_27 o k h
theorem am_wd27 {a : Nat → Nat} {cs : Nat → ClassId} {σ : St} {q : Nat} : am_wd (am_a27 a q) cs σ = am_wd a cs σ := by
  refine List.map_congr_left (fun j hj => ?_)
  have hj := List.mem_range.mp hj
  unfold am_cell
  rw [am_a27_n (by omega)]
  have e : am_fv (am_a27 a q) σ j = am_fv a σ j := by
    funext k
    unfold am_fv
    by_cases hf : am_fl j k < 30
    · rw [if_pos hf, if_pos hf, am_a27_n (by have := am_fl_lt hf; omega)]
    · rw [if_neg hf, if_neg hf]
  rw [e]
theorem am_A27 {a : Nat → Nat} {q sz : Nat} : am_A (am_a27 a q) sz = am_A a sz := by
  funext z
  apply propext
  constructor
  · rintro (⟨k, hk, he⟩ | h)
    · exact Or.inl ⟨k, hk, by rw [he, am_a27_n (by omega)]⟩
    · exact Or.inr h
  · rintro (⟨k, hk, he⟩ | h)
    · exact Or.inl ⟨k, hk, by rw [he, am_a27_n (by omega)]⟩
    · exact Or.inr h
theorem am_In27 {D : va_G} {cs : Nat → ClassId} {a : Nat → Nat} {s : State} {σ : St} {H : Heap} {locs : List Loc} {q : Nat} : am_In D cs (am_a27 a q) s σ H locs = am_In D cs a s σ H locs := by
  unfold am_In
  rw [am_wd27, am_A27]
theorem am_Cx27 {sc : Int → Int} {D : va_G} {cs : Nat → ClassId} {a : Nat → Nat} {p : Program} {l : Launch} {R : Room} {s : State} {m : MethodId} {args : Array Value} {meth : Method} {c : Code} {mid q : Nat} (h : am_Cx sc D cs a p l R s m args meth c mid) : am_Cx sc D cs (am_a27 a q) p l R s m args meth c mid := by
  obtain ⟨h1, ⟨h2, h3⟩, h4, h5, h6, h7⟩ := h
  refine ⟨h1, ⟨h2, fun i j hi hj he => h3 i j hi hj ?_⟩, h4, h5, ?_, ?_⟩
  · rwa [am_a27_n (by omega), am_a27_n (by omega)] at he
  · rw [am_A27]; exact h6
  · rw [am_A27, am_a27_n (by decide)]; exact h7
theorem am_cv27 {a : Nat → Nat} {q : Nat} {v : AV} (h : am_nx27 v = true) : am_cv (am_a27 a q) v = am_cv a v := by
  rcases v with z | k | z
  · rfl
  · show Value.ref _ = Value.ref _
    rw [am_a27_n (of_decide_eq_true h)]
  · rfl
theorem am_hl27 {a : Nat → Nat} {q n : Nat} {ls : Array Slot} {L : List AV} (h : am_hl a ls n L) (h2 : L.all am_nx27 = true) : am_hl (am_a27 a q) ls n L := by
  refine ⟨h.1, h.2.1, h.2.2.1, fun i v hv hc => ?_⟩
  rw [am_cv27 (List.all_eq_true.mp h2 v (List.mem_of_getElem? hv))]
  exact h.2.2.2 i v hv hc
theorem am_Rt27 {D : va_G} {cs : Nat → ClassId} {a : Nat → Nat} {p : Program} {l : Launch} {e : Env} {R : Room} {s : State} {m : MethodId} {args : Array Value} {below : List Frame} {meth : Method} {c : Code} {Q : State → Prop} {M N mid : Nat} {o : Ou} {σr : St} {q : Nat}
    (h : am_Rt D cs a p l e R s m args below meth c Q M N mid o σr) : am_Rt D cs (am_a27 a q) p l e R s m args below meth c Q M N mid o σr := by
  obtain ⟨h1, h2, h3⟩ := h
  refine ⟨?_, ?_, ?_⟩
  · intro v op pc x k ts H locs cells slots ls ho hlk hop hI
    rw [am_In27] at hI
    have h9 := h1 v op pc x k ts H locs cells slots ls ho hlk hop hI
    rcases v with _ | z
    · exact h9
    · exact h9
  · intro i pc x ts H locs cells slots ls ho hlk hI
    rw [am_In27] at hI
    exact h2 i pc x ts H locs cells slots ls ho hlk hI
  · intro i pc rest H locs cells slots ls q2 ce ho ht hI
    rw [am_In27] at hI
    exact h3 i pc rest H locs cells slots ls q2 ce ho ht hI
def am_rm (mid t : Nat) : Room := { frames := am_fr mid, cells := t, slots := 6 * t, locals := am_lo mid }
/-- the end of a method -/
theorem am_RtM {sc : Int → Int} {D : va_G} {cs : Nat → ClassId} {a : Nat → Nat} {p : Program} {l : Launch} {e : Env} {R : Room} {s : State} {m : MethodId} {args : Array Value} {below : List Frame} {meth : Method} {c : Code} {mid t : Nat} {o : Ou} {σr : St} (hRc : t ≤ R.cells) (hRs : 6 * t ≤ R.slots)
    (hC : am_Cx sc D cs a p l R s m args meth c mid) : am_Rt D cs a p l e R s m args below meth c (vx_MQ below (am_Q D cs a o σr s.heap.size) (am_X D cs a o σr s.heap.size) args s t (6 * t) (am_A a s.heap.size)) t (6 * t) mid o σr := by
  obtain ⟨⟨hx, hb, hml, hown, hts⟩, ⟨hK, hD0⟩, ⟨hfr, hlo⟩, ⟨hlk, hrt, htb⟩, ⟨htr, ⟨hU, hN⟩, hnc⟩, hscr⟩ := hC
  refine ⟨?_, ?_, ?_⟩
  · intro v op pc x k ts H locs cells slots ls ho hl hop hI hc hs
    obtain ⟨hd, hck⟩ := am_okc hl
    refine W.widen hc hs (vx_ret ?_)
    have hq : ∀ t : State, t.heap = H → s.WarmedH t.vm → am_Q D cs a o σr s.heap.size args s (.returned (v.map fun z => .int (Int32.ofInt z))) t := fun t ht hW => ⟨v, ho, rfl, by rw [ht]; exact hI.1, hI.2.F ht⟩
    rcases hop with ⟨rfl, z, rfl⟩ | ⟨rfl, hv⟩ | ⟨rfl, rfl⟩
    · have hd : decode (am_cc mid) pc = .ok (.ireturn, 1) := hd
      exact W.iret (v := Int32.ofInt z) hx hb (by rw [hrt]; exact am_rt60 hck) hq hI.2.2.2 hd hlk
    · have hd : decode (am_cc mid) pc = .ok (.ireturn, 1) := hd
      rcases hv with rfl | rfl
      · exact W.zret (v := Int32.ofInt 0) (ty := .boolean) hx hb (by rw [hrt]; exact am_rt61 hck) rfl hq hI.2.2.2 hd hlk
      · exact W.zret (v := Int32.ofInt 1) (ty := .boolean) hx hb (by rw [hrt]; exact am_rt61 hck) rfl hq hI.2.2.2 hd hlk
    · have hd : decode (am_cc mid) pc = .ok (.return_, 1) := hd
      exact W.vret hx hb (by rw [hrt]; exact am_rt62 hck) hq hI.2.2.2 hd hlk
  · intro i pc x ts H locs cells slots ls ho hl hI hsz hc hs
    obtain ⟨hd, hck⟩ := am_okc hl
    obtain ⟨ht0, hfr9, hlo9, hin, hd0, hd3, hd4, hd7⟩ := am_thr hl
    obtain ⟨hi4, hf1⟩ := am_ths_a _ hin
    have b1 : Cond.classLink (am_cC (am_ob mid)) x.toNat (am_en i) ∈ am_ws := am_inw (am_ths_b _ hin) rfl
    have b2 : Cond.initialized (am_en i) ∈ am_ws := am_inw (am_ths_c _ hin) rfl
    have b3 := am_ths_g hin hts hnc.2
    have b4 := am_ths_h hin
    have b5 : Bundle.fit (am_en i) = true := hf1
    have b6 : ∀ z ∈ c.exceptionTable.toList, covers z (pc + 7) = false := by rw [htb, ht0]; intro z hz; cases hz
    have b7 : am_sup.length + 3 < R.frames := by show 2 + 3 < _; omega
    have b8 : (([] : List Value).map fun v => v.category).sum + (13 * (am_sup.length + 1) + 42) ≤ R.locals := by show 0 + (13 * (2 + 1) + 42) ≤ _; omega
    refine vx_throw0 (own := am_cC (am_ob mid)) (cls := am_en i) (names := am_sup) (ik := x.toNat) (ic := (ts.getD 0 0).toNat) (A := am_A a s.heap.size) hx hb htr hown b5 am_sup_ok (hts _ b1) (hts _ b2) b3 b4 hU hN hI.2 (by rw [hsz, hml]) hd0 hd3 hd4 hd7 b6 b7 b8 (by omega) (by omega) hlk (fun t hal hz1 hk1 => ?_) hI.2.2.2 hc hs
    refine ⟨i, ho, rfl, hI.1.kept (fun k q hq => hk1 q.1 (hI.1 k q hq).lt), Nat.le_trans hI.2.1 hz1, fun q hq1 hq2 => ?_⟩
    rw [hk1 q (Nat.lt_of_lt_of_le hq1 hI.2.1)]
    exact hI.2.2.1 q hq1 hq2
  · intro i pc rest H locs cells slots ls q ce ho ht0 hI hce hcv hcl hc hs
    exact vx_out (E := am_en i) (by rw [htb, ht0]; intro z hz; cases hz) hlk hce hcv hcl (fun t ht hal => ⟨i, ho, rfl, by rw [ht]; exact hI.1, hI.2.F ht⟩) hI.2.2.2 hc hs
/-- a method's body, begun -/
theorem am_body {sc : Int → Int} {n : Nat} (hP : am_P sc n) {D : va_G} {cs : Nat → ClassId} {a : Nat → Nat} {l : Launch} {mid sz t : Nat} {as : List AV} {σ σr : St} {o : Ou} (hm : mid < am_law)
    (hr : am_ex sc n mid 0 (am_ent mid as) [] σ = some (o, σr, t)) (hall : as.all am_one = true) (hlen : as.length = am_na mid) (oL : am_okL as) (oσ : am_okS σ) (hinj : ∀ i j, i < 27 → j < 27 → a i = a j → i = j) (htr : l.stackTraces = false)
    {p : Program} {e : Env} {s : State} {m : MethodId} {args : Array Value} {below : List Frame} {meth : Method} {c : Code} {s₁ : State}
    (B : BodyLoose p l (am_y mid) (headSpec (am_wsm mid) (am_rm mid t)) (am_cc mid) (am_nl mid) (am_rt mid) e s m args below meth c s₁) (hml : c.maxLocals = am_nl mid) (htb : c.exceptionTable.toList = tableOf (am_tb mid)) (hpc : am_Pc D cs a σ as sz args s) :
    W p l e (headSpec (am_wsm mid) (am_rm mid t)).room s m args below meth c s.heap [] 0 0 (vx_MQ below (am_Q D cs a o σr sz) (am_X D cs a o σr sz) args s t (6 * t) (am_A a sz)) (entryFrame m args (am_nl mid)) := by
  obtain ⟨rfl, hsz, hPw, hK, hZ, hnc⟩ := hpc
  subst hsz
  obtain ⟨hy1, hy2, hy3⟩ := am_okM hm
  have hts := atoms_spec (ws := am_wsm mid) B.pre
  have hown : s.vm.findClass (am_cC (am_ob mid)) = some m.cls := by
    rw [← hy2]
    exact findClass_of_methodNamed B.named
  have hC : am_Cx sc D cs a p l (am_rm mid t) s m (as.map (am_cv a)).toArray meth c mid :=
    ⟨⟨B.exec, B.bytes, hml, hown, fun w hw => hts w (List.mem_cons_of_mem _ hw)⟩, ⟨hK, hinj⟩, ⟨Nat.le_refl _, Nat.le_refl _⟩, ⟨B.notSynchronized, B.returns, htb⟩, ⟨htr, hZ, hnc⟩, fun h => absurd h (Nat.ne_of_lt hm)⟩
  obtain ⟨ls, hE, hl⟩ := am_entry (a := a) hall (by rw [hlen]; exact hy3) m
  rw [hE]
  have oE : am_okL (am_ent mid as) := by
    intro v hv
    rcases List.mem_append.mp hv with h | h
    · exact oL v h
    · rw [List.eq_of_mem_replicate h]; exact am_R0
  exact (hP mid 0 (am_ent mid as) [] σ o σr t hr oE (fun _ h => nomatch h) oσ).2 D cs a p l e (am_rm mid t) s m _ below meth c _ t (6 * t) hC (Nat.le_refl _) (Nat.le_refl _) (am_RtM (Nat.le_refl _) (Nat.le_refl _) hC) s.heap [] 0 0 ls (by omega) (by omega) ⟨hPw, va_S.rf⟩ hl
theorem am_met {sc : Int → Int} {n : Nat} (hP : am_P sc n) {D : va_G} {cs : Nat → ClassId} {a : Nat → Nat} {l : Launch} {mid sz t : Nat} {as : List AV} {σ σr : St} {o : Ou} (hm : mid < am_law)
    (hr : am_ex sc n mid 0 (am_ent mid as) [] σ = some (o, σr, t)) (hall : as.all am_one = true) (hlen : as.length = am_na mid) (oL : am_okL as) (oσ : am_okS σ) (hinj : ∀ i j, i < 27 → j < 27 → a i = a j → i = j) (htr : l.stackTraces = false) :
    vx_Met l (am_y mid) (am_wsm mid) (am_rm mid t) (am_Pc D cs a σ as sz) (am_Q D cs a o σr sz) (am_X D cs a o σr sz) t (6 * t) (am_A a sz) := by
  by_cases ht : am_tb mid = []
  · refine vx_ofW (cc := am_cc mid) (maxL := am_nl mid) (ret := am_rt mid) (am_okM hm).1 (by unfold am_wsm; rw [if_pos ht]) ?_
    intro p e s m args below meth c s₁ B hml hno hpc
    exact am_body hP hm hr hall hlen oL oσ hinj htr B hml (by rw [ht]; exact List.eq_nil_iff_forall_not_mem.mpr hno) hpc
  · refine vx_ofWH (cc := am_cc mid) (maxL := am_nl mid) (ret := am_rt mid) (hh := am_tb mid) (am_okM hm).1 (by unfold am_wsm; rw [if_neg ht]) ?_
    intro p e s m args below meth c s₁ B hml hpc
    exact am_body hP hm hr hall hlen oL oσ hinj htr B hml (vx_table (x := am_y mid) B (atoms_spec (ws := am_wsm mid) B.pre _ (by unfold am_wsm; rw [if_neg ht]; exact List.mem_cons_self))) hpc
