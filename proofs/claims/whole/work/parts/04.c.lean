/-! the words, and what the tables say of classes, calls and throws -/
def am_ws : List Cond := lw_tbl.filter goodWord
theorem am_inw {w : Cond} (h : w ∈ lw_tbl) (hg : goodWord w = true) : w ∈ am_ws := List.mem_filter.mpr ⟨h, hg⟩
theorem am_goodw {w : Cond} (h : w ∈ am_ws) : (w.onTables && w.keeps) = true ∨ ∃ ty, w = .arrayClass ty := good_of_word (List.mem_filter.mp h).2
def am_wsm (mid : Nat) : List Cond := (if am_tb mid = [] then Cond.code (am_y mid) (am_cc mid) (am_nl mid) (am_rt mid) else Cond.codeWith (am_y mid) (am_cc mid) (am_nl mid) (am_rt mid) (am_tb mid)) :: am_ws
/-- words that stay, though not by the kit's good ones -/
def am_xw : List Cond := [.castable (am_en 0) (am_en 0), .castable (am_en 1) (am_en 1), .castable (am_en 2) (am_en 2), .castable (am_en 3) (am_en 3), .declares (Bundle.init0 "java/lang/RuntimeException"), .declares (Bundle.init0 "java/lang/Exception"), .declares (Bundle.init0 "java/lang/Throwable")]
theorem am_xw_in : ∀ w ∈ am_xw, w ∈ lw_tbl := by decide +kernel
theorem am_ths_a : ∀ q ∈ am_ths, q.2.2.1 < 4 ∧ Bundle.fit (am_en q.2.2.1) = true := by decide +kernel
theorem am_ths_b : ∀ q ∈ am_ths, Cond.classLink (am_cC q.1) q.2.1 (am_en q.2.2.1) ∈ lw_tbl := by decide +kernel
theorem am_ths_c : ∀ q ∈ am_ths, Cond.initialized (am_en q.2.2.1) ∈ lw_tbl := by decide +kernel
theorem am_ths_d : ∀ q ∈ am_ths, ∀ w ∈ (vx_at0 (am_cC q.1) q.2.2.2 (am_en q.2.2.1) am_sup).filter goodWord, w ∈ lw_tbl := by decide +kernel
theorem am_ths_e : ∀ q ∈ am_ths, ∀ w ∈ (vx_at0 (am_cC q.1) q.2.2.2 (am_en q.2.2.1) am_sup).filter (fun w => !goodWord w), w ∈ am_xw := by decide +kernel
theorem am_ths_f : ∀ q ∈ am_ths, ∀ w ∈ Cond.classLink (am_cC q.1) q.2.1 (am_en q.2.2.1) :: Cond.initialized (am_en q.2.2.1) :: vx_at0 (am_cC q.1) q.2.2.2 (am_en q.2.2.1) am_sup, vx_ot w = true := by decide +kernel
theorem am_sup_ok : ∀ n ∈ am_sup, Bundle.fit n = true := by decide +kernel
def am_mN (k n : Nat) : Prop := (am_y k).cls = am_cC (am_ob k) ∧ (am_y k).cls ≠ "java/lang/invoke/MethodHandle" ∧ (am_y k).cls ≠ "java/lang/invoke/VarHandle" ∧ (parseMethodDescriptor (am_y k).desc).map (fun d => d.parameters.length) = some n
theorem am_mlV_n : ∀ q ∈ am_mlV, am_tb q.2.2 = [] ∧ am_ob q.2.2 < 2 ∧ 1 ≤ am_na q.2.2 ∧ (am_y q.2.2).cls = am_cC (am_ob q.2.2) ∧ (am_y q.2.2).cls ≠ "java/lang/invoke/MethodHandle" ∧ (am_y q.2.2).cls ≠ "java/lang/invoke/VarHandle" ∧ (parseMethodDescriptor (am_y q.2.2).desc).map (fun d => d.parameters.length) = some (am_na q.2.2 - 1) := by decide +kernel
theorem am_mlV_a : ∀ q ∈ am_mlV, Cond.methodLink (am_cC q.1) q.2.1 (am_y q.2.2) ∈ lw_tbl := by decide +kernel
theorem am_ini0 : Cond.initialized (am_cC 0) ∈ lw_tbl ∧ Cond.initialized (am_cC 1) ∈ lw_tbl := by decide +kernel
theorem am_mlS_n : ∀ q ∈ am_mlS, am_tb q.2.2 = [] ∧ (am_y q.2.2).cls ≠ "java/lang/invoke/MethodHandle" ∧ (am_y q.2.2).cls ≠ "java/lang/invoke/VarHandle" ∧ (parseMethodDescriptor (am_y q.2.2).desc).map (fun d => d.parameters.length) = some (am_na q.2.2) := by decide +kernel
theorem am_mlS_w : ∀ q ∈ am_mlS, ∀ w ∈ ([.methodLink (am_cC q.1) q.2.1 (am_y q.2.2), .static (am_y q.2.2), .initialized (am_y q.2.2).cls, .code (am_y q.2.2) (am_cc q.2.2) (am_nl q.2.2) (am_rt q.2.2)] : List Cond), w ∈ lw_tbl ∧ goodWord w = true := by decide +kernel
theorem am_mlW_n : ∀ q ∈ am_mlW, am_tb q.2.2 ≠ [] ∧ (am_y q.2.2).cls ≠ "java/lang/invoke/MethodHandle" ∧ (am_y q.2.2).cls ≠ "java/lang/invoke/VarHandle" ∧ (parseMethodDescriptor (am_y q.2.2).desc).map (fun d => d.parameters.length) = some (am_na q.2.2) := by decide +kernel
theorem am_mlW_w : ∀ q ∈ am_mlW, ∀ w ∈ ([.methodLink (am_cC q.1) q.2.1 (am_y q.2.2), .static (am_y q.2.2), .initialized (am_y q.2.2).cls, .codeWith (am_y q.2.2) (am_cc q.2.2) (am_nl q.2.2) (am_rt q.2.2) (am_tb q.2.2)] : List Cond), w ∈ lw_tbl ∧ goodWord w = true := by decide +kernel
theorem am_flk_w0 : ∀ q ∈ am_flk 0, Cond.fieldLink (am_cC 0) q.1 (am_cC 0) (am_cT 0 q.2).2.1 (am_cT 0 q.2).2.2.1 ∈ lw_tbl := by decide +kernel
theorem am_flk_w1 : ∀ q ∈ am_flk 1, Cond.fieldLink (am_cC 1) q.1 (am_cC 1) (am_cT 1 q.2).2.1 (am_cT 1 q.2).2.2.1 ∈ lw_tbl := by decide +kernel
theorem am_fin0 : ∀ w ∈ u_ws (am_cC 0) (am_cT 0) (am_nf 0), w ∈ lw_tbl ∧ goodWord w = true := by decide +kernel
theorem am_fin1 : ∀ w ∈ u_ws (am_cC 1) (am_cT 1) (am_nf 1), w ∈ lw_tbl ∧ goodWord w = true := by decide +kernel
theorem am_minw0 : ∀ w ∈ ([.methodLink (am_cC 0) am_min Lib.Math.min.name, .static Lib.Math.min.name, .initialized "java/lang/Math", .code Lib.Math.min.name Lib.Math.min.code 2 (some .int)] : List Cond), w ∈ lw_tbl ∧ goodWord w = true := by decide +kernel
theorem am_ct_ok : ∀ ct ∈ am_cts, ct ≠ 0 ∧ am_ce ct < 4 ∧ Cond.classLink (am_cC 2) ct (am_en (am_ce ct)) ∈ lw_tbl := by decide +kernel
theorem am_okM0 : ∀ mid, mid < 101 → plainName (am_y mid).cls = true ∧ (am_y mid).cls = am_cC (am_ob mid) ∧ am_na mid ≤ am_nl mid := by decide +kernel
theorem am_tb_cts : ∀ mid, mid < 102 → am_tb mid = [] ∨ (am_ob mid = 2 ∧ ∀ q ∈ am_tb mid, q.2.2.2 ∈ am_cts) := by decide +kernel
/-- pairs of exceptions that are no kinds of each other -/
def am_nc : List (String × String) := [(am_en 0, am_en 1), (am_en 0, am_en 2), (am_en 0, am_en 3), (am_en 1, am_en 0), (am_en 1, am_en 2), (am_en 1, am_en 3), (am_en 2, am_en 0), (am_en 2, am_en 1), (am_en 2, am_en 3), (am_en 3, am_en 0), (am_en 3, am_en 1), (am_en 3, am_en 2)]
theorem am_nc_in0 : ∀ i, i < 4 → ∀ j, j < 4 → (i = j ∨ (am_en i, am_en j) ∈ am_nc) := by decide +kernel
theorem am_fl_27a : ∀ o, o < 2 → ∀ k, k < 18 → am_fl o k < 30 → am_fl o k < 27 := by decide +kernel
theorem am_fl_inj0 : ∀ o, o < 2 → ∀ i, i < am_nf o → ∀ k, k < am_nf o → am_fl o i = am_fl o k → 30 ≤ am_fl o i → i = k := by decide +kernel
theorem am_fl_two0 : ∀ i, i < 18 → ∀ k, k < 17 → (am_fl 0 i ≠ am_fl 1 k ∨ am_fl 1 k < 30) := by decide +kernel
theorem am_T10 : ∀ o, o < 2 → ∀ k, k < am_nf o → (am_cT o k).1 = am_cC o := by decide +kernel
theorem am_cY_ok0 : ∀ o, o < 2 → ∀ k, k < am_nf o → parseFieldDescriptor (am_cT o k).2.2.1 = some (am_cY o k) := by decide +kernel
theorem am_nm0 : ∀ o, o < 2 → ∀ a, a < am_nf o → ∀ b, b < am_nf o → a ≠ b → (am_cT o a).2.1 ≠ (am_cT o b).2.1 := by decide +kernel
theorem am_int0 : ∀ o, o < 2 → ∀ k, k < am_nf o → 30 ≤ am_fl o k → (am_cT o k).2.2.2 = false ∧ parseFieldDescriptor (am_cT o k).2.2.1 = some .int := by decide +kernel
theorem am_fl_inj {o i k : Nat} (h : o < 2) (hi : i < am_nf o) (hk : k < am_nf o) (he : am_fl o i = am_fl o k) (h30 : 30 ≤ am_fl o i) : i = k := am_fl_inj0 o h i hi k hk he h30
theorem am_fl_two {o p i k : Nat} (h : o < 2) (hp : p < 2) (hne : o ≠ p) (hi : i < am_nf o) (hk : k < am_nf p) (he : am_fl o i = am_fl p k) (h30 : 30 ≤ am_fl p k) : False := by
  rcases (show (o = 0 ∧ p = 1) ∨ (o = 1 ∧ p = 0) by omega) with ⟨rfl, rfl⟩ | ⟨rfl, rfl⟩
  · rcases am_fl_two0 i hi k hk with h1 | h1
    · exact h1 he
    · omega
  · rcases am_fl_two0 k hk i hi with h1 | h1
    · exact h1 he.symm
    · omega
theorem am_fl_27 (o k : Nat) (h : am_fl o k < 30) : am_fl o k < 27 := by
  by_cases ho : o < 2
  · by_cases hk : k < 18
    · exact am_fl_27a o ho k hk h
    · exfalso
      unfold am_fl at h
      rcases (show o = 0 ∨ o = 1 by omega) with rfl | rfl
      · rw [if_pos rfl, List.getD_eq_getElem?_getD, List.getElem?_eq_none (by show 18 ≤ k; omega)] at h
        exact absurd h (by decide)
      · rw [if_neg (by decide), if_pos rfl, List.getD_eq_getElem?_getD, List.getElem?_eq_none (by show 17 ≤ k; omega)] at h
        exact absurd h (by decide)
  · exfalso
    unfold am_fl at h
    rw [if_neg (by omega), if_neg (by omega)] at h
    exact absurd h (by decide)
theorem am_cl_at {o : Nat} (h : o < 2) : am_cl[o]? = some (am_cC o, am_cT o, am_nf o) := by
  rcases (show o = 0 ∨ o = 1 by omega) with rfl | rfl <;> rfl
theorem am_fin {o : Nat} (h : o < 2) : ∀ w ∈ u_ws (am_cC o) (am_cT o) (am_nf o), w ∈ am_ws := by
  rcases (show o = 0 ∨ o = 1 by omega) with rfl | rfl
  · exact fun w hw => am_inw (am_fin0 w hw).1 (am_fin0 w hw).2
  · exact fun w hw => am_inw (am_fin1 w hw).1 (am_fin1 w hw).2
theorem am_flk_in {o i k : Nat} (h : o < 2) (hin : (i, k) ∈ am_flk o) : Cond.fieldLink (am_cC o) i (am_cC o) (am_cT o k).2.1 (am_cT o k).2.2.1 ∈ am_ws := by
  rcases (show o = 0 ∨ o = 1 by omega) with rfl | rfl
  · exact am_inw (am_flk_w0 _ hin) rfl
  · exact am_inw (am_flk_w1 _ hin) rfl
theorem am_okc0 {pc mid op k : Nat} {x : Int} {ts : List Int} (h : (pc, op, x, k, ts) ∈ am_code mid) : decode (am_cc mid) pc = .ok (am_dcd pc (op, x, k, ts)) ∧ am_ck mid op x k ts = true := ⟨(am_okA mid _ h).1, (am_okA mid _ h).2.1⟩
theorem am_wV : ∀ q ∈ am_mlV, q.2.2 ∈ am_kV := by decide +kernel
