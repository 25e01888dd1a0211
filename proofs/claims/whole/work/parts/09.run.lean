/-! every run of the abstract machine is one of the machine -/
/-- a callee's start, where it is called -/
theorem am_pre {sc : Int → Int} {D : va_G} {cs : Nat → ClassId} {a : Nat → Nat} {p : Program} {l : Launch} {R : Room} {s : State} {m : MethodId} {args : Array Value} {meth : Method} {c : Code} {mid : Nat} {σ : St} {H : Heap} {locs : List Loc} {as : List AV}
    (hC : am_Cx sc D cs a p l R s m args meth c mid) (hI : am_In D cs a s σ H locs) {U : State} (hU : U.heap = H) (hW : s.WarmedH U.vm) : am_Pc D cs a σ as H.size (as.map (am_cv a)).toArray U := by
  obtain ⟨-, ⟨hK, -⟩, -, -, ⟨-, ⟨hZ1, hZ2⟩, hnc, hnw⟩, -⟩ := hC
  refine ⟨rfl, by rw [hU], by rw [hU]; exact hI.1, va_K.moved hW.alike hK, ⟨?_, ?_⟩, fun q hq => va_Nc.moved hW.alike (hnc q hq), am_xwW hW hnw⟩
  · rw [hU]; exact vx_Zq.moved hW.alike ((hZ1.kept hI.2.2.1).narrow (am_A_mono hI.2.1))
  · rw [hU]; exact vx_Zq.moved hW.alike ((hZ2.kept hI.2.2.1).narrow (am_A_mono hI.2.1))
/-- the row of the table that takes what was thrown -/
theorem am_hd_spec {pc E h : Nat} : ∀ {tb : List (Nat × Nat × Nat × Nat)}, am_hd1 pc E tb = some h → ∃ (pre : List ExceptionTableEntry) (x : ExceptionTableEntry) (suf : List ExceptionTableEntry), tableOf tb = pre ++ x :: suf ∧ covers x pc = true ∧ x.handlerPc = h ∧ am_ce x.catchType = E ∧ (∃ q ∈ tb, q.2.2.2 = x.catchType) ∧ ∀ z ∈ pre, (∃ q ∈ tb, q.2.2.2 = z.catchType) ∧ (covers z pc = false ∨ am_ce z.catchType ≠ E) := by
  intro tb
  induction tb with
  | nil => intro hh; cases hh
  | cons q r ih =>
    intro hh
    unfold am_hd1 at hh
    by_cases hq : q.1 ≤ pc ∧ pc < q.2.1 ∧ am_ce q.2.2.2 = E
    · rw [if_pos hq] at hh
      cases hh
      refine ⟨[], ⟨q.1, q.2.1, q.2.2.1, q.2.2.2⟩, tableOf r, rfl, ?_, rfl, hq.2.2, ⟨q, List.mem_cons_self, rfl⟩, fun z hz => nomatch hz⟩
      simp [covers, hq.1, hq.2.1]
    · rw [if_neg hq] at hh
      obtain ⟨pre, x, suf, h1, h2, h3, h4, ⟨q5, h5, h5'⟩, h6⟩ := ih hh
      refine ⟨⟨q.1, q.2.1, q.2.2.1, q.2.2.2⟩ :: pre, x, suf, by show _ :: tableOf r = _; rw [h1]; rfl, h2, h3, h4, ⟨q5, List.mem_cons_of_mem _ h5, h5'⟩, fun z hz => ?_⟩
      rcases List.mem_cons.mp hz with hz | hz
      · subst hz
        refine ⟨⟨q, List.mem_cons_self, rfl⟩, ?_⟩
        by_cases hc : am_ce q.2.2.2 = E
        · left
          have : ¬ (q.1 ≤ pc ∧ pc < q.2.1) := fun w => hq ⟨w.1, w.2, hc⟩
          simp only [covers]
          simp only [Bool.and_eq_false_iff, decide_eq_false_iff_not]
          by_cases h0 : q.1 ≤ pc
          · exact Or.inr (fun w => this ⟨h0, w⟩)
          · exact Or.inl h0
        · exact Or.inr hc
      · obtain ⟨⟨q6, h7, h7'⟩, h8⟩ := h6 z hz
        exact ⟨⟨q6, List.mem_cons_of_mem _ h7, h7'⟩, h8⟩
/-- the receiver is the first argument -/
theorem am_recv {S : List AV} {n o : Nat} (hn : n ≤ S.length) (hp : 1 ≤ n) (h : am_isR S[n - 1]? o = true) : ∃ as : List AV, (S.take n).reverse = .inr (.inl o) :: as := by
  have hlt : n - 1 < S.length := by omega
  rw [List.getElem?_eq_getElem hlt] at h
  have e : S.take n = S.take (n - 1) ++ [S[n - 1]] := by
    have := List.take_succ_eq_append_getElem hlt
    rwa [show n - 1 + 1 = n by omega] at this
  rw [e, List.reverse_append]
  refine ⟨(S.take (n - 1)).reverse, ?_⟩
  have hv : S[n - 1] = .inr (.inl o) := by
    cases hS : S[n - 1] with
    | inl z => rw [hS] at h; cases h
    | inr q =>
      cases q with
      | inl o' => rw [hS] at h; rw [of_decide_eq_true h]
      | inr z => rw [hS] at h; cases h
  rw [hv]
  rfl
theorem am_ct {mid ct : Nat} (h : ∃ q ∈ am_tb mid, q.2.2.2 = ct) : ct ≠ 0 ∧ Cond.classLink (am_cC (am_ob mid)) ct (am_en (am_ce ct)) ∈ am_ws ∧ am_ce ct < 4 := by
  obtain ⟨q, hq, rfl⟩ := h
  have hm : mid < 102 := Nat.not_le.mp (fun h9 => by
    unfold am_tb at hq
    rw [List.getD_eq_getElem?_getD, List.getElem?_eq_none (by show 102 ≤ mid; exact h9)] at hq
    cases hq)
  rcases am_tb_cts mid hm with h1 | ⟨h1, h2⟩
  · rw [h1] at hq; cases hq
  · obtain ⟨a1, a2, a3⟩ := am_ct_ok _ (h2 q hq)
    rw [h1]
    exact ⟨a1, am_inw a3 rfl, a2⟩
theorem am_cast_in {i : Nat} (h : i < 4) : Cond.castable (am_en i) (am_en i) ∈ am_xw := by
  rcases (show i = 0 ∨ i = 1 ∨ i = 2 ∨ i = 3 by omega) with rfl | rfl | rfl | rfl <;> simp [am_xw]
theorem am_rest {a : Nat → Nat} {S : List AV} {n : Nat} (h : S.length ≤ n + 4) : 2 * 0 + (((S.drop n).map (am_cv a)).map fun v => v.category).sum ≤ 8 := by
  have h1 := am_catsum a (S.drop n)
  have h2 : (S.drop n).length ≤ 4 := by rw [List.length_drop]; omega
  omega
theorem am_split {a : Nat → Nat} {S : List AV} {n : Nat} : S.map (am_cv a) = ((S.take n).reverse.map (am_cv a)).reverse ++ (S.drop n).map (am_cv a) := by
  rw [← List.map_reverse, List.reverse_reverse, ← List.map_append, List.take_append_drop]
set_option maxHeartbeats 4000000 in
set_option maxRecDepth 100000 in
theorem am_PS {sc : Int → Int} (hsc : ∀ j, am_R (sc j)) {n : Nat} (ih : am_P sc n) : am_P sc (n + 1) := by
  intro mid pc L S σ o σr t hr oL oS oσ
  rw [am_ex_s] at hr
  unfold am_stp2 at hr
  cases hlk : am_lk pc (am_code mid) with
  | none => rw [hlk] at hr; cases hr
  | some en =>
    obtain ⟨op, x, k, ts⟩ := en
    rw [hlk] at hr
    try dsimp only at hr
    obtain ⟨hd, hck⟩ := am_okc hlk
    by_cases h50 : op < 50
    · rw [if_pos h50] at hr
      cases hnx : am_nx sc op x k ts mid pc L S σ with
      | none => rw [hnx] at hr; cases hr
      | some fr =>
        obtain ⟨pc', L', S', σ'⟩ := fr
        rw [hnx] at hr
        try dsimp only at hr
        unfold am_nx at hnx
        cases hop : am_ops[op]? with
        | none => rw [hop] at hnx; cases hnx
        | some f =>
          rw [hop] at hnx
          dsimp only at hnx
          obtain ⟨⟨o1, o2, o3⟩, hW⟩ := am_sAll op f hop sc hsc mid pc x k ts L S σ pc' L' S' σ' hd hck hnx oL oS oσ
          obtain ⟨hok, hk⟩ := ih mid pc' L' S' σ' o σr t hr o1 o2 o3
          refine ⟨hok, fun D cs a p l e R s m args below meth c Q M N hC hM hN hRt H locs cells slots ls hc hs hI hl => ?_⟩
          exact hW D cs a p l e R s m args below meth c Q hC H locs cells slots ls (by omega) (by omega) hI hl (fun H' locs' ls' hI' hl' => hk D cs a p l e R s m args below meth c Q M N hC hM hN hRt H' locs' cells slots ls' hc hs hI' hl')
    · rw [if_neg h50] at hr
      by_cases h60 : op < 60
      · rw [if_pos h60] at hr
        by_cases hcal : am_cal op k S = true
        · rw [if_pos hcal] at hr
          simp only [am_cal, Bool.and_eq_true, decide_eq_true_eq] at hcal
          obtain ⟨⟨⟨c1, c3⟩, c4⟩, c5⟩ := hcal
          have hal : (S.take (am_na k)).reverse.all am_one = true := by rw [List.all_reverse]; exact c3
          have hle : (S.take (am_na k)).reverse.length = am_na k := by rw [List.length_reverse, List.length_take]; omega
          have oA : am_okL (S.take (am_na k)).reverse := fun v hv => oS v (List.mem_of_mem_take (List.mem_reverse.mp hv))
          have oD : am_okL (S.drop (am_na k)) := fun v hv => oS v (List.mem_of_mem_drop hv)
          have oE : am_okL (am_ent k (S.take (am_na k)).reverse) := by
            intro v hv
            rcases List.mem_append.mp hv with h | h
            · exact oA v h
            · rw [List.eq_of_mem_replicate h]; exact am_R0
          obtain ⟨hm, hroom⟩ := am_callee h50 h60 hck
          cases hcr : am_ex sc n k 0 (am_ent k (S.take (am_na k)).reverse) [] σ with
          | none => rw [hcr] at hr; cases hr
          | some res =>
            obtain ⟨o1, σ1, t1⟩ := res
            rw [hcr] at hr
            try dsimp only at hr
            obtain ⟨⟨ok1, ok2⟩, -⟩ := ih k 0 _ [] σ o1 σ1 t1 hcr oE (fun _ h => nomatch h) oσ
            -- the machine's call
            have hcall : ∀ (D : va_G) (cs : Nat → ClassId) (a : Nat → Nat) (p : Program) (l : Launch) (e : Env) (R : Room) (s : State) (m : MethodId) (args : Array Value) (below : List Frame) (meth : Method) (c : Code), am_Cx sc D cs a p l R s m args meth c mid →
                ∀ (H : Heap) (locs : List Loc) (cells slots : Nat) (ls : Array Slot), cells + t1 ≤ R.cells → slots + 6 * t1 ≤ R.slots → am_In D cs a s σ H locs → am_hl a ls (am_nl mid) L →
                ∃ av : Array Value, vx_Run p l e R s m args below meth c H locs cells slots t1 (6 * t1) (F0 m pc ls (S.map (am_cv a))) ((S.drop (am_na k)).map (am_cv a)) (am_Q D cs a o1 σ1 H.size av) (am_X D cs a o1 σ1 H.size) (am_A a H.size) := by
              intro D cs a p l e R s m args below meth c hC H locs cells slots ls hc hs hI hl
              have hMet := am_met ih (D := D) (cs := cs) (a := a) (l := l) (sz := H.size) hm hcr hal hle oA oσ hC.2.1.2 hC.2.2.2.2.1.1
              obtain ⟨⟨hx, hb, hml, hown, hts⟩, -, ⟨hfr, hlo⟩, -⟩ := id hC
              have hR : (am_rm k t1).frames + 1 ≤ R.frames ∧ 8 + (am_nl k + 11) + (am_rm k t1).locals ≤ R.locals := ⟨by show am_fr k + 1 ≤ _; omega, by show 8 + (am_nl k + 11) + am_lo k ≤ _; omega⟩
              by_cases hop0 : op = 50
              · subst hop0
                obtain ⟨as, hS⟩ : ∃ as : List AV, (S.take (am_na k)).reverse = .inr (.inl (am_ob k)) :: as := am_recv c1 (am_cwV hck).2.2.2.2 (by simpa using c5)
                rw [hS] at hMet hle
                obtain ⟨g1, g2, g3, g4, g5⟩ := am_cwV hck
                refine ⟨_, vx_runV (C := am_cC (am_ob k)) (b := a (am_ob k)) (As := as.map (am_cv a)) ⟨hx, hb, hml, hown, hts⟩ hMet (cwV (am_na k - 1) hts g1 g2 rfl rfl g3 hR) ⟨am_blind, va_recv hC.2.1.1 hI.1 (am_cl_at g4) (am_wd_obj g4), fun U hU hW => ?_⟩ rfl ?_ hl.1 ?_ (am_rest c4) hd ⟨hc, hs⟩⟩
                · have h9 := am_pre (as := .inr (.inl (am_ob k)) :: as) hC hI hU hW
                  exact h9
                · simp only [List.length_cons] at hle
                  simp only [List.length_map]
                  omega
                · show S.map (am_cv a) = _
                  rw [am_split (n := am_na k), hS]
                  simp [am_cv]
              · by_cases hop1 : op = 51
                · subst hop1
                  obtain ⟨g1, g2, g3⟩ := am_cwS hck
                  exact ⟨_, vx_runS (As := (S.take (am_na k)).reverse.map (am_cv a)) ⟨hx, hb, hml, hown, hts⟩ hMet (va_cwS (am_na k) hts g1 g2 rfl rfl g3 hR) ⟨am_blind, fun U hU hW => am_pre hC hI hU hW⟩ rfl (by rw [List.length_map]; exact hle) hl.1 (am_split (n := am_na k)) (am_rest c4) hd ⟨hc, hs⟩⟩
                · have hop2 : op = 52 := by rcases am_op5 h50 h60 hck with h1 | h1 | h1; exact absurd h1 hop0; exact absurd h1 hop1; exact h1
                  subst hop2
                  obtain ⟨g1, g2, g3⟩ := am_cwW hck
                  exact ⟨_, vx_runSX (As := (S.take (am_na k)).reverse.map (am_cv a)) (hh := am_tb k) ⟨hx, hb, hml, hown, hts⟩ hMet (vx_cwSW (am_na k) hts g1 g2 rfl rfl g3 hR) ⟨am_blind, fun U hU hW => am_pre hC hI hU hW⟩ rfl (by rw [List.length_map]; exact hle) hl.1 (am_split (n := am_na k)) (am_rest c4) hd ⟨hc, hs⟩⟩
            cases o1 with
            | inl v =>
              try dsimp only at hr
              have oV : am_okL (am_rv v ++ S.drop (am_na k)) := by
                intro w hw
                rcases List.mem_append.mp hw with h | h
                · cases v with
                  | none => cases h
                  | some z => rw [List.mem_singleton.mp h]; exact ok1
                · exact oD w h
              obtain ⟨t2, hr2, rfl⟩ := am_pl_some hr
              obtain ⟨hok, hk⟩ := ih mid (pc + 3) L _ σ1 o σr t2 hr2 oL oV ok2
              refine ⟨hok, fun D cs a p l e R s m args below meth c Q M N hC hM hN hRt H locs cells slots ls hc hs hI hl => ?_⟩
              obtain ⟨av, hrun⟩ := hcall D cs a p l e R s m args below meth c hC H locs cells slots ls (by omega) (by omega) hI hl
              refine am_goW hrun hI (fun v2 H1 locs1 ho hI1 => ?_) (fun i q ce H1 locs1 ho _ _ _ _ => by cases ho)
              cases ho
              have h9 := hk D cs a p l e R s m args below meth c Q M N hC hM hN hRt H1 locs1 (cells + t1) (slots + 6 * t1) ls (by omega) (by omega) hI1 hl
              rw [List.map_append] at h9
              cases v with
              | none => exact h9
              | some z => exact h9
            | inr E =>
              try dsimp only at hr
              cases hh : am_hd mid pc E with
              | none =>
                rw [hh] at hr
                try dsimp only at hr
                by_cases ht : am_tb mid = []
                · rw [if_pos ht] at hr
                  cases hr
                  refine ⟨⟨trivial, ok2⟩, fun D cs a p l e R s m args below meth c Q M N hC hM hN hRt H locs cells slots ls hc hs hI hl => ?_⟩
                  obtain ⟨av, hrun⟩ := hcall D cs a p l e R s m args below meth c hC H locs cells slots ls (by omega) (by omega) hI hl
                  refine am_goW hrun hI (fun v2 H1 locs1 ho hI1 => by cases ho) (fun i q ce H1 locs1 ho hI1 hce hcv hcl => ?_)
                  exact hRt.2.2 i pc _ H1 locs1 _ _ ls q ce ho ht hI1 hce hcv hcl (by omega) (by omega)
                · rw [if_neg ht] at hr
                  cases hr
              | some h =>
                rw [hh] at hr
                try dsimp only at hr
                by_cases h27 : L.all am_nx27 = true
                · rw [if_pos h27] at hr
                  obtain ⟨t2, hr2, rfl⟩ := am_pl_some hr
                  obtain ⟨hok, hk⟩ := ih mid h L [.inr (.inl 27)] σ1 o σr t2 hr2 oL (fun w hw => by rw [List.mem_singleton.mp hw]; trivial) ok2
                  refine ⟨hok, fun D cs a p l e R s m args below meth c Q M N hC hM hN hRt H locs cells slots ls hc hs hI hl => ?_⟩
                  obtain ⟨av, hrun⟩ := hcall D cs a p l e R s m args below meth c hC H locs cells slots ls (by omega) (by omega) hI hl
                  refine am_goW hrun hI (fun v2 H1 locs1 ho hI1 => by cases ho) (fun i q ce H1 locs1 ho hI1 hce hcv hcl => ?_)
                  cases ho
                  obtain ⟨⟨hx, hb, hml, hown, hts⟩, -, -, ⟨-, -, htb⟩, ⟨-, -, hnc, hnw⟩, -⟩ := id hC
                  obtain ⟨pre, x9, suf, u1, u2, u3, u4, u5, u6⟩ := am_hd_spec hh
                  obtain ⟨w1, w2, w3⟩ := am_ct u5
                  rw [u4] at w2 w3
                  refine vx_catch hown pre x9 suf (by rw [htb]; exact u1) (fun z hz => ?_) u2 w1 (hts _ w2) (va_Nw.use rfl (hnw _ (am_cast_in w3))) hce hcv hcl ?_
                  · obtain ⟨z1, z2⟩ := u6 z hz
                    rcases z2 with z2 | z2
                    · exact Or.inl z2
                    · obtain ⟨y1, y2, y3⟩ := am_ct z1
                      refine Or.inr ⟨y1, _, hts _ y2, hnc (am_en E, am_en (am_ce z.catchType)) ?_⟩
                      rcases am_nc_in0 _ w3 _ y3 with h8 | h8
                      · exact absurd h8.symm z2
                      · exact h8
                  · rw [u3]
                    have h9 := hk D cs (am_a27 a q) p l e R s m args below meth c Q M N (am_Cx27 hC) hM hN (am_Rt27 hRt) H1 locs1 (cells + t1) (slots + 6 * t1) ls (by omega) (by omega) (by rw [am_In27]; exact hI1) (am_hl27 hl h27)
                    exact h9
                · rw [if_neg h27] at hr
                  cases hr
        · rw [if_neg hcal] at hr
          cases hr
      · rw [if_neg h60] at hr
        by_cases e60 : op = 60
        · rw [if_pos e60] at hr
          subst e60
          split at hr
          · rename_i z
            cases hr
            refine ⟨⟨am_okL_h oS, oσ⟩, fun D cs a p l e R s m args below meth c Q M N hC hM hN hRt H locs cells slots ls hc hs hI hl => ?_⟩
            exact hRt.1 (some z) 60 pc x k ts H locs cells slots ls rfl hlk (Or.inl ⟨rfl, z, rfl⟩) hI (by omega) (by omega)
          · cases hr
        · rw [if_neg e60] at hr
          by_cases e61 : op = 61
          · rw [if_pos e61] at hr
            subst e61
            split at hr
            · rename_i z
              by_cases hz : z = 0 ∨ z = 1
              · rw [if_pos hz] at hr
                cases hr
                refine ⟨⟨am_okL_h oS, oσ⟩, fun D cs a p l e R s m args below meth c Q M N hC hM hN hRt H locs cells slots ls hc hs hI hl => ?_⟩
                exact hRt.1 (some z) 61 pc x k ts H locs cells slots ls rfl hlk (Or.inr (Or.inl ⟨rfl, by rcases hz with h | h <;> simp [h]⟩)) hI (by omega) (by omega)
              · rw [if_neg hz] at hr
                cases hr
            · cases hr
          · rw [if_neg e61] at hr
            by_cases e62 : op = 62
            · rw [if_pos e62] at hr
              subst e62
              split at hr
              · cases hr
                refine ⟨⟨trivial, oσ⟩, fun D cs a p l e R s m args below meth c Q M N hC hM hN hRt H locs cells slots ls hc hs hI hl => ?_⟩
                exact hRt.1 none 62 pc x k ts H locs cells slots ls rfl hlk (Or.inr (Or.inr ⟨rfl, rfl⟩)) hI (by omega) (by omega)
              · cases hr
            · rw [if_neg e62] at hr
              by_cases e63 : op = 63
              · rw [if_pos e63] at hr
                subst e63
                split at hr
                · cases hr
                  refine ⟨⟨trivial, oσ⟩, fun D cs a p l e R s m args below meth c Q M N hC hM hN hRt H locs cells slots ls hc hs hI hl => ?_⟩
                  exact hRt.2.1 k pc x ts H locs cells slots ls rfl hlk hI hl.1 (by omega) (by omega)
                · cases hr
              · rw [if_neg e63] at hr
                cases hr
theorem am_PA {sc : Int → Int} (hsc : ∀ j, am_R (sc j)) : ∀ n, am_P sc n
  | 0 => fun _ _ _ _ _ _ _ _ h => nomatch h
  | n + 1 => am_PS hsc (am_PA hsc n)
