/-! every method of the table, checked -/
/-- bytes compared one behind another -/
def rx_bys : List UInt8 → List UInt8 → Bool
  | [], [] => true
  | a :: l, b :: k => Nat.beq a.toNat b.toNat && rx_bys l k
  | _, _ => false
theorem rx_bys_of : ∀ {l k : List UInt8}, rx_bys l k = true → l = k
  | [], [], _ => rfl
  | [], _ :: _, h => by cases h
  | _ :: _, [], h => by cases h
  | a :: l, b :: k, h => by
    unfold rx_bys at h
    rw [Bool.and_eq_true] at h
    have h1 := UInt8.toNat_inj.mp (Nat.eq_of_beq_eq_true h.1)
    rw [h1, rx_bys_of h.2]
def rx_ceq (x : Option Jvm.Cond) (n : MethodName) (b : ByteArray) (ml : Nat) (r : Option FieldType) : Bool := match x with
  | some (.code n2 b2 m2 r2) => decide (n2 = n) && rx_bys b2.data.toList b.data.toList && Nat.beq m2 ml && decide (r2 = r)
  | _ => false
theorem rx_ceq_of {w : Nat} {n : MethodName} {b : ByteArray} {ml : Nat} {r : Option FieldType} (h : rx_ceq (rx_nth lw_tbl w) n b ml r = true) (hg : goodWord (.code n b ml r) = true) : rx_wd w (.code n b ml r) = true := by
  unfold rx_ceq at h
  unfold rx_wd
  split at h
  · rename_i n2 b2 m2 r2 e
    rw [Bool.and_eq_true, Bool.and_eq_true, Bool.and_eq_true] at h
    obtain ⟨⟨⟨h1, h2⟩, h3⟩, h4⟩ := h
    have h1 := of_decide_eq_true h1
    have h2 := rx_bys_of h2
    have h3 := Nat.eq_of_beq_eq_true h3
    have h4 := of_decide_eq_true h4
    have h2 : b2 = b := by
      cases b2; cases b
      congr
      exact Array.toList_inj.mp h2
    subst h1 h2 h3 h4
    rw [e]
    show (decide _ && _) = true
    rw [hg, Bool.and_true]
    exact decide_eq_true rfl
  · cases h
theorem rx_aok_sp {ini : Bool} {own : String} {sigs : List RSig} {x mi n a w : Nat} {sg : RSig} (h : rx_nth sigs mi = some sg) (h1 : rx_wd w (.methodLink own x sg.1) = true) (h2 : sg.1.name = "<init>") (h3 : sg.2.2.1 = none) (h4 : rx_sigok sg n = true) (h5 : sg.2.2.2.2.2.2.2.1 = []) (h6 : rx_sgok sg = true) (h7 : rx_wd sg.2.2.2.2.1 (.instanceMethod sg.1) = true) : rx_aok ini own sigs (.invokespecial x) [mi, n, a, w] = true := by
  unfold rx_aok
  simp only [h, h1, h2, h3, h4, h5, h6, h7, decide_true, Bool.true_or, Bool.true_and, Bool.and_self, List.isEmpty_nil]
abbrev rp_s22 : RSig := (yX12_init, cX12_init, (none : Option FieldType), 1783, 1782, 0, 199, [], 3)
set_option maxRecDepth 100000 in
theorem rk_w1783 : rx_ceq (rx_nth lw_tbl 1783) yX12_init cX12_init 3 none = true := by decide +kernel
set_option maxRecDepth 100000 in
theorem rk_s22a : rx_wd 199 (.initialized yX12_init.cls) = true := by decide +kernel
theorem rk_s22 : rx_sgok rp_s22 = true := by
  have h : rx_wd 1783 (.code yX12_init cX12_init 3 none) = true := rx_ceq_of rk_w1783 rfl
  show (rx_wd 1783 (.code yX12_init cX12_init 3 none) && rx_wd 199 (.initialized yX12_init.cls) && Nat.ble 3 40) = true
  rw [h, rk_s22a]
  rfl
set_option maxRecDepth 100000 in
theorem rk_s22b : (rx_wd 1781 (.methodLink yL_law.cls 25 yX12_init) && rx_sigok rp_s22 0 && rx_wd 1782 (.instanceMethod yX12_init) && decide (decode cL_law 12 = .ok (.invokespecial 25, 3)) && rx_xok yL_law.cls cL_law (12, .invokespecial 25, 3, [22, 0, 12, 1781])) = true := by decide +kernel
theorem rk_L_6 : (fun q => rx_chk (decide (yL_law.name = "<init>")) yL_law.cls cL_law rp_sig q && rx_xok yL_law.cls cL_law q) (12, .invokespecial 25, 3, [22, 0, 12, 1781]) = true := by
  have h := rk_s22b
  simp only [Bool.and_eq_true] at h
  obtain ⟨⟨⟨⟨h1, h2⟩, h3⟩, h4⟩, h5⟩ := h
  show (rx_chk (decide (yL_law.name = "<init>")) yL_law.cls cL_law rp_sig (12, .invokespecial 25, 3, [22, 0, 12, 1781]) && rx_xok yL_law.cls cL_law (12, .invokespecial 25, 3, [22, 0, 12, 1781])) = true
  rw [h5, Bool.and_true]
  unfold rx_chk
  rw [h4, rx_aok_sp (sg := rp_s22) rfl h1 rfl rfl h2 rfl rk_s22 h3]
  rfl
set_option maxRecDepth 100000 in
theorem rk_L_a : (rw_L_law.take 6).all (fun q => rx_chk (decide (yL_law.name = "<init>")) yL_law.cls cL_law rp_sig q && rx_xok yL_law.cls cL_law q) = true := by decide +kernel
set_option maxRecDepth 100000 in
theorem rk_L_b : ((rw_L_law.drop 7).take 100).all (fun q => rx_chk (decide (yL_law.name = "<init>")) yL_law.cls cL_law rp_sig q && rx_xok yL_law.cls cL_law q) = true := by decide +kernel
set_option maxRecDepth 100000 in
theorem rk_L_c : (rw_L_law.drop 107).all (fun q => rx_chk (decide (yL_law.name = "<init>")) yL_law.cls cL_law rp_sig q && rx_xok yL_law.cls cL_law q) = true := by decide +kernel
theorem rk_L_law : rx_rowsok rp_sig (yL_law, cL_law, some .boolean, 0, 0, 0, 0, [], 7) rw_L_law = true := by
  show rw_L_law.all (fun q => rx_chk (decide (yL_law.name = "<init>")) yL_law.cls cL_law rp_sig q && rx_xok yL_law.cls cL_law q) = true
  have e : rw_L_law = rw_L_law.take 6 ++ ((12, .invokespecial 25, 3, [22, 0, 12, 1781]) :: ((rw_L_law.drop 7).take 100 ++ rw_L_law.drop 107)) := rfl
  rw [e, List.all_append, List.all_cons, List.all_append, rk_L_a, rk_L_b, rk_L_c]
  show (true && (_ && _)) = true
  rw [Bool.true_and, Bool.and_self, Bool.and_true]
  exact rk_L_6
set_option maxRecDepth 100000 in
theorem rp_mok : (rp_inf.zip rp_sig).all (fun q => rx_mok0 q.2 q.1) = true := by decide +kernel
set_option maxRecDepth 100000 in
theorem rp_rok : ∀ q ∈ rp_inf.zip rp_sig, rx_rowsok rp_sig q.2 q.1.2.2.1 = true := List.forall_mem_cons.mpr ⟨rk_L_law, List.forall_mem_cons.mpr ⟨rk_X11_init, List.forall_mem_cons.mpr ⟨rk_X8_init, List.forall_mem_cons.mpr ⟨rk_X10_init, List.forall_mem_cons.mpr ⟨rk_X10_encodeAll, List.forall_mem_cons.mpr ⟨rk_J0_length_8abf5, List.forall_mem_cons.mpr ⟨rk_J0_coder_7d493, List.forall_mem_cons.mpr ⟨rk_J0_charAt_5068e, List.forall_mem_cons.mpr ⟨rk_J0_isLatin1_aae02, List.forall_mem_cons.mpr ⟨rk_J1_charAt_3b067, List.forall_mem_cons.mpr ⟨rk_X10_symbol, List.forall_mem_cons.mpr ⟨rk_X1_init, List.forall_mem_cons.mpr ⟨rk_X0_init, List.forall_mem_cons.mpr ⟨rk_X5_init, List.forall_mem_cons.mpr ⟨rk_X9_init, List.forall_mem_cons.mpr ⟨rk_X6_init, List.forall_mem_cons.mpr ⟨rk_X4_init, List.forall_mem_cons.mpr ⟨rk_X5_ofKind, List.forall_mem_cons.mpr ⟨rk_X2_init, List.forall_mem_cons.mpr ⟨rk_X7_init, List.forall_mem_cons.mpr ⟨rk_X3_init, List.forall_mem_cons.mpr ⟨rk_X1_emit, List.forall_mem_cons.mpr ⟨rk_X12_init, List.forall_mem_cons.mpr ⟨rk_X12_packed, List.forall_mem_cons.mpr ⟨rk_X12_emptyProgram, List.forall_mem_cons.mpr ⟨rk_X12_beginProgram, List.forall_mem_cons.mpr ⟨rk_X12_write1, List.forall_mem_cons.mpr ⟨rk_X12_emit, List.forall_mem_cons.mpr ⟨rk_X12_keepProgram, List.forall_mem_cons.mpr ⟨rk_L_feed, List.forall_mem_cons.mpr ⟨rk_X11_feed, List.forall_mem_cons.mpr ⟨rk_X12_feed, List.forall_mem_cons.mpr ⟨rk_X12_thrown, List.forall_mem_cons.mpr ⟨rk_X8_length, List.forall_mem_cons.mpr ⟨rk_X8_append, List.forall_mem_cons.mpr ⟨rk_X11_wipe, List.forall_mem_cons.mpr ⟨rk_X8_clear, List.forall_mem_cons.mpr ⟨rk_X12_wipe, List.forall_mem_cons.mpr ⟨rk_X11_compile, List.forall_mem_cons.mpr ⟨rk_X10_scan, List.forall_mem_cons.mpr ⟨rk_X10_skipBlanks, List.forall_mem_cons.mpr ⟨rk_X8_at, List.forall_mem_cons.mpr ⟨rk_X10_scanWord, List.forall_mem_cons.mpr ⟨rk_X10_add, List.forall_mem_cons.mpr ⟨rk_X10_next, List.forall_mem_cons.mpr ⟨rk_X0_begin, List.forall_mem_cons.mpr ⟨rk_X5_forgetAll, List.forall_mem_cons.mpr ⟨rk_X7_forgetLabels, List.forall_mem_cons.mpr ⟨rk_X1_clear, List.forall_mem_cons.mpr ⟨rk_X5_openBlock, List.forall_mem_cons.mpr ⟨rk_X5_level, List.forall_mem_cons.mpr ⟨rk_X0_block, List.forall_mem_cons.mpr ⟨rk_X1_length, List.forall_mem_cons.mpr ⟨rk_X1_emitAimless, List.forall_mem_cons.mpr ⟨rk_X0_constants, List.forall_mem_cons.mpr ⟨rk_X10_takeIf, List.forall_mem_cons.mpr ⟨rk_X10_is, List.forall_mem_cons.mpr ⟨rk_X0_types, List.forall_mem_cons.mpr ⟨rk_X0_variables, List.forall_mem_cons.mpr ⟨rk_X0_isRoutine, List.forall_mem_cons.mpr ⟨rk_X10_take, List.forall_mem_cons.mpr ⟨rk_X10_fail, List.forall_mem_cons.mpr ⟨rk_X12_compile, List.forall_mem_cons.mpr ⟨rk_X12_take, List.forall_mem_cons.mpr ⟨rk_X12_skipBlanks, List.forall_mem_cons.mpr ⟨rk_X12_byteAt, List.forall_mem_cons.mpr ⟨rk_X12_later, List.forall_mem_cons.mpr ⟨rk_X12_work, List.forall_mem_cons.mpr ⟨rk_X12_workOfBlocks, List.forall_mem_cons.mpr ⟨rk_X12_block, List.forall_mem_cons.mpr ⟨rk_X12_actionsOrBody, List.forall_mem_cons.mpr ⟨rk_X12_want, List.forall_mem_cons.mpr ⟨rk_X12_fail, List.forall_mem_cons.mpr ⟨rk_X12_statements, List.forall_mem_cons.mpr ⟨rk_X11_fault, List.forall_mem_cons.mpr ⟨rk_X10_failure, List.forall_mem_cons.mpr ⟨rk_X12_fault, List.forall_mem_cons.mpr ⟨rk_X11_place, List.forall_mem_cons.mpr ⟨rk_X10_failedAt, List.forall_mem_cons.mpr ⟨rk_X12_place, List.forall_mem_cons.mpr ⟨rk_X11_input, List.forall_mem_cons.mpr ⟨rk_X8_become, List.forall_mem_cons.mpr ⟨rk_X12_input, List.forall_mem_cons.mpr ⟨rk_L_run, List.forall_mem_cons.mpr ⟨rk_X11_run, List.forall_mem_cons.mpr ⟨rk_X12_run, List.forall_mem_cons.mpr ⟨rk_X3_execute, List.forall_mem_cons.mpr ⟨rk_X3_startAgain, List.forall_mem_cons.mpr ⟨rk_X3_enter, List.forall_mem_cons.mpr ⟨rk_X3_put, List.forall_mem_cons.mpr ⟨rk_X3_isCell, List.forall_mem_cons.mpr ⟨rk_J9_max_7cf53, List.forall_mem_cons.mpr ⟨rk_X3_operand, List.forall_mem_cons.mpr ⟨rk_X1_at, List.forall_mem_cons.mpr ⟨rk_X3_perform, List.forall_mem_cons.mpr ⟨rk_X3_control, List.forall_mem_cons.mpr ⟨rk_X12_open, List.forall_mem_cons.mpr ⟨rk_X12_isWrong, List.forall_mem_cons.mpr ⟨rk_X12_step, List.forall_mem_cons.mpr ⟨rk_X12_leave, List.forall_mem_cons.mpr ⟨rk_X11_where, List.forall_mem_cons.mpr ⟨rk_X3_errorPlace, List.forall_mem_cons.mpr ⟨rk_X12_where, List.forall_mem_cons.mpr ⟨rk_X11_written, List.forall_mem_cons.mpr ⟨rk_X3_output, List.forall_mem_cons.mpr ⟨rk_X12_written, List.forall_mem_cons.mpr ⟨rk_X11_text, List.forall_mem_cons.mpr ⟨rk_X12_text, List.forall_mem_cons.mpr ⟨rk_L_told, List.forall_mem_cons.mpr ⟨rk_X11_told, List.forall_mem_cons.mpr ⟨rk_X12_told, List.forall_mem_cons.mpr ⟨rk_X3_steps, List.forall_mem_cons.mpr ⟨rk_X3_mostBlocks, List.forall_mem_cons.mpr ⟨rk_X3_mostCells, List.forall_mem_cons.mpr ⟨rk_X3_bytesRead, List.forall_mem_cons.mpr ⟨rk_J0_checkIndex_df160, List.forall_mem_cons.mpr ⟨rk_J3_checkIndex_8e157, List.forall_mem_cons.mpr ⟨rk_J7_fill_eb02e, List.forall_mem_cons.mpr ⟨rk_J7_rangeCheck_23922, fun _ h => absurd h List.not_mem_nil⟩⟩⟩⟩⟩⟩⟩⟩⟩⟩⟩⟩⟩⟩⟩⟩⟩⟩⟩⟩⟩⟩⟩⟩⟩⟩⟩⟩⟩⟩⟩⟩⟩⟩⟩⟩⟩⟩⟩⟩⟩⟩⟩⟩⟩⟩⟩⟩⟩⟩⟩⟩⟩⟩⟩⟩⟩⟩⟩⟩⟩⟩⟩⟩⟩⟩⟩⟩⟩⟩⟩⟩⟩⟩⟩⟩⟩⟩⟩⟩⟩⟩⟩⟩⟩⟩⟩⟩⟩⟩⟩⟩⟩⟩⟩⟩⟩⟩⟩⟩⟩⟩⟩⟩⟩⟩⟩⟩⟩⟩⟩⟩⟩⟩⟩⟩⟩⟩⟩
theorem rp_all {mi : Nat} {I : RInf} {sg : RSig} (h1 : rp_inf[mi]? = some I) (h2 : rp_sig[mi]? = some sg) : rx_mok0 sg I = true ∧ rx_rowsok rp_sig sg I.2.2.1 = true := by
  have hm : (I, sg) ∈ rp_inf.zip rp_sig := by
    refine List.mem_of_getElem? (i := mi) ?_
    rw [List.getElem?_zip_eq_some]
    exact ⟨h1, h2⟩
  exact ⟨List.all_eq_true.mp rp_mok _ hm, rp_rok _ hm⟩
theorem rl_P0_ok {mi : Nat} {I : RInf} {sg : RSig} (h1 : rl_P0[mi]? = some I) (h2 : rp_sig[mi]? = some sg) (h3 : I.2.2.1 ≠ []) : sg.2.2.2.2.2.2.2.1 = [] ∧ rx_mok0 sg I = true ∧ rx_rowsok rp_sig sg I.2.2.1 = true := by
  unfold rl_P0 at h1
  rw [List.getElem?_map] at h1
  obtain ⟨I0, e1, e2⟩ := Option.map_eq_some_iff.mp h1
  obtain ⟨a, b, rows, hh⟩ := I0
  cases hh with
  | cons x y => subst e2; exact absurd rfl h3
  | nil =>
    have e2 : (a, b, rows, ([] : List (Nat × Nat × Nat × Nat))) = I := e2
    subst e2
    obtain ⟨g1, g2⟩ := rp_all e1 h2
    obtain ⟨-, -, -, -, m6⟩ := rx_mok0_of g1
    refine ⟨?_, g1, g2⟩
    revert m6
    cases sg.2.2.2.2.2.2.2.1 with
    | nil => intro _; rfl
    | cons x y => intro m6; cases y <;> cases m6
/-- methods with a table of exceptions, and those without -/
noncomputable def rx_call2 (O : ROld) (F : RFacts) (d mi : Nat) (as : List Value) (h : RHeap) : Option RRes := match rf_nth rp_inf mi with
  | some I => match I.2.2.2 with
    | [] => rf_call O F rl_P0 100000 (d + 1) mi as h
    | _ => match Nat.ble (rx_cats as) I.1 with
      | true => match rf_run O F (rf_call O F rl_P0 100000 d) I 100000 I.2.2.1 (lv_args 0 as) [] h with
        | some (.inl v, h2, mc, ms) => some (.inl v, h2, mc, ms)
        | _ => none
      | false => none
  | none => none
noncomputable def rx_memo (O : ROld) (F : RFacts) (mi : Nat) (as : List Value) (h : RHeap) : Option RRes := match mi with
  | 1 => match decide (as = [.ref 0]), decide (h = rl_x0) with
    | true, true => some (.inl none, rl_x, 169, 26440)
    | _, _ => none
  | 22 => match decide (as = [.ref 170]), decide (h = rl_m0) with
    | true, true => some (.inl none, rl_m, 59, 159377)
    | _, _ => none
  | mi => rx_call2 O F 11 mi as h
section Memo
variable {l : Launch} {O : ROld} {F : RFacts} {D : va_G} {cA : Nat → ClassId} {A : Nat → Prop} {old : Nat → Nat} {rho : UInt32 → Int32}
theorem rx_call2_ok (hl : l.stackTraces = false) (hF : rx_FT2 rho F) (hO1 : ∀ q ∈ O.1, q.1 < 1000000) (hO2 : ∀ q ∈ O.2, q.1 < 1000000 ∧ (q.2.1 = 0 ∨ q.2.1 = 2)) {d mi : Nat} {as : List Value} {h : RHeap} {r : RRes} (hr : rx_call2 O F d mi as h = some r) {sg : RSig} (hsg : rp_sig[mi]? = some sg) : rx_CS l O D cA A old rho sg (d + 1) as h r := by
  unfold rx_call2 at hr
  rw [rf_nth_eq, rx_nth_eq] at hr
  cases hI : rp_inf[mi]? with
  | none => rw [hI] at hr; cases hr
  | some I =>
    rw [hI] at hr
    simp only at hr
    obtain ⟨g1, g2⟩ := rp_all hI hsg
    obtain ⟨a, b, rows, hh⟩ := I
    cases hh with
    | nil =>
      simp only at hr
      rw [rf_call_eq] at hr
      exact (rx_call_ok hl hF hO1 hO2 (fun mi I sg h1 h2 h3 => rl_P0_ok h1 h2 h3) (d + 1) mi as h r hr sg hsg).1
    | cons x y =>
      simp only at hr
      cases hc : Nat.ble (rx_cats as) a with
      | false => rw [hc] at hr; cases hr
      | true =>
        rw [hc] at hr
        simp only at hr
        split at hr
        · rename_i v h2 mc ms hrun
          cases hr
          rw [rf_run_eq, rf_call_eq] at hrun
          obtain ⟨m1, m2, m3, m4, m6⟩ := rx_mok0_of g1
          have hpn : (sg.2.2.2.2.2.2.2.1.isEmpty || Jvm.plainName sg.1.cls) = true := by
            have g3 := g1
            unfold rx_mok0 at g3
            simp only [Bool.and_eq_true] at g3
            exact g3.1.1.1.2
          obtain ⟨xr, hraw⟩ : ∃ xr, sg.2.2.2.2.2.2.2.1 = [xr] := by
            revert m6
            cases sg.2.2.2.2.2.2.2.1 with
            | nil => intro m6; cases y <;> cases m6
            | cons z w =>
              intro m6
              cases w with
              | nil => exact ⟨z, rfl⟩
              | cons w1 w2 => cases y <;> cases m6
          rw [hraw] at hpn
          exact rx_tab_ok hF hO1 hO2 g1 g2 (fun mi as h r hr sg hsg => rx_call_ok hl hF hO1 hO2 (fun mi I sg h1 h2 h3 => rl_P0_ok h1 h2 h3) d mi as h r hr sg hsg) hpn hraw (Nat.le_of_ble_eq_true hc) hrun
        · cases hr
theorem rx_E.weak {s : State} {sc : Nat × Nat × List Value} (h : rx_E (rl_O1, sc :: rl_O.2) D cA A old rho s) : rx_E rl_O D cA A old rho s := by
  obtain ⟨h1, h2, h3, h4, h5⟩ := h
  exact ⟨h1, h2, h3, fun q hq => h4 q (List.mem_cons_of_mem _ hq), h5⟩
theorem rx_Pc.weak {sc : Nat × Nat × List Value} {as : List Value} {h : RHeap} {ad : List Nat} {v : Array Value} {U : State} (hp : rx_Pc (rl_O1, sc :: rl_O.2) D cA A old rho as h ad v U) : rx_Pc rl_O D cA A old rho as h ad v U := by
  obtain ⟨cs, ws, q1, q2, q3, q4, q5, q6, q7⟩ := hp
  exact ⟨cs, ws, q1, q2, q3, q4, q5, q6, q7.weak⟩
theorem rl_O1_lt : ∀ q ∈ rl_O1, q.1 < 1000000 := fun q hq => by
  simp only [rl_O1, List.mem_cons, List.not_mem_nil, or_false] at hq
  rcases hq with rfl | rfl | rfl | rfl <;> decide
theorem rl_O2_lt : ∀ q ∈ rl_O.2, q.1 < 1000000 ∧ (q.2.1 = 0 ∨ q.2.1 = 2) := fun q hq => by
  simp only [rl_O, List.mem_cons, List.not_mem_nil, or_false] at hq
  rcases hq with rfl | rfl <;> exact ⟨by decide, Or.inr rfl⟩
theorem rx_memo1 (hl : l.stackTraces = false) {sc : Nat × Nat × List Value} {mi mc ms : Nat} {as : List Value} {h h2 : RHeap} (hr : rx_eqr (rf_call rl_O ([], [], []) rl_P0 100000 12 mi as h) h2 mc ms = true) {sg : RSig} (hsg : rp_sig[mi]? = some sg) : rx_CS l (rl_O1, sc :: rl_O.2) D cA A old rho sg 12 as h (.inl none, h2, mc, ms) := by
  rw [rf_call_eq] at hr
  have h9 := (rx_call_ok (l := l) (D := D) (cA := cA) (A := A) (old := old) (rho := rho) hl ⟨fun q hq => absurd hq List.not_mem_nil, fun q hq => absurd hq List.not_mem_nil, fun q hq => absurd hq List.not_mem_nil⟩ rl_O1_lt rl_O2_lt (fun mi I sg h1 h2 h3 => rl_P0_ok h1 h2 h3) 12 mi as h _ (rx_eqr_of hr) sg hsg).1
  intro ad p e ha hc hk s m args below hf happ hP hK
  exact h9 ad p e ha hc hk s m args below hf happ hP.weak hK
theorem rx_memo_ok (hl : l.stackTraces = false) (hF : rx_FT2 rho F) {sc : Nat × Nat × List Value} (hsc : sc.1 < 1000000 ∧ (sc.2.1 = 0 ∨ sc.2.1 = 2)) (mi : Nat) (as : List Value) (h : RHeap) (r : RRes) (hr : rx_memo (rl_O1, sc :: rl_O.2) F mi as h = some r) (sg : RSig) (hsg : rp_sig[mi]? = some sg) : rx_CS l (rl_O1, sc :: rl_O.2) D cA A old rho sg 12 as h r := by
  unfold rx_memo at hr
  split at hr
  · split at hr
    · rename_i e1 e2
      have e1 := of_decide_eq_true e1
      have e2 := of_decide_eq_true e2
      cases hr
      subst e1 e2
      exact rx_memo1 hl rt_x hsg
    · cases hr
  · split at hr
    · rename_i e1 e2
      have e1 := of_decide_eq_true e1
      have e2 := of_decide_eq_true e2
      cases hr
      subst e1 e2
      exact rx_memo1 hl rt_m hsg
    · cases hr
  · exact rx_call2_ok hl hF rl_O1_lt (fun q hq => by
      rcases List.mem_cons.mp hq with rfl | hq
      · exact hsc
      · exact rl_O2_lt q hq) hr hsg
end Memo
