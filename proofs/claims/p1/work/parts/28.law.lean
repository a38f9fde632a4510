/-! THE CLAIM OUT OF ONE WALK OF THE LAW'S BODY. Your part is whole_start (and what it stands on); all else here is the same for every law, but numbers. -/
def R_law : String := "TaggedPascalLaw"
def lw_P (b : Addr) (xs : List Int32) (args : Array Value) (s : State) : Prop := args = #[.ref b] ∧ s.IntsAt b xs ∧ xs.length ≤ 4 ∧ (Jvm.Cond.and given_1 narrow_1).before args s = true
def lw_Q (_ : Array Value) (s : State) (o : Outcome) (t : State) : Prop := o = .returned (some (.int 1)) ∧ Framed s o t [] 600002 7302232
def lw_Z (below : List Frame) (a : Array Value) (s : State) : State → Prop := fun t => ∃ o, t.status = .running ∧ Ended t below o ∧ lw_Q a s o t
/-- the law's own end, with 1 on the stack, nothing written that was there before, its room as the claim has it -/
theorem lw_ret {p : Program} {l : Launch} {e : Env} {s : State} {m : MethodId} {below : List Frame} {meth : Method} {c : Code} {b : Nat} (hx : p.tables.exec = Jvm.exec) (hb : c.code = code) (hr : meth.sig.returnType = ret) (hlocks : meth.locks = false) {pc : Nat} {H : Heap} {ls : Array Slot} (hdg : decode code pc = .ok (.ireturn, 1)) : W p l e room_1 s m #[Value.ref b] below meth c H [] 600002 7302232 (lw_Z below #[Value.ref b] s) (F0 m pc ls [.int 1]) := by
  intro T hT X
  obtain ⟨fs, hret, hrun, hended, hW, hframe⟩ := X.leave (v := some (.int 1)) (hlocks := hlocks) (fun h => by rw [hr] at h; cases h)
  have hmeth' : T.vm.method? m = some meth := X.method'
  refine ⟨T.setFrames fs, ?_, .returned (some (.int 1)), hrun, hended, rfl, ⟨_, rfl⟩, hW, hframe⟩
  jvm_step X.here [X.here.top, hx, hb, hdg, hmeth', hr, ret, narrow_b1]
  (try refine ⟨rfl, ?_⟩); (try refine ⟨rfl, ?_⟩)
  first | (intro acts; rw [hret _ acts rfl rfl rfl]) | rw [hret _ _ rfl rfl rfl]
  exact Steps.refl _
/-- what holds at the law's entry: the machine, the code, the tables' words (any of lw_tbl by 'hts w (by decide +kernel)'), the script of L ints xs at the cell b, what the Statement gives of the start (any of its parts by flat_of_before) -/
def lw_At (p : Program) (s : State) (m : MethodId) (meth : Method) (c : Code) (b L : Nat) (xs : Nat → Int32) : Prop :=
  p.tables.exec = Jvm.exec ∧ c.code = code ∧ meth.sig.returnType = ret ∧ c.maxLocals = 7 ∧ s.vm.findClass R_law = some m.cls ∧ (∀ w ∈ lw_tbl, w.before #[Value.ref b] s = true) ∧ va_X b L xs s s.heap ∧ b < s.heap.size ∧ meth.locks = false ∧ (Jvm.Cond.and given_1 narrow_1).before #[Value.ref b] s = true
def rx_good (o : Option RRes) : Bool := match o with
  | some (.inl (some (.int x)), _, mc, ms) => decide (x = 1) && Nat.ble mc 600002 && Nat.ble ms 7302232
  | _ => false
theorem rx_good_of {o : Option RRes} (h : rx_good o = true) : ∃ (h2 : RHeap) (mc ms : Nat), o = some (.inl (some (.int 1)), h2, mc, ms) ∧ mc ≤ 600002 ∧ ms ≤ 7302232 := by
  unfold rx_good at h
  split at h
  · rename_i x h2 mc ms
    rw [Bool.and_eq_true, Bool.and_eq_true] at h
    have e1 := of_decide_eq_true h.1.1
    subst e1
    exact ⟨h2, mc, ms, rfl, Nat.le_of_ble_eq_true h.1.2, Nat.le_of_ble_eq_true h.2⟩
  · cases h
noncomputable def rx_law (sc : List Value) (F : RFacts) : Option RRes := rf_run (rl_O1, (0, 0, sc) :: rl_O.2) F (rx_memo (rl_O1, (0, 0, sc) :: rl_O.2) F) (7, 2, rw_L_law, []) 100000 rw_L_law (lv_args 0 [.ref 1000000]) [] []
/-- the law, from its entry, where the runner comes to its end with 1 -/
theorem rx_start {p : Program} {e : Env} {s : State} {m : MethodId} {below : List Frame} {meth : Method} {c : Code} {l : Launch} (hl : l.stackTraces = false) (hnm : meth.name = "law") {b L : Nat} {xs : Nat → Int32} (C0 : lw_At p s m meth c b L xs) {sc : List Value} {F : RFacts} {rho : UInt32 → Int32} (hgood : rx_good (rx_law sc F) = true) (hF : rx_FT2 rho F) (hlen : sc.length = L) (hsc : ∀ (i : Nat) (v : Value), sc[i]? = some v → ∀ old ads, rx_R old rho ads v (.int (xs i))) :
    W p l e room_1 s m #[Value.ref b] below meth c s.heap [] 0 0 (lw_Z below #[Value.ref b] s) (entryFrame m ([Value.ref b] : List Value).toArray 7) := by
  obtain ⟨hx, hb, hr, hml, hown, hts, hX, hbl, hlocks, hgv⟩ := C0
  obtain ⟨D, cA, old, ho, hE0⟩ := rl_env (rho := rho) hts hgv hX hbl
  have hE := hE0 sc hlen hsc
  obtain ⟨h2, mc, ms, hrun, hmc, hms⟩ := rx_good_of hgood
  unfold rx_law at hrun
  rw [rf_run_eq] at hrun
  have htg : ∀ w ∈ rc_good, w.before ([Value.ref b] : List Value).toArray s = true := fun w hw => hts w (List.mem_filter.mp hw).1
  have g := rp_all (mi := 0) (I := (7, 2, rw_L_law, [])) (sg := (yL_law, cL_law, some .boolean, 0, 0, 0, 0, [], 7)) rfl rfl
  refine rx_body (l := l) (O := (rl_O1, (0, 0, sc) :: rl_O.2)) (F := F) (D := D) (cA := cA) (A := fun q => s.heap.size ≤ q) (old := old) (rho := rho) (sigs := rp_sig) (steps := 100000) (d := 12) (C9 := rx_memo (rl_O1, (0, 0, sc) :: rl_O.2) F) (sg := (yL_law, cL_law, some .boolean, 0, 0, 0, 0, [], 7)) (I := (7, 2, rw_L_law, [])) (as := [.ref 1000000]) (cs := [.ref b]) (h := []) (ws := []) (o0 := .inl (some (.int 1))) (hf0 := h2) (MC := mc) (MS := ms) (R := room_1) (Q := lw_Z below #[Value.ref b] s) hF rl_O1_lt (fun q hq => by
      rcases List.mem_cons.mp hq with rfl | hq
      · exact ⟨(show (0 : Nat) < 1000000 by decide), Or.inl rfl⟩
      · exact rl_O2_lt q hq) g.1 g.2 (rx_memo_ok hl hF ⟨(show (0 : Nat) < 1000000 by decide), Or.inl rfl⟩) hx hb hml hown hnm htg hE hmc hms (by decide) (by decide) (by decide) ⟨Or.inr (Or.inl ⟨by decide, by decide, by rw [Nat.sub_self, ho]⟩), trivial⟩ trivial (fun k q hk => by simp at hk) ⟨fun i j p q hp => by simp at hp, fun k q hk => by simp at hk⟩ hrun ?_ ?_ ?_ ?_ ?_ ?_ ?_
  · intro pc x mi n ci w E la st as r a h h2 mc2 ms2 z1 z2 z3 z4 z5 z6 z7 z8
    cases z8
  · intro pc x mi n ci w E t la st as r a h h2 mc ms mc2 ms2 z1 z2 z3 z4 z5 z6 z7
    cases z7
  · intro pc x E w la st z1 z2 z3 z4 z4b z5
    cases z5
  · intro pc la z1 z2
    cases z2
  · intro pc la v z1 z2 z3
    cases z2
    intro H locs ls cst cells slots hR h1 h2
    obtain ⟨ws, lc, r1, r2, r3, r4, r5, r6, r7, r8⟩ := hR
    obtain ⟨cv, cst2, rfl, hr1, q7⟩ := rx_RL.uncons r7
    cases cst2 with
    | cons a b => exact q7.elim
    | nil =>
      cases hr1
      exact va_forget (fun q hq => r4.2.2 q hq) (W.widen (k := 600002) (n := 7302232) (by omega) (by omega) (lw_ret hx hb hr hlocks z1))
  · intro pc la v z1 z2 z3
    cases z3
  · intro pc la v z1 z2 z3
    cases z3
