section Calls15
variable {p : Program} {l : Launch} {e : Env} {R : Room} {s : State} {m : MethodId} {args : Array Value} {below : List Frame} {meth : Method} {c : Code} {Q : State → Prop} {cc : ByteArray} {D : va_G} {cA : Nat → ClassId} {A : Nat → Prop} {old : Nat → Nat} {rho : UInt32 → Int32} {nL MC MS pc mc ms : Nat} {ad0 : List Nat} {la : RLoc} {st : List Value} {h : RHeap} {O : ROld} {own C : String} {index n : Nat} {Ts : List Jvm.Cond}
theorem rg_callSW {y : MethodName} {bytes : ByteArray} {maxL : Nat} {ret : Option FieldType} {ws9 : List Cond} {d mc2 ms2 : Nat} {as r : List Value} {v : Option Value} {h2 : RHeap} {hh9 : List (Nat × Nat × Nat × Nat)} (hS : CallFix p m c cc nL s args Ts own) (hE : rx_E O D cA A old rho s) (hM : ∀ ad, Met l y ws9 (rx_rm d mc2 ms2) (rx_Pc O D cA A old rho as h ad) (rx_Qc D cA A old rho v h2 ad) mc2 ms2 A) (cw : vx_CSW R s args own index y bytes maxL ret hh9 ws9 (rx_rm d mc2 ms2) mc2 ms2 n) (hMC : MC ≤ R.cells) (hMS : MS ≤ R.slots) (htk : rx_take n [] st = some (as, r)) (hdg : decode cc pc = .ok (.invokestatic index, 3)) (hst : rx_cats r ≤ 8) (kk : rx_G p l e R s m args below meth c Q D cA A old rho nL MC MS ad0 (pc + 3) la (v.toList ++ r) h2 mc ms) : rx_G p l e R s m args below meth c Q D cA A old rho nL MC MS ad0 pc la st h (mc + mc2) (ms + ms2) := by
  intro H locs ls cst cells slots hR h1 h2e
  obtain ⟨ws, lc, r1, r2, r3, r4, r5, r6, r7, r8⟩ := hR
  obtain ⟨cs, cr, rfl, t2, t3, t4⟩ := rx_take_of htk (cacc := []) trivial r7
  simp only [List.append_nil] at t2
  have hpc : ∀ U : State, U.heap = H → s.WarmedH U.vm → rx_Pc O D cA A old rho as h (ws.map (·.1)) (cs.reverse).toArray U := fun U hU hW => ⟨_, ws, rfl, rfl, t2, r1, by rw [hU]; exact r2, r3, hE.to hW (by rw [hU]; exact r4.1) (fun a g1 g2 => by rw [hU]; exact r4.2.1 a g1 g2)⟩
  have hq := t3.cats
  refine rg_after (mc2 := mc2) (ms2 := ms2) (vx_runSW (As := cs.reverse) (rest := cr) hS (hM _) cw ⟨rx_Pc.blind, hpc⟩ (g := F0 m pc ls (cs ++ cr)) rfl (by rw [List.length_reverse]; exact t4) r5.1 (by rw [List.reverse_reverse]) (lv_room (by rw [← hq]; exact hst)) hdg ⟨by omega, by omega⟩) r4 r5 r6 t3 r8 h1 h2e kk
theorem rg_callVW {y : MethodName} {bytes : ByteArray} {maxL : Nat} {ret : Option FieldType} {ws9 : List Cond} {d mc2 ms2 : Nat} {as r : List Value} {v : Option Value} {h2 : RHeap} {hh9 : List (Nat × Nat × Nat × Nat)} {k : Nat} (hS : CallFix p m c cc nL s args Ts own) (hE : rx_E O D cA A old rho s) (hM : ∀ ad, Met l y ws9 (rx_rm d mc2 ms2) (rx_Pc O D cA A old rho (.ref k :: as) h ad) (rx_Qc D cA A old rho v h2 ad) mc2 ms2 A) (cw : vx_CVW R s args own C index y bytes maxL ret hh9 ws9 (rx_rm d mc2 ms2) mc2 ms2 n) (hMC : MC ≤ R.cells) (hMS : MS ≤ R.slots) (htk : rx_take n [] st = some (as, .ref k :: r)) (hrv : ∀ (ws : va_W) (H : Heap) (locs : List Loc) (cb : Value), rx_RW old rho cA (ws.map (·.1)) h ws → va_P D rc_cls ws H → va_S A s.heap H locs → rx_R old rho (ws.map (·.1)) (.ref k) cb → ∃ cell : Cell, ∀ b, cb = .ref b → H[b]? = some cell ∧ cell.vm.isStatics = false ∧ s.vm.findClass C = some cell.cls) (hk : k < 2000000) (hdg : decode cc pc = .ok (.invokevirtual index, 3)) (hst : rx_cats r ≤ 8) (kk : rx_G p l e R s m args below meth c Q D cA A old rho nL MC MS ad0 (pc + 3) la (v.toList ++ r) h2 mc ms) : rx_G p l e R s m args below meth c Q D cA A old rho nL MC MS ad0 pc la st h (mc + mc2) (ms + ms2) := by
  intro H locs ls cst cells slots hR h1 h2e
  obtain ⟨ws, lc, r1, r2, r3, r4, r5, r6, r7, r8⟩ := hR
  obtain ⟨cs, cr, rfl, t2, t3, t4⟩ := rx_take_of htk (cacc := []) trivial r7
  simp only [List.append_nil] at t2
  obtain ⟨cb, cr2, rfl, hr, q7⟩ := rx_RL.uncons t3
  have hb2 : ∃ b, cb = .ref b := by
    rcases hr with ⟨h9, -⟩ | ⟨-, -, h9⟩ | ⟨-, b, -, h9⟩
    · exact absurd hk (Nat.not_lt.mpr h9)
    · exact ⟨_, h9⟩
    · exact ⟨_, h9⟩
  obtain ⟨b, rfl⟩ := hb2
  have hpc : ∀ U : State, U.heap = H → s.WarmedH U.vm → rx_Pc O D cA A old rho (.ref k :: as) h (ws.map (·.1)) (Value.ref b :: cs.reverse).toArray U := fun U hU hW => ⟨_, ws, rfl, rfl, ⟨hr, t2⟩, r1, by rw [hU]; exact r2, r3, hE.to hW (by rw [hU]; exact r4.1) (fun a g1 g2 => by rw [hU]; exact r4.2.1 a g1 g2)⟩
  have hq := q7.cats
  obtain ⟨cell, hcell⟩ := hrv ws H locs _ r1 r2 r4 hr
  refine rg_after (mc2 := mc2) (ms2 := ms2) (vx_runVW (As := cs.reverse) (rest := cr2) hS (hM _) cw ⟨rx_Pc.blind, ⟨cell, hcell b rfl⟩, hpc⟩ (g := F0 m pc ls (cs ++ .ref b :: cr2)) rfl (by rw [List.length_reverse]; exact t4) r5.1 (by rw [List.reverse_reverse]) (lv_room (by rw [← hq]; exact hst)) hdg ⟨by omega, by omega⟩) r4 r5 r6 q7 r8 h1 h2e kk
/-- what a thrown exception leaves -/
def rx_XN (E : Nat) : String := match E with
  | 1 => "java/lang/IllegalArgumentException"
  | _ => "java/lang/IllegalStateException"
def rx_XC (D : va_G) (cA : Nat → ClassId) (A : Nat → Prop) (old : Nat → Nat) (rho : UInt32 → Int32) (E : Nat) (h : RHeap) (ad : List Nat) : String → State → State → Prop := fun nm st t =>
  nm = rx_XN E ∧ (∃ (ws : va_W) (l : List Nat), ws.map (·.1) = ad ++ l ∧ rx_RW old rho cA (ad ++ l) h ws ∧ va_P D rc_cls ws t.heap ∧ va_D A ws) ∧ va_F A st t
def rx_CS (l : Launch) (O : ROld) (D : va_G) (cA : Nat → ClassId) (A : Nat → Prop) (old : Nat → Nat) (rho : UInt32 → Int32) (sg : RSig) (d : Nat) (as : List Value) (h : RHeap) : RRes → Prop
  | (.inl v, h2, mc, ms) => ∀ ad, Met l sg.1 (rx_cw sg :: rc_good) (rx_rm d mc ms) (rx_Pc O D cA A old rho as h ad) (rx_Qc D cA A old rho v h2 ad) mc ms A
  | (.inr E, h2, mc, ms) => ∀ ad, vx_Met l sg.1 (rx_cw sg :: rc_good) (rx_rm d mc ms) (rx_Pc O D cA A old rho as h ad) (fun _ _ _ _ => False) (rx_XC D cA A old rho E h2 ad) mc ms A
/-- a call that throws: what holds where the exception lies over the frame -/
theorem rg_callX {y : MethodName} {bytes : ByteArray} {maxL : Nat} {ret : Option FieldType} {ws9 : List Cond} {d mc2 ms2 : Nat} {as r : List Value} {h2 : RHeap} {k E : Nat} (hS : CallFix p m c cc nL s args Ts own) (hE : rx_E O D cA A old rho s) (hM : ∀ ad, vx_Met l y ws9 (rx_rm d mc2 ms2) (rx_Pc O D cA A old rho (.ref k :: as) h ad) (fun _ _ _ _ => False) (rx_XC D cA A old rho E h2 ad) mc2 ms2 A) (cw : CallW R s args own C index y bytes maxL ret ws9 (rx_rm d mc2 ms2) mc2 ms2 n) (hMC : MC ≤ R.cells) (hMS : MS ≤ R.slots) (htk : rx_take n [] st = some (as, .ref k :: r)) (hrv : ∀ (ws : va_W) (H : Heap) (locs : List Loc) (cb : Value), rx_RW old rho cA (ws.map (·.1)) h ws → va_P D rc_cls ws H → va_S A s.heap H locs → rx_R old rho (ws.map (·.1)) (.ref k) cb → ∃ cell : Cell, ∀ b, cb = .ref b → H[b]? = some cell ∧ cell.vm.isStatics = false ∧ s.vm.findClass C = some cell.cls) (hk : k < 2000000) (hdg : decode cc pc = .ok (.invokevirtual index, 3)) (hst : rx_cats r ≤ 8)
    (kk : ∀ (H : Heap) (locs : List Loc) (ls : Array Slot) (rest : List Value) (cells slots : Nat) (ws : va_W) (lc : RLoc) (q : Addr) (ce : Cell), rx_RW old rho cA (ws.map (·.1)) h2 ws → va_P D rc_cls ws H → va_D A ws → va_S A s.heap H locs → lv_has ls nL lc → rx_RC old rho (ws.map (·.1)) la lc → (∃ l, ws.map (·.1) = ad0 ++ l) → H[q]? = some ce → ce.vm = .none → s.vm.findClass (rx_XN E) = some ce.cls → cells + mc = MC → slots + ms = MS → vx_W p l e R s m args below meth c H locs cells slots Q (F0 m pc ls rest) q) : rx_G p l e R s m args below meth c Q D cA A old rho nL MC MS ad0 pc la st h (mc + mc2) (ms + ms2) := by
  intro H locs ls cst cells slots hR h1 h2e
  obtain ⟨ws, lc, r1, r2, r3, r4, r5, r6, r7, r8⟩ := hR
  obtain ⟨cs, cr, rfl, t2, t3, t4⟩ := rx_take_of htk (cacc := []) trivial r7
  simp only [List.append_nil] at t2
  obtain ⟨cb, cr2, rfl, hr, q7⟩ := rx_RL.uncons t3
  have hb2 : ∃ b, cb = .ref b := by
    rcases hr with ⟨h9, -⟩ | ⟨-, -, h9⟩ | ⟨-, b, -, h9⟩
    · exact absurd hk (Nat.not_lt.mpr h9)
    · exact ⟨_, h9⟩
    · exact ⟨_, h9⟩
  obtain ⟨b, rfl⟩ := hb2
  have hpc : ∀ U : State, U.heap = H → s.WarmedH U.vm → rx_Pc O D cA A old rho (.ref k :: as) h (ws.map (·.1)) (Value.ref b :: cs.reverse).toArray U := fun U hU hW => ⟨_, ws, rfl, rfl, ⟨hr, t2⟩, r1, by rw [hU]; exact r2, r3, hE.to hW (by rw [hU]; exact r4.1) (fun a g1 g2 => by rw [hU]; exact r4.2.1 a g1 g2)⟩
  have hq := q7.cats
  obtain ⟨cell, hcell⟩ := hrv ws H locs _ r1 r2 r4 hr
  have hrun := vx_runV (As := cs.reverse) (rest := cr2) (H := H) (locs := locs) (cells := cells) (slots := slots) (below := below) (meth := meth) (e := e) hS (hM (ws.map (·.1))) cw ⟨rx_Pc.blind, ⟨cell, hcell b rfl⟩, hpc⟩ (g := F0 m pc ls (cs ++ .ref b :: cr2)) rfl (by rw [List.length_reverse]; exact t4) r5.1 (by rw [List.reverse_reverse]) (lv_room (by rw [← hq]; exact hst)) hdg ⟨by omega, by omega⟩
  intro T hT X
  rcases hrun T hT X with ⟨v9, st₀, t, T', L, -, -, -, -, -, hF, -⟩ | ⟨q, st₀, t, T', L, E9, ce, h0, X', hL, e1, e2, ⟨hE9, ⟨ws2, l9, g2, g3, g4, g5⟩, hz, hkk⟩, hce, hcv, hcl, st⟩
  · exact hF.elim
  · subst hE9
    rw [h0] at hz hkk
    obtain ⟨t2, a1, b1⟩ := kk T'.heap (locs ++ L) ls cr2 (cells + mc2) (slots + ms2) ws2 lc q ce (by rw [g2]; exact g3) (by rw [e1]; exact g4) g5
      ⟨Nat.le_trans r4.1 (by rw [e1]; exact hz), fun q h1 h2 => by rw [e1, hkk q (Nat.lt_of_lt_of_le h1 r4.1) h2]; exact r4.2.1 q h1 h2, fun q hq => by
        rcases List.mem_append.mp hq with h | h
        · exact r4.2.2 q h
        · exact hL q h⟩ r5 (by rw [g2]; exact r6.more) (by obtain ⟨l8, h8⟩ := r8; exact ⟨l8 ++ l9, by rw [g2, h8, List.append_assoc]⟩) (by rw [e1]; exact hce) hcv hcl (by omega) (by omega) T' rfl X'
    exact ⟨t2, st.trans a1, b1⟩
end Calls15
