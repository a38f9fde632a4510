/-! what holds at the entry of each method; contracts -/
def rx_E (O : ROld) (D : va_G) (cA : Nat → ClassId) (A : Nat → Prop) (old : Nat → Nat) (rho : UInt32 → Int32) (U : State) : Prop :=
  va_K D rc_cls (rx_tys cA) U ∧ (∀ q, U.heap.size ≤ q → A q) ∧
  (∀ q ∈ O.1, ∃ (C : String) (T : u_T) (N : Nat) (cv : Value), rc_cls[q.2.1]? = some (C, T, N) ∧ va_OF (T q.2.2.1).1 (T q.2.2.1).2.1 (T q.2.2.1).2.2.1 cv (old q.1) A U U.heap ∧ va_O C (old q.1) A U U.heap ∧ ∀ ads, rx_R old rho ads q.2.2.2 cv) ∧
  (∀ q ∈ O.2, ∃ (ty : FieldType) (f : Nat → Value), rc_arr[q.2.1]? = some ty ∧ va_T ty (old q.1) q.2.2.length f A U U.heap ∧ ∀ (i : Nat) (v : Value), q.2.2[i]? = some v → ∀ ads, rx_R old rho ads v (f i)) ∧
  va_Z "java/lang/String" "COMPACT_STRINGS" "Z" (.int 1) A U U.heap ∧ va_Zq "jdk/internal/util/Preconditions" "SIOOBE_FORMATTER" "Ljava/util/function/BiFunction;" A U U.heap ∧
  va_AO RX4 U ∧ va_AO RX9 U ∧ va_Nw (.methodLinkNest RX11 9 ⟨RX8, "<init>", "()V"⟩ RX11) U ∧ va_Nw (.methodLinkNest RX11 30 ⟨RX1, "<init>", "()V"⟩ RX11) U ∧ va_Nw (.methodLinkNest RX3 11 ⟨RX8, "<init>", "()V"⟩ RX11) U ∧
  vk_R RX10 33 "const type var procedure function begin end if then else while do repeat until for to downto case of array set div mod and or not in read write writeln" (old 1) U ∧ vk_R RX5 55 "integer char boolean false true ord chr succ pred odd abs sqr eof eoln" (old 3) U ∧
  va_Nw (.castable "java/lang/IllegalArgumentException" "java/lang/IllegalArgumentException") U ∧ va_Nw (.castable "java/lang/IllegalStateException" "java/lang/IllegalStateException") U ∧ vx_Zq Bundle.tN "UNASSIGNED_STACK" Bundle.steD A U U.heap ∧ vx_Zq Bundle.tN "SUPPRESSED_SENTINEL" Bundle.listD A U U.heap ∧
  vk_R RX11 66 "n is not 1 to 8" (old 10) U ∧ vk_R RX11 113 "steps is not 0 to 20000" (old 11) U ∧ vk_R RX11 144 "what is not 0 to 3" (old 12) U ∧ vk_R RX10 150 "a fault" (old 13) U ∧
  va_Nw (.declares ⟨"java/lang/RuntimeException", "<init>", "(Ljava/lang/String;)V"⟩) U ∧ va_Nw (.declares ⟨"java/lang/Exception", "<init>", "(Ljava/lang/String;)V"⟩) U ∧ va_Nw (.declares ⟨"java/lang/Throwable", "<init>", "(Ljava/lang/String;)V"⟩) U
theorem rx_E.to {O : ROld} {D : va_G} {cA : Nat → ClassId} {A : Nat → Prop} {old : Nat → Nat} {rho : UInt32 → Int32} {s U : State} (h : rx_E O D cA A old rho s) (hW : s.WarmedH U.vm) (hz : s.heap.size ≤ U.heap.size) (hq : ∀ a : Nat, a < s.heap.size → ¬ A a → U.heap[a]? = s.heap[a]?) : rx_E O D cA A old rho U := by
  obtain ⟨h1, h2, h3, h4, h5, h6, h7, h8, h9, h10, h11, h12, h13, h14, h15, h16, h17, h18, h19, h20, h21, h22, h23, h24⟩ := h
  refine ⟨h1.moved hW.alike, fun q hq => h2 q (Nat.le_trans hz hq), fun q hqO => ?_, fun q hqO => ?_, (h5.moved hW.alike).kept hq, (h6.moved hW.alike).kept hq, h7.moved hW.alike, h8.moved hW.alike, h9.warmM hW, h10.warmM hW, h11.warmM hW, h12.warm hW, h13.warm hW, h14.warmC hW, h15.warmC hW, (h16.moved hW.alike).kept hq, (h17.moved hW.alike).kept hq, h18.warm hW, h19.warm hW, h20.warm hW, h21.warm hW, h22.warmD hW, h23.warmD hW, h24.warmD hW⟩
  · obtain ⟨C, T, N, cv, g1, g2, g3, g4⟩ := h3 q hqO
    exact ⟨C, T, N, cv, g1, (g2.moved hW.alike).kept hq, (g3.moved hW.alike).kept hq, g4⟩
  · obtain ⟨ty, f, g1, g2, g3⟩ := h4 q hqO
    exact ⟨ty, f, g1, (g2.moved hW.alike).kept hq, g3⟩
def rx_rm (d mc ms : Nat) : Room := { frames := d + 10, cells := mc, slots := ms, locals := 64 * d + 200 }
def rx_Pc (O : ROld) (D : va_G) (cA : Nat → ClassId) (A : Nat → Prop) (old : Nat → Nat) (rho : UInt32 → Int32) (as : List Value) (h : RHeap) (ad : List Nat) : Array Value → State → Prop := fun v U =>
  ∃ (cs : List Value) (ws : va_W), v = cs.toArray ∧ ws.map (·.1) = ad ∧ rx_RL old rho ad as cs ∧ rx_RW old rho cA ad h ws ∧ va_P D rc_cls ws U.heap ∧ va_D A ws ∧ rx_E O D cA A old rho U
def rx_RO (old : Nat → Nat) (rho : UInt32 → Int32) (ads : List Nat) : Option Value → Option Value → Prop
  | none, none => True
  | some a, some c => rx_R old rho ads a c
  | _, _ => False
def rx_Qc (D : va_G) (cA : Nat → ClassId) (A : Nat → Prop) (old : Nat → Nat) (rho : UInt32 → Int32) (v : Option Value) (h : RHeap) (ad : List Nat) : Array Value → State → Outcome → State → Prop := fun _ st o t =>
  (∃ (cv : Option Value) (ws : va_W) (l : List Nat), o = .returned cv ∧ rx_RO old rho (ad ++ l) v cv ∧ ws.map (·.1) = ad ++ l ∧ rx_RW old rho cA (ad ++ l) h ws ∧ va_P D rc_cls ws t.heap ∧ va_D A ws) ∧ va_F A st t
theorem rx_Pc.blind {O : ROld} {D : va_G} {cA : Nat → ClassId} {A : Nat → Prop} {old : Nat → Nat} {rho : UInt32 → Int32} {as : List Value} {h : RHeap} {ad : List Nat} : FrameBlind (rx_Pc O D cA A old rho as h ad) := by
  intro a U g mk hp
  obtain ⟨cs, ws, q1, q2, q3, q4, q5, q6, q7⟩ := hp
  exact ⟨cs, ws, q1, q2, q3, q4, q5, q6, q7.to (State.WarmedH.refl U) (Nat.le_refl _) (fun _ _ _ => rfl)⟩
theorem rx_take_of {old : Nat → Nat} {rho : UInt32 → Int32} {ads : List Nat} : ∀ {n : Nat} {acc cacc st cst as r : List Value}, rx_take n acc st = some (as, r) → rx_RL old rho ads acc cacc → rx_RL old rho ads st cst → ∃ cs cr, cst = cs ++ cr ∧ rx_RL old rho ads as (cs.reverse ++ cacc) ∧ rx_RL old rho ads r cr ∧ cs.length = n
  | 0, acc, cacc, st, cst, as, r, h, ha, hs => by
    simp only [rx_take, Option.some.injEq, Prod.mk.injEq] at h
    obtain ⟨rfl, rfl⟩ := h
    exact ⟨[], cst, rfl, ha, hs, rfl⟩
  | n + 1, acc, cacc, v :: st, c :: cst, as, r, h, ha, hs => by
    simp only [rx_take] at h
    obtain ⟨cs, cr, e1, e2, e3, e4⟩ := rx_take_of (cacc := c :: cacc) h ⟨hs.1, ha⟩ hs.2
    exact ⟨c :: cs, cr, by rw [e1]; rfl, by simpa using e2, e3, by simp [e4]⟩
  | n + 1, acc, cacc, v :: st, [], as, r, h, ha, hs => hs.elim
  | n + 1, acc, cacc, [], cst, as, r, h, ha, hs => by simp [rx_take] at h
section Calls9
variable {p : Program} {l : Launch} {e : Env} {R : Room} {s : State} {m : MethodId} {args : Array Value} {below : List Frame} {meth : Method} {c : Code} {Q : State → Prop} {cc : ByteArray} {D : va_G} {cA : Nat → ClassId} {A : Nat → Prop} {old : Nat → Nat} {rho : UInt32 → Int32} {nL MC MS pc mc ms : Nat} {ad0 : List Nat} {la : RLoc} {st : List Value} {h : RHeap} {O : ROld} {own C : String} {index n : Nat} {Ts : List Cond}
/-- a call that has come back -/
theorem rg_back {v : Option Value} {h2 : RHeap} {ad : List Nat} {H : Heap} {locs : List Loc} {ls : Array Slot} {cells slots mc2 ms2 : Nat} {st0 rest : List Value} {a : Array Value} (hr : va_Run p l e R s m args below meth c H locs cells slots mc2 ms2 (F0 m pc ls st0) rest (rx_Qc D cA A old rho v h2 ad a) A) (hS : va_S A s.heap H locs)
    (kk : ∀ (cv : Option Value) (ws : va_W) (l9 : List Nat) (H1 : Heap) (locs1 : List Loc), rx_RO old rho (ad ++ l9) v cv → ws.map (·.1) = ad ++ l9 → rx_RW old rho cA (ad ++ l9) h2 ws → va_P D rc_cls ws H1 → va_D A ws → va_S A s.heap H1 locs1 → W p l e R s m args below meth c H1 locs1 (cells + mc2) (slots + ms2) Q (F0 m (pc + 3) ls (cv.toList ++ rest))) : W p l e R s m args below meth c H locs cells slots Q (F0 m pc ls st0) := by
  intro T hT X
  obtain ⟨v9, st₀, t, T', L, h0, X', hL, e1, e2, ⟨⟨cv, ws, l9, hv, q1, q2, q3, q4, q5⟩, hz, hk⟩, st⟩ := hr T hT X
  cases hv
  rw [h0] at hz hk
  obtain ⟨t2, a1, b1⟩ := kk v9 ws l9 T'.heap (locs ++ L) q1 q2 q3 (by rw [e1]; exact q4) q5
    ⟨Nat.le_trans hS.1 (by rw [e1]; exact hz), fun q h1 h2 => by rw [e1, hk q (Nat.lt_of_lt_of_le h1 hS.1) h2]; exact hS.2.1 q h1 h2, fun q hq => by
      rcases List.mem_append.mp hq with h | h
      · exact hS.2.2 q h
      · exact hL q h⟩ T' rfl X'
  exact ⟨t2, st t2 a1, b1⟩
/-- the frame behind a call that has come back -/
theorem rg_after {v : Option Value} {h2 : RHeap} {H : Heap} {locs : List Loc} {ls : Array Slot} {cells slots mc2 ms2 : Nat} {st0 rest : List Value} {r : List Value} {a : Array Value} {ws : va_W} {lc : RLoc} (hr : va_Run p l e R s m args below meth c H locs cells slots mc2 ms2 (F0 m pc ls st0) rest (rx_Qc D cA A old rho v h2 (ws.map (·.1)) a) A) (r4 : va_S A s.heap H locs) (r5 : lv_has ls nL lc) (r6 : rx_RC old rho (ws.map (·.1)) la lc) (q7 : rx_RL old rho (ws.map (·.1)) r rest) (r8 : ∃ l, ws.map (·.1) = ad0 ++ l) (h1 : cells + (mc + mc2) = MC) (h2e : slots + (ms + ms2) = MS)
    (kk : rx_G p l e R s m args below meth c Q D cA A old rho nL MC MS ad0 (pc + 3) la (v.toList ++ r) h2 mc ms) : W p l e R s m args below meth c H locs cells slots Q (F0 m pc ls st0) := by
  refine rg_back hr r4 (fun cv ws2 l9 H1 locs1 g1 g2 g3 g4 g5 g6 => kk H1 locs1 ls _ (cells + mc2) (slots + ms2) ⟨ws2, lc, by rw [g2]; exact g3, g4, g5, g6, r5, by rw [g2]; exact r6.more, ?_, ?_⟩ (by omega) (by omega))
  · rw [g2]
    cases v with
    | none =>
      cases cv with
      | none => exact q7.more
      | some c => exact g1.elim
    | some a9 =>
      cases cv with
      | none => exact g1.elim
      | some c => exact ⟨g1, q7.more⟩
  · obtain ⟨l8, h8⟩ := r8
    exact ⟨l8 ++ l9, by rw [g2, h8, List.append_assoc]⟩
theorem rg_callS {y : MethodName} {bytes : ByteArray} {maxL : Nat} {ret : Option FieldType} {ws9 : List Cond} {d mc2 ms2 : Nat} {as r : List Value} {v : Option Value} {h2 : RHeap} (hS : CallFix p m c cc nL s args Ts own) (hE : rx_E O D cA A old rho s) (hM : ∀ ad, Met l y ws9 (rx_rm d mc2 ms2) (rx_Pc O D cA A old rho as h ad) (rx_Qc D cA A old rho v h2 ad) mc2 ms2 A) (cw : CallB R s args own index y bytes maxL ret ws9 (rx_rm d mc2 ms2) mc2 ms2 n ∧ (Cond.static y).before args s = true) (hMC : MC ≤ R.cells) (hMS : MS ≤ R.slots) (htk : rx_take n [] st = some (as, r)) (hdg : decode cc pc = .ok (.invokestatic index, 3)) (hst : rx_cats r ≤ 8) (kk : rx_G p l e R s m args below meth c Q D cA A old rho nL MC MS ad0 (pc + 3) la (v.toList ++ r) h2 mc ms) : rx_G p l e R s m args below meth c Q D cA A old rho nL MC MS ad0 pc la st h (mc + mc2) (ms + ms2) := by
  intro H locs ls cst cells slots hR h1 h2e
  obtain ⟨ws, lc, r1, r2, r3, r4, r5, r6, r7, r8⟩ := hR
  obtain ⟨cs, cr, rfl, t2, t3, t4⟩ := rx_take_of htk (cacc := []) trivial r7
  simp only [List.append_nil] at t2
  have hpc : ∀ U : State, U.heap = H → s.WarmedH U.vm → rx_Pc O D cA A old rho as h (ws.map (·.1)) (cs.reverse).toArray U := fun U hU hW => ⟨_, ws, rfl, rfl, t2, r1, by rw [hU]; exact r2, r3, hE.to hW (by rw [hU]; exact r4.1) (fun a g1 g2 => by rw [hU]; exact r4.2.1 a g1 g2)⟩
  have hq := t3.cats
  refine rg_after (mc2 := mc2) (ms2 := ms2) (va_runS (As := cs.reverse) (rest := cr) hS (hM _) cw ⟨rx_Pc.blind, hpc⟩ (g := F0 m pc ls (cs ++ cr)) rfl (by rw [List.length_reverse]; exact t4) r5.1 (by rw [List.reverse_reverse]) (lv_room (by rw [← hq]; exact hst)) hdg ⟨by omega, by omega⟩) r4 r5 r6 t3 r8 h1 h2e kk
theorem rg_callI {y : MethodName} {bytes : ByteArray} {maxL : Nat} {ret : Option FieldType} {ws9 : List Cond} {d mc2 ms2 : Nat} {as r : List Value} {v : Option Value} {h2 : RHeap} {k : Nat} (hS : CallFix p m c cc nL s args Ts own) (hE : rx_E O D cA A old rho s) (hM : ∀ ad, Met l y ws9 (rx_rm d mc2 ms2) (rx_Pc O D cA A old rho (.ref k :: as) h ad) (rx_Qc D cA A old rho v h2 ad) mc2 ms2 A) (cw : CallB R s args own index y bytes maxL none ws9 (rx_rm d mc2 ms2) mc2 ms2 n ∧ y.name = "<init>" ∧ (Cond.instanceMethod y).before args s = true) (hMC : MC ≤ R.cells) (hMS : MS ≤ R.slots) (htk : rx_take n [] st = some (as, .ref k :: r)) (hk : k < 2000000) (hdg : decode cc pc = .ok (.invokespecial index, 3)) (hst : rx_cats r ≤ 8) (kk : rx_G p l e R s m args below meth c Q D cA A old rho nL MC MS ad0 (pc + 3) la (v.toList ++ r) h2 mc ms) : rx_G p l e R s m args below meth c Q D cA A old rho nL MC MS ad0 pc la st h (mc + mc2) (ms + ms2) := by
  intro H locs ls cst cells slots hR h1 h2e
  obtain ⟨ws, lc, r1, r2, r3, r4, r5, r6, r7, r8⟩ := hR
  obtain ⟨cs, cr, rfl, t2, t3, t4⟩ := rx_take_of htk (cacc := []) trivial r7
  simp only [List.append_nil] at t2
  obtain ⟨cb, cr2, rfl, hr, q7⟩ := rx_RL.uncons t3
  have hb2 : ∃ b, cb = .ref b := by
    rcases hr with ⟨h9, -⟩ | ⟨-, -, h9⟩ | ⟨-, b, -, h9⟩
    · exact absurd hk (Nat.not_lt.mpr h9)
    · exact ⟨_, h9⟩
    · exact ⟨_, h9⟩
  obtain ⟨b, rfl⟩ := hb2
  have hpc : ∀ U : State, U.heap = H → s.WarmedH U.vm → rx_Pc O D cA A old rho (.ref k :: as) h (ws.map (·.1)) (Value.ref b :: cs.reverse).toArray U := fun U hU hW => ⟨_, ws, rfl, rfl, ⟨hr, t2⟩, r1, by rw [hU]; exact r2, r3, hE.to hW (by rw [hU]; exact r4.1) (fun a g1 g2 => by rw [hU]; exact r4.2.1 a g1 g2)⟩
  have hq := q7.cats
  refine rg_after (mc2 := mc2) (ms2 := ms2) (va_runI (As := cs.reverse) (rest := cr2) hS (hM _) cw ⟨rx_Pc.blind, hpc⟩ (g := F0 m pc ls (cs ++ .ref b :: cr2)) rfl (by rw [List.length_reverse]; exact t4) r5.1 (by rw [List.reverse_reverse]) (lv_room (by rw [← hq]; exact hst)) hdg ⟨by omega, by omega⟩) r4 r5 r6 q7 r8 h1 h2e kk
theorem rg_callIN {y : MethodName} {bytes : ByteArray} {maxL : Nat} {ret : Option FieldType} {ws9 : List Cond} {d mc2 ms2 : Nat} {as r : List Value} {v : Option Value} {h2 : RHeap} {k : Nat} (hS : CallFix p m c cc nL s args Ts own) (hE : rx_E O D cA A old rho s) (hM : ∀ ad, Met l y ws9 (rx_rm d mc2 ms2) (rx_Pc O D cA A old rho (.ref k :: as) h ad) (rx_Qc D cA A old rho v h2 ad) mc2 ms2 A) {host : String} (cw : va_CN R s args own index y host bytes maxL none ws9 (rx_rm d mc2 ms2) mc2 ms2 n ∧ y.name = "<init>" ∧ (Cond.instanceMethod y).before args s = true) (hMC : MC ≤ R.cells) (hMS : MS ≤ R.slots) (htk : rx_take n [] st = some (as, .ref k :: r)) (hk : k < 2000000) (hdg : decode cc pc = .ok (.invokespecial index, 3)) (hst : rx_cats r ≤ 8) (kk : rx_G p l e R s m args below meth c Q D cA A old rho nL MC MS ad0 (pc + 3) la (v.toList ++ r) h2 mc ms) : rx_G p l e R s m args below meth c Q D cA A old rho nL MC MS ad0 pc la st h (mc + mc2) (ms + ms2) := by
  intro H locs ls cst cells slots hR h1 h2e
  obtain ⟨ws, lc, r1, r2, r3, r4, r5, r6, r7, r8⟩ := hR
  obtain ⟨cs, cr, rfl, t2, t3, t4⟩ := rx_take_of htk (cacc := []) trivial r7
  simp only [List.append_nil] at t2
  obtain ⟨cb, cr2, rfl, hr, q7⟩ := rx_RL.uncons t3
  have hb2 : ∃ b, cb = .ref b := by
    rcases hr with ⟨h9, -⟩ | ⟨-, -, h9⟩ | ⟨-, b, -, h9⟩
    · exact absurd hk (Nat.not_lt.mpr h9)
    · exact ⟨_, h9⟩
    · exact ⟨_, h9⟩
  obtain ⟨b, rfl⟩ := hb2
  have hpc : ∀ U : State, U.heap = H → s.WarmedH U.vm → rx_Pc O D cA A old rho (.ref k :: as) h (ws.map (·.1)) (Value.ref b :: cs.reverse).toArray U := fun U hU hW => ⟨_, ws, rfl, rfl, ⟨hr, t2⟩, r1, by rw [hU]; exact r2, r3, hE.to hW (by rw [hU]; exact r4.1) (fun a g1 g2 => by rw [hU]; exact r4.2.1 a g1 g2)⟩
  have hq := q7.cats
  refine rg_after (mc2 := mc2) (ms2 := ms2) (va_runIN (As := cs.reverse) (rest := cr2) hS (hM _) cw ⟨rx_Pc.blind, hpc⟩ (g := F0 m pc ls (cs ++ .ref b :: cr2)) rfl (by rw [List.length_reverse]; exact t4) r5.1 (by rw [List.reverse_reverse]) (lv_room (by rw [← hq]; exact hst)) hdg ⟨by omega, by omega⟩) r4 r5 r6 q7 r8 h1 h2e kk
theorem rg_callV {y : MethodName} {bytes : ByteArray} {maxL : Nat} {ret : Option FieldType} {ws9 : List Cond} {d mc2 ms2 : Nat} {as r : List Value} {v : Option Value} {h2 : RHeap} {k : Nat} (hS : CallFix p m c cc nL s args Ts own) (hE : rx_E O D cA A old rho s) (hM : ∀ ad, Met l y ws9 (rx_rm d mc2 ms2) (rx_Pc O D cA A old rho (.ref k :: as) h ad) (rx_Qc D cA A old rho v h2 ad) mc2 ms2 A) (cw : CallW R s args own C index y bytes maxL ret ws9 (rx_rm d mc2 ms2) mc2 ms2 n) (hMC : MC ≤ R.cells) (hMS : MS ≤ R.slots) (htk : rx_take n [] st = some (as, .ref k :: r)) (hrv : ∀ (ws : va_W) (H : Heap) (locs : List Loc) (cb : Value), rx_RW old rho cA (ws.map (·.1)) h ws → va_P D rc_cls ws H → va_S A s.heap H locs → rx_R old rho (ws.map (·.1)) (.ref k) cb → ∃ cell : Cell, ∀ b, cb = .ref b → H[b]? = some cell ∧ cell.vm.isStatics = false ∧ s.vm.findClass C = some cell.cls) (hk : k < 2000000) (hdg : decode cc pc = .ok (.invokevirtual index, 3)) (hst : rx_cats r ≤ 8) (kk : rx_G p l e R s m args below meth c Q D cA A old rho nL MC MS ad0 (pc + 3) la (v.toList ++ r) h2 mc ms) : rx_G p l e R s m args below meth c Q D cA A old rho nL MC MS ad0 pc la st h (mc + mc2) (ms + ms2) := by
  intro H locs ls cst cells slots hR h1 h2e
  obtain ⟨ws, lc, r1, r2, r3, r4, r5, r6, r7, r8⟩ := hR
  obtain ⟨cs, cr, rfl, t2, t3, t4⟩ := rx_take_of htk (cacc := []) trivial r7
  simp only [List.append_nil] at t2
  obtain ⟨cb, cr2, rfl, hr, q7⟩ := rx_RL.uncons t3
  have hb2 : ∃ b, cb = .ref b := by
    rcases hr with ⟨h9, -⟩ | ⟨-, -, h9⟩ | ⟨-, b, -, h9⟩
    · exact absurd hk (Nat.not_lt.mpr h9)
    · exact ⟨_, h9⟩
    · exact ⟨_, h9⟩
  obtain ⟨b, rfl⟩ := hb2
  have hpc : ∀ U : State, U.heap = H → s.WarmedH U.vm → rx_Pc O D cA A old rho (.ref k :: as) h (ws.map (·.1)) (Value.ref b :: cs.reverse).toArray U := fun U hU hW => ⟨_, ws, rfl, rfl, ⟨hr, t2⟩, r1, by rw [hU]; exact r2, r3, hE.to hW (by rw [hU]; exact r4.1) (fun a g1 g2 => by rw [hU]; exact r4.2.1 a g1 g2)⟩
  have hq := q7.cats
  obtain ⟨cell, hcell⟩ := hrv ws H locs _ r1 r2 r4 hr
  refine rg_after (mc2 := mc2) (ms2 := ms2) (va_runV (As := cs.reverse) (rest := cr2) hS (hM _) cw ⟨rx_Pc.blind, ⟨cell, hcell b rfl⟩, hpc⟩ (g := F0 m pc ls (cs ++ .ref b :: cr2)) rfl (by rw [List.length_reverse]; exact t4) r5.1 (by rw [List.reverse_reverse]) (lv_room (by rw [← hq]; exact hst)) hdg ⟨by omega, by omega⟩) r4 r5 r6 q7 r8 h1 h2e kk
end Calls9
