theorem rx_lg_len : ∀ (cs : List Value), (lg_sl cs).length = (cs.map fun v => v.category).sum
  | [] => rfl
  | v :: cs => by
    have ih := rx_lg_len cs
    have hs : lg_sl (v :: cs) = (if v.category = 2 then [.val v, .second] else [.val v]) ++ lg_sl cs := by simp [lg_sl]
    rw [hs, List.length_append, ih, List.map_cons, List.sum_cons]
    rcases lv_cat v with h | h <;> simp [h]
theorem rx_wk_all : (List.range rc_cls.length).all rc_wok = true := by decide +kernel
theorem rx_kw1 {args : Array Value} {s : State} (hts : ∀ w ∈ rc_good, w.before args s = true) : ∀ (ci : Nat) (q : vw_C), rc_cls[ci]? = some q → (Cond.instantiable q.1 q.2.2).before args s = true ∧ (Cond.initialized q.1).before args s = true := by
  intro ci q hq
  have h1 := List.all_eq_true.mp rx_wk_all ci (List.mem_range.mpr (List.getElem?_eq_some_iff.mp hq).1)
  unfold rc_wok at h1
  rw [rx_nth_eq, hq] at h1
  split at h1
  · rename_i q2 w e1 e2
    cases e1
    rw [Bool.and_eq_true] at h1
    exact ⟨hts _ (rx_wd_mem h1.1), hts _ (rx_wd_mem h1.2)⟩
  · cases h1
theorem rx_kw2a : rx_any (.arrayClass .int) = true ∧ rx_any (.arrayClass .long) = true ∧ rx_any (.arrayClass .byte) = true ∧ rx_any (.arrayClass .boolean) = true ∧ rx_any (.instanceMethod Lib.objectInit) = true ∧ rx_any (.code Lib.objectInit ⟨#[0xb1]⟩ 1 none) = true := by decide +kernel
theorem rx_kw4a : rx_any (.native arraycopyName) = true ∧ rx_any (.static arraycopyName) = true ∧ rx_any (.initialized "java/lang/System") = true := by decide +kernel
theorem rx_kw4 {args : Array Value} {s : State} (hts : ∀ w ∈ rc_good, w.before args s = true) : (Cond.native arraycopyName).before args s = true ∧ (Cond.static arraycopyName).before args s = true ∧ (Cond.initialized "java/lang/System").before args s = true := ⟨hts _ (rx_any_mem rx_kw4a.1), hts _ (rx_any_mem rx_kw4a.2.1), hts _ (rx_any_mem rx_kw4a.2.2)⟩
theorem rx_kw2 {args : Array Value} {s : State} (hts : ∀ w ∈ rc_good, w.before args s = true) : ∀ ty, ty ∈ rc_arr → ty ≠ .object RX4 → ty ≠ .object RX9 → (Cond.arrayClass ty).before args s = true := by
  intro ty hty h1 h2
  obtain ⟨a1, a2, a3, a4, -, -⟩ := rx_kw2a
  simp only [rc_arr, List.mem_cons, List.not_mem_nil, or_false] at hty
  rcases hty with rfl | rfl | rfl | rfl | rfl | rfl
  · exact hts _ (rx_any_mem a1)
  · exact hts _ (rx_any_mem a2)
  · exact hts _ (rx_any_mem a3)
  · exact hts _ (rx_any_mem a4)
  · exact absurd rfl h1
  · exact absurd rfl h2
theorem rx_kw3 {args : Array Value} {s : State} (hts : ∀ w ∈ rc_good, w.before args s = true) : (Cond.instanceMethod Lib.objectInit).before args s = true ∧ (Cond.code Lib.objectInit ⟨#[0xb1]⟩ 1 none).before args s = true := ⟨hts _ (rx_any_mem rx_kw2a.2.2.2.2.1), hts _ (rx_any_mem rx_kw2a.2.2.2.2.2)⟩
/-- a body that may throw, of a member that the machine has no entry for -/
theorem rx_ofWF {l : Launch} {y : MethodName} {ws ws' : List Jvm.Cond} {rm : Room} {Pc : Array Value → State → Prop} {Qc : Array Value → State → Outcome → State → Prop} {XC : String → State → State → Prop} {mc ms : Nat} {free : Addr → Prop} {cc : ByteArray} {maxL : Nat} {ret : Option FieldType}
    (hy : plainFor y = true) (hw : ws = Cond.code y cc maxL ret :: ws')
    (body : ∀ p e s m args below meth c s₁, BodyLoose p l y (headSpec ws rm) cc maxL ret e s m args below meth c s₁ → c.maxLocals = maxL → (∀ x ∈ c.exceptionTable.toList, False) → Pc args s →
      W p l e (headSpec ws rm).room s m args below meth c s.heap [] 0 0 (vx_MQ below Qc XC args s mc ms free) (entryFrame m args maxL)) : vx_Met l y ws rm Pc Qc XC mc ms free := by
  refine MetFree.of_bodySF (code := cc) (maxLocals := maxL) (ret := ret) hy ?_ ?_
  · intro args s m h hn
    obtain ⟨meth, c, h1, h2, h3, h4, h5, h6, -, -⟩ := Cond.code_spec hn (atoms_spec (ws := ws) h _ (by rw [hw]; exact List.mem_cons_self))
    exact ⟨meth, c, h1, h2, h3, h4, h5, h6⟩
  · intro p e s m args below meth c s₁ B hml hP _
    have hh0 : s₁.heap = s.heap := by rw [B.state]; rfl
    have ht : ∀ x ∈ c.exceptionTable.toList, False := by
      obtain ⟨meth9, c9, h1, h2, -, -, -, -, h7, -⟩ := Cond.code_spec B.named (atoms_spec (ws := ws) B.pre _ (by rw [hw]; exact List.mem_cons_self))
      cases Option.some.inj (h1.symm.trans B.method)
      cases Option.some.inj (h2.symm.trans (Stand.of_body B).code)
      intro x hx
      rw [Array.isEmpty_iff.mp h7] at hx
      cases hx
    obtain ⟨t, a1, o, b1, b2, b3⟩ := body p e s m args below meth c s₁ B hml ht hP s₁ hh0 (Stand.of_body B)
    exact ⟨t, o, a1, b1, b2, b3⟩
theorem rx_Qc_of {D : va_G} {cA : Nat → ClassId} {A : Nat → Prop} {old : Nat → Nat} {rho : UInt32 → Int32} {s t : State} {H : Heap} {locs : List Loc} {ws : va_W} {ad : List Nat} {hf : RHeap} {v : Option Value} {cv : Option Value} {a : Array Value} (r1 : rx_RW old rho cA (ws.map (·.1)) hf ws) (r2 : va_P D rc_cls ws H) (r3 : va_D A ws) (r4 : va_S A s.heap H locs) (r8 : ∃ l, ws.map (·.1) = ad ++ l) (hv : rx_RO old rho (ws.map (·.1)) v cv) (ht : t.heap = H) : rx_Qc D cA A old rho v hf ad a s (.returned cv) t := by
  obtain ⟨l, hl⟩ := r8
  exact ⟨⟨cv, ws, l, rfl, by rw [← hl]; exact hv, hl, by rw [← hl]; exact r1, by rw [ht]; exact r2, r3⟩, r4.F ht⟩
theorem rx_hatA1 : ((vx_atS RX11 68 "java/lang/IllegalArgumentException" ["java/lang/RuntimeException", "java/lang/Exception"]).filter goodWord).all rx_any = true := by decide +kernel
theorem rx_hatB1 : ((vx_atS RX11 68 "java/lang/IllegalArgumentException" ["java/lang/RuntimeException", "java/lang/Exception"]).filter (fun w => !goodWord w)).all (fun w => decide (w ∈ ([.declares ⟨"java/lang/RuntimeException", "<init>", "(Ljava/lang/String;)V"⟩, .declares ⟨"java/lang/Exception", "<init>", "(Ljava/lang/String;)V"⟩, .declares ⟨"java/lang/Throwable", "<init>", "(Ljava/lang/String;)V"⟩, .castable "java/lang/IllegalArgumentException" "java/lang/IllegalArgumentException"] : List Jvm.Cond))) = true := by decide +kernel
theorem rx_hatC1 : (vx_atS RX11 68 "java/lang/IllegalArgumentException" ["java/lang/RuntimeException", "java/lang/Exception"]).all vx_ot = true ∧ rx_any (.initialized "java/lang/IllegalArgumentException") = true := by decide +kernel
theorem rx_hat1 {O : ROld} {D : va_G} {cA : Nat → ClassId} {A : Nat → Prop} {old : Nat → Nat} {rho : UInt32 → Int32} {s : State} {args : Array Value} (hE : rx_E O D cA A old rho s) (hts : ∀ w ∈ rc_good, w.before args s = true) : ∀ w ∈ vx_atS RX11 68 "java/lang/IllegalArgumentException" ["java/lang/RuntimeException", "java/lang/Exception"], w.before args s = true := by
  obtain ⟨h1, h2, h3, h4, h5, h6, h7, h8, h9, h10, h11, h12, h13, h14, h15, h16, h17, h18, h19, h20, h21, h22, h23, h24⟩ := hE
  refine vx_hat (fun w hw => hts _ (rx_any_mem (List.all_eq_true.mp rx_hatA1 w hw))) (fun w hw => of_decide_eq_true (List.all_eq_true.mp rx_hatB1 w hw)) ?_
  exact vx_c (h22.use rfl) (vx_c (h23.use rfl) (vx_c (h24.use rfl) (vx_c (h14.use rfl) vx_n)))
theorem rx_hatA2 : ((vx_atS RX10 152 "java/lang/IllegalStateException" ["java/lang/RuntimeException", "java/lang/Exception"]).filter goodWord).all rx_any = true := by decide +kernel
theorem rx_hatB2 : ((vx_atS RX10 152 "java/lang/IllegalStateException" ["java/lang/RuntimeException", "java/lang/Exception"]).filter (fun w => !goodWord w)).all (fun w => decide (w ∈ ([.declares ⟨"java/lang/RuntimeException", "<init>", "(Ljava/lang/String;)V"⟩, .declares ⟨"java/lang/Exception", "<init>", "(Ljava/lang/String;)V"⟩, .declares ⟨"java/lang/Throwable", "<init>", "(Ljava/lang/String;)V"⟩, .castable "java/lang/IllegalStateException" "java/lang/IllegalStateException"] : List Jvm.Cond))) = true := by decide +kernel
theorem rx_hatC2 : (vx_atS RX10 152 "java/lang/IllegalStateException" ["java/lang/RuntimeException", "java/lang/Exception"]).all vx_ot = true ∧ rx_any (.initialized "java/lang/IllegalStateException") = true := by decide +kernel
theorem rx_hat2 {O : ROld} {D : va_G} {cA : Nat → ClassId} {A : Nat → Prop} {old : Nat → Nat} {rho : UInt32 → Int32} {s : State} {args : Array Value} (hE : rx_E O D cA A old rho s) (hts : ∀ w ∈ rc_good, w.before args s = true) : ∀ w ∈ vx_atS RX10 152 "java/lang/IllegalStateException" ["java/lang/RuntimeException", "java/lang/Exception"], w.before args s = true := by
  obtain ⟨h1, h2, h3, h4, h5, h6, h7, h8, h9, h10, h11, h12, h13, h14, h15, h16, h17, h18, h19, h20, h21, h22, h23, h24⟩ := hE
  refine vx_hat (fun w hw => hts _ (rx_any_mem (List.all_eq_true.mp rx_hatA2 w hw))) (fun w hw => of_decide_eq_true (List.all_eq_true.mp rx_hatB2 w hw)) ?_
  exact vx_c (h22.use rfl) (vx_c (h23.use rfl) (vx_c (h24.use rfl) (vx_c (h15.use rfl) vx_n)))
