section CtrU
variable {l : Launch} {O : ROld} {F : RFacts} {D : va_G} {cA : Nat → ClassId} {A : Nat → Prop} {old : Nat → Nat} {rho : UInt32 → Int32} {sigs : List RSig} {P : List RInf} {steps : Nat}
/-- an exception made and thrown -/
theorem rx_throw {p : Program} {e : Env} {R : Room} {s : State} {m : MethodId} {args : Array Value} {below : List Frame} {meth : Method} {c : Code} {cc : ByteArray} {nL mc ms pc x E w : Nat} {own : String} {ad0 : List Nat} {la : RLoc} {st : List Value} {hf0 : RHeap} {Qc : Array Value → State → Outcome → State → Prop} (hl : l.stackTraces = false) (hx : p.tables.exec = Jvm.exec) (hb : c.code = cc) (hml : c.maxLocals = nL) (hlocks : meth.locks = false) (hown : s.vm.findClass own = some m.cls) (hts : ∀ w ∈ rc_good, w.before args s = true) (hE : rx_E O D cA A old rho s) (hex : ∀ x ∈ c.exceptionTable.toList, False) (hfr : 11 ≤ R.frames) (hlo : 264 ≤ R.locals) (hMC : mc ≤ R.cells) (hMS : ms ≤ R.slots)
    (hdec : decode cc pc = .ok (.new x, 3)) (hxok : rx_xok own cc (pc, .new x, 3, [7777, E, w]) = true) (hst : st = []) : rx_G p l e R s m args below meth c (vx_MQ below Qc (rx_XC D cA A old rho E hf0 ad0) args s mc ms A) D cA A old rho nL mc ms ad0 pc la st hf0 1 6 := by
  subst hst
  intro H locs ls cst cells slots hR h1 h2
  obtain ⟨ws, lc, r1, r2, r3, r4, r5, r6, r7, r8⟩ := hR
  have hxok : (rx_wd w (.classLink own x (rx_XN E)) && decide (decode cc (pc + 3) = .ok (.dup, 1)) && decide (decode cc (pc + 9) = .ok (.athrow, 1)) &&
      ((decide (own = RX11) && Nat.beq E 1 && (decide (decode cc (pc + 4) = .ok (.ldc 66, 2)) || decide (decode cc (pc + 4) = .ok (.ldc 113, 2)) || decide (decode cc (pc + 4) = .ok (.ldc 144, 2))) && decide (decode cc (pc + 6) = .ok (.invokespecial 68, 3))) ||
       (decide (own = RX10) && Nat.beq E 2 && decide (decode cc (pc + 4) = .ok (.ldc 150, 2)) && decide (decode cc (pc + 6) = .ok (.invokespecial 152, 3))))) = true := hxok
  simp only [Bool.and_eq_true, Bool.or_eq_true] at hxok
  obtain ⟨⟨⟨k1, k2⟩, k3⟩, k4⟩ := hxok
  have k1 := hts _ (rx_wd_mem k1)
  have k2 := of_decide_eq_true k2
  have k3 := of_decide_eq_true k3
  have hE0 := hE
  obtain ⟨-, -, -, -, -, -, -, -, -, -, -, -, -, -, -, h16, h17, h18, h19, h20, h21, -⟩ := hE0
  have hcst : cst = [] := by
    cases cst with
    | nil => rfl
    | cons a b => exact r7.elim
  subst hcst
  have hXC : ∀ t : State, s.vm.Alike t.vm → H.size ≤ t.heap.size → (∀ q : Nat, q < H.size → t.heap[q]? = H[q]?) → rx_XC D cA A old rho E hf0 ad0 (rx_XN E) s t := by
    intro t _ hz hk
    obtain ⟨l9, hl9⟩ := r8
    refine ⟨rfl, ⟨ws, l9, hl9, by rw [← hl9]; exact r1, r2.kept (fun k q hq => hk _ ((r2 k q hq).lt)), r3⟩, Nat.le_trans r4.1 hz, fun q hq hA => ?_⟩
    rw [hk q (Nat.lt_of_lt_of_le hq r4.1)]
    exact r4.2.1 q hq hA
  rcases k4 with ⟨⟨⟨k4, k5⟩, k6⟩, k7⟩ | ⟨⟨⟨k4, k5⟩, k6⟩, k7⟩
  · have k4 : own = RX11 := of_decide_eq_true k4
    have k5 := Nat.eq_of_beq_eq_true k5
    have k7 := of_decide_eq_true k7
    subst k4 k5
    have hgood : ∀ w ∈ Cond.classLink RX11 x (rx_XN 1) :: Cond.initialized (rx_XN 1) :: vx_atS RX11 68 (rx_XN 1) ["java/lang/RuntimeException", "java/lang/Exception"], vx_ot w = true := by
      intro w hw
      rcases List.mem_cons.mp hw with rfl | hw
      · rfl
      rcases List.mem_cons.mp hw with rfl | hw
      · rfl
      exact List.all_eq_true.mp rx_hatC1.1 w hw
    rcases k6 with (k6 | k6) | k6
    · exact vx_throwS (names := ["java/lang/RuntimeException", "java/lang/Exception"]) hx hb hl hown (by decide +kernel) (by decide +kernel) k1 (hts _ (rx_any_mem rx_hatC1.2)) h18 (rx_hat1 hE hts) hgood h16 h17 r4 (r5.1.trans hml.symm) hdec k2 (of_decide_eq_true k6) k7 k3 (fun x hx => (hex x hx).elim) (by show 2 + 3 < _; omega) (by show 0 + (13 * (2 + 1) + 43) ≤ _; omega) (by omega) (by omega) hlocks hXC r4.2.2 (by omega) (by omega)
    · exact vx_throwS (names := ["java/lang/RuntimeException", "java/lang/Exception"]) hx hb hl hown (by decide +kernel) (by decide +kernel) k1 (hts _ (rx_any_mem rx_hatC1.2)) h19 (rx_hat1 hE hts) hgood h16 h17 r4 (r5.1.trans hml.symm) hdec k2 (of_decide_eq_true k6) k7 k3 (fun x hx => (hex x hx).elim) (by show 2 + 3 < _; omega) (by show 0 + (13 * (2 + 1) + 43) ≤ _; omega) (by omega) (by omega) hlocks hXC r4.2.2 (by omega) (by omega)
    · exact vx_throwS (names := ["java/lang/RuntimeException", "java/lang/Exception"]) hx hb hl hown (by decide +kernel) (by decide +kernel) k1 (hts _ (rx_any_mem rx_hatC1.2)) h20 (rx_hat1 hE hts) hgood h16 h17 r4 (r5.1.trans hml.symm) hdec k2 (of_decide_eq_true k6) k7 k3 (fun x hx => (hex x hx).elim) (by show 2 + 3 < _; omega) (by show 0 + (13 * (2 + 1) + 43) ≤ _; omega) (by omega) (by omega) hlocks hXC r4.2.2 (by omega) (by omega)
  · have k4 : own = RX10 := of_decide_eq_true k4
    have k5 := Nat.eq_of_beq_eq_true k5
    have k7 := of_decide_eq_true k7
    subst k4 k5
    have hgood : ∀ w ∈ Cond.classLink RX10 x (rx_XN 2) :: Cond.initialized (rx_XN 2) :: vx_atS RX10 152 (rx_XN 2) ["java/lang/RuntimeException", "java/lang/Exception"], vx_ot w = true := by
      intro w hw
      rcases List.mem_cons.mp hw with rfl | hw
      · rfl
      rcases List.mem_cons.mp hw with rfl | hw
      · rfl
      exact List.all_eq_true.mp rx_hatC2.1 w hw
    exact vx_throwS (names := ["java/lang/RuntimeException", "java/lang/Exception"]) hx hb hl hown (by decide +kernel) (by decide +kernel) k1 (hts _ (rx_any_mem rx_hatC2.2)) h21 (rx_hat2 hE hts) hgood h16 h17 r4 (r5.1.trans hml.symm) hdec k2 (of_decide_eq_true k6) k7 k3 (fun x hx => (hex x hx).elim) (by show 2 + 3 < _; omega) (by show 0 + (13 * (2 + 1) + 43) ≤ _; omega) (by omega) (by omega) hlocks hXC r4.2.2 (by omega) (by omega)
theorem rx_call_ok (hl : l.stackTraces = false) (hF : rx_FT2 rho F) (hO1 : ∀ q ∈ O.1, q.1 < 1000000) (hO2 : ∀ q ∈ O.2, q.1 < 1000000 ∧ (q.2.1 = 0 ∨ q.2.1 = 2)) (hP : ∀ (mi : Nat) (I : RInf) (sg : RSig), P[mi]? = some I → sigs[mi]? = some sg → I.2.2.1 ≠ [] → sg.2.2.2.2.2.2.2.1 = [] ∧ rx_mok0 sg I = true ∧ rx_rowsok sigs sg I.2.2.1 = true) :
    ∀ (d mi : Nat) (as : List Value) (h : RHeap) (r : RRes), rx_call O F P steps d mi as h = some r → ∀ sg, sigs[mi]? = some sg → rx_CS l O D cA A old rho sg d as h r ∧ sg.2.2.2.2.2.2.2.1 = [] := by
  intro d
  induction d with
  | zero => intro mi as h r hr; cases hr
  | succ d ih =>
    intro mi as h r hr sg hsg
    simp only [rx_call] at hr
    rw [rx_nth_eq] at hr
    cases hPi : P[mi]? with
    | none => rw [hPi] at hr; cases hr
    | some I =>
      rw [hPi] at hr
      simp only at hr
      cases hc : Nat.ble (rx_cats as) I.1 with
      | false => rw [hc] at hr; cases hr
      | true =>
        rw [hc] at hr
        simp only at hr
        have hne : I.2.2.1 ≠ [] := by
          intro z
          rw [z] at hr
          cases steps <;> cases hr
        obtain ⟨g1, g2, g3⟩ := hP mi I sg hPi hsg hne
        refine ⟨?_, g1⟩
        have hcats := Nat.le_of_ble_eq_true hc
        obtain ⟨m1, m2, m3, m4, m6⟩ := rx_mok0_of g2
        have ih1 : ∀ (mi : Nat) (as : List Value) (h : RHeap) (r : RRes), rx_call O F P steps d mi as h = some r → ∀ sg, sigs[mi]? = some sg → rx_CS l O D cA A old rho sg d as h r := fun mi as h r hr sg hsg => (ih mi as h r hr sg hsg).1
        have hcw : rx_cw sg = .code sg.1 sg.2.1 I.1 sg.2.2.1 := by
          unfold rx_cw
          rw [g1, m1]
        have hI4 : I.2.2.2 = [] := by
          rw [g1] at m6
          cases hz : I.2.2.2 with
          | nil => rfl
          | cons a b => rw [hz] at m6; cases m6
        obtain ⟨o0, hf0, mc, ms⟩ := r
        cases o0 with
        | inl v =>
          intro ad
          rw [hcw]
          refine va_MetF (cc := sg.2.1) (maxL := I.1) (ret := sg.2.2.1) m2 rfl ?_
          intro p e s m args below meth c s₁ B hml hv
          obtain ⟨cs, ws, rfl, rfl, q3, q4, q5, q6, q7⟩ := hv
          have hts0 := atoms_spec (ws := Cond.code sg.1 sg.2.1 I.1 sg.2.2.1 :: rc_good) B.pre
          have hts : ∀ w ∈ rc_good, w.before cs.toArray s = true := fun w hw => hts0 w (List.mem_cons_of_mem _ hw)
          have hr9 := B.returns
          have hlocks := B.notSynchronized
          refine rx_body hF hO1 hO2 g2 g3 ih1 B.exec B.bytes hml (findClass_of_methodNamed B.named) (name_of_methodNamed B.named B.method).1 hts q7 (Nat.le_refl _) (Nat.le_refl _) (by show d + 11 ≤ d + 1 + 10; omega) (by show 64 * d + 264 ≤ 64 * (d + 1) + 200; omega) hcats q3 q4 q5 q6 hr ?_ ?_ ?_ ?_ ?_ ?_ ?_
          · intro pc x mi n ci w E la st as r a h h2 mc2 ms2 z1 z2 z3 z4 z5 z6 z7 z8
            cases z8
          · intro pc x mi n ci w E t la st as r a h h2 mc ms mc2 ms2 z1 z2 z3 z4 z5 z6 z7
            rw [hI4] at z7
            cases z7
          · intro pc x E w la st z1 z2 z3 z4 z4b z5
            cases z5
          · intro pc la z1 z2 z3
            have hret : sg.2.2.1 = none := by
              rw [z3] at m3
              cases hq : sg.2.2.1 with
              | none => rfl
              | some ty => rw [hq] at m3; cases m3
            exact rx_retv B.exec B.bytes hlocks (hr9.trans hret) (by cases z2; rfl) z1
          · intro pc la v9 z1 z2 z3
            cases z2
            refine rx_reti B.exec B.bytes hlocks ?_ z1
            rcases z3 with ⟨z3, z4⟩ | ⟨x, z4, ⟨z3, z5⟩ | ⟨z3, z5⟩ | ⟨z3, z5⟩⟩
            · refine Or.inl ⟨hr9.trans ?_, z4⟩
              rw [z3] at m3
              revert m3
              cases sg.2.2.1 with
              | none => intro m3; cases m3
              | some ty => cases ty <;> intro m3 <;> first | rfl | cases m3
            all_goals
              refine Or.inr ⟨x, z4, _, hr9.trans ?_, z5⟩
              rw [z3] at m3
              revert m3
              cases sg.2.2.1 with
              | none => intro m3; cases m3
              | some ty => cases ty <;> intro m3 <;> first | rfl | cases m3
          · intro pc la v9 z1 z2 z3 z4
            cases z2
            refine rx_retl B.exec B.bytes hlocks (hr9.trans ?_) z4 z1
            rw [z3] at m3
            revert m3
            cases sg.2.2.1 with
            | none => intro m3; cases m3
            | some ty => cases ty <;> intro m3 <;> first | rfl | cases m3
          · intro pc la v9 z1 z2 z3 z4
            cases z2
            obtain ⟨rt, e1, e2⟩ : ∃ rt, sg.2.2.1 = some rt ∧ ((∃ n, rt = .object n) ∨ ∃ t, rt = .array t) := by
              rw [z3] at m3
              revert m3
              cases sg.2.2.1 with
              | none => intro m3; cases m3
              | some ty => cases ty <;> intro m3 <;> first | exact ⟨_, rfl, Or.inl ⟨_, rfl⟩⟩ | exact ⟨_, rfl, Or.inr ⟨_, rfl⟩⟩ | cases m3
            exact rx_reta B.exec B.bytes hlocks (hr9.trans e1) e2 z4 z1
        | inr E =>
          intro ad
          rw [hcw]
          refine rx_ofWF (cc := sg.2.1) (maxL := I.1) (ret := sg.2.2.1) m2 rfl ?_
          intro p e s m args below meth c s₁ B hml hex hv
          obtain ⟨cs, ws, rfl, rfl, q3, q4, q5, q6, q7⟩ := hv
          have hts0 := atoms_spec (ws := Cond.code sg.1 sg.2.1 I.1 sg.2.2.1 :: rc_good) B.pre
          have hts : ∀ w ∈ rc_good, w.before cs.toArray s = true := fun w hw => hts0 w (List.mem_cons_of_mem _ hw)
          have hlocks := B.notSynchronized
          have hS : CallFix p m c sg.2.1 I.1 s cs.toArray rc_good sg.1.cls := ⟨B.exec, B.bytes, hml, findClass_of_methodNamed B.named, hts⟩
          have hfr : d + 11 ≤ (headSpec (Cond.code sg.1 sg.2.1 I.1 sg.2.2.1 :: rc_good) (rx_rm (d + 1) mc ms)).room.frames := by show d + 11 ≤ d + 1 + 10; omega
          have hlo : 64 * d + 264 ≤ (headSpec (Cond.code sg.1 sg.2.1 I.1 sg.2.2.1 :: rc_good) (rx_rm (d + 1) mc ms)).room.locals := by show 64 * d + 264 ≤ 64 * (d + 1) + 200; omega
          refine rx_body hF hO1 hO2 g2 g3 ih1 B.exec B.bytes hml (findClass_of_methodNamed B.named) (name_of_methodNamed B.named B.method).1 hts q7 (Nat.le_refl _) (Nat.le_refl _) hfr hlo hcats q3 q4 q5 q6 hr ?_ ?_ ?_ ?_ ?_ ?_ ?_
          · intro pc x mi n ci w E9 la st as r a h h2 mc2 ms2 z1 z2 z3 z4 z5 z6 z7 z8 z9
            cases z8
            subst z9
            have hG := rx_hcT (mc := 0) (ms := 0) (MC := mc) (MS := ms) (ad0 := ws.map (·.1)) (Q := vx_MQ below (fun _ _ _ _ => False) (rx_XC D cA A old rho E hf0 (ws.map (·.1))) cs.toArray s mc ms A) (la := la) (below := below) (meth := meth) (e := e) hS q7 hO1 (Nat.le_refl _) (Nat.le_refl _) hfr hlo ih1 z1 z2 z3 z4 z5 z6 (fun sg hs => (ih _ _ _ _ z6 sg hs).2)
              (fun H locs ls rest cells slots ws2 lc q ce k1 k2 k3 k4 k5 k6 k7 k8 k9 k10 k11 k12 => vx_out (fun x hx => (hex x hx).elim) hlocks k8 k9 k10 (fun t ht _ => by
                obtain ⟨l9, hl9⟩ := k7
                exact ⟨rfl, ⟨ws2, l9, hl9, by rw [← hl9]; exact k1, by rw [ht]; exact k2, k3⟩, k4.F ht⟩) k4.2.2 (by omega) (by omega))
            rw [Nat.zero_add, Nat.zero_add] at hG
            exact hG
          · intro pc x mi n ci w E t la st as r a h h2 mc ms mc2 ms2 z1 z2 z3 z4 z5 z6 z7
            rw [hI4] at z7
            cases z7
          · intro pc x E9 w la st z1 z2 z3 z4 z4b z5
            cases z5
            obtain ⟨-, hz, -⟩ := z3
            have hq := List.all_eq_true.mp g3 _ hz
            rw [Bool.and_eq_true] at hq
            exact rx_throw hl B.exec B.bytes hml hlocks (findClass_of_methodNamed B.named) hts q7 hex (by omega) (by omega) (Nat.le_refl _) (Nat.le_refl _) z1 hq.2 z4b
          · intro pc la z1 z2
            cases z2
          · intro pc la v9 z1 z2
            cases z2
          · intro pc la v9 z1 z2
            cases z2
          · intro pc la v9 z1 z2
            cases z2
end CtrU
