section CtrT
variable {l : Launch} {O : ROld} {F : RFacts} {D : va_G} {cA : Nat → ClassId} {A : Nat → Prop} {old : Nat → Nat} {rho : UInt32 → Int32} {sigs : List RSig} {P : List RInf} {steps : Nat}
theorem rx_mok0_of {sg : RSig} {I : RInf} (h : rx_mok0 sg I = true) : I.1 = sg.2.2.2.2.2.2.2.2 ∧ plainFor sg.1 = true ∧ rx_retok I.2.1 sg.2.2.1 = true ∧ (∃ r z, I.2.2.1 = r :: z ∧ r.1 = 0) ∧ rx_hok sg.1.cls sg.2.2.2.2.2.2.2.1 I.2.2.2 = true := by
  unfold rx_mok0 at h
  simp only [Bool.and_eq_true] at h
  obtain ⟨⟨⟨⟨⟨h1, h2⟩, -⟩, h3⟩, h4⟩, h5⟩ := h
  refine ⟨Nat.eq_of_beq_eq_true h1, h2, h3, ?_, h5⟩
  cases hr : I.2.2.1 with
  | nil => rw [hr] at h4; cases h4
  | cons r z => rw [hr] at h4; exact ⟨r, z, rfl, Nat.eq_of_beq_eq_true h4⟩
/-- a method's body, run: whatever it is that is owed at its ends -/
theorem rx_body {d : Nat} {C9 : Nat → List Value → RHeap → Option RRes} {sg : RSig} {I : RInf} (hF : rx_FT2 rho F) (hO1 : ∀ q ∈ O.1, q.1 < 1000000) (hO2 : ∀ q ∈ O.2, q.1 < 1000000 ∧ (q.2.1 = 0 ∨ q.2.1 = 2)) (hmok : rx_mok0 sg I = true) (hrok : rx_rowsok sigs sg I.2.2.1 = true)
    (ih : ∀ (mi : Nat) (as : List Value) (h : RHeap) (r : RRes), C9 mi as h = some r → ∀ sg, sigs[mi]? = some sg → rx_CS l O D cA A old rho sg d as h r)
    {p : Program} {e : Env} {s : State} {m : MethodId} {below : List Frame} {meth : Method} {c : Code} {R : Room} {Q : State → Prop} {o0 : Option Value ⊕ Nat} {hf0 : RHeap} {as cs : List Value} {h : RHeap} {ws : va_W} {MC MS : Nat}
    (hx : p.tables.exec = Jvm.exec) (hb : c.code = sg.2.1) (hml : c.maxLocals = I.1) (hown : s.vm.findClass sg.1.cls = some m.cls) (hnm : meth.name = sg.1.name) (hts : ∀ w ∈ rc_good, w.before cs.toArray s = true) (hE : rx_E O D cA A old rho s) (hMC : MC ≤ R.cells) (hMS : MS ≤ R.slots) (hfr : d + 11 ≤ R.frames) (hlo : 64 * d + 264 ≤ R.locals)
    (hcats : rx_cats as ≤ I.1) (q3 : rx_RL old rho (ws.map (·.1)) as cs) (q4 : rx_RW old rho cA (ws.map (·.1)) h ws) (q5 : va_P D rc_cls ws s.heap) (q6 : va_D A ws)
    (hrun : rx_run O F C9 I steps I.2.2.1 (lv_args 0 as) [] h = some (o0, hf0, MC, MS))
    (hcX : ∀ (pc x mi n ci w E : Nat) (la : RLoc) (st as r : List Value) (a : Nat) (h h2 : RHeap) (mc2 ms2 : Nat), decode sg.2.1 pc = .ok (.invokevirtual x, 3) → rx_aok (decide (sg.1.name = "<init>")) sg.1.cls sigs (.invokevirtual x) [mi, n, ci, w] = true → rx_take n [] st = some (as, .ref a :: r) → rx_cats r ≤ 8 → rx_recv O ci h (.ref a) = true → C9 mi (.ref a :: as) h = some (.inr E, h2, mc2, ms2) → rx_hand pc E I.2.2.2 = none → o0 = .inr E → hf0 = h2 → rx_G p l e R s m cs.toArray below meth c Q D cA A old rho I.1 MC MS (ws.map (·.1)) pc la st h mc2 ms2)
    (hcH : ∀ (pc x mi n ci w E t : Nat) (la : RLoc) (st as r : List Value) (a : Nat) (h h2 : RHeap) (mc ms mc2 ms2 : Nat), decode sg.2.1 pc = .ok (.invokevirtual x, 3) → rx_aok (decide (sg.1.name = "<init>")) sg.1.cls sigs (.invokevirtual x) [mi, n, ci, w] = true → rx_take n [] st = some (as, .ref a :: r) → rx_cats r ≤ 8 → rx_recv O ci h (.ref a) = true → C9 mi (.ref a :: as) h = some (.inr E, h2, mc2, ms2) → rx_hand pc E I.2.2.2 = some t → rx_G p l e R s m cs.toArray below meth c Q D cA A old rho I.1 MC MS (ws.map (·.1)) t la [.ref 2000000] h2 mc ms → rx_G p l e R s m cs.toArray below meth c Q D cA A old rho I.1 MC MS (ws.map (·.1)) pc la st h (mc + mc2) (ms + ms2))
    (hXn : ∀ (pc x E w : Nat) (la : RLoc) (st : List Value), decode sg.2.1 pc = .ok (.new x, 3) → rx_aok (decide (sg.1.name = "<init>")) sg.1.cls sigs (.new x) [7777, E, w] = true → (∃ z, (pc, .new x, 3, [7777, E, w]) ∈ I.2.2.1 ∧ z = 0) → I.2.2.2 = [] → st = [] → o0 = .inr E → rx_G p l e R s m cs.toArray below meth c Q D cA A old rho I.1 MC MS (ws.map (·.1)) pc la st hf0 1 6)
    (hRv : ∀ (pc : Nat) (la : RLoc), decode sg.2.1 pc = .ok (.return_, 1) → o0 = .inl none → I.2.1 = 0 → rx_G p l e R s m cs.toArray below meth c Q D cA A old rho I.1 MC MS (ws.map (·.1)) pc la [] hf0 0 0)
    (hRi : ∀ (pc : Nat) (la : RLoc) (v : Value), decode sg.2.1 pc = .ok (.ireturn, 1) → o0 = .inl (some v) → (I.2.1 = 1 ∧ rx_isI v = true) ∨ (∃ x, v = .int x ∧ ((I.2.1 = 2 ∧ narrow .boolean (.int x) = .int x) ∨ (I.2.1 = 3 ∧ narrow .byte (.int x) = .int x) ∨ (I.2.1 = 4 ∧ narrow .char (.int x) = .int x))) → rx_G p l e R s m cs.toArray below meth c Q D cA A old rho I.1 MC MS (ws.map (·.1)) pc la [v] hf0 0 0)
    (hRl : ∀ (pc : Nat) (la : RLoc) (v : Value), decode sg.2.1 pc = .ok (.lreturn, 1) → o0 = .inl (some v) → I.2.1 = 5 → rx_isL v = true → rx_G p l e R s m cs.toArray below meth c Q D cA A old rho I.1 MC MS (ws.map (·.1)) pc la [v] hf0 0 0)
    (hRa : ∀ (pc : Nat) (la : RLoc) (v : Value), decode sg.2.1 pc = .ok (.areturn, 1) → o0 = .inl (some v) → I.2.1 = 6 → rx_isA v = true → rx_G p l e R s m cs.toArray below meth c Q D cA A old rho I.1 MC MS (ws.map (·.1)) pc la [v] hf0 0 0)
    : W p l e R s m cs.toArray below meth c s.heap [] 0 0 Q (entryFrame m cs.toArray I.1) := by
  obtain ⟨m1, m2, m3, ⟨r0, z0, m4, m5⟩, m6⟩ := rx_mok0_of hmok
  have hrows : ∀ q ∈ I.2.2.1, rx_chk (decide (sg.1.name = "<init>")) sg.1.cls sg.2.1 sigs q = true := fun q hq => by
    have := List.all_eq_true.mp hrok q hq
    rw [Bool.and_eq_true] at this
    exact this.1
  have hS : CallFix p m c sg.2.1 I.1 s cs.toArray rc_good sg.1.cls := ⟨hx, hb, hml, hown, hts⟩
  have hle := lv_entry cs (n := I.1) (by rw [rx_lg_len, ← q3.cats]; exact hcats)
  rw [lg_entry_eq]
  have hin : ∀ q ∈ r0 :: z0, q ∈ I.2.2.1 := fun q hq => by rw [m4]; exact hq
  rw [m4] at hrun
  have hG := rx_run_ok (R := R) (Q := Q) (meth := meth) (below := below) (e := e) (nL := I.1) (MC := MC) (MS := MS) (ad0 := ws.map (·.1)) (ini := decide (sg.1.name = "<init>")) hx hb hml hown hts hE hF hMC hMS (by omega) (by omega) (fun z => by rw [hnm]; exact of_decide_eq_true z) rfl (rx_hcI hS hE hO1 hMC hMS hfr hlo ih) (rx_hcV hS hE hO1 hMC hMS hfr hlo ih) (rx_hcS hS hE hO1 hMC hMS hfr hlo ih) hcX hcH hXn hRv hRi hRl hRa hO1 hO2 (rx_kw1 hts) (rx_kw2 hts) (rx_kw4 hts) (rx_kw3 hts) hrows steps r0 z0 (lv_args 0 as) [] h MC MS hrun hin
  rw [m5] at hG
  exact hG s.heap [] _ [] 0 0 ⟨ws, _, q4, q5, q6, va_S.rf, hle, rx_RC.entry q3, trivial, [], by simp⟩ (by omega) (by omega)
/-- ends of a body that returns -/
theorem rx_retv {s : State} {p : Program} {e : Env} {R : Room} {m : MethodId} {args : Array Value} {below : List Frame} {meth : Method} {c : Code} {cc : ByteArray} {nL mc ms pc : Nat} {ad0 : List Nat} {la : RLoc} {hf0 : RHeap} {v : Option Value} (hx : p.tables.exec = Jvm.exec) (hb : c.code = cc) (hlocks : meth.locks = false) (hr : meth.sig.returnType = none) (hv : v = none) (hdec : decode cc pc = .ok (.return_, 1)) : rx_G p l e R s m args below meth c (MQ below (rx_Qc D cA A old rho v hf0 ad0) args s mc ms A) D cA A old rho nL mc ms ad0 pc la [] hf0 0 0 := by
  intro H locs ls cst cells slots hR h1 h2
  obtain ⟨ws, lc, r1, r2, r3, r4, r5, r6, r7, r8⟩ := hR
  have h1 : cells = mc := h1
  have h2 : slots = ms := h2
  subst h1 h2 hv
  cases cst with
  | cons a b => exact r7.elim
  | nil => exact W.vret hx hb hr (fun t ht _ => rx_Qc_of r1 r2 r3 r4 r8 (v := none) (cv := none) trivial ht) r4.2.2 hdec
theorem rx_reti {s : State} {p : Program} {e : Env} {R : Room} {m : MethodId} {args : Array Value} {below : List Frame} {meth : Method} {c : Code} {cc : ByteArray} {nL mc ms pc : Nat} {ad0 : List Nat} {la : RLoc} {hf0 : RHeap} {v : Value} (hx : p.tables.exec = Jvm.exec) (hb : c.code = cc) (hlocks : meth.locks = false) (hk : (meth.sig.returnType = some .int ∧ rx_isI v = true) ∨ (∃ x, v = .int x ∧ ∃ ty, meth.sig.returnType = some ty ∧ narrow ty (.int x) = .int x)) (hdec : decode cc pc = .ok (.ireturn, 1)) : rx_G p l e R s m args below meth c (MQ below (rx_Qc D cA A old rho (some v) hf0 ad0) args s mc ms A) D cA A old rho nL mc ms ad0 pc la [v] hf0 0 0 := by
  intro H locs ls cst0 cells slots hR h1 h2
  obtain ⟨ws, lc, r1, r2, r3, r4, r5, r6, r7, r8⟩ := hR
  have h1 : cells = mc := h1
  have h2 : slots = ms := h2
  subst h1 h2
  obtain ⟨cv, cst, rfl, hr1, q7⟩ := rx_RL.uncons r7
  cases cst with
  | cons a b => exact q7.elim
  | nil =>
    rcases hk with ⟨hk1, hk2⟩ | ⟨x, rfl, ty, hk1, hk2⟩
    · obtain ⟨x, rfl⟩ := hr1.isI hk2
      exact W.iret hx hb hk1 (fun t ht _ => rx_Qc_of r1 r2 r3 r4 r8 (v := some v) hr1 ht) r4.2.2 hdec
    · cases hr1
      exact W.zret hx hb hk1 hk2 (fun t ht _ => rx_Qc_of r1 r2 r3 r4 r8 (v := some (.int x)) (show rx_RO old rho _ (some (.int x)) (some (.int x)) from rfl) ht) r4.2.2 hdec
theorem rx_retl {s : State} {p : Program} {e : Env} {R : Room} {m : MethodId} {args : Array Value} {below : List Frame} {meth : Method} {c : Code} {cc : ByteArray} {nL mc ms pc : Nat} {ad0 : List Nat} {la : RLoc} {hf0 : RHeap} {v : Value} (hx : p.tables.exec = Jvm.exec) (hb : c.code = cc) (hlocks : meth.locks = false) (hk1 : meth.sig.returnType = some .long) (hk2 : rx_isL v = true) (hdec : decode cc pc = .ok (.lreturn, 1)) : rx_G p l e R s m args below meth c (MQ below (rx_Qc D cA A old rho (some v) hf0 ad0) args s mc ms A) D cA A old rho nL mc ms ad0 pc la [v] hf0 0 0 := by
  intro H locs ls cst0 cells slots hR h1 h2
  obtain ⟨ws, lc, r1, r2, r3, r4, r5, r6, r7, r8⟩ := hR
  have h1 : cells = mc := h1
  have h2 : slots = ms := h2
  subst h1 h2
  obtain ⟨cv, cst, rfl, hr1, q7⟩ := rx_RL.uncons r7
  cases cst with
  | cons a b => exact q7.elim
  | nil =>
    obtain ⟨x, rfl⟩ := hr1.isL hk2
    exact W.lret hx hb hk1 (fun t ht _ => rx_Qc_of r1 r2 r3 r4 r8 (v := some v) hr1 ht) r4.2.2 hdec
theorem rx_reta {s : State} {p : Program} {e : Env} {R : Room} {m : MethodId} {args : Array Value} {below : List Frame} {meth : Method} {c : Code} {cc : ByteArray} {nL mc ms pc : Nat} {ad0 : List Nat} {la : RLoc} {hf0 : RHeap} {v : Value} (hx : p.tables.exec = Jvm.exec) (hb : c.code = cc) (hlocks : meth.locks = false) {rt : FieldType} (hk1 : meth.sig.returnType = some rt) (hrt : (∃ n, rt = .object n) ∨ ∃ t, rt = .array t) (hk2 : rx_isA v = true) (hdec : decode cc pc = .ok (.areturn, 1)) : rx_G p l e R s m args below meth c (MQ below (rx_Qc D cA A old rho (some v) hf0 ad0) args s mc ms A) D cA A old rho nL mc ms ad0 pc la [v] hf0 0 0 := by
  intro H locs ls cst0 cells slots hR h1 h2
  obtain ⟨ws, lc, r1, r2, r3, r4, r5, r6, r7, r8⟩ := hR
  have h1 : cells = mc := h1
  have h2 : slots = ms := h2
  subst h1 h2
  obtain ⟨cv, cst, rfl, hr1, q7⟩ := rx_RL.uncons r7
  cases cst with
  | cons a b => exact q7.elim
  | nil =>
    exact W.aret hx hb hk1 hrt (hr1.isA hk2) (fun t ht _ => rx_Qc_of r1 r2 r3 r4 r8 (v := some v) hr1 ht) r4.2.2 hdec
end CtrT
