theorem rx_lret_of {O : ROld} {F : RFacts} {C9 : Nat → List Value → RHeap → Option RRes} {I : RInf} {k9 : List RRow → RLoc → List Value → RHeap → Option RRes} {pc len : Nat} {aux : List Nat} {rest : List RRow} {la : RLoc} {st : List Value} {h hf0 : RHeap} {o0 : Option Value ⊕ Nat} {mc ms : Nat} (hh : rx_one O F C9 I k9 pc .lreturn len aux rest la st h = some (o0, hf0, mc, ms)) : ∃ v, st = [v] ∧ I.2.1 = 5 ∧ rx_isL v = true ∧ o0 = .inl (some v) ∧ h = hf0 ∧ 0 = mc ∧ 0 = ms := by
  simp only [rx_one] at hh
  split at hh
  · rename_i v hk9
    cases hq : rx_isL v with
    | false => simp [hq] at hh
    | true =>
      simp only [hq, Option.some.injEq, Prod.mk.injEq] at hh
      obtain ⟨e1, e2, e3, e4⟩ := hh
      exact ⟨v, rfl, hk9, hq, e1.symm, e2, e3, e4⟩
  · cases hh
theorem rx_aret_of {O : ROld} {F : RFacts} {C9 : Nat → List Value → RHeap → Option RRes} {I : RInf} {k9 : List RRow → RLoc → List Value → RHeap → Option RRes} {pc len : Nat} {aux : List Nat} {rest : List RRow} {la : RLoc} {st : List Value} {h hf0 : RHeap} {o0 : Option Value ⊕ Nat} {mc ms : Nat} (hh : rx_one O F C9 I k9 pc .areturn len aux rest la st h = some (o0, hf0, mc, ms)) : ∃ v, st = [v] ∧ I.2.1 = 6 ∧ rx_isA v = true ∧ o0 = .inl (some v) ∧ h = hf0 ∧ 0 = mc ∧ 0 = ms := by
  simp only [rx_one] at hh
  split at hh
  · rename_i v hk9
    cases hq : rx_isA v with
    | false => simp [hq] at hh
    | true =>
      simp only [hq, Option.some.injEq, Prod.mk.injEq] at hh
      obtain ⟨e1, e2, e3, e4⟩ := hh
      exact ⟨v, rfl, hk9, hq, e1.symm, e2, e3, e4⟩
  · cases hh
theorem rx_iret_of {O : ROld} {F : RFacts} {C9 : Nat → List Value → RHeap → Option RRes} {I : RInf} {k9 : List RRow → RLoc → List Value → RHeap → Option RRes} {pc len : Nat} {aux : List Nat} {rest : List RRow} {la : RLoc} {st : List Value} {h hf0 : RHeap} {o0 : Option Value ⊕ Nat} {mc ms : Nat} (hh : rx_one O F C9 I k9 pc .ireturn len aux rest la st h = some (o0, hf0, mc, ms)) : ∃ v, st = [v] ∧ ((I.2.1 = 1 ∧ rx_isI v = true) ∨ (∃ x, v = .int x ∧ ((I.2.1 = 2 ∧ narrow .boolean (.int x) = .int x) ∨ (I.2.1 = 3 ∧ narrow .byte (.int x) = .int x) ∨ (I.2.1 = 4 ∧ narrow .char (.int x) = .int x)))) ∧ o0 = .inl (some v) ∧ h = hf0 ∧ 0 = mc ∧ 0 = ms := by
  simp only [rx_one] at hh
  split at hh
  · rename_i x hk9
    simp only [Option.some.injEq, Prod.mk.injEq] at hh
    obtain ⟨e1, e2, e3, e4⟩ := hh
    exact ⟨_, rfl, Or.inl ⟨hk9, rfl⟩, e1.symm, e2, e3, e4⟩
  · rename_i x hk9
    simp only [Option.some.injEq, Prod.mk.injEq] at hh
    obtain ⟨e1, e2, e3, e4⟩ := hh
    exact ⟨_, rfl, Or.inl ⟨hk9, rfl⟩, e1.symm, e2, e3, e4⟩
  · rename_i x hk9
    split at hh
    · rename_i hq
      simp only [Option.some.injEq, Prod.mk.injEq] at hh
      obtain ⟨e1, e2, e3, e4⟩ := hh
      exact ⟨_, rfl, Or.inr ⟨x, rfl, Or.inl ⟨hk9, of_decide_eq_true hq⟩⟩, e1.symm, e2, e3, e4⟩
    · cases hh
  · rename_i x hk9
    split at hh
    · rename_i hq
      simp only [Option.some.injEq, Prod.mk.injEq] at hh
      obtain ⟨e1, e2, e3, e4⟩ := hh
      exact ⟨_, rfl, Or.inr ⟨x, rfl, Or.inr (Or.inl ⟨hk9, of_decide_eq_true hq⟩)⟩, e1.symm, e2, e3, e4⟩
    · cases hh
  · rename_i x hk9
    split at hh
    · rename_i hq
      simp only [Option.some.injEq, Prod.mk.injEq] at hh
      obtain ⟨e1, e2, e3, e4⟩ := hh
      exact ⟨_, rfl, Or.inr ⟨x, rfl, Or.inr (Or.inr ⟨hk9, of_decide_eq_true hq⟩)⟩, e1.symm, e2, e3, e4⟩
    · cases hh
  · cases hh
section Tsw
variable {p : Program} {l : Launch} {e : Env} {R : Room} {s : State} {m : MethodId} {args : Array Value} {below : List Frame} {meth : Method} {c : Code} {Q : State → Prop} {cc : ByteArray} {D : va_G} {cA : Nat → ClassId} {A : Nat → Prop} {old : Nat → Nat} {rho : UInt32 → Int32} {nL MC MS : Nat} {ad0 : List Nat} {O : ROld} {F : RFacts} {C9 : Nat → List Value → RHeap → Option RRes} {I : RInf} {k9 : List RRow → RLoc → List Value → RHeap → Option RRes} {own : String} {Ts : List Jvm.Cond} {ini : Bool} {sigs : List RSig} {o0 : Option Value ⊕ Nat} {hf0 : RHeap}
theorem rx_cb_lt {x lo : Int32} (h : rx_cb .lt x lo = true) : x.toInt < lo.toInt := Int32.lt_iff_toInt_lt.mp (of_decide_eq_true h)
theorem rx_cb_gt {x lo : Int32} (h : rx_cb .gt x lo = true) : lo.toInt < x.toInt := Int32.lt_iff_toInt_lt.mp (of_decide_eq_true h)
theorem rx_tsw_ok (hx : p.tables.exec = Jvm.exec) (hb : c.code = cc) (hF : rx_FT rho F.1) {pc len : Nat} {d9 lo hi : Int} {offs : Array Int} {aux : List Nat} {rest : List RRow} {la : RLoc} {st : List Value} {h : RHeap} {mc ms : Nat} (hdec : decode cc pc = .ok (.tableswitch d9 lo hi offs, len))
    (hk : ∀ (r : RRow) (z : List RRow) (la : RLoc) (st : List Value) (h : RHeap) (mc ms : Nat), k9 (r :: z) la st h = some (o0, hf0, mc, ms) → (∀ q ∈ r :: z, q ∈ I.2.2.1) → rx_G p l e R s m args below meth c Q D cA A old rho nL MC MS ad0 r.1 la st h mc ms) (hh : rx_one O F C9 I k9 pc (.tableswitch d9 lo hi offs) len aux rest la st h = some (o0, hf0, mc, ms)) : rx_G p l e R s m args below meth c Q D cA A old rho nL MC MS ad0 pc la st h mc ms := by
  have hh : rx_tsw F.1 I.2.2.1 pc d9 lo hi offs st (fun z st => k9 z la st h) = some (o0, hf0, mc, ms) := hh
  have hgo : ∀ (off : Int) (st : List Value), rx_go I.2.2.1 pc off (fun z => k9 z la st h) = some (o0, hf0, mc, ms) → ∃ t : Nat, (pc : Int) + off = (t : Int) ∧ rx_G p l e R s m args below meth c Q D cA A old rho nL MC MS ad0 t la st h mc ms := by
    intro off st hz
    obtain ⟨r, z, h1, h2, h3⟩ := rx_go_of hz
    exact ⟨r.1, h1, hk r z la st h mc ms h3 h2⟩
  match st, hh with
  | [], hh => cases hh
  | .long _ :: _, hh => cases hh
  | .double _ :: _, hh => cases hh
  | .null :: _, hh => cases hh
  | .ref _ :: _, hh => cases hh
  | .retAddr _ :: _, hh => cases hh
  | .int x :: r, hh =>
    simp only [rx_tsw] at hh
    cases g1 : decide (x.toInt < lo) with
    | true =>
      simp only [g1] at hh
      obtain ⟨t, e1, e2⟩ := hgo _ _ hh
      exact rg_tswO hx hb hdec (Or.inl (of_decide_eq_true g1)) e1 e2
    | false =>
      cases g2 : decide (hi < x.toInt) with
      | true =>
        simp only [g1, g2] at hh
        obtain ⟨t, e1, e2⟩ := hgo _ _ hh
        exact rg_tswO hx hb hdec (Or.inr (of_decide_eq_true g2)) e1 e2
      | false =>
        simp only [g1, g2] at hh
        cases hn : rx_nth offs.toList (x.toInt - lo).toNat with
        | none => simp [hn] at hh
        | some off =>
          simp only [hn] at hh
          obtain ⟨t, e1, e2⟩ := hgo _ _ hh
          rw [rx_nth_eq] at hn
          exact rg_tswI hx hb hdec (of_decide_eq_false g1) (of_decide_eq_false g2) (by simpa using hn) e1 e2
  | .float i :: r, hh =>
    simp only [rx_tsw] at hh
    cases g1 : decide (i = 0) with
    | true => simp [g1] at hh
    | false =>
      have g1 := of_decide_eq_false g1
      by_cases g5 : rx_fact F.1 i .lt (Int32.ofInt lo) = some true ∧ (Int32.ofInt lo).toInt = lo
      · obtain ⟨t, e1, e2⟩ : ∃ t : Nat, (pc : Int) + d9 = (t : Int) ∧ rx_G p l e R s m args below meth c Q D cA A old rho nL MC MS ad0 t la r h mc ms := by
          split at hh
          · exact hgo _ _ hh
          · exact hgo _ _ hh
          · cases hh
        have g4 := rx_cb_lt (rx_fact_of hF g5.1)
        rw [g5.2] at g4
        exact rg_tswF hx hb g1 hdec (Or.inl g4) e1 e2
      · split at hh
        · rename_i g6 g7 g8
          exact absurd ⟨g7, of_decide_eq_true g8⟩ g5
        · rename_i g7 g8 g9
          obtain ⟨t, e1, e2⟩ := hgo _ _ hh
          have g4 := rx_cb_gt (rx_fact_of hF g7)
          rw [of_decide_eq_true g8] at g4
          exact rg_tswF hx hb g1 hdec (Or.inr g4) e1 e2
        · cases hh
end Tsw
section StepT
variable {p : Program} {l : Launch} {e : Env} {R : Room} {s : State} {m : MethodId} {args : Array Value} {below : List Frame} {meth : Method} {c : Code} {Q : State → Prop} {cc : ByteArray} {D : va_G} {cA : Nat → ClassId} {A : Nat → Prop} {old : Nat → Nat} {rho : UInt32 → Int32} {nL MC MS : Nat} {ad0 : List Nat} {O : ROld} {F : RFacts} {C9 : Nat → List Value → RHeap → Option RRes} {I : RInf} {k9 : List RRow → RLoc → List Value → RHeap → Option RRes} {own : String} {Ts : List Jvm.Cond} {ini : Bool} {sigs : List RSig} {o0 : Option Value ⊕ Nat} {hf0 : RHeap}
set_option maxHeartbeats 4000000 in
theorem rx_one_ok (hx : p.tables.exec = Jvm.exec) (hb : c.code = cc) (hml : c.maxLocals = nL) (hown : s.vm.findClass own = some m.cls) (hts : ∀ w ∈ rc_good, w.before args s = true) (hE : rx_E O D cA A old rho s) (hF : rx_FT2 rho F) (hMC : MC ≤ R.cells) (hMS : MS ≤ R.slots) (hfr : 1 ≤ R.frames) (hlo : 200 ≤ R.locals) (hini : ini = true → meth.name = "<init>") (hI : I.1 = nL)
    (hk : ∀ (r : RRow) (z : List RRow) (la : RLoc) (st : List Value) (h : RHeap) (mc ms : Nat), k9 (r :: z) la st h = some (o0, hf0, mc, ms) → (∀ q ∈ r :: z, q ∈ I.2.2.1) → rx_G p l e R s m args below meth c Q D cA A old rho nL MC MS ad0 r.1 la st h mc ms)
    (hcI : ∀ (pc x mi n ci w : Nat) (la : RLoc) (st as r : List Value) (a : Nat) (h h2 : RHeap) (v : Option Value) (mc ms mc2 ms2 : Nat), decode cc pc = .ok (.invokespecial x, 3) → rx_aok ini own sigs (.invokespecial x) [mi, n, ci, w] = true → rx_take n [] st = some (as, .ref a :: r) → rx_cats r ≤ 8 → rx_recv O ci h (.ref a) = true → C9 mi (.ref a :: as) h = some (.inl v, h2, mc2, ms2) → rx_G p l e R s m args below meth c Q D cA A old rho nL MC MS ad0 (pc + 3) la (v.toList ++ r) h2 mc ms → rx_G p l e R s m args below meth c Q D cA A old rho nL MC MS ad0 pc la st h (mc + mc2) (ms + ms2))
    (hcV : ∀ (pc x mi n ci w : Nat) (la : RLoc) (st as r : List Value) (a : Nat) (h h2 : RHeap) (v : Option Value) (mc ms mc2 ms2 : Nat), decode cc pc = .ok (.invokevirtual x, 3) → rx_aok ini own sigs (.invokevirtual x) [mi, n, ci, w] = true → rx_take n [] st = some (as, .ref a :: r) → rx_cats r ≤ 8 → rx_recv O ci h (.ref a) = true → C9 mi (.ref a :: as) h = some (.inl v, h2, mc2, ms2) → rx_G p l e R s m args below meth c Q D cA A old rho nL MC MS ad0 (pc + 3) la (v.toList ++ r) h2 mc ms → rx_G p l e R s m args below meth c Q D cA A old rho nL MC MS ad0 pc la st h (mc + mc2) (ms + ms2))
    (hcS : ∀ (pc x mi n w : Nat) (la : RLoc) (st as r : List Value) (h h2 : RHeap) (v : Option Value) (mc ms mc2 ms2 : Nat), decode cc pc = .ok (.invokestatic x, 3) → rx_aok ini own sigs (.invokestatic x) [mi, n, w] = true → rx_take n [] st = some (as, r) → rx_cats r ≤ 8 → C9 mi as h = some (.inl v, h2, mc2, ms2) → rx_G p l e R s m args below meth c Q D cA A old rho nL MC MS ad0 (pc + 3) la (v.toList ++ r) h2 mc ms → rx_G p l e R s m args below meth c Q D cA A old rho nL MC MS ad0 pc la st h (mc + mc2) (ms + ms2))
    (hcX : ∀ (pc x mi n ci w E : Nat) (la : RLoc) (st as r : List Value) (a : Nat) (h h2 : RHeap) (mc2 ms2 : Nat), decode cc pc = .ok (.invokevirtual x, 3) → rx_aok ini own sigs (.invokevirtual x) [mi, n, ci, w] = true → rx_take n [] st = some (as, .ref a :: r) → rx_cats r ≤ 8 → rx_recv O ci h (.ref a) = true → C9 mi (.ref a :: as) h = some (.inr E, h2, mc2, ms2) → rx_hand pc E I.2.2.2 = none → o0 = .inr E → hf0 = h2 → rx_G p l e R s m args below meth c Q D cA A old rho nL MC MS ad0 pc la st h mc2 ms2)
    (hcH : ∀ (pc x mi n ci w E t : Nat) (la : RLoc) (st as r : List Value) (a : Nat) (h h2 : RHeap) (mc ms mc2 ms2 : Nat), decode cc pc = .ok (.invokevirtual x, 3) → rx_aok ini own sigs (.invokevirtual x) [mi, n, ci, w] = true → rx_take n [] st = some (as, .ref a :: r) → rx_cats r ≤ 8 → rx_recv O ci h (.ref a) = true → C9 mi (.ref a :: as) h = some (.inr E, h2, mc2, ms2) → rx_hand pc E I.2.2.2 = some t → rx_G p l e R s m args below meth c Q D cA A old rho nL MC MS ad0 t la [.ref 2000000] h2 mc ms → rx_G p l e R s m args below meth c Q D cA A old rho nL MC MS ad0 pc la st h (mc + mc2) (ms + ms2))
    (hXn : ∀ (pc x E w : Nat) (la : RLoc) (st : List Value), decode cc pc = .ok (.new x, 3) → rx_aok ini own sigs (.new x) [7777, E, w] = true → (∃ z, (pc, .new x, 3, [7777, E, w]) ∈ I.2.2.1 ∧ z = 0) → I.2.2.2 = [] → st = [] → o0 = .inr E → rx_G p l e R s m args below meth c Q D cA A old rho nL MC MS ad0 pc la st hf0 1 6)
    (hRv : ∀ (pc : Nat) (la : RLoc), decode cc pc = .ok (.return_, 1) → o0 = .inl none → I.2.1 = 0 → rx_G p l e R s m args below meth c Q D cA A old rho nL MC MS ad0 pc la [] hf0 0 0)
    (hRi : ∀ (pc : Nat) (la : RLoc) (v : Value), decode cc pc = .ok (.ireturn, 1) → o0 = .inl (some v) → (I.2.1 = 1 ∧ rx_isI v = true) ∨ (∃ x, v = .int x ∧ ((I.2.1 = 2 ∧ narrow .boolean (.int x) = .int x) ∨ (I.2.1 = 3 ∧ narrow .byte (.int x) = .int x) ∨ (I.2.1 = 4 ∧ narrow .char (.int x) = .int x))) → rx_G p l e R s m args below meth c Q D cA A old rho nL MC MS ad0 pc la [v] hf0 0 0)
    (hRl : ∀ (pc : Nat) (la : RLoc) (v : Value), decode cc pc = .ok (.lreturn, 1) → o0 = .inl (some v) → I.2.1 = 5 → rx_isL v = true → rx_G p l e R s m args below meth c Q D cA A old rho nL MC MS ad0 pc la [v] hf0 0 0)
    (hRa : ∀ (pc : Nat) (la : RLoc) (v : Value), decode cc pc = .ok (.areturn, 1) → o0 = .inl (some v) → I.2.1 = 6 → rx_isA v = true → rx_G p l e R s m args below meth c Q D cA A old rho nL MC MS ad0 pc la [v] hf0 0 0)
    (hO1 : ∀ q ∈ O.1, q.1 < 1000000) (hO2 : ∀ q ∈ O.2, q.1 < 1000000 ∧ (q.2.1 = 0 ∨ q.2.1 = 2)) (hwk : ∀ (ci : Nat) (q : vw_C), rc_cls[ci]? = some q → (Cond.instantiable q.1 q.2.2).before args s = true ∧ (Cond.initialized q.1).before args s = true) (hak : ∀ ty, ty ∈ rc_arr → ty ≠ .object RX4 → ty ≠ .object RX9 → (Cond.arrayClass ty).before args s = true) (hcp : (Cond.native arraycopyName).before args s = true ∧ (Cond.static arraycopyName).before args s = true ∧ (Cond.initialized "java/lang/System").before args s = true) (hoi : (Cond.instanceMethod Lib.objectInit).before args s = true ∧ (Cond.code Lib.objectInit ⟨#[0xb1]⟩ 1 none).before args s = true)
    {pc : Nat} {i : Instr} {len : Nat} {aux : List Nat} {rest : List RRow} {la : RLoc} {st : List Value} {h : RHeap} {mc ms : Nat} (hrow : rx_chk ini own cc sigs (pc, i, len, aux) = true) (hin9 : (pc, i, len, aux) ∈ I.2.2.1) (hrest : ∀ q ∈ rest, q ∈ I.2.2.1) (hh : rx_one O F C9 I k9 pc i len aux rest la st h = some (o0, hf0, mc, ms)) : rx_G p l e R s m args below meth c Q D cA A old rho nL MC MS ad0 pc la st h mc ms := by
  obtain ⟨hdec, hlen, haok⟩ := rx_chk_of hrow
  have hnx : ∀ (la : RLoc) (st : List Value) (h : RHeap) (mc ms : Nat), rx_nx k9 rest (pc + len) la st h = some (o0, hf0, mc, ms) → rx_G p l e R s m args below meth c Q D cA A old rho nL MC MS ad0 (pc + len) la st h mc ms := by
    intro la st h mc ms hz
    obtain ⟨r, z, rfl, h1, h2⟩ := rx_nx_of hz
    rw [← h1]
    exact hk r z la st h mc ms h2 hrest
  have hgo : ∀ (off : Int) (la : RLoc) (st : List Value) (h : RHeap) (mc ms : Nat), rx_go I.2.2.1 pc off (fun z => k9 z la st h) = some (o0, hf0, mc, ms) → ∃ t : Nat, (pc : Int) + off = (t : Int) ∧ rx_G p l e R s m args below meth c Q D cA A old rho nL MC MS ad0 t la st h mc ms := by
    intro off la st h mc ms hz
    obtain ⟨r, z, h1, h2, h3⟩ := rx_go_of hz
    exact ⟨r.1, h1, hk r z la st h mc ms h3 h2⟩
  have hw : ∀ {w : Nat} {d : Jvm.Cond}, rx_wd w d = true → d.before args s = true := fun hq => hts _ (rx_wd_mem hq)
  have hK := hE.1
  have hA := hE.2.1
  cases i
  case aload_n n =>
    have hl : len = 1 := hlen.elim id (fun z => by cases z)
    subst hl
    have hh : rx_ld rx_isA la n st (fun st => rx_nx k9 rest (pc + 1) la st h) = some (o0, hf0, mc, ms) := hh
    obtain ⟨v, g1, g2, g3⟩ := rx_ld_of hh
    exact rg_aload_n hx hb hdec g1 g2 (hnx _ _ _ _ _ g3)
  case astore_n n =>
    have hl : len = 1 := hlen.elim id (fun z => by cases z)
    subst hl
    have hh : rx_str rx_isA I.1 la n st (fun la st => rx_nx k9 rest (pc + 1) la st h) = some (o0, hf0, mc, ms) := hh
    obtain ⟨v, r, rfl, g1, g2, g3⟩ := rx_str_of hh
    exact rg_astore_n hx hb hdec g1 (by rw [← hI]; exact g2) (hnx _ _ _ _ _ g3)
  case aload n =>
    have hl : len = 2 := hlen.elim id (fun z => by cases z)
    subst hl
    have hh : rx_ld rx_isA la n st (fun st => rx_nx k9 rest (pc + 2) la st h) = some (o0, hf0, mc, ms) := hh
    obtain ⟨v, g1, g2, g3⟩ := rx_ld_of hh
    exact rg_aload hx hb hdec g1 g2 (hnx _ _ _ _ _ g3)
  case astore n =>
    have hl : len = 2 := hlen.elim id (fun z => by cases z)
    subst hl
    have hh : rx_str rx_isA I.1 la n st (fun la st => rx_nx k9 rest (pc + 2) la st h) = some (o0, hf0, mc, ms) := hh
    obtain ⟨v, r, rfl, g1, g2, g3⟩ := rx_str_of hh
    exact rg_astore hx hb hdec g1 (by rw [← hI]; exact g2) (hnx _ _ _ _ _ g3)
  case iload_n n =>
    have hl : len = 1 := hlen.elim id (fun z => by cases z)
    subst hl
    have hh : rx_ld rx_isI la n st (fun st => rx_nx k9 rest (pc + 1) la st h) = some (o0, hf0, mc, ms) := hh
    obtain ⟨v, g1, g2, g3⟩ := rx_ld_of hh
    exact rg_iload_n hx hb hdec g1 g2 (hnx _ _ _ _ _ g3)
  case istore_n n =>
    have hl : len = 1 := hlen.elim id (fun z => by cases z)
    subst hl
    have hh : rx_str rx_isI I.1 la n st (fun la st => rx_nx k9 rest (pc + 1) la st h) = some (o0, hf0, mc, ms) := hh
    obtain ⟨v, r, rfl, g1, g2, g3⟩ := rx_str_of hh
    exact rg_istore_n hx hb hdec g1 (by rw [← hI]; exact g2) (hnx _ _ _ _ _ g3)
  case iload n =>
    have hl : len = 2 := hlen.elim id (fun z => by cases z)
    subst hl
    have hh : rx_ld rx_isI la n st (fun st => rx_nx k9 rest (pc + 2) la st h) = some (o0, hf0, mc, ms) := hh
    obtain ⟨v, g1, g2, g3⟩ := rx_ld_of hh
    exact rg_iload hx hb hdec g1 g2 (hnx _ _ _ _ _ g3)
  case istore n =>
    have hl : len = 2 := hlen.elim id (fun z => by cases z)
    subst hl
    have hh : rx_str rx_isI I.1 la n st (fun la st => rx_nx k9 rest (pc + 2) la st h) = some (o0, hf0, mc, ms) := hh
    obtain ⟨v, r, rfl, g1, g2, g3⟩ := rx_str_of hh
    exact rg_istore hx hb hdec g1 (by rw [← hI]; exact g2) (hnx _ _ _ _ _ g3)
  case lload_n n =>
    have hl : len = 1 := hlen.elim id (fun z => by cases z)
    subst hl
    have hh : rx_ld rx_isL la n st (fun st => rx_nx k9 rest (pc + 1) la st h) = some (o0, hf0, mc, ms) := hh
    obtain ⟨v, g1, g2, g3⟩ := rx_ld_of hh
    exact rg_lload_n hx hb hdec g1 g2 (hnx _ _ _ _ _ g3)
  case lstore_n n =>
    have hl : len = 1 := hlen.elim id (fun z => by cases z)
    subst hl
    have hh : rx_str2 rx_isL I.1 la n st (fun la st => rx_nx k9 rest (pc + 1) la st h) = some (o0, hf0, mc, ms) := hh
    obtain ⟨v, r, rfl, g1, g2, g3⟩ := rx_str2_of hh
    exact rg_lstore_n hx hb hdec g1 (by rw [← hI]; exact g2) (hnx _ _ _ _ _ g3)
  case lload n =>
    have hl : len = 2 := hlen.elim id (fun z => by cases z)
    subst hl
    have hh : rx_ld rx_isL la n st (fun st => rx_nx k9 rest (pc + 2) la st h) = some (o0, hf0, mc, ms) := hh
    obtain ⟨v, g1, g2, g3⟩ := rx_ld_of hh
    exact rg_lload hx hb hdec g1 g2 (hnx _ _ _ _ _ g3)
  case lstore n =>
    have hl : len = 2 := hlen.elim id (fun z => by cases z)
    subst hl
    have hh : rx_str2 rx_isL I.1 la n st (fun la st => rx_nx k9 rest (pc + 2) la st h) = some (o0, hf0, mc, ms) := hh
    obtain ⟨v, r, rfl, g1, g2, g3⟩ := rx_str2_of hh
    exact rg_lstore hx hb hdec g1 (by rw [← hI]; exact g2) (hnx _ _ _ _ _ g3)
  case iinc n z =>
    have hl : len = 3 := hlen.elim id (fun z => by cases z)
    subst hl
    have hh : rx_inc I.1 la n z (fun la => rx_nx k9 rest (pc + 3) la st h) = some (o0, hf0, mc, ms) := hh
    obtain ⟨v, g1, g2, g3⟩ := rx_inc_of hh
    exact rg_iinc hx hb hdec g1 (by rw [← hI]; exact g2) (hnx _ _ _ _ _ g3)
  case iconst n =>
    have hl : len = 1 := hlen.elim id (fun z => by cases z)
    subst hl
    have hh : rx_nx k9 rest (pc + 1) la (.int (Int32.ofInt n) :: st) h = some (o0, hf0, mc, ms) := hh
    exact rg_iconst hx hb hdec (hnx _ _ _ _ _ hh)
  case bipush n =>
    have hl : len = 2 := hlen.elim id (fun z => by cases z)
    subst hl
    have hh : rx_nx k9 rest (pc + 2) la (.int (Int8.ofInt n).toInt32 :: st) h = some (o0, hf0, mc, ms) := hh
    exact rg_bipush hx hb hdec (hnx _ _ _ _ _ hh)
  case sipush n =>
    have hl : len = 3 := hlen.elim id (fun z => by cases z)
    subst hl
    have hh : rx_nx k9 rest (pc + 3) la (.int (Int16.ofInt n).toInt32 :: st) h = some (o0, hf0, mc, ms) := hh
    exact rg_sipush hx hb hdec (hnx _ _ _ _ _ hh)
  case lconst n =>
    have hl : len = 1 := hlen.elim id (fun z => by cases z)
    subst hl
    have hh : rx_nx k9 rest (pc + 1) la (.long (Int64.ofNat (n : Nat)) :: st) h = some (o0, hf0, mc, ms) := hh
    exact rg_lconst hx hb hdec (hnx _ _ _ _ _ hh)
  case aconst_null =>
    have hl : len = 1 := hlen.elim id (fun z => by cases z)
    subst hl
    have hh : rx_nx k9 rest (pc + 1) la (.null :: st) h = some (o0, hf0, mc, ms) := hh
    exact rg_aconst_null hx hb hdec (hnx _ _ _ _ _ hh)
  case dup =>
    have hl : len = 1 := hlen.elim id (fun z => by cases z)
    subst hl
    have hh : rx_dup st (fun st => rx_nx k9 rest (pc + 1) la st h) = some (o0, hf0, mc, ms) := hh
    obtain ⟨a, r, rfl, g1, g2⟩ := rx_dup_of hh
    exact rg_dup hx hb hdec g1 (hnx _ _ _ _ _ g2)
  case pop =>
    have hl : len = 1 := hlen.elim id (fun z => by cases z)
    subst hl
    have hh : rx_pop st (fun st => rx_nx k9 rest (pc + 1) la st h) = some (o0, hf0, mc, ms) := hh
    obtain ⟨a, r, rfl, g1, g2⟩ := rx_pop_of hh
    exact rg_pop hx hb hdec g1 (hnx _ _ _ _ _ g2)
  case dup_x1 =>
    have hl : len = 1 := hlen.elim id (fun z => by cases z)
    subst hl
    have hh : rx_dupx1 st (fun st => rx_nx k9 rest (pc + 1) la st h) = some (o0, hf0, mc, ms) := hh
    obtain ⟨a, b, r, rfl, g1, g3, g2⟩ := rx_dupx1_of hh
    exact rg_dup_x1 hx hb hdec g1 g3 (hnx _ _ _ _ _ g2)
  case iand =>
    have hl : len = 1 := hlen.elim id (fun z => by cases z)
    subst hl
    have hh : rx_b2 (rx_iand F.2.1) rx_isI rx_isI st (fun st => rx_nx k9 rest (pc + 1) la st h) = some (o0, hf0, mc, ms) := hh
    obtain ⟨b, a, r, rfl, g1, g2, g3⟩ := rx_b2_of hh
    exact rg_iandA hx hb hF.2.1 hdec g1 g2 (hnx _ _ _ _ _ g3)
  case iadd =>
    have hl : len = 1 := hlen.elim id (fun z => by cases z)
    subst hl
    have hh : rx_b2 (rx_ib (fun x y => x + y)) rx_isI rx_isI st (fun st => rx_nx k9 rest (pc + 1) la st h) = some (o0, hf0, mc, ms) := hh
    obtain ⟨b, a, r, rfl, g1, g2, g3⟩ := rx_b2_of hh
    exact rg_iadd hx hb hdec g1 g2 (hnx _ _ _ _ _ g3)
  case isub =>
    have hl : len = 1 := hlen.elim id (fun z => by cases z)
    subst hl
    have hh : rx_b2 (rx_ib (fun x y => x - y)) rx_isI rx_isI st (fun st => rx_nx k9 rest (pc + 1) la st h) = some (o0, hf0, mc, ms) := hh
    obtain ⟨b, a, r, rfl, g1, g2, g3⟩ := rx_b2_of hh
    exact rg_isub hx hb hdec g1 g2 (hnx _ _ _ _ _ g3)
  case imul =>
    have hl : len = 1 := hlen.elim id (fun z => by cases z)
    subst hl
    have hh : rx_b2 (rx_ib (fun x y => x * y)) rx_isI rx_isI st (fun st => rx_nx k9 rest (pc + 1) la st h) = some (o0, hf0, mc, ms) := hh
    obtain ⟨b, a, r, rfl, g1, g2, g3⟩ := rx_b2_of hh
    exact rg_imul hx hb hdec g1 g2 (hnx _ _ _ _ _ g3)
  case ior =>
    have hl : len = 1 := hlen.elim id (fun z => by cases z)
    subst hl
    have hh : rx_b2 (rx_ib (fun x y => x ||| y)) rx_isI rx_isI st (fun st => rx_nx k9 rest (pc + 1) la st h) = some (o0, hf0, mc, ms) := hh
    obtain ⟨b, a, r, rfl, g1, g2, g3⟩ := rx_b2_of hh
    exact rg_ior hx hb hdec g1 g2 (hnx _ _ _ _ _ g3)
  case ishl =>
    have hl : len = 1 := hlen.elim id (fun z => by cases z)
    subst hl
    have hh : rx_b2 (rx_ib (fun x y => x <<< (y &&& 31))) rx_isI rx_isI st (fun st => rx_nx k9 rest (pc + 1) la st h) = some (o0, hf0, mc, ms) := hh
    obtain ⟨b, a, r, rfl, g1, g2, g3⟩ := rx_b2_of hh
    exact rg_ishl hx hb hdec g1 g2 (hnx _ _ _ _ _ g3)
  case ishr =>
    have hl : len = 1 := hlen.elim id (fun z => by cases z)
    subst hl
    have hh : rx_b2 (rx_ib (fun x y => x >>> (y &&& 31))) rx_isI rx_isI st (fun st => rx_nx k9 rest (pc + 1) la st h) = some (o0, hf0, mc, ms) := hh
    obtain ⟨b, a, r, rfl, g1, g2, g3⟩ := rx_b2_of hh
    exact rg_ishr hx hb hdec g1 g2 (hnx _ _ _ _ _ g3)
  case ladd =>
    have hl : len = 1 := hlen.elim id (fun z => by cases z)
    subst hl
    have hh : rx_b2 rx_ladd rx_isL rx_isL st (fun st => rx_nx k9 rest (pc + 1) la st h) = some (o0, hf0, mc, ms) := hh
    obtain ⟨b, a, r, rfl, g1, g2, g3⟩ := rx_b2_of hh
    exact rg_laddA hx hb hdec g1 g2 (hnx _ _ _ _ _ g3)
  case lsub =>
    have hl : len = 1 := hlen.elim id (fun z => by cases z)
    subst hl
    have hh : rx_b2 (rx_lb (fun x y => x - y)) rx_isL rx_isL st (fun st => rx_nx k9 rest (pc + 1) la st h) = some (o0, hf0, mc, ms) := hh
    obtain ⟨b, a, r, rfl, g1, g2, g3⟩ := rx_b2_of hh
    exact rg_lsub hx hb hdec g1 g2 (hnx _ _ _ _ _ g3)
  case lmul =>
    have hl : len = 1 := hlen.elim id (fun z => by cases z)
    subst hl
    have hh : rx_b2 (rx_lb (fun x y => x * y)) rx_isL rx_isL st (fun st => rx_nx k9 rest (pc + 1) la st h) = some (o0, hf0, mc, ms) := hh
    obtain ⟨b, a, r, rfl, g1, g2, g3⟩ := rx_b2_of hh
    exact rg_lmul hx hb hdec g1 g2 (hnx _ _ _ _ _ g3)
  case land =>
    have hl : len = 1 := hlen.elim id (fun z => by cases z)
    subst hl
    have hh : rx_b2 (rx_lb (fun x y => x &&& y)) rx_isL rx_isL st (fun st => rx_nx k9 rest (pc + 1) la st h) = some (o0, hf0, mc, ms) := hh
    obtain ⟨b, a, r, rfl, g1, g2, g3⟩ := rx_b2_of hh
    exact rg_land hx hb hdec g1 g2 (hnx _ _ _ _ _ g3)
  case lor =>
    have hl : len = 1 := hlen.elim id (fun z => by cases z)
    subst hl
    have hh : rx_b2 (rx_lb (fun x y => x ||| y)) rx_isL rx_isL st (fun st => rx_nx k9 rest (pc + 1) la st h) = some (o0, hf0, mc, ms) := hh
    obtain ⟨b, a, r, rfl, g1, g2, g3⟩ := rx_b2_of hh
    exact rg_lor hx hb hdec g1 g2 (hnx _ _ _ _ _ g3)
  case lshl =>
    have hl : len = 1 := hlen.elim id (fun z => by cases z)
    subst hl
    have hh : rx_b2 (rx_ls (fun x y => x <<< (y.toInt64 &&& 63))) rx_isL rx_isI st (fun st => rx_nx k9 rest (pc + 1) la st h) = some (o0, hf0, mc, ms) := hh
    obtain ⟨b, a, r, rfl, g1, g2, g3⟩ := rx_b2_of hh
    exact rg_lshl hx hb hdec g1 g2 (hnx _ _ _ _ _ g3)
  case lshr =>
    have hl : len = 1 := hlen.elim id (fun z => by cases z)
    subst hl
    have hh : rx_b2 (rx_ls (fun x y => x >>> (y.toInt64 &&& 63))) rx_isL rx_isI st (fun st => rx_nx k9 rest (pc + 1) la st h) = some (o0, hf0, mc, ms) := hh
    obtain ⟨b, a, r, rfl, g1, g2, g3⟩ := rx_b2_of hh
    exact rg_lshr hx hb hdec g1 g2 (hnx _ _ _ _ _ g3)
  case lushr =>
    have hl : len = 1 := hlen.elim id (fun z => by cases z)
    subst hl
    have hh : rx_b2 (rx_ls (fun x y => (x.toUInt64 >>> (y.toInt64.toUInt64 &&& Int64.toUInt64 63)).toInt64)) rx_isL rx_isI st (fun st => rx_nx k9 rest (pc + 1) la st h) = some (o0, hf0, mc, ms) := hh
    obtain ⟨b, a, r, rfl, g1, g2, g3⟩ := rx_b2_of hh
    exact rg_lushr hx hb hdec g1 g2 (hnx _ _ _ _ _ g3)
  case lcmp =>
    have hl : len = 1 := hlen.elim id (fun z => by cases z)
    subst hl
    have hh : rx_b2 (rx_lcA F.2.2) rx_isL rx_isL st (fun st => rx_nx k9 rest (pc + 1) la st h) = some (o0, hf0, mc, ms) := hh
    obtain ⟨b, a, r, rfl, g1, g2, g3⟩ := rx_b2_of hh
    exact rg_lcmpA hx hb hF.2.2 hdec g1 g2 (hnx _ _ _ _ _ g3)
  case ineg =>
    have hl : len = 1 := hlen.elim id (fun z => by cases z)
    subst hl
    have hh : rx_b1 (rx_iu (fun x => -x)) rx_isI st (fun st => rx_nx k9 rest (pc + 1) la st h) = some (o0, hf0, mc, ms) := hh
    obtain ⟨a, r, rfl, g1, g3⟩ := rx_b1_of hh
    exact rg_ineg hx hb hdec g1 (hnx _ _ _ _ _ g3)
  case i2b =>
    have hl : len = 1 := hlen.elim id (fun z => by cases z)
    subst hl
    have hh : rx_b1 (rx_iu (fun x => x.toInt8.toInt32)) rx_isI st (fun st => rx_nx k9 rest (pc + 1) la st h) = some (o0, hf0, mc, ms) := hh
    obtain ⟨a, r, rfl, g1, g3⟩ := rx_b1_of hh
    exact rg_i2b hx hb hdec g1 (hnx _ _ _ _ _ g3)
  case i2c =>
    have hl : len = 1 := hlen.elim id (fun z => by cases z)
    subst hl
    have hh : rx_b1 (rx_iu (fun x => (x.toUInt32 % 65536).toInt32)) rx_isI st (fun st => rx_nx k9 rest (pc + 1) la st h) = some (o0, hf0, mc, ms) := hh
    obtain ⟨a, r, rfl, g1, g3⟩ := rx_b1_of hh
    exact rg_i2c hx hb hdec g1 (hnx _ _ _ _ _ g3)
  case i2l =>
    have hl : len = 1 := hlen.elim id (fun z => by cases z)
    subst hl
    have hh : rx_b1 rx_i2l rx_isI st (fun st => rx_nx k9 rest (pc + 1) la st h) = some (o0, hf0, mc, ms) := hh
    obtain ⟨a, r, rfl, g1, g3⟩ := rx_b1_of hh
    exact rg_i2l hx hb hdec g1 (hnx _ _ _ _ _ g3)
  case l2i =>
    have hl : len = 1 := hlen.elim id (fun z => by cases z)
    subst hl
    have hh : rx_b1 rx_l2i rx_isL st (fun st => rx_nx k9 rest (pc + 1) la st h) = some (o0, hf0, mc, ms) := hh
    obtain ⟨a, r, rfl, g1, g3⟩ := rx_b1_of hh
    exact rg_l2i hx hb hdec g1 (hnx _ _ _ _ _ g3)
  case goto off =>
    have hl : len = 3 := hlen.elim id (fun z => by cases z)
    subst hl
    have hh : rx_go I.2.2.1 pc off (fun z => k9 z la st h) = some (o0, hf0, mc, ms) := hh
    obtain ⟨t, g1, g2⟩ := hgo _ _ _ _ _ _ hh
    exact rg_goto hx hb hdec g1 g2
  case if_icmp cnd off =>
    have hl : len = 3 := hlen.elim id (fun z => by cases z)
    subst hl
    match st, hh with
    | [], hh => cases hh
    | [_], hh => cases hh
    | b :: a :: r, hh =>
      have hh : (match rx_isI a, rx_isI b, rx_tok pc off with
        | true, true, true => rx_br (rx_cmp F.1 cnd a b) (fun _ => rx_to I.2.2.1 (rx_tgt pc off) (fun z => k9 z la r h)) (fun _ => rx_nx k9 rest (pc + 3) la r h)
        | _, _, _ => none) = some (o0, hf0, mc, ms) := hh
      cases g1 : rx_isI a <;> cases g2 : rx_isI b <;> cases hc : rx_tok pc off <;> simp only [g1, g2, hc] at hh <;> first | (cases hh; done) | skip
      obtain ⟨g3, g4⟩ := rx_br_of hh
      have ht : (pc : Int) + off = ((rx_tgt pc off : Nat) : Int) := by
        unfold rx_tgt
        rw [Int.toNat_of_nonneg (of_decide_eq_true hc)]
      refine rg_icmp hx hb hF.1 hdec ht g1 g2 (fun z => ?_) (fun z => hnx _ _ _ _ _ (g4 z))
      obtain ⟨r2, z2, e1, e2, e3⟩ := rx_to_of (g3 z)
      rw [← e1]
      exact hk r2 z2 _ _ _ _ _ e3 e2
  case ifCond cnd off =>
    have hl : len = 3 := hlen.elim id (fun z => by cases z)
    subst hl
    match st, hh with
    | [], hh => cases hh
    | a :: r, hh =>
      have hh : (match rx_isI a, rx_tok pc off with
        | true, true => rx_br (rx_cmp F.1 cnd a (.int 0)) (fun _ => rx_to I.2.2.1 (rx_tgt pc off) (fun z => k9 z la r h)) (fun _ => rx_nx k9 rest (pc + 3) la r h)
        | _, _ => none) = some (o0, hf0, mc, ms) := hh
      cases g1 : rx_isI a <;> cases hc : rx_tok pc off <;> simp only [g1, hc] at hh <;> first | (cases hh; done) | skip
      obtain ⟨g3, g4⟩ := rx_br_of hh
      have ht : (pc : Int) + off = ((rx_tgt pc off : Nat) : Int) := by
        unfold rx_tgt
        rw [Int.toNat_of_nonneg (of_decide_eq_true hc)]
      refine rg_if hx hb hF.1 hdec ht g1 (fun z => ?_) (fun z => hnx _ _ _ _ _ (g4 z))
      obtain ⟨r2, z2, e1, e2, e3⟩ := rx_to_of (g3 z)
      rw [← e1]
      exact hk r2 z2 _ _ _ _ _ e3 e2
  case getfield x =>
    have hl : len = 3 := hlen.elim id (fun z => by cases z)
    subst hl
    match aux, haok, hh with
    | [ci, f, w], haok, hh =>
      have hh : rx_gf O ci f st h (fun st => rx_nx k9 rest (pc + 3) la st h) = some (o0, hf0, mc, ms) := hh
      have haok : (match rx_nth rc_cls ci with
        | some q => Nat.blt f q.2.2 && rx_wd w (.fieldLink own x (q.2.1 f).1 (q.2.1 f).2.1 (q.2.1 f).2.2.1)
        | none => false) = true := haok
      rw [rx_nth_eq] at haok
      cases hcl : rc_cls[ci]? with
      | none => rw [hcl] at haok; cases haok
      | some q =>
        obtain ⟨C, T, N⟩ := q
        rw [hcl] at haok
        simp only [Bool.and_eq_true] at haok
        obtain ⟨a1, a2⟩ := haok
        obtain ⟨a, r, v, rfl, g1, g2⟩ := rx_gf_of hh
        rcases g2 with ⟨g2, g3⟩ | ⟨g2, fs, g3, g4⟩
        · obtain ⟨C', T', N', cv, e1, e2, e3, e4⟩ := hE.2.2.1 _ g3
          have e1 : rc_cls[ci]? = some (C', T', N') := e1
          rw [hcl] at e1
          cases e1
          have := hO1 _ g3
          have h2 : a - 1000000 < 1000000 := this
          exact rg_getfO hx hb hown e2 (hw a2) hdec g2 (by omega) e4 (hnx _ _ _ _ _ g1)
        · exact rg_getf hx hb (Ts := rc_good) hts (rc_ws_in hcl) hown hK hcl (Nat.le_of_ble_eq_true a1) (hw a2) hdec g2 g3 g4 (hnx _ _ _ _ _ g1)
  case putfield x =>
    have hl : len = 3 := hlen.elim id (fun z => by cases z)
    subst hl
    match aux, haok, hh with
    | [ci, f, w], haok, hh =>
      have hh : rx_pf (rc_fty ci f) ci f st h (fun st h => rx_nx k9 rest (pc + 3) la st h) = some (o0, hf0, mc, ms) := hh
      have haok : (match rx_nth rc_cls ci with
        | some q => Nat.blt f q.2.2 && rx_wd w (.fieldLink own x (q.2.1 f).1 (q.2.1 f).2.1 (q.2.1 f).2.2.1) && (!(q.2.1 f).2.2.2 || (ini && decide ((q.2.1 f).1 = own)))
        | none => false) = true := haok
      rw [rx_nth_eq] at haok
      cases hcl : rc_cls[ci]? with
      | none => rw [hcl] at haok; cases haok
      | some q =>
        obtain ⟨C, T, N⟩ := q
        rw [hcl] at haok
        simp only [Bool.and_eq_true, Bool.or_eq_true] at haok
        obtain ⟨⟨a1, a2⟩, a3⟩ := haok
        have a1 : f < N := Nat.le_of_ble_eq_true a1
        obtain ⟨v, a, r, fs, ty2, rfl, e1, hka, e2, e3, e4, e5⟩ := rx_pf_of hh
        obtain ⟨ty, fs0, t1, t2, -, -, -, t3⟩ := rc_has hcl
        rw [t3 f a1] at e1
        cases e1
        rcases a3 with a3 | ⟨a3, a4⟩
        · exact rg_putf hx hb (Ts := rc_good) hts (rc_ws_in hcl) hown hK ty t1 t2 hcl a1 (hw a2) (by simpa using a3) hdec hka e2 e3 e4 (hnx _ _ _ _ _ e5)
        · cases hfin : (T f).2.2.2 with
          | true => exact rg_putfF hx hb (Ts := rc_good) hts (rc_ws_in hcl) hown hK ty t1 t2 hcl a1 (hw a2) hfin (hini a3) (of_decide_eq_true a4) hdec hka e2 e3 e4 (hnx _ _ _ _ _ e5)
          | false => exact rg_putf hx hb (Ts := rc_good) hts (rc_ws_in hcl) hown hK ty t1 t2 hcl a1 (hw a2) hfin hdec hka e2 e3 e4 (hnx _ _ _ _ _ e5)
  case new x =>
    have hl : len = 3 := hlen.elim id (fun z => by cases z)
    subst hl
    simp only [rx_one] at hh
    split at hh
    · rename_i E w
      cases hI2 : I.2.2.2 with
      | nil =>
        rw [hI2] at hh
        cases st with
        | nil =>
          simp only [Option.some.injEq, Prod.mk.injEq] at hh
          obtain ⟨e1, rfl, rfl, rfl⟩ := hh
          exact hXn pc x E w la [] hdec haok ⟨0, hin9, rfl⟩ hI2 rfl e1.symm
        | cons a b => cases hh
      | cons a b => rw [hI2] at hh; cases hh
    · rename_i ci w
      have haok : (match rx_nth rc_cls ci with
        | some q => rx_wd w (.classLink own x q.1)
        | none => false) = true := haok
      rw [rx_nth_eq] at haok
      cases hcl : rc_cls[ci]? with
      | none => rw [hcl] at haok; cases haok
      | some q =>
        obtain ⟨C, T, N⟩ := q
        rw [hcl] at haok
        simp only at haok
        obtain ⟨fs, e1, e2, e3⟩ := rx_new_of hh
        obtain ⟨mc2, ms2, e4, rfl, rfl⟩ := rx_more_of e3
        obtain ⟨ty, fs0, t1, t2, t3, t4, t5, t6⟩ := rc_has hcl
        rw [e1] at t3
        cases t3
        have hp := rc_dfl_plain fs (List.mem_of_getElem? e1)
        obtain ⟨w1, w2⟩ := hwk ci _ hcl
        rw [t4]
        exact rg_new hx hb (Ts := rc_good) hts (rc_ws_in hcl) ty t1 hown (hw haok) w1 w2 hK hA hcl t5 (fun _ => rx_RL_plain hp) hMC hMS hdec e2 (hnx _ _ _ _ _ e4)
    · cases hh
  case newarray at9 =>
    have hl : len = 2 := hlen.elim id (fun z => by cases z)
    subst hl
    match aux, haok, hh with
    | [t], haok, hh =>
      have hh : rx_newa t st h (fun st h => rx_nx k9 rest (pc + 2) la st h) = some (o0, hf0, mc, ms) := hh
      have haok : (decide (rx_nth rc_arr t = some (newarray.typeOf at9)) && Nat.blt t 4) = true := haok
      rw [Bool.and_eq_true] at haok
      have a1 : rx_nth rc_arr t = some (newarray.typeOf at9) := of_decide_eq_true haok.1
      have a2 : t < 4 := Nat.le_of_ble_eq_true haok.2
      rw [rx_nth_eq] at a1
      obtain ⟨n, r, rfl, e1, e2, e3, e5⟩ := rx_newa_of hh
      obtain ⟨mc2, ms2, e6, rfl, rfl⟩ := rx_more_of e5
      have hmem := List.mem_of_getElem? a1
      have hac : ∀ ty, newarray.typeOf at9 = ty → ty ≠ .object RX4 → ty ≠ .object RX9 → (Cond.arrayClass (newarray.typeOf at9)).before args s = true := fun ty e z1 z2 => hak _ hmem (by rw [e]; exact z1) (by rw [e]; exact z2)
      match t, a2, a1, hh, e6 with
      | 0, _, a1, hh, e6 =>
        have ty0 : newarray.typeOf at9 = .int := (Option.some.inj a1).symm
        exact rg_newa (x := .inl fun _ => 0) hx hb (hac _ ty0 (fun z => by cases z) (fun z => by cases z)) ty0 (show rc_arr[0]? = some .int from rfl) hK hA (fun _ => rfl) ⟨_, rfl⟩ (fun _ => rfl) (fun _ => rfl) e1 (by show n.toNatClampNeg * 4 ≤ _; omega) hMC hMS hdec e3 (hnx _ _ _ _ _ e6)
      | 1, _, a1, hh, e6 =>
        have ty0 : newarray.typeOf at9 = .long := (Option.some.inj a1).symm
        exact rg_newa (x := .inr (.inl fun _ => 0)) hx hb (hac _ ty0 (fun z => by cases z) (fun z => by cases z)) ty0 (show rc_arr[1]? = some .long from rfl) hK hA (fun _ => rfl) ⟨_, rfl⟩ (fun _ => rfl) (fun _ => rfl) e1 (by show n.toNatClampNeg * 8 ≤ _; omega) hMC hMS hdec e3 (hnx _ _ _ _ _ e6)
      | 2, _, a1, hh, e6 =>
        have ty0 : newarray.typeOf at9 = .byte := (Option.some.inj a1).symm
        exact rg_newa (x := .inl fun _ => 0) hx hb (hac _ ty0 (fun z => by cases z) (fun z => by cases z)) ty0 (show rc_arr[2]? = some .byte from rfl) hK hA (fun _ => rfl) ⟨_, rfl⟩ (fun _ => rfl) (fun _ => rfl) e1 (by show n.toNatClampNeg * 1 ≤ _; omega) hMC hMS hdec e3 (hnx _ _ _ _ _ e6)
      | 3, _, a1, hh, e6 =>
        have ty0 : newarray.typeOf at9 = .boolean := (Option.some.inj a1).symm
        exact rg_newa (x := .inl fun _ => 0) hx hb (hac _ ty0 (fun z => by cases z) (fun z => by cases z)) ty0 (show rc_arr[3]? = some .boolean from rfl) hK hA (fun _ => rfl) ⟨_, rfl⟩ (fun _ => rfl) (fun _ => rfl) e1 (by show n.toNatClampNeg * 1 ≤ _; omega) hMC hMS hdec e3 (hnx _ _ _ _ _ e6)
  case anewarray x =>
    have hl : len = 3 := hlen.elim id (fun z => by cases z)
    subst hl
    match aux, haok, hh with
    | [t, w], haok, hh =>
      have hh : rx_newa t st h (fun st h => rx_nx k9 rest (pc + 3) la st h) = some (o0, hf0, mc, ms) := hh
      obtain ⟨n, r, rfl, e1, e2, e3, e5⟩ := rx_newa_of hh
      obtain ⟨mc2, ms2, e6, rfl, rfl⟩ := rx_more_of e5
      simp only [rx_aok] at haok
      split at haok
      · exact rg_anewa hx hb hown (hw haok) hE.2.2.2.2.2.2.1 (show rc_arr[4]? = some (.object RX4) from rfl) (Nat.le_refl _) hK hA e1 (by omega) hMC hMS hdec e3 (hnx _ _ _ _ _ e6)
      · exact rg_anewa hx hb hown (hw haok) hE.2.2.2.2.2.2.2.1 (show rc_arr[5]? = some (.object RX9) from rfl) (by decide) hK hA e1 (by omega) hMC hMS hdec e3 (hnx _ _ _ _ _ e6)
      · cases haok
  case iaload =>
    have hl : len = 1 := hlen.elim id (fun z => by cases z)
    subst hl
    have hh : rx_ald O (fun t => Nat.beq t 0) st h (fun st => rx_nx k9 rest (pc + 1) la st h) = some (o0, hf0, mc, ms) := hh
    obtain ⟨i, a, r, rfl, g0, g⟩ := rx_ald_of hh
    rcases g with ⟨t, l9, v, e1, e2, e3, e4, e5⟩ | ⟨t, n, u, e1, e2, e3, e4, e5⟩
    · obtain ⟨ty, f, f1, f2, f3⟩ := hE.2.2.2.1 _ e1
      have hlt := (hO2 _ e1).1
      have hlt : a - 1000000 < 1000000 := hlt
      have f1 : rc_arr[t]? = some ty := f1
      have ht := Nat.eq_of_beq_eq_true e3
      subst ht
      cases f1
      exact rg_ialdO hx hb hdec e2 (by omega) f2 g0 (List.getElem?_eq_some_iff.mp e4).1 (f3 _ _ e4) (hnx _ _ _ _ _ e5)
    · have ht := Nat.eq_of_beq_eq_true e3
      subst ht
      exact rg_iald hx hb hK hdec e1 e2 g0 e4 (hnx _ _ _ _ _ e5)
  case laload =>
    have hl : len = 1 := hlen.elim id (fun z => by cases z)
    subst hl
    have hh : rx_ald O (fun t => Nat.beq t 1) st h (fun st => rx_nx k9 rest (pc + 1) la st h) = some (o0, hf0, mc, ms) := hh
    obtain ⟨i, a, r, rfl, g0, g⟩ := rx_ald_of hh
    rcases g with ⟨t, l9, v, e1, e2, e3, e4, e5⟩ | ⟨t, n, u, e1, e2, e3, e4, e5⟩
    · exfalso
      have h3 : t = 0 ∨ t = 2 := (hO2 _ e1).2
      rcases h3 with rfl | rfl <;> cases e3
    · have ht := Nat.eq_of_beq_eq_true e3
      subst ht
      exact rg_lald hx hb hK hdec e1 e2 g0 e4 (hnx _ _ _ _ _ e5)
  case baload =>
    have hl : len = 1 := hlen.elim id (fun z => by cases z)
    subst hl
    have hh : rx_ald O (fun t => Nat.beq t 2 || Nat.beq t 3) st h (fun st => rx_nx k9 rest (pc + 1) la st h) = some (o0, hf0, mc, ms) := hh
    obtain ⟨i, a, r, rfl, g0, g⟩ := rx_ald_of hh
    rcases g with ⟨t, l9, v, e1, e2, e3, e4, e5⟩ | ⟨t, n, u, e1, e2, e3, e4, e5⟩
    · obtain ⟨ty, f, f1, f2, f3⟩ := hE.2.2.2.1 _ e1
      have hlt := (hO2 _ e1).1
      have hlt : a - 1000000 < 1000000 := hlt
      have f1 : rc_arr[t]? = some ty := f1
      have e3 : (Nat.beq t 2 || Nat.beq t 3) = true := e3
      rw [Bool.or_eq_true] at e3
      rcases e3 with e3 | e3
      · have ht := Nat.eq_of_beq_eq_true e3
        subst ht
        cases f1
        exact rg_baldO hx hb hdec e2 (by omega) f2 g0 (List.getElem?_eq_some_iff.mp e4).1 (f3 _ _ e4) (hnx _ _ _ _ _ e5)
      · have ht := Nat.eq_of_beq_eq_true e3
        subst ht
        have h3 := (hO2 _ e1).2
        simp at h3
    · have e3 : (Nat.beq t 2 || Nat.beq t 3) = true := e3
      rw [Bool.or_eq_true] at e3
      rcases e3 with e3 | e3
      · have ht := Nat.eq_of_beq_eq_true e3
        subst ht
        exact rg_bald hx hb hK hdec e1 e2 g0 e4 (hnx _ _ _ _ _ e5)
      · have ht := Nat.eq_of_beq_eq_true e3
        subst ht
        exact rg_zald hx hb hK hdec e1 e2 g0 e4 (hnx _ _ _ _ _ e5)
  case aaload =>
    have hl : len = 1 := hlen.elim id (fun z => by cases z)
    subst hl
    have hh : rx_ald O (fun t => Nat.ble 4 t) st h (fun st => rx_nx k9 rest (pc + 1) la st h) = some (o0, hf0, mc, ms) := hh
    obtain ⟨i, a, r, rfl, g0, g⟩ := rx_ald_of hh
    rcases g with ⟨t, l9, v, e1, e2, e3, e4, e5⟩ | ⟨t, n, u, e1, e2, e3, e4, e5⟩
    · exfalso
      have h3 : t = 0 ∨ t = 2 := (hO2 _ e1).2
      rcases h3 with rfl | rfl <;> cases e3
    · have e3 : Nat.ble 4 t = true := e3
      exact rg_aald hx hb hK (Nat.le_of_ble_eq_true e3) hdec e1 e2 g0 e4 (hnx _ _ _ _ _ e5)
  case iastore =>
    have hl : len = 1 := hlen.elim id (fun z => by cases z)
    subst hl
    have hh : rx_ast (fun t => Nat.beq t 0) (fun _ v => match rx_isI v with | true => some v | false => none) st h (fun st h => rx_nx k9 rest (pc + 1) la st h) = some (o0, hf0, mc, ms) := hh
    obtain ⟨v, i, a, r, t, n, u, w, rfl, g0, ga, e1, e2, e3, e4, e5⟩ := rx_ast_of hh
    have ht := Nat.eq_of_beq_eq_true e2
    subst ht
    have e4 : (match rx_isI v with | true => some v | false => none) = some w := e4
    cases hv9 : rx_isI v with
    | false => simp [hv9] at e4
    | true =>
      simp only [hv9, Option.some.injEq] at e4
      subst e4
      exact rg_iast hx hb hK hdec ga e1 g0 e3 hv9 (hnx _ _ _ _ _ e5)
  case lastore =>
    have hl : len = 1 := hlen.elim id (fun z => by cases z)
    subst hl
    have hh : rx_ast (fun t => Nat.beq t 1) (fun _ v => match rx_isL v with | true => some v | false => none) st h (fun st h => rx_nx k9 rest (pc + 1) la st h) = some (o0, hf0, mc, ms) := hh
    obtain ⟨v, i, a, r, t, n, u, w, rfl, g0, ga, e1, e2, e3, e4, e5⟩ := rx_ast_of hh
    have ht := Nat.eq_of_beq_eq_true e2
    subst ht
    have e4 : (match rx_isL v with | true => some v | false => none) = some w := e4
    cases hv9 : rx_isL v with
    | false => simp [hv9] at e4
    | true =>
      simp only [hv9, Option.some.injEq] at e4
      subst e4
      exact rg_last hx hb hK hdec ga e1 g0 e3 hv9 (hnx _ _ _ _ _ e5)
  case bastore =>
    have hl : len = 1 := hlen.elim id (fun z => by cases z)
    subst hl
    have hh : rx_ast (fun t => Nat.beq t 2 || Nat.beq t 3) (fun t v => match rx_isI v with | true => some (rx_iu (vp_nar (match t with | 2 => .byte | _ => .boolean)) v) | false => none) st h (fun st h => rx_nx k9 rest (pc + 1) la st h) = some (o0, hf0, mc, ms) := hh
    obtain ⟨v, i, a, r, t, n, u, w, rfl, g0, ga, e1, e2, e3, e4, e5⟩ := rx_ast_of hh
    have e2 : (Nat.beq t 2 || Nat.beq t 3) = true := e2
    cases hv9 : rx_isI v with
    | false => simp [hv9] at e4
    | true =>
      simp only [hv9, Option.some.injEq] at e4
      subst e4
      rw [Bool.or_eq_true] at e2
      rcases e2 with e2 | e2
      · have ht := Nat.eq_of_beq_eq_true e2
        subst ht
        exact rg_bast hx hb hK hdec ga e1 g0 e3 hv9 (hnx _ _ _ _ _ e5)
      · have ht := Nat.eq_of_beq_eq_true e2
        subst ht
        exact rg_zast hx hb hK hdec ga e1 g0 e3 hv9 (hnx _ _ _ _ _ e5)
  case aastore =>
    have hl : len = 1 := hlen.elim id (fun z => by cases z)
    subst hl
    have hh : rx_aast st h (fun st h => rx_nx k9 rest (pc + 1) la st h) = some (o0, hf0, mc, ms) := hh
    obtain ⟨v, i, a, r, t, n, u, rfl, g0, ga, e1, e2, e3, e5, e6⟩ := rx_aast_of hh
    rcases e6 with rfl | ⟨b, ci, vs, rfl, f1, f2, f3⟩
    · exact rg_aastN hx hb hK e2 hdec ga (kv := 0) e1 g0 e3 (hnx _ _ _ _ _ e5)
    · exact rg_aast hx hb hK e2 hdec ga f1 f2 f3 e1 g0 e3 (hnx _ _ _ _ _ e5)
  case arraylength =>
    have hl : len = 1 := hlen.elim id (fun z => by cases z)
    subst hl
    have hh : rx_len O st h (fun st => rx_nx k9 rest (pc + 1) la st h) = some (o0, hf0, mc, ms) := hh
    obtain ⟨a, r, rfl, g⟩ := rx_len_of hh
    rcases g with ⟨t, l9, e1, e2, e5⟩ | ⟨t, n, u, e1, e2, e5⟩
    · obtain ⟨ty, f, f1, f2, f3⟩ := hE.2.2.2.1 _ e1
      have hlt : a - 1000000 < 1000000 := (hO2 _ e1).1
      exact rg_alenO hx hb hdec e2 (by omega) f2 (hnx _ _ _ _ _ e5)
    · exact rg_alen hx hb hK hdec e1 e2 (hnx _ _ _ _ _ e5)
  case ldc x =>
    have hl : len = 2 := hlen.elim id (fun z => by cases z)
    subst hl
    simp only [rx_one] at hh
    split at hh
    · rename_i v w
      have haok : rx_wd w (.constant own x (Int32.ofNat v)) = true := haok
      exact rg_ldc hx hb hown (hw haok) hdec (hnx _ _ _ _ _ hh)
    · rename_i j w
      match j, haok, hh with
      | 1, haok, hh =>
        have haok : (decide (own = RX10) && Nat.beq x 33) = true := haok
        rw [Bool.and_eq_true] at haok
        have a1 : own = RX10 := of_decide_eq_true haok.1
        have a2 := Nat.eq_of_beq_eq_true haok.2
        subst a2
        rw [a1] at hown
        exact rg_ldcS hx hb hown hE.2.2.2.2.2.2.2.2.2.2.2.1 (by decide) hdec (hnx _ _ _ _ _ hh)
      | 3, haok, hh =>
        have haok : (decide (own = RX5) && Nat.beq x 55) = true := haok
        rw [Bool.and_eq_true] at haok
        have a1 : own = RX5 := of_decide_eq_true haok.1
        have a2 := Nat.eq_of_beq_eq_true haok.2
        subst a2
        rw [a1] at hown
        exact rg_ldcS hx hb hown hE.2.2.2.2.2.2.2.2.2.2.2.2.1 (by decide) hdec (hnx _ _ _ _ _ hh)
      | 0, haok, hh => cases haok
      | 2, haok, hh => cases haok
      | j + 4, haok, hh => cases haok
    · cases hh
  case ldc2_w x =>
    have hl : len = 3 := hlen.elim id (fun z => by cases z)
    subst hl
    match aux, haok, hh with
    | [v, w], haok, hh =>
      have hh : rx_nx k9 rest (pc + 3) la (.long (Int64.ofNat v) :: st) h = some (o0, hf0, mc, ms) := hh
      have haok : rx_wd w (.constantLong own x (Int64.ofNat v)) = true := haok
      exact rg_ldc2 hx hb hown (hw haok) hdec (hnx _ _ _ _ _ hh)
  case getstatic x =>
    have hl : len = 3 := hlen.elim id (fun z => by cases z)
    subst hl
    simp only [rx_one] at hh
    split at hh
    · rename_i w
      have haok : rx_wd w (.fieldLink own x "java/lang/String" "COMPACT_STRINGS" "Z") = true := haok
      exact rg_gets hx hb hown hE.2.2.2.2.1 (hw haok) hdec (hnx _ _ _ _ _ hh)
    · rename_i w
      have haok : rx_wd w (.fieldLink own x "jdk/internal/util/Preconditions" "SIOOBE_FORMATTER" "Ljava/util/function/BiFunction;") = true := haok
      exact rg_getsq hx hb hown hE.2.2.2.2.2.1 (hw haok) hdec (hnx _ _ _ _ _ hh)
    · cases hh
  case tableswitch d9 lo hi offs =>
    exact rx_tsw_ok hx hb hF.1 hdec hk hh
  case invokespecial x =>
    have hl : len = 3 := hlen.elim id (fun z => by cases z)
    subst hl
    simp only [rx_one] at hh
    split at hh
    · rename_i w
      have haok : rx_wd w (.methodLink own x Lib.objectInit) = true := haok
      split at hh
      · rename_i a r
        cases g1 : Nat.ble (rx_cats r) 8 <;> cases g2 : Nat.blt a 2000000 <;> simp only [g1, g2] at hh <;> first | (cases hh; done) | skip
        exact rg_objinit hx hb hml hown (hw haok) hoi.1 hoi.2 hfr (by omega) (Nat.le_of_ble_eq_true g1) hdec (Nat.le_of_ble_eq_true g2) (hnx _ _ _ _ _ hh)
      · cases hh
    · rename_i mi n ci w
      obtain ⟨as, r, a, e1, e2, e3, e4⟩ := rx_inv1_of hh
      obtain ⟨v, h2, mc2, ms2, e5, e6⟩ := rx_backN_of e4
      obtain ⟨mc3, ms3, e7, rfl, rfl⟩ := rx_more_of e6
      exact hcI pc x mi n ci w la st as r a h h2 v mc3 ms3 mc2 ms2 hdec haok e1 e2 e3 e5 (hnx _ _ _ _ _ e7)
    · cases hh
  case invokestatic x =>
    have hl : len = 3 := hlen.elim id (fun z => by cases z)
    subst hl
    simp only [rx_one] at hh
    split at hh
    · rename_i w
      have haok : rx_wd w (.methodLink own x arraycopyName) = true := haok
      obtain ⟨a, b, n0, n1, u0, u1, r, rfl, g1, g2, g3, g4, g5, g6⟩ := rx_cp0_of hh
      exact rg_cp0 hx hb hml hown (hw haok) hcp hK hfr hlo hdec g1 g2 g3 g4 g5 (hnx _ _ _ _ _ g6)
    · rename_i mi n w
      obtain ⟨as, r, e1, e2, e4⟩ := rx_inv0_of hh
      obtain ⟨v, h2, mc2, ms2, e5, e6⟩ := rx_backN_of e4
      obtain ⟨mc3, ms3, e7, rfl, rfl⟩ := rx_more_of e6
      exact hcS pc x mi n w la st as r h h2 v mc3 ms3 mc2 ms2 hdec haok e1 e2 e5 (hnx _ _ _ _ _ e7)
    · cases hh
  case invokevirtual x =>
    have hl : len = 3 := hlen.elim id (fun z => by cases z)
    subst hl
    match aux, haok, hh with
    | [mi, n, ci, w], haok, hh =>
      have hh : rx_inv O C9 st h mi n ci 1 (fun r o => rx_back I.2.2.2 pc r o (fun st h => rx_nx k9 rest (pc + 3) la st h) (fun t h => rx_to I.2.2.1 t (fun z => k9 z la [.ref 2000000] h))) = some (o0, hf0, mc, ms) := hh
      obtain ⟨as, r, a, e1, e2, e3, e4⟩ := rx_inv1_of hh
      rcases rx_back_of e4 with ⟨v, h2, mc2, ms2, e5, e6⟩ | ⟨E, h2, mc2, ms2, t, e5, e6, e7⟩ | ⟨E, h2, mc2, ms2, e5, e6, e7⟩
      · obtain ⟨mc3, ms3, e7, rfl, rfl⟩ := rx_more_of e6
        exact hcV pc x mi n ci w la st as r a h h2 v mc3 ms3 mc2 ms2 hdec haok e1 e2 e3 e5 (hnx _ _ _ _ _ e7)
      · obtain ⟨mc3, ms3, e8, rfl, rfl⟩ := rx_more_of e7
        obtain ⟨r2, z2, f1, f2, f3⟩ := rx_to_of e8
        subst f1
        exact hcH pc x mi n ci w E _ la st as r a h h2 mc3 ms3 mc2 ms2 hdec haok e1 e2 e3 e5 e6 (hk r2 z2 _ _ _ _ _ f3 f2)
      · simp only [Prod.mk.injEq] at e7
        obtain ⟨f1, f2, rfl, rfl⟩ := e7
        exact hcX pc x mi n ci w E la st as r a h h2 _ _ hdec haok e1 e2 e3 e5 e6 f1 f2
  case return_ =>
    have hl : len = 1 := hlen.elim id (fun z => by cases z)
    subst hl
    cases st with
    | cons a r => cases hr9 : I.2.1 <;> (simp only [rx_one, hr9] at hh; cases hh)
    | nil =>
      cases hr9 : I.2.1 with
      | succ n => simp only [rx_one, hr9] at hh; cases hh
      | zero =>
        simp only [rx_one, hr9, Option.some.injEq, Prod.mk.injEq] at hh
        obtain ⟨e1, rfl, rfl, rfl⟩ := hh
        exact hRv pc la hdec e1.symm hr9
  case lreturn =>
    have hl : len = 1 := hlen.elim id (fun z => by cases z)
    subst hl
    obtain ⟨v, rfl, g1, g2, e1, rfl, rfl, rfl⟩ := rx_lret_of hh
    exact hRl pc la v hdec e1 g1 g2
  case areturn =>
    have hl : len = 1 := hlen.elim id (fun z => by cases z)
    subst hl
    obtain ⟨v, rfl, g1, g2, e1, rfl, rfl, rfl⟩ := rx_aret_of hh
    exact hRa pc la v hdec e1 g1 g2
  case ireturn =>
    have hl : len = 1 := hlen.elim id (fun z => by cases z)
    subst hl
    obtain ⟨v, rfl, g1, e1, rfl, rfl, rfl⟩ := rx_iret_of hh
    exact hRi pc la v hdec e1 g1
  all_goals cases hh
end StepT
