theorem rx_good_in {w : Nat} {x : Jvm.Cond} (h : rx_wd w x = true) : GoodIn rc_good (x :: rc_good) := by
  have hg : ∀ z ∈ rc_good, z ∈ rc_good ∧ ((z.onTables && z.keeps) = true ∨ ∃ ty, z = .arrayClass ty) := fun z hz => ⟨hz, good_of_word (List.mem_filter.mp hz).2⟩
  intro z hz
  rcases List.mem_cons.mp hz with rfl | hz
  · exact hg _ (rx_wd_mem h)
  · exact hg _ hz
theorem rx_sigok_of {sg : RSig} {n : Nat} (h : rx_sigok sg n = true) : sg.1.cls ≠ "java/lang/invoke/MethodHandle" ∧ sg.1.cls ≠ "java/lang/invoke/VarHandle" ∧ (parseMethodDescriptor sg.1.desc).map (fun d => d.parameters.length) = some n := by
  unfold rx_sigok at h
  rw [Bool.and_eq_true, Bool.and_eq_true] at h
  exact ⟨of_decide_eq_true h.1.1, of_decide_eq_true h.1.2, of_decide_eq_true h.2⟩
theorem rx_recv_lt {O : ROld} {ci : Nat} {h : RHeap} {a : Nat} (hO1 : ∀ q ∈ O.1, q.1 < 1000000) (hr : rx_recv O ci h (.ref a) = true) : a < 2000000 := by
  simp only [rx_recv] at hr
  cases ho : rx_old a with
  | false => exact Nat.lt_of_lt_of_le (rx_old_of ho) (by decide)
  | true =>
    simp only [ho] at hr
    cases hf : rx_oldF O.1 (a - 1000000) ci 0 with
    | none => simp [hf] at hr
    | some v =>
      have := hO1 _ (rx_oldF_of hf)
      have h2 : a - 1000000 < 1000000 := this
      omega
section Calls16
variable {p : Program} {l : Launch} {e : Env} {R : Room} {s : State} {m : MethodId} {args : Array Value} {below : List Frame} {meth : Method} {c : Code} {Q : State → Prop} {cc : ByteArray} {D : va_G} {cA : Nat → ClassId} {A : Nat → Prop} {old : Nat → Nat} {rho : UInt32 → Int32} {nL MC MS : Nat} {ad0 : List Nat} {O : ROld} {F : RFacts} {C9 : Nat → List Value → RHeap → Option RRes} {own : String} {ini : Bool} {sigs : List RSig} {d : Nat} {C : String} {T : u_T} {N : Nat}
theorem rx_recv_ok {ci : Nat} {h : RHeap} {a : Nat} (hE : rx_E O D cA A old rho s) (hO1 : ∀ q ∈ O.1, q.1 < 1000000) (hcl : rc_cls[ci]? = some (C, T, N)) (hr : rx_recv O ci h (.ref a) = true) : ∀ (ws : va_W) (H : Heap) (locs : List Loc) (cb : Value), rx_RW old rho cA (ws.map (·.1)) h ws → va_P D rc_cls ws H → va_S A s.heap H locs → rx_R old rho (ws.map (·.1)) (.ref a) cb → ∃ cell : Cell, ∀ b, cb = .ref b → H[b]? = some cell ∧ cell.vm.isStatics = false ∧ s.vm.findClass C = some cell.cls := by
  intro ws H locs cb r1 r2 r4 hR
  have hlt := rx_recv_lt hO1 hr
  simp only [rx_recv] at hr
  cases ho : rx_old a with
  | false =>
    simp only [ho] at hr
    cases hn : rx_nth h a with
    | none => simp [hn] at hr
    | some x =>
      cases x with
      | inl y => simp [hn] at hr
      | inr y =>
        obtain ⟨c0, fs⟩ := y
        simp only [hn] at hr
        rw [rx_nth_eq] at hn
        have hc0 := Nat.eq_of_beq_eq_true hr
        subst hc0
        obtain ⟨b, e9, rfl, hw, he⟩ := rx_ref hR (rx_old_of ho) r1 hn
        obtain ⟨gs, rfl, -⟩ := he.obj
        obtain ⟨cell, g1, g2, g3⟩ := va_recv hE.1 r2 hcl hw
        exact ⟨cell, fun b2 hb2 => by cases hb2; exact ⟨g1, g2, g3⟩⟩
  | true =>
    simp only [ho] at hr
    cases hf : rx_oldF O.1 (a - 1000000) ci 0 with
    | none => simp [hf] at hr
    | some v =>
      obtain ⟨C2, T2, N2, cv, e1, e2, e3, -⟩ := hE.2.2.1 _ (rx_oldF_of hf)
      have e1 : rc_cls[ci]? = some (C2, T2, N2) := e1
      rw [hcl] at e1
      cases e1
      have hcb := rx_refO hR (Nat.le_of_ble_eq_true ho) hlt
      obtain ⟨cell, g1, g2, g3, -⟩ := e3.kept r4.2.1
      exact ⟨cell, fun b2 hb2 => by rw [hcb] at hb2; cases hb2; exact ⟨g1, g2, g3⟩⟩
theorem rx_hcS (hS : CallFix p m c cc nL s args rc_good own) (hE : rx_E O D cA A old rho s) (hO1 : ∀ q ∈ O.1, q.1 < 1000000) (hMC : MC ≤ R.cells) (hMS : MS ≤ R.slots) (hfr : d + 11 ≤ R.frames) (hlo : 64 * d + 264 ≤ R.locals) (ih : ∀ (mi : Nat) (as : List Value) (h : RHeap) (r : RRes), C9 mi as h = some r → ∀ sg, sigs[mi]? = some sg → rx_CS l O D cA A old rho sg d as h r) : ∀ (pc x mi n w : Nat) (la : RLoc) (st as r : List Value) (h h2 : RHeap) (v : Option Value) (mc ms mc2 ms2 : Nat), decode cc pc = .ok (.invokestatic x, 3) → rx_aok ini own sigs (.invokestatic x) [mi, n, w] = true → rx_take n [] st = some (as, r) → rx_cats r ≤ 8 → C9 mi as h = some (.inl v, h2, mc2, ms2) → rx_G p l e R s m args below meth c Q D cA A old rho nL MC MS ad0 (pc + 3) la (v.toList ++ r) h2 mc ms → rx_G p l e R s m args below meth c Q D cA A old rho nL MC MS ad0 pc la st h (mc + mc2) (ms + ms2) := by
  intro pc x mi n w la st as r h h2 v mc ms mc2 ms2 hdec haok htk hst hC kk
  have hw : ∀ {w : Nat} {x : Jvm.Cond}, rx_wd w x = true → x.before args s = true := fun hq => hS.2.2.2.2 _ (rx_wd_mem hq)
  simp only [rx_aok, rx_nth_eq] at haok
  cases hsg : sigs[mi]? with
  | none => rw [hsg] at haok; cases haok
  | some sg =>
    rw [hsg] at haok
    simp only [Bool.and_eq_true] at haok
    obtain ⟨⟨⟨a1, a2⟩, a3⟩, a4⟩ := haok
    have hM := ih _ _ _ _ hC sg hsg
    obtain ⟨y, bytes, ret, wc, wi, wsel, wini, hh, nL9⟩ := sg
    simp only [rx_sgok, Bool.and_eq_true] at a3
    obtain ⟨⟨b1, b2⟩, b3⟩ := a3
    have b3 : nL9 ≤ 40 := Nat.le_of_ble_eq_true b3
    have hgi := rx_good_in b1
    have hd := rx_sigok_of a2
    have hR : (rx_rm d mc2 ms2).frames + 1 ≤ R.frames ∧ 8 + (nL9 + 11) + (rx_rm d mc2 ms2).locals ≤ R.locals := ⟨by show d + 10 + 1 ≤ _; omega, by show 8 + (nL9 + 11) + (64 * d + 200) ≤ _; omega⟩
    cases hh with
    | nil => exact rg_callS hS hE hM ⟨callB_of n hS.2.2.2.2 hgi rfl rfl rfl (hw b2) (hw a1) hd hR, hw a4⟩ hMC hMS htk hdec hst kk
    | cons z zs => exact rg_callSW hS hE hM ⟨⟨rfl, rfl, hR.1, hR.2, pay_in hS.2.2.2.2 hgi, List.mem_cons_self⟩, hw b1, hw b2, ⟨hd.1, hd.2.1⟩, (fun sig h => by have h2 := hd.2.2; rw [h] at h2; exact (Option.some.inj h2).symm), hw a1, hw a4⟩ hMC hMS htk hdec hst kk
theorem rx_hcI (hS : CallFix p m c cc nL s args rc_good own) (hE : rx_E O D cA A old rho s) (hO1 : ∀ q ∈ O.1, q.1 < 1000000) (hMC : MC ≤ R.cells) (hMS : MS ≤ R.slots) (hfr : d + 11 ≤ R.frames) (hlo : 64 * d + 264 ≤ R.locals) (ih : ∀ (mi : Nat) (as : List Value) (h : RHeap) (r : RRes), C9 mi as h = some r → ∀ sg, sigs[mi]? = some sg → rx_CS l O D cA A old rho sg d as h r) : ∀ (pc x mi n ci w : Nat) (la : RLoc) (st as r : List Value) (a : Nat) (h h2 : RHeap) (v : Option Value) (mc ms mc2 ms2 : Nat), decode cc pc = .ok (.invokespecial x, 3) → rx_aok ini own sigs (.invokespecial x) [mi, n, ci, w] = true → rx_take n [] st = some (as, .ref a :: r) → rx_cats r ≤ 8 → rx_recv O ci h (.ref a) = true → C9 mi (.ref a :: as) h = some (.inl v, h2, mc2, ms2) → rx_G p l e R s m args below meth c Q D cA A old rho nL MC MS ad0 (pc + 3) la (v.toList ++ r) h2 mc ms → rx_G p l e R s m args below meth c Q D cA A old rho nL MC MS ad0 pc la st h (mc + mc2) (ms + ms2) := by
  intro pc x mi n ci w la st as r a h h2 v mc ms mc2 ms2 hdec haok htk hst hrv hC kk
  have hw : ∀ {w : Nat} {x : Jvm.Cond}, rx_wd w x = true → x.before args s = true := fun hq => hS.2.2.2.2 _ (rx_wd_mem hq)
  have hk := rx_recv_lt hO1 hrv
  rw [rx_aok] at haok
  rw [rx_nth_eq] at haok
  cases hsg : sigs[mi]? with
  | none => rw [hsg] at haok; cases haok
  | some sg =>
    rw [hsg] at haok
    simp only [Bool.and_eq_true, Bool.or_eq_true] at haok
    obtain ⟨⟨⟨⟨⟨⟨a1, a5⟩, a6⟩, a2⟩, a7⟩, a3⟩, a4⟩ := haok
    have hM := ih _ _ _ _ hC sg hsg
    obtain ⟨y, bytes, ret, wc, wi, wsel, wini, hh, nL9⟩ := sg
    simp only [rx_sgok, Bool.and_eq_true] at a3
    obtain ⟨⟨b1, b2⟩, b3⟩ := a3
    have b3 : nL9 ≤ 40 := Nat.le_of_ble_eq_true b3
    have hgi := rx_good_in b1
    have hd := rx_sigok_of a2
    have hR : (rx_rm d mc2 ms2).frames + 1 ≤ R.frames ∧ 8 + (nL9 + 11) + (rx_rm d mc2 ms2).locals ≤ R.locals := ⟨by show d + 10 + 1 ≤ _; omega, by show 8 + (nL9 + 11) + (64 * d + 200) ≤ _; omega⟩
    have a6 : ret = none := of_decide_eq_true a6
    subst a6
    have e5 : y.name = "<init>" := of_decide_eq_true a5
    cases hh with
    | cons z zs => cases a7
    | nil =>
      rcases a1 with ((a1 | a1) | a1) | a1
      · exact rg_callI (ret := none) hS hE hM ⟨callB_of n hS.2.2.2.2 hgi rfl rfl rfl (hw b2) (hw a1) hd hR, e5, hw a4⟩ hMC hMS htk hk hdec hst kk
      · have c1 : own = RX11 := of_decide_eq_true a1.1.1
        have c2 := Nat.eq_of_beq_eq_true a1.1.2
        have c3 : y = ⟨RX8, "<init>", "()V"⟩ := of_decide_eq_true a1.2
        subst c1 c2 c3
        exact rg_callIN (ret := none) (host := RX11) hS hE hM ⟨va_cnB n hS.2.2.2.2 hgi rfl rfl rfl hE.2.2.2.2.2.2.2.2.1 (hw b2) hd hR, e5, hw a4⟩ hMC hMS htk hk hdec hst kk
      · have c1 : own = RX11 := of_decide_eq_true a1.1.1
        have c2 := Nat.eq_of_beq_eq_true a1.1.2
        have c3 : y = ⟨RX1, "<init>", "()V"⟩ := of_decide_eq_true a1.2
        subst c1 c2 c3
        exact rg_callIN (ret := none) (host := RX11) hS hE hM ⟨va_cnB n hS.2.2.2.2 hgi rfl rfl rfl hE.2.2.2.2.2.2.2.2.2.1 (hw b2) hd hR, e5, hw a4⟩ hMC hMS htk hk hdec hst kk
      · have c1 : own = RX3 := of_decide_eq_true a1.1.1
        have c2 := Nat.eq_of_beq_eq_true a1.1.2
        have c3 : y = ⟨RX8, "<init>", "()V"⟩ := of_decide_eq_true a1.2
        subst c1 c2 c3
        exact rg_callIN (ret := none) (host := RX11) hS hE hM ⟨va_cnB n hS.2.2.2.2 hgi rfl rfl rfl hE.2.2.2.2.2.2.2.2.2.2.1 (hw b2) hd hR, e5, hw a4⟩ hMC hMS htk hk hdec hst kk
theorem rx_hcV (hS : CallFix p m c cc nL s args rc_good own) (hE : rx_E O D cA A old rho s) (hO1 : ∀ q ∈ O.1, q.1 < 1000000) (hMC : MC ≤ R.cells) (hMS : MS ≤ R.slots) (hfr : d + 11 ≤ R.frames) (hlo : 64 * d + 264 ≤ R.locals) (ih : ∀ (mi : Nat) (as : List Value) (h : RHeap) (r : RRes), C9 mi as h = some r → ∀ sg, sigs[mi]? = some sg → rx_CS l O D cA A old rho sg d as h r) : ∀ (pc x mi n ci w : Nat) (la : RLoc) (st as r : List Value) (a : Nat) (h h2 : RHeap) (v : Option Value) (mc ms mc2 ms2 : Nat), decode cc pc = .ok (.invokevirtual x, 3) → rx_aok ini own sigs (.invokevirtual x) [mi, n, ci, w] = true → rx_take n [] st = some (as, .ref a :: r) → rx_cats r ≤ 8 → rx_recv O ci h (.ref a) = true → C9 mi (.ref a :: as) h = some (.inl v, h2, mc2, ms2) → rx_G p l e R s m args below meth c Q D cA A old rho nL MC MS ad0 (pc + 3) la (v.toList ++ r) h2 mc ms → rx_G p l e R s m args below meth c Q D cA A old rho nL MC MS ad0 pc la st h (mc + mc2) (ms + ms2) := by
  intro pc x mi n ci w la st as r a h h2 v mc ms mc2 ms2 hdec haok htk hst hrv hC kk
  have hw : ∀ {w : Nat} {x : Jvm.Cond}, rx_wd w x = true → x.before args s = true := fun hq => hS.2.2.2.2 _ (rx_wd_mem hq)
  have hk := rx_recv_lt hO1 hrv
  have haok : (match rx_nth sigs mi, rx_nth rc_cls ci with
    | some sg, some q => rx_wd w (.methodLink own x sg.1) && rx_sigok sg n && decide (sg.1.cls = q.1) && rx_sgok sg && rx_wd sg.2.2.2.2.1 (.instanceMethod sg.1) && rx_wd sg.2.2.2.2.2.1 (.selects sg.1.cls sg.1 sg.1)
    | _, _ => false) = true := haok
  rw [rx_nth_eq, rx_nth_eq] at haok
  cases hsg : sigs[mi]? with
  | none => rw [hsg] at haok; cases haok
  | some sg =>
    cases hcl : rc_cls[ci]? with
    | none => rw [hsg, hcl] at haok; cases haok
    | some q =>
    obtain ⟨C, T, N⟩ := q
    rw [hsg, hcl] at haok
    simp only [Bool.and_eq_true] at haok
    obtain ⟨⟨⟨⟨⟨a1, a2⟩, a5⟩, a3⟩, a4⟩, a6⟩ := haok
    have hM := ih _ _ _ _ hC sg hsg
    obtain ⟨y, bytes, ret, wc, wi, wsel, wini, hh, nL9⟩ := sg
    simp only [rx_sgok, Bool.and_eq_true] at a3
    obtain ⟨⟨b1, b2⟩, b3⟩ := a3
    have b3 : nL9 ≤ 40 := Nat.le_of_ble_eq_true b3
    have hgi := rx_good_in b1
    have hd := rx_sigok_of a2
    have hR : (rx_rm d mc2 ms2).frames + 1 ≤ R.frames ∧ 8 + (nL9 + 11) + (rx_rm d mc2 ms2).locals ≤ R.locals := ⟨by show d + 10 + 1 ≤ _; omega, by show 8 + (nL9 + 11) + (64 * d + 200) ≤ _; omega⟩
    have a5 : y.cls = C := of_decide_eq_true a5
    subst a5
    have hrv2 := rx_recv_ok hE hO1 hcl hrv
    cases hh with
    | nil => exact rg_callV hS hE hM ⟨callB_of n hS.2.2.2.2 hgi rfl rfl rfl (hw b2) (hw a1) hd hR, hw a4, hw a6⟩ hMC hMS htk hrv2 hk hdec hst kk
    | cons z zs => exact rg_callVW hS hE hM ⟨⟨rfl, rfl, hR.1, hR.2, pay_in hS.2.2.2.2 hgi, List.mem_cons_self⟩, hw b1, hw b2, ⟨hd.1, hd.2.1⟩, (fun sig h => by have h2 := hd.2.2; rw [h] at h2; exact (Option.some.inj h2).symm), hw a1, hw a4, hw a6⟩ hMC hMS htk hrv2 hk hdec hst kk
/-- a call that throws, out of a row -/
theorem rx_hcT (hS : CallFix p m c cc nL s args rc_good own) (hE : rx_E O D cA A old rho s) (hO1 : ∀ q ∈ O.1, q.1 < 1000000) (hMC : MC ≤ R.cells) (hMS : MS ≤ R.slots) (hfr : d + 11 ≤ R.frames) (hlo : 64 * d + 264 ≤ R.locals) (ih : ∀ (mi : Nat) (as : List Value) (h : RHeap) (r : RRes), C9 mi as h = some r → ∀ sg, sigs[mi]? = some sg → rx_CS l O D cA A old rho sg d as h r) {pc x mi n ci w E : Nat} {la : RLoc} {st as r : List Value} {a : Nat} {h h2 : RHeap} {mc ms mc2 ms2 : Nat} (hdec : decode cc pc = .ok (.invokevirtual x, 3)) (haok : rx_aok ini own sigs (.invokevirtual x) [mi, n, ci, w] = true) (htk : rx_take n [] st = some (as, .ref a :: r)) (hst : rx_cats r ≤ 8) (hrv : rx_recv O ci h (.ref a) = true) (hC : C9 mi (.ref a :: as) h = some (.inr E, h2, mc2, ms2)) (hnt : ∀ sg, sigs[mi]? = some sg → sg.2.2.2.2.2.2.2.1 = [])
    (kk : ∀ (H : Heap) (locs : List Loc) (ls : Array Slot) (rest : List Value) (cells slots : Nat) (ws : va_W) (lc : RLoc) (q : Addr) (ce : Cell), rx_RW old rho cA (ws.map (·.1)) h2 ws → va_P D rc_cls ws H → va_D A ws → va_S A s.heap H locs → lv_has ls nL lc → rx_RC old rho (ws.map (·.1)) la lc → (∃ l, ws.map (·.1) = ad0 ++ l) → H[q]? = some ce → ce.vm = .none → s.vm.findClass (rx_XN E) = some ce.cls → cells + mc = MC → slots + ms = MS → vx_W p l e R s m args below meth c H locs cells slots Q (F0 m pc ls rest) q) : rx_G p l e R s m args below meth c Q D cA A old rho nL MC MS ad0 pc la st h (mc + mc2) (ms + ms2) := by
  have hw : ∀ {w : Nat} {x : Jvm.Cond}, rx_wd w x = true → x.before args s = true := fun hq => hS.2.2.2.2 _ (rx_wd_mem hq)
  have hk := rx_recv_lt hO1 hrv
  have haok : (match rx_nth sigs mi, rx_nth rc_cls ci with
    | some sg, some q => rx_wd w (.methodLink own x sg.1) && rx_sigok sg n && decide (sg.1.cls = q.1) && rx_sgok sg && rx_wd sg.2.2.2.2.1 (.instanceMethod sg.1) && rx_wd sg.2.2.2.2.2.1 (.selects sg.1.cls sg.1 sg.1)
    | _, _ => false) = true := haok
  rw [rx_nth_eq, rx_nth_eq] at haok
  cases hsg : sigs[mi]? with
  | none => rw [hsg] at haok; cases haok
  | some sg =>
    cases hcl : rc_cls[ci]? with
    | none => rw [hsg, hcl] at haok; cases haok
    | some q =>
    obtain ⟨C, T, N⟩ := q
    rw [hsg, hcl] at haok
    simp only [Bool.and_eq_true] at haok
    obtain ⟨⟨⟨⟨⟨a1, a2⟩, a5⟩, a3⟩, a4⟩, a6⟩ := haok
    have hM := ih _ _ _ _ hC sg hsg
    have hnt := hnt sg hsg
    obtain ⟨y, bytes, ret, wc, wi, wsel, wini, hh, nL9⟩ := sg
    simp only [rx_sgok, Bool.and_eq_true] at a3
    obtain ⟨⟨b1, b2⟩, b3⟩ := a3
    have b3 : nL9 ≤ 40 := Nat.le_of_ble_eq_true b3
    have hgi := rx_good_in b1
    have hd := rx_sigok_of a2
    have hR : (rx_rm d mc2 ms2).frames + 1 ≤ R.frames ∧ 8 + (nL9 + 11) + (rx_rm d mc2 ms2).locals ≤ R.locals := ⟨by show d + 10 + 1 ≤ _; omega, by show 8 + (nL9 + 11) + (64 * d + 200) ≤ _; omega⟩
    have a5 : y.cls = C := of_decide_eq_true a5
    subst a5
    have hnt : hh = [] := hnt
    subst hnt
    exact rg_callX hS hE hM ⟨callB_of n hS.2.2.2.2 hgi rfl rfl rfl (hw b2) (hw a1) hd hR, hw a4, hw a6⟩ hMC hMS htk (rx_recv_ok hE hO1 hcl hrv) hk hdec hst kk
end Calls16
