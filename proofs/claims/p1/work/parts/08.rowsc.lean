theorem rx_arc_of {t ci : Nat} (h4 : 4 ≤ t) (h : rc_arc[t]? = some ci) : ∃ C T N, rc_arr[t]? = some (.object C) ∧ rc_cls[ci]? = some (C, T, N) := by
  have hl : t < 6 := (List.getElem?_eq_some_iff.mp h).1
  rcases (show t = 4 ∨ t = 5 by omega) with rfl | rfl
  · cases h; exact ⟨_, _, _, rfl, rfl⟩
  · cases h; exact ⟨_, _, _, rfl, rfl⟩
theorem rx_nfw {x : Nat} {cst : List Value} {R : Room} (hq : x = (cst.map fun v => v.category).sum) (hst : x ≤ 8) (hlo : 200 ≤ R.locals) : (cst.map fun v => v.category).sum + (nativeFrameWords "java/lang/System" "arraycopy" 5 + 11) ≤ R.locals := by
  have h9 : nativeFrameWords "java/lang/System" "arraycopy" 5 + 11 ≤ 100 := by decide +kernel
  omega
section RowsD
variable {p : Program} {l : Launch} {e : Env} {R : Room} {s : State} {m : MethodId} {args : Array Value} {below : List Frame} {meth : Method} {c : Code} {Q : State → Prop} {cc : ByteArray} {D : va_G} {cA : Nat → ClassId} {A : Nat → Prop} {old : Nat → Nat} {rho : UInt32 → Int32} {nL MC MS pc mc ms : Nat} {ad0 : List Nat} {la : RLoc} {st : List Value} {h : RHeap} {own C : String} {T : u_T} {N ci f k index t : Nat} {Ts : List Cond}
theorem rg_aast (hx : p.tables.exec = Jvm.exec) (hb : c.code = cc) (hK : va_K D rc_cls (rx_tys cA) s) (ht4 : 4 ≤ t) (hdg : decode cc pc = .ok (.aastore, 1)) (hk : k < 1000000) {i : Int32} {n kv : Nat} {u : List (Nat × Value)} (hkv : kv < 1000000) {vs : List Value} (hhv : h[kv]? = some (.inr (ci, vs))) (hct : rc_arc[t]? = some ci) (hh : h[k]? = some (.inl (t, n, u))) (h0 : ¬ i < 0) (hi : i.toNatClampNeg < n) (kk : rx_G p l e R s m args below meth c Q D cA A old rho nL MC MS ad0 (pc + 1) la st (h.set k (.inl (t, n, (i.toNatClampNeg, .ref kv) :: u))) mc ms) : rx_G p l e R s m args below meth c Q D cA A old rho nL MC MS ad0 pc la (.ref kv :: .int i :: .ref k :: st) h mc ms := by
  intro H locs ls cst0 cells slots hR h1 h2
  obtain ⟨ws, lc, r1, r2, r3, r4, r5, r6, r7, r8⟩ := hR
  obtain ⟨cv, cst1, rfl, hr, q5⟩ := rx_RL.uncons r7
  obtain ⟨cw, cst2, rfl, hr2, q6⟩ := rx_RL.uncons q5
  obtain ⟨cz, cst, rfl, hr3, q7⟩ := rx_RL.uncons q6
  cases hr2
  obtain ⟨b, e, rfl, hw, he⟩ := rx_ref hr3 hk r1 hh
  obtain ⟨x, rfl, hkd, htl, hel⟩ := he.arr
  have hkd2 : ∃ f, x = .inr (.inr (.inr (.inr f))) := by
    match t, ht4, hkd with
    | t + 4, _, hkd => exact hkd
  obtain ⟨f, rfl⟩ := hkd2
  obtain ⟨bv, ev, rfl, hwv, hev⟩ := rx_ref hr hkv r1 hhv
  obtain ⟨gs, rfl, -⟩ := hev.obj
  obtain ⟨C, T, N, ht, hc⟩ := rx_arc_of ht4 hct
  refine va_astq (r := (C, T, N)) hx hb hK r2 r3 r4 k t kv ci hw (rx_tys_at ht) hwv hc (rx_in h0 hi) hdg (fun H1 locs1 r2 r3 r4 => ?_)
  have ea := rx_ads_set (e := .inl (cA t, n, .inr (.inr (.inr (.inr (va_up f i.toNatClampNeg (some bv))))))) hw
  refine kk H1 locs1 ls _ cells slots ⟨_, lc, ?_, r2, r3, r4, r5, ?_, ?_, ?_⟩ h1 h2
  · rw [ea]
    refine r1.set ⟨rfl, rfl, ?_, htl, fun j hj => ?_⟩
    · match t, ht4 with
      | t + 4, _ => exact ⟨_, rfl⟩
    rw [rx_look_cons]
    by_cases hji : j = i.toNatClampNeg
    · rw [if_pos hji]
      simp only [rx_xv, va_up, if_pos hji]
      exact hr
    · rw [if_neg hji]
      have := hel j hj
      simp only [rx_xv, va_up, if_neg hji] at this ⊢
      exact this
  · rw [ea]; exact r6
  · rw [ea]; exact q7
  · rw [ea]; exact r8
theorem rg_aastN (hx : p.tables.exec = Jvm.exec) (hb : c.code = cc) (hK : va_K D rc_cls (rx_tys cA) s) (ht4 : 4 ≤ t) (hdg : decode cc pc = .ok (.aastore, 1)) (hk : k < 1000000) {i : Int32} {n kv : Nat} {u : List (Nat × Value)} (hh : h[k]? = some (.inl (t, n, u))) (h0 : ¬ i < 0) (hi : i.toNatClampNeg < n) (kk : rx_G p l e R s m args below meth c Q D cA A old rho nL MC MS ad0 (pc + 1) la st (h.set k (.inl (t, n, (i.toNatClampNeg, .null) :: u))) mc ms) : rx_G p l e R s m args below meth c Q D cA A old rho nL MC MS ad0 pc la (.null :: .int i :: .ref k :: st) h mc ms := by
  intro H locs ls cst0 cells slots hR h1 h2
  obtain ⟨ws, lc, r1, r2, r3, r4, r5, r6, r7, r8⟩ := hR
  obtain ⟨cv, cst1, rfl, hr, q5⟩ := rx_RL.uncons r7
  obtain ⟨cw, cst2, rfl, hr2, q6⟩ := rx_RL.uncons q5
  obtain ⟨cz, cst, rfl, hr3, q7⟩ := rx_RL.uncons q6
  cases hr2
  obtain ⟨b, e, rfl, hw, he⟩ := rx_ref hr3 hk r1 hh
  obtain ⟨x, rfl, hkd, htl, hel⟩ := he.arr
  have hkd2 : ∃ f, x = .inr (.inr (.inr (.inr f))) := by
    match t, ht4, hkd with
    | t + 4, _, hkd => exact hkd
  obtain ⟨f, rfl⟩ := hkd2
  cases hr
  obtain ⟨C, ht⟩ := rx_arr_ref ht4 htl
  refine va_astqN hx hb hK r2 r3 r4 k t hw (rx_tys_at ht) (rx_in h0 hi) hdg (fun H1 locs1 r2 r3 r4 => ?_)
  have ea := rx_ads_set (e := .inl (cA t, n, .inr (.inr (.inr (.inr (va_up f i.toNatClampNeg (none))))))) hw
  refine kk H1 locs1 ls _ cells slots ⟨_, lc, ?_, r2, r3, r4, r5, ?_, ?_, ?_⟩ h1 h2
  · rw [ea]
    refine r1.set ⟨rfl, rfl, ?_, htl, fun j hj => ?_⟩
    · match t, ht4 with
      | t + 4, _ => exact ⟨_, rfl⟩
    rw [rx_look_cons]
    by_cases hji : j = i.toNatClampNeg
    · rw [if_pos hji]
      simp only [rx_xv, va_up, if_pos hji]
      exact rfl
    · rw [if_neg hji]
      have := hel j hj
      simp only [rx_xv, va_up, if_neg hji] at this ⊢
      exact this
  · rw [ea]; exact r6
  · rw [ea]; exact q7
  · rw [ea]; exact r8
theorem rg_alen (hx : p.tables.exec = Jvm.exec) (hb : c.code = cc) (hK : va_K D rc_cls (rx_tys cA) s) (hdg : decode cc pc = .ok (.arraylength, 1)) (hk : k < 1000000) {n : Nat} {u : List (Nat × Value)} (hh : h[k]? = some (.inl (t, n, u))) (kk : rx_G p l e R s m args below meth c Q D cA A old rho nL MC MS ad0 (pc + 1) la (.int (Int32.ofNat n) :: st) h mc ms) : rx_G p l e R s m args below meth c Q D cA A old rho nL MC MS ad0 pc la (.ref k :: st) h mc ms := by
  intro H locs ls cst0 cells slots hR h1 h2
  obtain ⟨ws, lc, r1, r2, r3, r4, r5, r6, r7, r8⟩ := hR
  obtain ⟨cv, cst, rfl, hr, q7⟩ := rx_RL.uncons r7
  obtain ⟨b, e, rfl, hw, he⟩ := rx_ref hr hk r1 hh
  obtain ⟨x, rfl, hkd, htl, hel⟩ := he.arr
  obtain ⟨ty, hty⟩ : ∃ ty, rc_arr[t]? = some ty := ⟨_, List.getElem?_eq_getElem htl⟩
  exact va_alen hx hb hK r2 k t hw (rx_tys_at hty) rfl hdg (kk H locs ls _ cells slots ⟨ws, lc, r1, r2, r3, r4, r5, r6, ⟨rfl, q7⟩, r8⟩ h1 h2)
theorem rg_alenO (hx : p.tables.exec = Jvm.exec) (hb : c.code = cc) (hdg : decode cc pc = .ok (.arraylength, 1)) (hk : 1000000 ≤ k) (hk2 : k < 2000000) {ty : FieldType} {n : Nat} {g : Nat → Value} (hT : va_T ty (old (k - 1000000)) n g A s s.heap) (kk : rx_G p l e R s m args below meth c Q D cA A old rho nL MC MS ad0 (pc + 1) la (.int (Int32.ofNat n) :: st) h mc ms) : rx_G p l e R s m args below meth c Q D cA A old rho nL MC MS ad0 pc la (.ref k :: st) h mc ms := by
  intro H locs ls cst0 cells slots hR h1 h2
  obtain ⟨ws, lc, r1, r2, r3, r4, r5, r6, r7, r8⟩ := hR
  obtain ⟨cv, cst, rfl, hr, q7⟩ := rx_RL.uncons r7
  have hr := rx_refO hr hk hk2
  subst hr
  exact va_tlen hx hb hT r4 rfl hdg (kk H locs ls _ cells slots ⟨ws, lc, r1, r2, r3, r4, r5, r6, ⟨rfl, q7⟩, r8⟩ h1 h2)
theorem rg_ialdO (hx : p.tables.exec = Jvm.exec) (hb : c.code = cc) (hdg : decode cc pc = .ok (.iaload, 1)) (hk : 1000000 ≤ k) (hk2 : k < 2000000) {n : Nat} {i : Int32} {g : Nat → Value} (hT : va_T .int (old (k - 1000000)) n g A s s.heap) (h0 : ¬ i < 0) (hi : i.toNatClampNeg < n) {v : Value} (hv : ∀ ads, rx_R old rho ads v (g i.toNatClampNeg)) (kk : rx_G p l e R s m args below meth c Q D cA A old rho nL MC MS ad0 (pc + 1) la (v :: st) h mc ms) : rx_G p l e R s m args below meth c Q D cA A old rho nL MC MS ad0 pc la (.int i :: .ref k :: st) h mc ms := by
  intro H locs ls cst0 cells slots hR h1 h2
  obtain ⟨ws, lc, r1, r2, r3, r4, r5, r6, r7, r8⟩ := hR
  obtain ⟨cv, cst1, rfl, hr, q6⟩ := rx_RL.uncons r7
  obtain ⟨cw, cst, rfl, hr2, q7⟩ := rx_RL.uncons q6
  cases hr
  have hr2 := rx_refO hr2 hk hk2
  subst hr2
  exact va_ti hx hb hT r4 (rx_in h0 hi) rfl hdg (kk H locs ls _ cells slots ⟨ws, lc, r1, r2, r3, r4, r5, r6, ⟨hv _, q7⟩, r8⟩ h1 h2)
theorem rg_baldO (hx : p.tables.exec = Jvm.exec) (hb : c.code = cc) (hdg : decode cc pc = .ok (.baload, 1)) (hk : 1000000 ≤ k) (hk2 : k < 2000000) {n : Nat} {i : Int32} {g : Nat → Value} (hT : va_T .byte (old (k - 1000000)) n g A s s.heap) (h0 : ¬ i < 0) (hi : i.toNatClampNeg < n) {v : Value} (hv : ∀ ads, rx_R old rho ads v (g i.toNatClampNeg)) (kk : rx_G p l e R s m args below meth c Q D cA A old rho nL MC MS ad0 (pc + 1) la (v :: st) h mc ms) : rx_G p l e R s m args below meth c Q D cA A old rho nL MC MS ad0 pc la (.int i :: .ref k :: st) h mc ms := by
  intro H locs ls cst0 cells slots hR h1 h2
  obtain ⟨ws, lc, r1, r2, r3, r4, r5, r6, r7, r8⟩ := hR
  obtain ⟨cv, cst1, rfl, hr, q6⟩ := rx_RL.uncons r7
  obtain ⟨cw, cst, rfl, hr2, q7⟩ := rx_RL.uncons q6
  cases hr
  have hr2 := rx_refO hr2 hk hk2
  subst hr2
  exact va_tb hx hb hT r4 (rx_in h0 hi) rfl hdg (kk H locs ls _ cells slots ⟨ws, lc, r1, r2, r3, r4, r5, r6, ⟨hv _, q7⟩, r8⟩ h1 h2)
theorem rg_ldc (hx : p.tables.exec = Jvm.exec) (hb : c.code = cc) (hown : s.vm.findClass own = some m.cls) {v : Int32} (hcst : (Jvm.Cond.constant own index v).before args s = true) (hdg : decode cc pc = .ok (.ldc index, 2)) (kk : rx_G p l e R s m args below meth c Q D cA A old rho nL MC MS ad0 (pc + 2) la (.int v :: st) h mc ms) : rx_G p l e R s m args below meth c Q D cA A old rho nL MC MS ad0 pc la st h mc ms := by
  intro H locs ls cst cells slots hR h1 h2
  obtain ⟨ws, lc, r1, r2, r3, r4, r5, r6, r7, r8⟩ := hR
  exact lv_ldc hx hb hown hcst hdg (kk H locs ls _ cells slots ⟨ws, lc, r1, r2, r3, r4, r5, r6, ⟨rfl, r7⟩, r8⟩ h1 h2)
theorem rg_ldc2 (hx : p.tables.exec = Jvm.exec) (hb : c.code = cc) (hown : s.vm.findClass own = some m.cls) {v : Int64} (hcst : (Jvm.Cond.constantLong own index v).before args s = true) (hdg : decode cc pc = .ok (.ldc2_w index, 3)) (kk : rx_G p l e R s m args below meth c Q D cA A old rho nL MC MS ad0 (pc + 3) la (.long v :: st) h mc ms) : rx_G p l e R s m args below meth c Q D cA A old rho nL MC MS ad0 pc la st h mc ms := by
  intro H locs ls cst cells slots hR h1 h2
  obtain ⟨ws, lc, r1, r2, r3, r4, r5, r6, r7, r8⟩ := hR
  exact lv_ldc2 hx hb hown hcst hdg (kk H locs ls _ cells slots ⟨ws, lc, r1, r2, r3, r4, r5, r6, ⟨rfl, r7⟩, r8⟩ h1 h2)
theorem rg_ldcS (hx : p.tables.exec = Jvm.exec) (hb : c.code = cc) (hown : s.vm.findClass own = some m.cls) {tx : String} (hZ : vk_R own index tx (old k) s) (hk : k < 1000000) (hdg : decode cc pc = .ok (.ldc index, 2)) (kk : rx_G p l e R s m args below meth c Q D cA A old rho nL MC MS ad0 (pc + 2) la (.ref (1000000 + k) :: st) h mc ms) : rx_G p l e R s m args below meth c Q D cA A old rho nL MC MS ad0 pc la st h mc ms := by
  intro H locs ls cst cells slots hR h1 h2
  obtain ⟨ws, lc, r1, r2, r3, r4, r5, r6, r7, r8⟩ := hR
  exact va_ldcS hx hb hown hZ hdg (kk H locs ls _ cells slots ⟨ws, lc, r1, r2, r3, r4, r5, r6, ⟨Or.inr (Or.inl ⟨Nat.le_add_right _ _, Nat.lt_of_lt_of_le (Nat.add_lt_add_left hk 1000000) (by decide), by rw [Nat.add_sub_cancel_left]⟩), r7⟩, r8⟩ h1 h2)
theorem rg_gets (hx : p.tables.exec = Jvm.exec) (hb : c.code = cc) (hown : s.vm.findClass own = some m.cls) {fo fn fd : String} {x : Int32} (hZ : va_Z fo fn fd (.int x) A s s.heap) (hlink : (Cond.fieldLink own index fo fn fd).before args s = true) (hdg : decode cc pc = .ok (.getstatic index, 3)) (kk : rx_G p l e R s m args below meth c Q D cA A old rho nL MC MS ad0 (pc + 3) la (.int x :: st) h mc ms) : rx_G p l e R s m args below meth c Q D cA A old rho nL MC MS ad0 pc la st h mc ms := by
  intro H locs ls cst cells slots hR h1 h2
  obtain ⟨ws, lc, r1, r2, r3, r4, r5, r6, r7, r8⟩ := hR
  exact va_gets hx hb hZ r4 hown hlink (fun _ z => z) hdg (kk H locs ls _ cells slots ⟨ws, lc, r1, r2, r3, r4, r5, r6, ⟨rfl, r7⟩, r8⟩ h1 h2)
theorem rg_getsq (hx : p.tables.exec = Jvm.exec) (hb : c.code = cc) (hown : s.vm.findClass own = some m.cls) {fo fn fd : String} (hZ : va_Zq fo fn fd A s s.heap) (hlink : (Cond.fieldLink own index fo fn fd).before args s = true) (hdg : decode cc pc = .ok (.getstatic index, 3)) (kk : rx_G p l e R s m args below meth c Q D cA A old rho nL MC MS ad0 (pc + 3) la (.ref 2000000 :: st) h mc ms) : rx_G p l e R s m args below meth c Q D cA A old rho nL MC MS ad0 pc la st h mc ms := by
  intro H locs ls cst cells slots hR h1 h2
  obtain ⟨ws, lc, r1, r2, r3, r4, r5, r6, r7, r8⟩ := hR
  rcases hZ with hZ | ⟨t, hZ⟩
  · exact va_gets hx hb hZ r4 hown hlink (fun _ z => z) hdg (kk H locs ls _ cells slots ⟨ws, lc, r1, r2, r3, r4, r5, r6, ⟨Or.inl ⟨Nat.le_refl _, Or.inl rfl⟩, r7⟩, r8⟩ h1 h2)
  · exact va_gets hx hb hZ r4 hown hlink (fun _ z => z) hdg (kk H locs ls _ cells slots ⟨ws, lc, r1, r2, r3, r4, r5, r6, ⟨Or.inl ⟨Nat.le_refl _, Or.inr ⟨t, rfl⟩⟩, r7⟩, r8⟩ h1 h2)
theorem rg_tswO (hx : p.tables.exec = Jvm.exec) (hb : c.code = cc) {dflt lo hi : Int} {offs : Array Int} {len t : Nat} {x : Int32} (hdg : decode cc pc = .ok (.tableswitch dflt lo hi offs, len)) (hx2 : x.toInt < lo ∨ hi < x.toInt) (ht : (pc : Int) + dflt = (t : Int)) (kk : rx_G p l e R s m args below meth c Q D cA A old rho nL MC MS ad0 t la st h mc ms) : rx_G p l e R s m args below meth c Q D cA A old rho nL MC MS ad0 pc la (.int x :: st) h mc ms := by
  intro H locs ls cst0 cells slots hR h1 h2
  obtain ⟨ws, lc, r1, r2, r3, r4, r5, r6, r7, r8⟩ := hR
  obtain ⟨cv, cst, rfl, hr, q7⟩ := rx_RL.uncons r7
  cases hr
  exact lv_tableOut hx hb hdg hx2 ht (kk H locs ls _ cells slots ⟨ws, lc, r1, r2, r3, r4, r5, r6, q7, r8⟩ h1 h2)
theorem rg_tswI (hx : p.tables.exec = Jvm.exec) (hb : c.code = cc) {dflt lo hi : Int} {offs : Array Int} {len t : Nat} {x : Int32} {off : Int} (hdg : decode cc pc = .ok (.tableswitch dflt lo hi offs, len)) (hx1 : ¬ x.toInt < lo) (hx2 : ¬ hi < x.toInt) (ho : offs[(x.toInt - lo).toNat]? = some off) (ht : (pc : Int) + off = (t : Int)) (kk : rx_G p l e R s m args below meth c Q D cA A old rho nL MC MS ad0 t la st h mc ms) : rx_G p l e R s m args below meth c Q D cA A old rho nL MC MS ad0 pc la (.int x :: st) h mc ms := by
  intro H locs ls cst0 cells slots hR h1 h2
  obtain ⟨ws, lc, r1, r2, r3, r4, r5, r6, r7, r8⟩ := hR
  obtain ⟨cv, cst, rfl, hr, q7⟩ := rx_RL.uncons r7
  cases hr
  exact lv_tableIn hx hb hdg hx1 hx2 ho ht (kk H locs ls _ cells slots ⟨ws, lc, r1, r2, r3, r4, r5, r6, q7, r8⟩ h1 h2)
theorem rg_tswF (hx : p.tables.exec = Jvm.exec) (hb : c.code = cc) {dflt lo hi : Int} {offs : Array Int} {len t : Nat} {i : UInt32} (hi0 : i ≠ 0) (hdg : decode cc pc = .ok (.tableswitch dflt lo hi offs, len)) (hx2 : (rho i).toInt < lo ∨ hi < (rho i).toInt) (ht : (pc : Int) + dflt = (t : Int)) (kk : rx_G p l e R s m args below meth c Q D cA A old rho nL MC MS ad0 t la st h mc ms) : rx_G p l e R s m args below meth c Q D cA A old rho nL MC MS ad0 pc la (.float i :: st) h mc ms := by
  intro H locs ls cst0 cells slots hR h1 h2
  obtain ⟨ws, lc, r1, r2, r3, r4, r5, r6, r7, r8⟩ := hR
  obtain ⟨cv, cst, rfl, hr, q7⟩ := rx_RL.uncons r7
  obtain ⟨x, rfl, h9⟩ := hr
  have h9 := h9 hi0
  subst h9
  exact lv_tableOut hx hb hdg hx2 ht (kk H locs ls _ cells slots ⟨ws, lc, r1, r2, r3, r4, r5, r6, q7, r8⟩ h1 h2)
theorem rg_objinit (hx : p.tables.exec = Jvm.exec) (hb : c.code = cc) (hml : c.maxLocals = nL) (hown : s.vm.findClass own = some m.cls) (hlink : (Cond.methodLink own index Lib.objectInit).before args s = true) (hinst : (Cond.instanceMethod Lib.objectInit).before args s = true) (hcode : (Cond.code Lib.objectInit ⟨#[0xb1]⟩ 1 none).before args s = true) (hfr : 1 ≤ R.frames) (hlo : 20 ≤ R.locals) (hst : rx_cats st ≤ 8) (hdg : decode cc pc = .ok (.invokespecial index, 3)) (hk : k < 2000000) (kk : rx_G p l e R s m args below meth c Q D cA A old rho nL MC MS ad0 (pc + 3) la st h mc ms) : rx_G p l e R s m args below meth c Q D cA A old rho nL MC MS ad0 pc la (.ref k :: st) h mc ms := by
  intro H locs ls cst0 cells slots hR h1 h2
  obtain ⟨ws, lc, r1, r2, r3, r4, r5, r6, r7, r8⟩ := hR
  obtain ⟨cv, cst, rfl, hr, q7⟩ := rx_RL.uncons r7
  have hb2 : ∃ b, cv = .ref b := by
    rcases hr with ⟨h9, -⟩ | ⟨-, -, h9⟩ | ⟨-, b, -, h9⟩
    · exact absurd hk (Nat.not_lt.mpr h9)
    · exact ⟨_, h9⟩
    · exact ⟨_, h9⟩
  obtain ⟨b, rfl⟩ := hb2
  have hq := q7.cats
  refine W.objInit hx hb hown hlink hinst hcode (g := F0 m pc ls (.ref b :: cst)) rfl (r5.1.trans hml.symm) rfl hdg hfr ?_ (kk H locs ls _ cells slots ⟨ws, lc, r1, r2, r3, r4, r5, r6, q7, r8⟩ h1 h2)
  show 2 * 0 + (cst.map fun v => v.category).sum + 12 ≤ R.locals
  omega
theorem rg_iandA (hx : p.tables.exec = Jvm.exec) (hb : c.code = cc) {F : List (UInt32 × Int32 × Int32)} (hF : ∀ q ∈ F, rho q.1 &&& q.2.1 = q.2.2) (hdg : decode cc pc = .ok (.iand, 1)) {a b : Value} (ha : rx_isI a = true) (hb2 : rx_isI b = true) (kk : rx_G p l e R s m args below meth c Q D cA A old rho nL MC MS ad0 (pc + 1) la (rx_iand F a b :: st) h mc ms) : rx_G p l e R s m args below meth c Q D cA A old rho nL MC MS ad0 pc la (b :: a :: st) h mc ms := by
  intro H locs ls cst0 cells slots hR h1 h2
  obtain ⟨ws, lc, r1, r2, r3, r4, r5, r6, r7, r8⟩ := hR
  obtain ⟨cv, cst1, rfl, hr, q6⟩ := rx_RL.uncons r7
  obtain ⟨cw, cst, rfl, hr2, q7⟩ := rx_RL.uncons q6
  obtain ⟨y, rfl⟩ := hr.isI hb2
  obtain ⟨x, rfl⟩ := hr2.isI ha
  exact lv_iand hx hb hdg (kk H locs ls _ cells slots ⟨ws, lc, r1, r2, r3, r4, r5, r6, ⟨rx_R.iand hF hr2 hr, q7⟩, r8⟩ h1 h2)
theorem rg_laddA (hx : p.tables.exec = Jvm.exec) (hb : c.code = cc) (hdg : decode cc pc = .ok (.ladd, 1)) {a b : Value} (ha : rx_isL a = true) (hb2 : rx_isL b = true) (kk : rx_G p l e R s m args below meth c Q D cA A old rho nL MC MS ad0 (pc + 1) la (rx_ladd a b :: st) h mc ms) : rx_G p l e R s m args below meth c Q D cA A old rho nL MC MS ad0 pc la (b :: a :: st) h mc ms := by
  intro H locs ls cst0 cells slots hR h1 h2
  obtain ⟨ws, lc, r1, r2, r3, r4, r5, r6, r7, r8⟩ := hR
  obtain ⟨cv, cst1, rfl, hr, q6⟩ := rx_RL.uncons r7
  obtain ⟨cw, cst, rfl, hr2, q7⟩ := rx_RL.uncons q6
  obtain ⟨y, rfl⟩ := hr.isL hb2
  obtain ⟨x, rfl⟩ := hr2.isL ha
  exact lv_ladd hx hb hdg (kk H locs ls _ cells slots ⟨ws, lc, r1, r2, r3, r4, r5, r6, ⟨rx_R.ladd hr2 hr, q7⟩, r8⟩ h1 h2)
theorem rg_lcmpA (hx : p.tables.exec = Jvm.exec) (hb : c.code = cc) {F : List (UInt64 × Int64 × Int32)} (hF : ∀ q ∈ F, lg_cmp (rx_dl rho q.1) q.2.1 = q.2.2) (hdg : decode cc pc = .ok (.lcmp, 1)) {a b : Value} (ha : rx_isL a = true) (hb2 : rx_isL b = true) (kk : rx_G p l e R s m args below meth c Q D cA A old rho nL MC MS ad0 (pc + 1) la (rx_lcA F a b :: st) h mc ms) : rx_G p l e R s m args below meth c Q D cA A old rho nL MC MS ad0 pc la (b :: a :: st) h mc ms := by
  intro H locs ls cst0 cells slots hR h1 h2
  obtain ⟨ws, lc, r1, r2, r3, r4, r5, r6, r7, r8⟩ := hR
  obtain ⟨cv, cst1, rfl, hr, q6⟩ := rx_RL.uncons r7
  obtain ⟨cw, cst, rfl, hr2, q7⟩ := rx_RL.uncons q6
  obtain ⟨y, rfl⟩ := hr.isL hb2
  obtain ⟨x, rfl⟩ := hr2.isL ha
  exact W.lcmp hx hb hdg (kk H locs ls _ cells slots ⟨ws, lc, r1, r2, r3, r4, r5, r6, ⟨rx_R.lcA hF hr2 hr, q7⟩, r8⟩ h1 h2)
theorem rg_cp0 (hx : p.tables.exec = Jvm.exec) (hb : c.code = cc) (hml : c.maxLocals = nL) (hown : s.vm.findClass own = some m.cls) (hlink : (Cond.methodLink own index arraycopyName).before args s = true) (hcp : (Cond.native arraycopyName).before args s = true ∧ (Cond.static arraycopyName).before args s = true ∧ (Cond.initialized "java/lang/System").before args s = true) (hK : va_K D rc_cls (rx_tys cA) s) (hfr : 1 ≤ R.frames) (hlo : 200 ≤ R.locals) (hdg : decode cc pc = .ok (.invokestatic index, 3)) {a b n0 n1 : Nat} {u0 u1 : List (Nat × Value)} (hka : a < 1000000) (hkb : b < 1000000) (hha : h[a]? = some (.inl (2, n1, u1))) (hhb : h[b]? = some (.inl (2, n0, u0))) (hst : rx_cats st ≤ 8) (kk : rx_G p l e R s m args below meth c Q D cA A old rho nL MC MS ad0 (pc + 3) la st h mc ms) : rx_G p l e R s m args below meth c Q D cA A old rho nL MC MS ad0 pc la (.int 0 :: .int 0 :: .ref a :: .int 0 :: .ref b :: st) h mc ms := by
  intro H locs ls cst0 cells slots hR h1 h2
  obtain ⟨ws, lc, r1, r2, r3, r4, r5, r6, r7, r8⟩ := hR
  obtain ⟨v1, c1, rfl, e1, q1⟩ := rx_RL.uncons r7
  obtain ⟨v2, c2, rfl, e2, q2⟩ := rx_RL.uncons q1
  obtain ⟨v3, c3, rfl, e3, q3⟩ := rx_RL.uncons q2
  obtain ⟨v4, c4, rfl, e4, q4⟩ := rx_RL.uncons q3
  obtain ⟨v5, cst, rfl, e5, q7⟩ := rx_RL.uncons q4
  cases e1
  cases e2
  cases e4
  obtain ⟨ba, ea, rfl, hwa, hea⟩ := rx_ref e3 hka r1 hha
  obtain ⟨bb, eb, rfl, hwb, heb⟩ := rx_ref e5 hkb r1 hhb
  obtain ⟨xa, rfl, hkda, htl, hela⟩ := hea.arr
  obtain ⟨xb, rfl, hkdb, -, -⟩ := heb.arr
  obtain ⟨ga, hga⟩ := hkda
  obtain ⟨gb, hgb⟩ := hkdb
  have hga : xa = .inl ga := hga
  have hgb : xb = .inl gb := hgb
  subst hga hgb
  have hq := q7.cats
  refine va_copyi (ty := .byte) hx hb (hml.trans r5.1.symm) hown hlink hcp.1 hcp.2.1 hcp.2.2 hK r2 r3 r4 b a 2 2 hwb hwa (rx_tys_at (show rc_arr[2]? = some .byte from rfl)) (rx_tys_at (show rc_arr[2]? = some .byte from rfl)) rfl (by decide) (by decide) (by decide) (Nat.zero_le _) (Nat.zero_le _) (fun i hi => absurd hi (Nat.not_lt_zero _)) hfr (rx_nfw hq hst hlo) hdg (fun H1 locs1 r2 r3 r4 => ?_)
  have ea := rx_ads_set (e := .inl (cA 2, n1, .inl (va_cpy gb ga (0 : Int32).toNatClampNeg (0 : Int32).toNatClampNeg (0 : Int32).toNatClampNeg))) hwa
  have hset : h.set a (.inl (2, n1, u1)) = h := by
    apply List.ext_getElem?
    intro i
    by_cases hi : a = i
    · subst hi
      rw [List.getElem?_set_self (List.getElem?_eq_some_iff.mp hha).1, hha]
    · rw [List.getElem?_set_ne hi]
  refine kk H1 locs1 ls _ cells slots ⟨_, lc, ?_, r2, r3, r4, r5, ?_, ?_, ?_⟩ h1 h2
  · rw [ea, ← hset]
    refine r1.set ⟨rfl, rfl, ⟨_, rfl⟩, htl, fun j hj => ?_⟩
    have h9 := hela j hj
    have h8 : va_cpy gb ga (0 : Int32).toNatClampNeg (0 : Int32).toNatClampNeg (0 : Int32).toNatClampNeg j = ga j := by
      simp only [va_cpy]
      rw [if_neg]
      intro z
      have z1 : 0 ≤ j ∧ j < 0 + 0 := z
      omega
    show rx_R old rho _ _ (.int (va_cpy gb ga (0 : Int32).toNatClampNeg (0 : Int32).toNatClampNeg (0 : Int32).toNatClampNeg j))
    rw [h8]
    exact h9
  · rw [ea]; exact r6
  · rw [ea]; exact q7
  · rw [ea]; exact r8
end RowsD
