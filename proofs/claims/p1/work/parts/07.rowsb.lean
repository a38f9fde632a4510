def rx_tys (cA : Nat → ClassId) : List (ClassId × FieldType) := (List.range rc_arr.length).map fun t => (cA t, rc_arr.getD t .int)
theorem rx_tys_at {cA : Nat → ClassId} {t : Nat} {ty : FieldType} (h : rc_arr[t]? = some ty) : (rx_tys cA)[t]? = some (cA t, ty) := by
  have ht : t < rc_arr.length := (List.getElem?_eq_some_iff.mp h).1
  simp [rx_tys, List.getElem?_range ht, h]
theorem rx_ref {old : Nat → Nat} {rho : UInt32 → Int32} {cA : Nat → ClassId} {ws : va_W} {h : RHeap} {k : Nat} {cv : Value} {a : RCell} (hr : rx_R old rho (ws.map (·.1)) (.ref k) cv) (hk : k < 1000000) (r1 : rx_RW old rho cA (ws.map (·.1)) h ws) (hh : h[k]? = some a) : ∃ b e, cv = .ref b ∧ ws[k]? = some (b, e) ∧ rx_RE old rho cA (ws.map (·.1)) a e := by
  obtain ⟨⟨b, e⟩, hq, he⟩ := r1.get hh
  rcases hr with ⟨h1, -⟩ | ⟨h1, -⟩ | ⟨-, x, h2, h3⟩
  · exact absurd hk (Nat.not_lt.mpr (Nat.le_trans (by decide) h1))
  · exact absurd hk (Nat.not_lt.mpr h1)
  · rw [List.getElem?_map, hq] at h2
    cases h2
    exact ⟨b, e, h3, hq, he⟩
theorem rx_refO {old : Nat → Nat} {rho : UInt32 → Int32} {ads : List Nat} {k : Nat} {cv : Value} (hr : rx_R old rho ads (.ref k) cv) (hk : 1000000 ≤ k) (hk2 : k < 2000000) : cv = .ref (old (k - 1000000)) := by
  rcases hr with ⟨h1, -⟩ | ⟨-, -, h3⟩ | ⟨h1, -⟩
  · exact absurd hk2 (Nat.not_lt.mpr h1)
  · exact h3
  · exact absurd h1 (Nat.not_lt.mpr hk)
theorem rx_RE.obj {old : Nat → Nat} {rho : UInt32 → Int32} {cA : Nat → ClassId} {ads : List Nat} {ci : Nat} {fs : List Value} {e : va_E} (h : rx_RE old rho cA ads (.inr (ci, fs)) e) : ∃ gs, e = .inr (ci, gs) ∧ rx_RL old rho ads fs gs := by
  cases e with
  | inl x => exact h.elim
  | inr x => obtain ⟨cj, gs⟩ := x; obtain ⟨h1, h2⟩ := h; exact ⟨gs, by rw [h1], h2⟩
theorem rx_RE.arr {old : Nat → Nat} {rho : UInt32 → Int32} {cA : Nat → ClassId} {ads : List Nat} {t n : Nat} {u : List (Nat × Value)} {e : va_E} (h : rx_RE old rho cA ads (.inl (t, n, u)) e) : ∃ x, e = .inl (cA t, n, x) ∧ rx_kind t (n, x) ∧ t < rc_arr.length ∧ ∀ j, j < n → rx_R old rho ads (rx_elt t u j) (rx_xv (n, x) j) := by
  cases e with
  | inr x => exact h.elim
  | inl x =>
    obtain ⟨c, n', x⟩ := x
    obtain ⟨h1, h2, h3, h4, h5⟩ := h
    have h2 : n' = n := h2
    subst h2
    exact ⟨x, by rw [h1], h3, h4, h5⟩
theorem rx_fit_of {old : Nat → Nat} {rho : UInt32 → Int32} {ads : List Nat} {ty : FieldType} {v cv : Value} (h : rx_fit ty v = true) (hr : rx_R old rho ads v cv) : narrow ty cv = cv ∧ fits ty cv = true := by
  cases v with
  | float i =>
    have h1 : ty = .int := of_decide_eq_true h
    subst h1
    obtain ⟨x, rfl, -⟩ := hr
    exact ⟨rfl, rfl⟩
  | double i =>
    have h1 : ty = .long := of_decide_eq_true h
    subst h1
    obtain ⟨x, rfl, -⟩ := hr
    exact ⟨rfl, rfl⟩
  | ref k =>
    have hA : cv = .null ∨ ∃ x, cv = .ref x := hr.isA rfl
    cases ty with
    | object n => rcases hA with rfl | ⟨x, rfl⟩ <;> exact ⟨rfl, rfl⟩
    | array n => rcases hA with rfl | ⟨x, rfl⟩ <;> exact ⟨rfl, rfl⟩
    | _ => cases h
  | int x =>
    cases hr
    have h1 : (decide (narrow ty (.int x) = .int x) && fits ty (.int x)) = true := h
    rw [Bool.and_eq_true] at h1
    exact ⟨of_decide_eq_true h1.1, h1.2⟩
  | long x =>
    cases hr
    have h1 : (decide (narrow ty (.long x) = .long x) && fits ty (.long x)) = true := h
    rw [Bool.and_eq_true] at h1
    exact ⟨of_decide_eq_true h1.1, h1.2⟩
  | null =>
    cases hr
    have h1 : (decide (narrow ty .null = .null) && fits ty .null) = true := h
    rw [Bool.and_eq_true] at h1
    exact ⟨of_decide_eq_true h1.1, h1.2⟩
  | retAddr x => exact hr.elim
theorem rx_arr_ref {t : Nat} (h4 : 4 ≤ t) (hl : t < rc_arr.length) : ∃ C, rc_arr[t]? = some (.object C) := by
  have hl : t < 6 := hl
  rcases (show t = 4 ∨ t = 5 by omega) with rfl | rfl
  · exact ⟨_, rfl⟩
  · exact ⟨_, rfl⟩
theorem rx_look_cons {u : List (Nat × Value)} {i j : Nat} {w : Value} {t : Nat} : rx_elt t ((i, w) :: u) j = if j = i then w else rx_elt t u j := by
  unfold rx_elt
  simp only [rx_look]
  by_cases h : j = i
  · subst h
    simp
  · have h2 : Nat.beq i j = false := by
      cases hb : Nat.beq i j with
      | false => rfl
      | true => exact absurd (Nat.eq_of_beq_eq_true hb).symm h
    simp [h2, h]
theorem rx_in {i : Int32} {n : Nat} (h1 : ¬ i < 0) (h2 : i.toNatClampNeg < n) : vp_in i n := fun h => h.elim h1 (fun z => absurd h2 (Nat.not_lt.mpr z))
section RowsB
variable {p : Program} {l : Launch} {e : Env} {R : Room} {s : State} {m : MethodId} {args : Array Value} {below : List Frame} {meth : Method} {c : Code} {Q : State → Prop} {cc : ByteArray} {D : va_G} {cA : Nat → ClassId} {A : Nat → Prop} {old : Nat → Nat} {rho : UInt32 → Int32} {nL MC MS pc mc ms : Nat} {ad0 : List Nat} {la : RLoc} {st : List Value} {h : RHeap} {own C : String} {T : u_T} {N ci f k index : Nat} {Ts : List Cond}
theorem rg_getf (hx : p.tables.exec = Jvm.exec) (hb : c.code = cc) (hts : ∀ w ∈ Ts, w.before args s = true) (hin : ∀ w ∈ u_ws C T N, w ∈ Ts) (hown : s.vm.findClass own = some m.cls) (hK : va_K D rc_cls (rx_tys cA) s) (hc : rc_cls[ci]? = some (C, T, N)) (hf : f < N) (hlink : (Cond.fieldLink own index (T f).1 (T f).2.1 (T f).2.2.1).before args s = true) (hdg : decode cc pc = .ok (.getfield index, 3)) (hk : k < 1000000) {fs : List Value} (hh : h[k]? = some (.inr (ci, fs))) {v : Value} (hv : fs[f]? = some v) (kk : rx_G p l e R s m args below meth c Q D cA A old rho nL MC MS ad0 (pc + 3) la (v :: st) h mc ms) : rx_G p l e R s m args below meth c Q D cA A old rho nL MC MS ad0 pc la (.ref k :: st) h mc ms := by
  intro H locs ls cst0 cells slots hR h1 h2
  obtain ⟨ws, lc, r1, r2, r3, r4, r5, r6, r7, r8⟩ := hR
  obtain ⟨cv, cst, rfl, hr, q7⟩ := rx_RL.uncons r7
  obtain ⟨b, e, rfl, hw, he⟩ := rx_ref hr hk r1 hh
  obtain ⟨gs, rfl, hg⟩ := he.obj
  obtain ⟨g, hg1, hg2⟩ := hg.get hv
  exact va_get (C := C) (T := T) (N := N) hx hb hts hin hown hK r2 k hw hc f hf hlink (fun _ z => z) hg1 hdg (kk H locs ls _ cells slots ⟨ws, lc, r1, r2, r3, r4, r5, r6, ⟨hg2, q7⟩, r8⟩ h1 h2)
theorem rg_getfO (hx : p.tables.exec = Jvm.exec) (hb : c.code = cc) (hown : s.vm.findClass own = some m.cls) {fo fn fd : String} {cv : Value} (hE : va_OF fo fn fd cv (old (k - 1000000)) A s s.heap) (hlink : (Cond.fieldLink own index fo fn fd).before args s = true) (hdg : decode cc pc = .ok (.getfield index, 3)) (hk : 1000000 ≤ k) (hk2 : k < 2000000) {v : Value} (hv : ∀ ads, rx_R old rho ads v cv) (kk : rx_G p l e R s m args below meth c Q D cA A old rho nL MC MS ad0 (pc + 3) la (v :: st) h mc ms) : rx_G p l e R s m args below meth c Q D cA A old rho nL MC MS ad0 pc la (.ref k :: st) h mc ms := by
  intro H locs ls cst0 cells slots hR h1 h2
  obtain ⟨ws, lc, r1, r2, r3, r4, r5, r6, r7, r8⟩ := hR
  obtain ⟨cv0, cst, rfl, hr, q7⟩ := rx_RL.uncons r7
  have hr := rx_refO hr hk hk2
  subst hr
  exact vk_getf hx hb hE r4 hown hlink (fun _ z => z) hdg (kk H locs ls _ cells slots ⟨ws, lc, r1, r2, r3, r4, r5, r6, ⟨hv _, q7⟩, r8⟩ h1 h2)
theorem rg_putf (hx : p.tables.exec = Jvm.exec) (hb : c.code = cc) (hts : ∀ w ∈ Ts, w.before args s = true) (hin : ∀ w ∈ u_ws C T N, w ∈ Ts) (hown : s.vm.findClass own = some m.cls) (hK : va_K D rc_cls (rx_tys cA) s) (ty0 : Nat → FieldType) (hty : ∀ k, k < N → parseFieldDescriptor (T k).2.2.1 = some (ty0 k)) (hnm : ∀ a, a < N → ∀ b, b < N → a ≠ b → (T a).2.1 ≠ (T b).2.1) (hc : rc_cls[ci]? = some (C, T, N)) (hf : f < N) (hlink : (Cond.fieldLink own index (T f).1 (T f).2.1 (T f).2.2.1).before args s = true) (hfin : (T f).2.2.2 = false) (hdg : decode cc pc = .ok (.putfield index, 3)) (hk : k < 1000000) {fs : List Value} (hh : h[k]? = some (.inr (ci, fs))) {v : Value} (hft : rx_fit (ty0 f) v = true) (hfl : f < fs.length) (kk : rx_G p l e R s m args below meth c Q D cA A old rho nL MC MS ad0 (pc + 3) la st (h.set k (.inr (ci, fs.set f v))) mc ms) : rx_G p l e R s m args below meth c Q D cA A old rho nL MC MS ad0 pc la (v :: .ref k :: st) h mc ms := by
  intro H locs ls cst0 cells slots hR h1 h2
  obtain ⟨ws, lc, r1, r2, r3, r4, r5, r6, r7, r8⟩ := hR
  obtain ⟨cv, cst1, rfl, hr, q6⟩ := rx_RL.uncons r7
  obtain ⟨cw, cst, rfl, hr2, q7⟩ := rx_RL.uncons q6
  obtain ⟨b, e, rfl, hw, he⟩ := rx_ref hr2 hk r1 hh
  obtain ⟨gs, rfl, hg⟩ := he.obj
  obtain ⟨hn1, hn2⟩ := rx_fit_of hft hr
  refine va_put (C := C) (T := T) (N := N) hx hb hts hin ty0 hty hnm hown hK r2 r3 r4 k hw hc f hf hlink (fun _ z => z) hfin (hty f hf) hn1 hn2 (by rw [← hg.len]; exact hfl) hdg (fun H1 locs1 r2 r3 r4 => ?_)
  have ea := rx_ads_set (e := .inr (ci, gs.set f cv)) hw
  refine kk H1 locs1 ls _ cells slots ⟨_, lc, ?_, r2, r3, r4, r5, ?_, ?_, ?_⟩ h1 h2
  · rw [ea]; exact r1.set ⟨rfl, hg.set hr⟩
  · rw [ea]; exact r6
  · rw [ea]; exact q7
  · rw [ea]; exact r8
theorem rg_putfF (hx : p.tables.exec = Jvm.exec) (hb : c.code = cc) (hts : ∀ w ∈ Ts, w.before args s = true) (hin : ∀ w ∈ u_ws C T N, w ∈ Ts) (hown : s.vm.findClass own = some m.cls) (hK : va_K D rc_cls (rx_tys cA) s) (ty0 : Nat → FieldType) (hty : ∀ k, k < N → parseFieldDescriptor (T k).2.2.1 = some (ty0 k)) (hnm : ∀ a, a < N → ∀ b, b < N → a ≠ b → (T a).2.1 ≠ (T b).2.1) (hc : rc_cls[ci]? = some (C, T, N)) (hf : f < N) (hlink : (Cond.fieldLink own index (T f).1 (T f).2.1 (T f).2.2.1).before args s = true) (hfin : (T f).2.2.2 = true) (hin2 : meth.name = "<init>") (hdecl : (T f).1 = own) (hdg : decode cc pc = .ok (.putfield index, 3)) (hk : k < 1000000) {fs : List Value} (hh : h[k]? = some (.inr (ci, fs))) {v : Value} (hft : rx_fit (ty0 f) v = true) (hfl : f < fs.length) (kk : rx_G p l e R s m args below meth c Q D cA A old rho nL MC MS ad0 (pc + 3) la st (h.set k (.inr (ci, fs.set f v))) mc ms) : rx_G p l e R s m args below meth c Q D cA A old rho nL MC MS ad0 pc la (v :: .ref k :: st) h mc ms := by
  intro H locs ls cst0 cells slots hR h1 h2
  obtain ⟨ws, lc, r1, r2, r3, r4, r5, r6, r7, r8⟩ := hR
  obtain ⟨cv, cst1, rfl, hr, q6⟩ := rx_RL.uncons r7
  obtain ⟨cw, cst, rfl, hr2, q7⟩ := rx_RL.uncons q6
  obtain ⟨b, e, rfl, hw, he⟩ := rx_ref hr2 hk r1 hh
  obtain ⟨gs, rfl, hg⟩ := he.obj
  obtain ⟨hn1, hn2⟩ := rx_fit_of hft hr
  refine va_putF (C := C) (T := T) (N := N) hx hb hts hin ty0 hty hnm hown hK r2 r3 r4 k hw hc f hf hlink (fun _ z => z) hfin hin2 hdecl (hty f hf) hn1 hn2 (by rw [← hg.len]; exact hfl) hdg (fun H1 locs1 r2 r3 r4 => ?_)
  have ea := rx_ads_set (e := .inr (ci, gs.set f cv)) hw
  refine kk H1 locs1 ls _ cells slots ⟨_, lc, ?_, r2, r3, r4, r5, ?_, ?_, ?_⟩ h1 h2
  · rw [ea]; exact r1.set ⟨rfl, hg.set hr⟩
  · rw [ea]; exact r6
  · rw [ea]; exact q7
  · rw [ea]; exact r8
theorem rg_new (hx : p.tables.exec = Jvm.exec) (hb : c.code = cc) (hts : ∀ w ∈ Ts, w.before args s = true) (hin : ∀ w ∈ u_ws C T N, w ∈ Ts) (ty0 : Nat → FieldType) (hty : ∀ k, k < N → parseFieldDescriptor (T k).2.2.1 = some (ty0 k)) (hown : s.vm.findClass own = some m.cls) (hcl : (Cond.classLink own index C).before args s = true) (hinst : (Cond.instantiable C N).before args s = true) (hini : (Cond.initialized C).before args s = true) (hK : va_K D rc_cls (rx_tys cA) s) (hA : ∀ q, s.heap.size ≤ q → A q) (hc : rc_cls[ci]? = some (C, T, N)) {fs : List Value} (hfs : ∀ j, j < N → defaultValue (ty0 j) = vp_V fs j) (hRL : ∀ ads, rx_RL old rho ads fs fs) (hMC : MC ≤ R.cells) (hMS : MS ≤ R.slots) (hdg : decode cc pc = .ok (.new index, 3)) (hlen : h.length < 1000000) (kk : rx_G p l e R s m args below meth c Q D cA A old rho nL MC MS ad0 (pc + 3) la (.ref h.length :: st) (h ++ [.inr (ci, fs)]) mc ms) : rx_G p l e R s m args below meth c Q D cA A old rho nL MC MS ad0 pc la st h (mc + 1) (ms + N) := by
  intro H locs ls cst cells slots hR h1 h2
  obtain ⟨ws, lc, r1, r2, r3, r4, r5, r6, r7, r8⟩ := hR
  refine va_new (C := C) (T := T) (N := N) hx hb hts hin ty0 hty hown hcl hinst hini hK r2 r3 r4 hA hc hfs (by omega) (by omega) hdg (fun q H1 r2 r3 r4 => ?_)
  have ea : (ws ++ [(q, Sum.inr (ci, fs))] : va_W).map (·.1) = ws.map (·.1) ++ [q] := by simp
  have hl := r1.len
  refine kk H1 locs ls _ (cells + 1) (slots + N) ⟨_, lc, ?_, r2, r3, r4, r5, ?_, ?_, ?_⟩ (by omega) (by omega)
  · rw [ea]; exact r1.more.push ⟨rfl, hRL _⟩
  · rw [ea]; exact r6.more
  · rw [ea]
    refine ⟨Or.inr (Or.inr ⟨hlen, q, ?_, rfl⟩), r7.more⟩
    rw [hl, List.getElem?_append_right (by simp)]
    simp
  · obtain ⟨l9, h9⟩ := r8
    exact ⟨l9 ++ [q], by rw [ea, h9, List.append_assoc]⟩
end RowsB
theorem rx_arr_one {D : va_G} {cl : List vw_C} {s : State} {cA : Nat → ClassId} {t : Nat} {ty : FieldType} {cB : ClassId} (ht : rc_arr[t]? = some ty) (hK : va_K D cl (rx_tys cA ++ [(cB, ty)]) s) : cB = cA t := by
  have ht2 := rx_tys_at (cA := cA) ht
  have hlt : t < (rx_tys cA).length := (List.getElem?_eq_some_iff.mp ht2).1
  have h1 := (hK.2 t (cA t, ty) (by rw [List.getElem?_append_left hlt]; exact ht2)).2
  have h2 := (hK.2 (rx_tys cA).length (cB, ty) (by simp)).2
  cases ty with
  | object n =>
    obtain ⟨_, _, _, _, _, g1⟩ := h1
    obtain ⟨_, _, _, _, _, g2⟩ := h2
    exact Option.some.inj (g2.symm.trans g1)
  | _ => exact Option.some.inj (Eq.trans (Eq.symm (show s.vm.findClass _ = some cB from h2)) h1)
section RowsC
variable {p : Program} {l : Launch} {e : Env} {R : Room} {s : State} {m : MethodId} {args : Array Value} {below : List Frame} {meth : Method} {c : Code} {Q : State → Prop} {cc : ByteArray} {D : va_G} {cA : Nat → ClassId} {A : Nat → Prop} {old : Nat → Nat} {rho : UInt32 → Int32} {nL MC MS pc mc ms : Nat} {ad0 : List Nat} {la : RLoc} {st : List Value} {h : RHeap} {own C : String} {T : u_T} {N ci f k index : Nat} {Ts : List Cond} {t : Nat}
theorem rg_newa (hx : p.tables.exec = Jvm.exec) (hb : c.code = cc) {atype : ArrayType} {ty : FieldType} (harr : (Cond.arrayClass (newarray.typeOf atype)).before args s = true) (hty : newarray.typeOf atype = ty) (ht : rc_arr[t]? = some ty) (hK : va_K D rc_cls (rx_tys cA) s) (hA : ∀ q, s.heap.size ≤ q → A q) {n : Int32} {x : (Nat → Int32) ⊕ (Nat → Int64) ⊕ (Nat → UInt32) ⊕ (Nat → UInt64) ⊕ (Nat → Option Nat)} (ha : ∀ cB : ClassId, vp_cell cB (n.toNatClampNeg, x) = arrV cB n.toNatClampNeg (fun _ => defaultValue ty)) (hkd : rx_kind t (n.toNatClampNeg, x)) (hxv : ∀ j, rx_xv (n.toNatClampNeg, x) j = rx_dv t) (hdv : ∀ ads, rx_R old rho ads (rx_dv t) (rx_dv t)) (hn : ¬ n < 0) (hby : n.toNatClampNeg * componentBytes ty ≤ 536870912) (hMC : MC ≤ R.cells) (hMS : MS ≤ R.slots) (hdg : decode cc pc = .ok (.newarray atype, 2)) (hlen : h.length < 1000000) (kk : rx_G p l e R s m args below meth c Q D cA A old rho nL MC MS ad0 (pc + 2) la (.ref h.length :: st) (h ++ [.inl (t, n.toNatClampNeg, [])]) mc ms) : rx_G p l e R s m args below meth c Q D cA A old rho nL MC MS ad0 pc la (.int n :: st) h (mc + 1) (ms + n.toNatClampNeg) := by
  intro H locs ls cst0 cells slots hR h1 h2
  obtain ⟨ws, lc, r1, r2, r3, r4, r5, r6, r7, r8⟩ := hR
  obtain ⟨cv, cst, rfl, hr, q7⟩ := rx_RL.uncons r7
  cases hr
  refine va_newa (a0 := (n.toNatClampNeg, x)) hx hb harr hty hK r2 r3 r4 hA ha hn rfl hby (by omega) (by omega) hdg (fun q cB H1 hK2 r2 r3 r4 => ?_)
  have hB := rx_arr_one ht hK2
  subst hB
  have ea : (ws ++ [(q, Sum.inl (cA t, n.toNatClampNeg, x))] : va_W).map (·.1) = ws.map (·.1) ++ [q] := by simp
  have hl := r1.len
  refine kk H1 locs ls _ (cells + 1) (slots + n.toNatClampNeg) ⟨_, lc, ?_, r2, r3, r4, r5, ?_, ?_, ?_⟩ (by omega) (by omega)
  · rw [ea]; exact r1.more.push ⟨rfl, rfl, hkd, (List.getElem?_eq_some_iff.mp ht).1, fun j _ => by rw [hxv j]; exact hdv _⟩
  · rw [ea]; exact r6.more
  · rw [ea]
    refine ⟨Or.inr (Or.inr ⟨hlen, q, ?_, rfl⟩), q7.more⟩
    rw [hl, List.getElem?_append_right (by simp)]
    simp
  · obtain ⟨l9, h9⟩ := r8
    exact ⟨l9 ++ [q], by rw [ea, h9, List.append_assoc]⟩
theorem rg_anewa (hx : p.tables.exec = Jvm.exec) (hb : c.code = cc) (hown : s.vm.findClass own = some m.cls) (hcl : (Cond.classLink own index C).before args s = true) (hov : va_AO C s) (ht : rc_arr[t]? = some (.object C)) (ht4 : 4 ≤ t) (hK : va_K D rc_cls (rx_tys cA) s) (hA : ∀ q, s.heap.size ≤ q → A q) {n : Int32} (hn : ¬ n < 0) (hby : n.toNatClampNeg * 4 ≤ 536870912) (hMC : MC ≤ R.cells) (hMS : MS ≤ R.slots) (hdg : decode cc pc = .ok (.anewarray index, 3)) (hlen : h.length < 1000000) (kk : rx_G p l e R s m args below meth c Q D cA A old rho nL MC MS ad0 (pc + 3) la (.ref h.length :: st) (h ++ [.inl (t, n.toNatClampNeg, [])]) mc ms) : rx_G p l e R s m args below meth c Q D cA A old rho nL MC MS ad0 pc la (.int n :: st) h (mc + 1) (ms + n.toNatClampNeg) := by
  intro H locs ls cst0 cells slots hR h1 h2
  obtain ⟨ws, lc, r1, r2, r3, r4, r5, r6, r7, r8⟩ := hR
  obtain ⟨cv, cst, rfl, hr, q7⟩ := rx_RL.uncons r7
  cases hr
  refine va_newq hx hb hown hcl hov hK r2 r3 r4 hA hn rfl hby (by omega) (by omega) hdg (fun q cB H1 hK2 r2 r3 r4 => ?_)
  have hB := rx_arr_one ht hK2
  subst hB
  have hkd : rx_kind t (n.toNatClampNeg, .inr (.inr (.inr (.inr (fun _ => none))))) := by
    match t, ht4 with
    | t + 4, _ => exact ⟨_, rfl⟩
  have hxv : ∀ j, rx_xv (n.toNatClampNeg, .inr (.inr (.inr (.inr (fun _ => none))))) j = .null := fun _ => rfl
  have hdv : rx_dv t = .null := by
    match t, ht4 with
    | t + 4, _ => rfl
  have ea : (ws ++ [(q, Sum.inl (cA t, n.toNatClampNeg, .inr (.inr (.inr (.inr (fun _ => none))))))] : va_W).map (·.1) = ws.map (·.1) ++ [q] := by simp
  have hl := r1.len
  refine kk H1 locs ls _ (cells + 1) (slots + n.toNatClampNeg) ⟨_, lc, ?_, r2, r3, r4, r5, ?_, ?_, ?_⟩ (by omega) (by omega)
  · rw [ea]; exact r1.more.push ⟨rfl, rfl, hkd, (List.getElem?_eq_some_iff.mp ht).1, fun j _ => by rw [hxv j]; show rx_R old rho _ (rx_dv t) _; rw [hdv]; exact rfl⟩
  · rw [ea]; exact r6.more
  · rw [ea]
    refine ⟨Or.inr (Or.inr ⟨hlen, q, ?_, rfl⟩), q7.more⟩
    rw [hl, List.getElem?_append_right (by simp)]
    simp
  · obtain ⟨l9, h9⟩ := r8
    exact ⟨l9 ++ [q], by rw [ea, h9, List.append_assoc]⟩
theorem rg_iald (hx : p.tables.exec = Jvm.exec) (hb : c.code = cc) (hK : va_K D rc_cls (rx_tys cA) s) (hdg : decode cc pc = .ok (.iaload, 1)) (hk : k < 1000000) {i : Int32} {n : Nat} {u : List (Nat × Value)} (hh : h[k]? = some (.inl (0, n, u))) (h0 : ¬ i < 0) (hi : i.toNatClampNeg < n) (kk : rx_G p l e R s m args below meth c Q D cA A old rho nL MC MS ad0 (pc + 1) la (rx_elt 0 u i.toNatClampNeg :: st) h mc ms) : rx_G p l e R s m args below meth c Q D cA A old rho nL MC MS ad0 pc la (.int i :: .ref k :: st) h mc ms := by
  intro H locs ls cst0 cells slots hR h1 h2
  obtain ⟨ws, lc, r1, r2, r3, r4, r5, r6, r7, r8⟩ := hR
  obtain ⟨cv, cst1, rfl, hr, q6⟩ := rx_RL.uncons r7
  obtain ⟨cw, cst, rfl, hr2, q7⟩ := rx_RL.uncons q6
  cases hr
  obtain ⟨b, e, rfl, hw, he⟩ := rx_ref hr2 hk r1 hh
  obtain ⟨x, rfl, hkd, htl, hel⟩ := he.arr
  obtain ⟨f, hf0⟩ := hkd
  have hf1 : x = .inl f := hf0
  subst hf1
  exact va_iald hx hb hK r2 k 0 hw (rx_tys_at (show rc_arr[0]? = some .int from rfl)) (rx_in h0 hi) hdg (kk H locs ls _ cells slots ⟨ws, lc, r1, r2, r3, r4, r5, r6, ⟨hel _ hi, q7⟩, r8⟩ h1 h2)
theorem rg_lald (hx : p.tables.exec = Jvm.exec) (hb : c.code = cc) (hK : va_K D rc_cls (rx_tys cA) s) (hdg : decode cc pc = .ok (.laload, 1)) (hk : k < 1000000) {i : Int32} {n : Nat} {u : List (Nat × Value)} (hh : h[k]? = some (.inl (1, n, u))) (h0 : ¬ i < 0) (hi : i.toNatClampNeg < n) (kk : rx_G p l e R s m args below meth c Q D cA A old rho nL MC MS ad0 (pc + 1) la (rx_elt 1 u i.toNatClampNeg :: st) h mc ms) : rx_G p l e R s m args below meth c Q D cA A old rho nL MC MS ad0 pc la (.int i :: .ref k :: st) h mc ms := by
  intro H locs ls cst0 cells slots hR h1 h2
  obtain ⟨ws, lc, r1, r2, r3, r4, r5, r6, r7, r8⟩ := hR
  obtain ⟨cv, cst1, rfl, hr, q6⟩ := rx_RL.uncons r7
  obtain ⟨cw, cst, rfl, hr2, q7⟩ := rx_RL.uncons q6
  cases hr
  obtain ⟨b, e, rfl, hw, he⟩ := rx_ref hr2 hk r1 hh
  obtain ⟨x, rfl, hkd, htl, hel⟩ := he.arr
  obtain ⟨f, hf0⟩ := hkd
  have hf1 : x = .inr (.inl f) := hf0
  subst hf1
  exact va_lald hx hb hK r2 k 1 hw (rx_tys_at (show rc_arr[1]? = some .long from rfl)) (rx_in h0 hi) hdg (kk H locs ls _ cells slots ⟨ws, lc, r1, r2, r3, r4, r5, r6, ⟨hel _ hi, q7⟩, r8⟩ h1 h2)
theorem rg_bald (hx : p.tables.exec = Jvm.exec) (hb : c.code = cc) (hK : va_K D rc_cls (rx_tys cA) s) (hdg : decode cc pc = .ok (.baload, 1)) (hk : k < 1000000) {i : Int32} {n : Nat} {u : List (Nat × Value)} (hh : h[k]? = some (.inl (2, n, u))) (h0 : ¬ i < 0) (hi : i.toNatClampNeg < n) (kk : rx_G p l e R s m args below meth c Q D cA A old rho nL MC MS ad0 (pc + 1) la (rx_elt 2 u i.toNatClampNeg :: st) h mc ms) : rx_G p l e R s m args below meth c Q D cA A old rho nL MC MS ad0 pc la (.int i :: .ref k :: st) h mc ms := by
  intro H locs ls cst0 cells slots hR h1 h2
  obtain ⟨ws, lc, r1, r2, r3, r4, r5, r6, r7, r8⟩ := hR
  obtain ⟨cv, cst1, rfl, hr, q6⟩ := rx_RL.uncons r7
  obtain ⟨cw, cst, rfl, hr2, q7⟩ := rx_RL.uncons q6
  cases hr
  obtain ⟨b, e, rfl, hw, he⟩ := rx_ref hr2 hk r1 hh
  obtain ⟨x, rfl, hkd, htl, hel⟩ := he.arr
  obtain ⟨f, hf0⟩ := hkd
  have hf1 : x = .inl f := hf0
  subst hf1
  exact va_bald hx hb hK r2 k 2 hw (rx_tys_at (show rc_arr[2]? = some .byte from rfl)) (rx_in h0 hi) hdg (kk H locs ls _ cells slots ⟨ws, lc, r1, r2, r3, r4, r5, r6, ⟨hel _ hi, q7⟩, r8⟩ h1 h2)
theorem rg_zald (hx : p.tables.exec = Jvm.exec) (hb : c.code = cc) (hK : va_K D rc_cls (rx_tys cA) s) (hdg : decode cc pc = .ok (.baload, 1)) (hk : k < 1000000) {i : Int32} {n : Nat} {u : List (Nat × Value)} (hh : h[k]? = some (.inl (3, n, u))) (h0 : ¬ i < 0) (hi : i.toNatClampNeg < n) (kk : rx_G p l e R s m args below meth c Q D cA A old rho nL MC MS ad0 (pc + 1) la (rx_elt 3 u i.toNatClampNeg :: st) h mc ms) : rx_G p l e R s m args below meth c Q D cA A old rho nL MC MS ad0 pc la (.int i :: .ref k :: st) h mc ms := by
  intro H locs ls cst0 cells slots hR h1 h2
  obtain ⟨ws, lc, r1, r2, r3, r4, r5, r6, r7, r8⟩ := hR
  obtain ⟨cv, cst1, rfl, hr, q6⟩ := rx_RL.uncons r7
  obtain ⟨cw, cst, rfl, hr2, q7⟩ := rx_RL.uncons q6
  cases hr
  obtain ⟨b, e, rfl, hw, he⟩ := rx_ref hr2 hk r1 hh
  obtain ⟨x, rfl, hkd, htl, hel⟩ := he.arr
  obtain ⟨f, hf0⟩ := hkd
  have hf1 : x = .inl f := hf0
  subst hf1
  exact va_zald hx hb hK r2 k 3 hw (rx_tys_at (show rc_arr[3]? = some .boolean from rfl)) (rx_in h0 hi) hdg (kk H locs ls _ cells slots ⟨ws, lc, r1, r2, r3, r4, r5, r6, ⟨hel _ hi, q7⟩, r8⟩ h1 h2)
theorem rg_aald (hx : p.tables.exec = Jvm.exec) (hb : c.code = cc) (hK : va_K D rc_cls (rx_tys cA) s) (ht4 : 4 ≤ t) (hdg : decode cc pc = .ok (.aaload, 1)) (hk : k < 1000000) {i : Int32} {n : Nat} {u : List (Nat × Value)} (hh : h[k]? = some (.inl (t, n, u))) (h0 : ¬ i < 0) (hi : i.toNatClampNeg < n) (kk : rx_G p l e R s m args below meth c Q D cA A old rho nL MC MS ad0 (pc + 1) la (rx_elt t u i.toNatClampNeg :: st) h mc ms) : rx_G p l e R s m args below meth c Q D cA A old rho nL MC MS ad0 pc la (.int i :: .ref k :: st) h mc ms := by
  intro H locs ls cst0 cells slots hR h1 h2
  obtain ⟨ws, lc, r1, r2, r3, r4, r5, r6, r7, r8⟩ := hR
  obtain ⟨cv, cst1, rfl, hr, q6⟩ := rx_RL.uncons r7
  obtain ⟨cw, cst, rfl, hr2, q7⟩ := rx_RL.uncons q6
  cases hr
  obtain ⟨b, e, rfl, hw, he⟩ := rx_ref hr2 hk r1 hh
  obtain ⟨x, rfl, hkd, htl, hel⟩ := he.arr
  have hkd2 : ∃ f, x = .inr (.inr (.inr (.inr f))) := by
    match t, ht4, hkd with
    | t + 4, _, hkd => exact hkd
  obtain ⟨f, rfl⟩ := hkd2
  obtain ⟨C, ht⟩ := rx_arr_ref ht4 htl
  exact va_aldq hx hb hK r2 k t hw (rx_tys_at ht) (rx_in h0 hi) hdg (kk H locs ls _ cells slots ⟨ws, lc, r1, r2, r3, r4, r5, r6, ⟨hel _ hi, q7⟩, r8⟩ h1 h2)
theorem rg_iast (hx : p.tables.exec = Jvm.exec) (hb : c.code = cc) (hK : va_K D rc_cls (rx_tys cA) s) (hdg : decode cc pc = .ok (.iastore, 1)) (hk : k < 1000000) {i : Int32} {n : Nat} {u : List (Nat × Value)} {v : Value} (hh : h[k]? = some (.inl (0, n, u))) (h0 : ¬ i < 0) (hi : i.toNatClampNeg < n) (hv : rx_isI v = true) (kk : rx_G p l e R s m args below meth c Q D cA A old rho nL MC MS ad0 (pc + 1) la st (h.set k (.inl (0, n, (i.toNatClampNeg, v) :: u))) mc ms) : rx_G p l e R s m args below meth c Q D cA A old rho nL MC MS ad0 pc la (v :: .int i :: .ref k :: st) h mc ms := by
  intro H locs ls cst0 cells slots hR h1 h2
  obtain ⟨ws, lc, r1, r2, r3, r4, r5, r6, r7, r8⟩ := hR
  obtain ⟨cv, cst1, rfl, hr, q5⟩ := rx_RL.uncons r7
  obtain ⟨cw, cst2, rfl, hr2, q6⟩ := rx_RL.uncons q5
  obtain ⟨cz, cst, rfl, hr3, q7⟩ := rx_RL.uncons q6
  cases hr2
  obtain ⟨b, e, rfl, hw, he⟩ := rx_ref hr3 hk r1 hh
  obtain ⟨x, rfl, hkd, htl, hel⟩ := he.arr
  obtain ⟨f, hf0⟩ := hkd
  have hf1 : x = .inl f := hf0
  subst hf1
  obtain ⟨y, rfl⟩ := hr.isI hv
  refine va_iast hx hb hK r2 r3 r4 k 0 hw (rx_tys_at (show rc_arr[0]? = some .int from rfl)) (rx_in h0 hi) hdg (fun H1 locs1 r2 r3 r4 => ?_)
  have ea := rx_ads_set (e := .inl (cA 0, n, .inl (upd f i.toNatClampNeg y))) hw
  refine kk H1 locs1 ls _ cells slots ⟨_, lc, ?_, r2, r3, r4, r5, ?_, ?_, ?_⟩ h1 h2
  · rw [ea]
    refine r1.set ⟨rfl, rfl, ⟨_, rfl⟩, htl, fun j hj => ?_⟩
    rw [rx_look_cons]
    by_cases hji : j = i.toNatClampNeg
    · rw [if_pos hji]
      simp only [rx_xv, upd, if_pos hji]
      exact hr
    · rw [if_neg hji]
      have := hel j hj
      simp only [rx_xv, upd, if_neg hji] at this ⊢
      exact this
  · rw [ea]; exact r6
  · rw [ea]; exact q7
  · rw [ea]; exact r8
theorem rg_last (hx : p.tables.exec = Jvm.exec) (hb : c.code = cc) (hK : va_K D rc_cls (rx_tys cA) s) (hdg : decode cc pc = .ok (.lastore, 1)) (hk : k < 1000000) {i : Int32} {n : Nat} {u : List (Nat × Value)} {v : Value} (hh : h[k]? = some (.inl (1, n, u))) (h0 : ¬ i < 0) (hi : i.toNatClampNeg < n) (hv : rx_isL v = true) (kk : rx_G p l e R s m args below meth c Q D cA A old rho nL MC MS ad0 (pc + 1) la st (h.set k (.inl (1, n, (i.toNatClampNeg, v) :: u))) mc ms) : rx_G p l e R s m args below meth c Q D cA A old rho nL MC MS ad0 pc la (v :: .int i :: .ref k :: st) h mc ms := by
  intro H locs ls cst0 cells slots hR h1 h2
  obtain ⟨ws, lc, r1, r2, r3, r4, r5, r6, r7, r8⟩ := hR
  obtain ⟨cv, cst1, rfl, hr, q5⟩ := rx_RL.uncons r7
  obtain ⟨cw, cst2, rfl, hr2, q6⟩ := rx_RL.uncons q5
  obtain ⟨cz, cst, rfl, hr3, q7⟩ := rx_RL.uncons q6
  cases hr2
  obtain ⟨b, e, rfl, hw, he⟩ := rx_ref hr3 hk r1 hh
  obtain ⟨x, rfl, hkd, htl, hel⟩ := he.arr
  obtain ⟨f, hf0⟩ := hkd
  have hf1 : x = .inr (.inl f) := hf0
  subst hf1
  obtain ⟨y, rfl⟩ := hr.isL hv
  refine va_last hx hb hK r2 r3 r4 k 1 hw (rx_tys_at (show rc_arr[1]? = some .long from rfl)) (rx_in h0 hi) hdg (fun H1 locs1 r2 r3 r4 => ?_)
  have ea := rx_ads_set (e := .inl (cA 1, n, .inr (.inl (vp_updL f i.toNatClampNeg y)))) hw
  refine kk H1 locs1 ls _ cells slots ⟨_, lc, ?_, r2, r3, r4, r5, ?_, ?_, ?_⟩ h1 h2
  · rw [ea]
    refine r1.set ⟨rfl, rfl, ⟨_, rfl⟩, htl, fun j hj => ?_⟩
    rw [rx_look_cons]
    by_cases hji : j = i.toNatClampNeg
    · rw [if_pos hji]
      simp only [rx_xv, vp_updL, if_pos hji]
      exact hr
    · rw [if_neg hji]
      have := hel j hj
      simp only [rx_xv, vp_updL, if_neg hji] at this ⊢
      exact this
  · rw [ea]; exact r6
  · rw [ea]; exact q7
  · rw [ea]; exact r8
theorem rg_bast (hx : p.tables.exec = Jvm.exec) (hb : c.code = cc) (hK : va_K D rc_cls (rx_tys cA) s) (hdg : decode cc pc = .ok (.bastore, 1)) (hk : k < 1000000) {i : Int32} {n : Nat} {u : List (Nat × Value)} {v : Value} (hh : h[k]? = some (.inl (2, n, u))) (h0 : ¬ i < 0) (hi : i.toNatClampNeg < n) (hv : rx_isI v = true) (kk : rx_G p l e R s m args below meth c Q D cA A old rho nL MC MS ad0 (pc + 1) la st (h.set k (.inl (2, n, (i.toNatClampNeg, (rx_iu (vp_nar .byte) v)) :: u))) mc ms) : rx_G p l e R s m args below meth c Q D cA A old rho nL MC MS ad0 pc la (v :: .int i :: .ref k :: st) h mc ms := by
  intro H locs ls cst0 cells slots hR h1 h2
  obtain ⟨ws, lc, r1, r2, r3, r4, r5, r6, r7, r8⟩ := hR
  obtain ⟨cv, cst1, rfl, hr, q5⟩ := rx_RL.uncons r7
  obtain ⟨cw, cst2, rfl, hr2, q6⟩ := rx_RL.uncons q5
  obtain ⟨cz, cst, rfl, hr3, q7⟩ := rx_RL.uncons q6
  cases hr2
  obtain ⟨b, e, rfl, hw, he⟩ := rx_ref hr3 hk r1 hh
  obtain ⟨x, rfl, hkd, htl, hel⟩ := he.arr
  obtain ⟨f, hf0⟩ := hkd
  have hf1 : x = .inl f := hf0
  subst hf1
  obtain ⟨y, rfl⟩ := hr.isI hv
  refine va_bast hx hb hK r2 r3 r4 k 2 hw (rx_tys_at (show rc_arr[2]? = some .byte from rfl)) (rx_in h0 hi) hdg (fun H1 locs1 r2 r3 r4 => ?_)
  have ea := rx_ads_set (e := .inl (cA 2, n, .inl (upd f i.toNatClampNeg (vp_nar .byte y)))) hw
  refine kk H1 locs1 ls _ cells slots ⟨_, lc, ?_, r2, r3, r4, r5, ?_, ?_, ?_⟩ h1 h2
  · rw [ea]
    refine r1.set ⟨rfl, rfl, ⟨_, rfl⟩, htl, fun j hj => ?_⟩
    rw [rx_look_cons]
    by_cases hji : j = i.toNatClampNeg
    · rw [if_pos hji]
      simp only [rx_xv, upd, if_pos hji]
      exact rx_R.iu hr
    · rw [if_neg hji]
      have := hel j hj
      simp only [rx_xv, upd, if_neg hji] at this ⊢
      exact this
  · rw [ea]; exact r6
  · rw [ea]; exact q7
  · rw [ea]; exact r8
theorem rg_zast (hx : p.tables.exec = Jvm.exec) (hb : c.code = cc) (hK : va_K D rc_cls (rx_tys cA) s) (hdg : decode cc pc = .ok (.bastore, 1)) (hk : k < 1000000) {i : Int32} {n : Nat} {u : List (Nat × Value)} {v : Value} (hh : h[k]? = some (.inl (3, n, u))) (h0 : ¬ i < 0) (hi : i.toNatClampNeg < n) (hv : rx_isI v = true) (kk : rx_G p l e R s m args below meth c Q D cA A old rho nL MC MS ad0 (pc + 1) la st (h.set k (.inl (3, n, (i.toNatClampNeg, (rx_iu (vp_nar .boolean) v)) :: u))) mc ms) : rx_G p l e R s m args below meth c Q D cA A old rho nL MC MS ad0 pc la (v :: .int i :: .ref k :: st) h mc ms := by
  intro H locs ls cst0 cells slots hR h1 h2
  obtain ⟨ws, lc, r1, r2, r3, r4, r5, r6, r7, r8⟩ := hR
  obtain ⟨cv, cst1, rfl, hr, q5⟩ := rx_RL.uncons r7
  obtain ⟨cw, cst2, rfl, hr2, q6⟩ := rx_RL.uncons q5
  obtain ⟨cz, cst, rfl, hr3, q7⟩ := rx_RL.uncons q6
  cases hr2
  obtain ⟨b, e, rfl, hw, he⟩ := rx_ref hr3 hk r1 hh
  obtain ⟨x, rfl, hkd, htl, hel⟩ := he.arr
  obtain ⟨f, hf0⟩ := hkd
  have hf1 : x = .inl f := hf0
  subst hf1
  obtain ⟨y, rfl⟩ := hr.isI hv
  refine va_zast hx hb hK r2 r3 r4 k 3 hw (rx_tys_at (show rc_arr[3]? = some .boolean from rfl)) (rx_in h0 hi) hdg (fun H1 locs1 r2 r3 r4 => ?_)
  have ea := rx_ads_set (e := .inl (cA 3, n, .inl (upd f i.toNatClampNeg (vp_nar .boolean y)))) hw
  refine kk H1 locs1 ls _ cells slots ⟨_, lc, ?_, r2, r3, r4, r5, ?_, ?_, ?_⟩ h1 h2
  · rw [ea]
    refine r1.set ⟨rfl, rfl, ⟨_, rfl⟩, htl, fun j hj => ?_⟩
    rw [rx_look_cons]
    by_cases hji : j = i.toNatClampNeg
    · rw [if_pos hji]
      simp only [rx_xv, upd, if_pos hji]
      exact rx_R.iu hr
    · rw [if_neg hji]
      have := hel j hj
      simp only [rx_xv, upd, if_neg hji] at this ⊢
      exact this
  · rw [ea]; exact r6
  · rw [ea]; exact q7
  · rw [ea]; exact r8
end RowsC
