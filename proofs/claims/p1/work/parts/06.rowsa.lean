theorem rx_RL.uncons {old : Nat → Nat} {rho : UInt32 → Int32} {ads : List Nat} {a : Value} {as cs : List Value} (h : rx_RL old rho ads (a :: as) cs) : ∃ c cs2, cs = c :: cs2 ∧ rx_R old rho ads a c ∧ rx_RL old rho ads as cs2 := by
  cases cs with
  | nil => exact h.elim
  | cons c cs => exact ⟨c, cs, rfl, h.1, h.2⟩
/-! the frame that the runner's state stands for, and one row for each plain instruction: from the row behind it to the row itself -/
def rx_Rel (s : State) (D : va_G) (cA : Nat → ClassId) (A : Nat → Prop) (old : Nat → Nat) (rho : UInt32 → Int32) (nL : Nat) (ad0 : List Nat) (la : RLoc) (st : List Value) (h : RHeap) (H : Heap) (locs : List Loc) (ls : Array Slot) (cst : List Value) : Prop :=
  ∃ (ws : va_W) (lc : RLoc), rx_RW old rho cA (ws.map (·.1)) h ws ∧ va_P D rc_cls ws H ∧ va_D A ws ∧ va_S A s.heap H locs ∧ lv_has ls nL lc ∧ rx_RC old rho (ws.map (·.1)) la lc ∧ rx_RL old rho (ws.map (·.1)) st cst ∧ ∃ l, ws.map (·.1) = ad0 ++ l
def rx_G (p : Program) (l : Launch) (e : Env) (R : Room) (s : State) (m : MethodId) (args : Array Value) (below : List Frame) (meth : Method) (c : Code) (Q : State → Prop) (D : va_G) (cA : Nat → ClassId) (A : Nat → Prop) (old : Nat → Nat) (rho : UInt32 → Int32) (nL MC MS : Nat) (ad0 : List Nat) (pc : Nat) (la : RLoc) (st : List Value) (h : RHeap) (mc ms : Nat) : Prop :=
  ∀ (H : Heap) (locs : List Loc) (ls : Array Slot) (cst : List Value) (cells slots : Nat), rx_Rel s D cA A old rho nL ad0 la st h H locs ls cst → cells + mc = MC → slots + ms = MS → W p l e R s m args below meth c H locs cells slots Q (F0 m pc ls cst)
section RowsA
variable {p : Program} {l : Launch} {e : Env} {R : Room} {s : State} {m : MethodId} {args : Array Value} {below : List Frame} {meth : Method} {c : Code} {Q : State → Prop} {cc : ByteArray} {D : va_G} {cA : Nat → ClassId} {A : Nat → Prop} {old : Nat → Nat} {rho : UInt32 → Int32} {nL MC MS pc mc ms : Nat} {ad0 : List Nat} {la : RLoc} {st : List Value} {h : RHeap}
theorem rg_iload_n (hx : p.tables.exec = Jvm.exec) (hb : c.code = cc) {k : Fin 4} (hdg : decode cc pc = .ok (.iload_n k, 1)) {v : Value} (hv : rx_look la k = some v) (hi : rx_isI v = true) (kk : rx_G p l e R s m args below meth c Q D cA A old rho nL MC MS ad0 (pc + 1) la (v :: st) h mc ms) : rx_G p l e R s m args below meth c Q D cA A old rho nL MC MS ad0 pc la st h mc ms := by
  intro H locs ls cst cells slots hR h1 h2
  obtain ⟨ws, lc, r1, r2, r3, r4, r5, r6, r7, r8⟩ := hR
  obtain ⟨cv, hm, hr⟩ := r6.look hv
  obtain ⟨x, rfl⟩ := hr.isI hi
  exact lv_iload_n hx hb hdg rfl (r5.2.2 _ hm) (kk H locs ls _ cells slots ⟨ws, lc, r1, r2, r3, r4, r5, r6, ⟨hr, r7⟩, r8⟩ h1 h2)
theorem rg_iload (hx : p.tables.exec = Jvm.exec) (hb : c.code = cc) {i : Nat} (hdg : decode cc pc = .ok (.iload i, 2)) {v : Value} (hv : rx_look la i = some v) (hi : rx_isI v = true) (kk : rx_G p l e R s m args below meth c Q D cA A old rho nL MC MS ad0 (pc + 2) la (v :: st) h mc ms) : rx_G p l e R s m args below meth c Q D cA A old rho nL MC MS ad0 pc la st h mc ms := by
  intro H locs ls cst cells slots hR h1 h2
  obtain ⟨ws, lc, r1, r2, r3, r4, r5, r6, r7, r8⟩ := hR
  obtain ⟨cv, hm, hr⟩ := r6.look hv
  obtain ⟨x, rfl⟩ := hr.isI hi
  exact lv_iload hx hb hdg (r5.2.2 _ hm) (kk H locs ls _ cells slots ⟨ws, lc, r1, r2, r3, r4, r5, r6, ⟨hr, r7⟩, r8⟩ h1 h2)
theorem rg_lload_n (hx : p.tables.exec = Jvm.exec) (hb : c.code = cc) {k : Fin 4} (hdg : decode cc pc = .ok (.lload_n k, 1)) {v : Value} (hv : rx_look la k = some v) (hi : rx_isL v = true) (kk : rx_G p l e R s m args below meth c Q D cA A old rho nL MC MS ad0 (pc + 1) la (v :: st) h mc ms) : rx_G p l e R s m args below meth c Q D cA A old rho nL MC MS ad0 pc la st h mc ms := by
  intro H locs ls cst cells slots hR h1 h2
  obtain ⟨ws, lc, r1, r2, r3, r4, r5, r6, r7, r8⟩ := hR
  obtain ⟨cv, hm, hr⟩ := r6.look hv
  obtain ⟨x, rfl⟩ := hr.isL hi
  exact lv_lload_n hx hb hdg rfl (r5.2.2 _ hm) (kk H locs ls _ cells slots ⟨ws, lc, r1, r2, r3, r4, r5, r6, ⟨hr, r7⟩, r8⟩ h1 h2)
theorem rg_lload (hx : p.tables.exec = Jvm.exec) (hb : c.code = cc) {i : Nat} (hdg : decode cc pc = .ok (.lload i, 2)) {v : Value} (hv : rx_look la i = some v) (hi : rx_isL v = true) (kk : rx_G p l e R s m args below meth c Q D cA A old rho nL MC MS ad0 (pc + 2) la (v :: st) h mc ms) : rx_G p l e R s m args below meth c Q D cA A old rho nL MC MS ad0 pc la st h mc ms := by
  intro H locs ls cst cells slots hR h1 h2
  obtain ⟨ws, lc, r1, r2, r3, r4, r5, r6, r7, r8⟩ := hR
  obtain ⟨cv, hm, hr⟩ := r6.look hv
  obtain ⟨x, rfl⟩ := hr.isL hi
  exact lv_lload hx hb hdg (r5.2.2 _ hm) (kk H locs ls _ cells slots ⟨ws, lc, r1, r2, r3, r4, r5, r6, ⟨hr, r7⟩, r8⟩ h1 h2)
theorem rg_aload_n (hx : p.tables.exec = Jvm.exec) (hb : c.code = cc) {k : Fin 4} (hdg : decode cc pc = .ok (.aload_n k, 1)) {v : Value} (hv : rx_look la k = some v) (hi : rx_isA v = true) (kk : rx_G p l e R s m args below meth c Q D cA A old rho nL MC MS ad0 (pc + 1) la (v :: st) h mc ms) : rx_G p l e R s m args below meth c Q D cA A old rho nL MC MS ad0 pc la st h mc ms := by
  intro H locs ls cst cells slots hR h1 h2
  obtain ⟨ws, lc, r1, r2, r3, r4, r5, r6, r7, r8⟩ := hR
  obtain ⟨cv, hm, hr⟩ := r6.look hv
  rcases hr.isA hi with rfl | ⟨x, rfl⟩
  · exact lv_aload_nN hx hb hdg rfl (r5.2.2 _ hm) (kk H locs ls _ cells slots ⟨ws, lc, r1, r2, r3, r4, r5, r6, ⟨hr, r7⟩, r8⟩ h1 h2)
  · exact lv_aload_n hx hb hdg rfl (r5.2.2 _ hm) (kk H locs ls _ cells slots ⟨ws, lc, r1, r2, r3, r4, r5, r6, ⟨hr, r7⟩, r8⟩ h1 h2)
theorem rg_aload (hx : p.tables.exec = Jvm.exec) (hb : c.code = cc) {i : Nat} (hdg : decode cc pc = .ok (.aload i, 2)) {v : Value} (hv : rx_look la i = some v) (hi : rx_isA v = true) (kk : rx_G p l e R s m args below meth c Q D cA A old rho nL MC MS ad0 (pc + 2) la (v :: st) h mc ms) : rx_G p l e R s m args below meth c Q D cA A old rho nL MC MS ad0 pc la st h mc ms := by
  intro H locs ls cst cells slots hR h1 h2
  obtain ⟨ws, lc, r1, r2, r3, r4, r5, r6, r7, r8⟩ := hR
  obtain ⟨cv, hm, hr⟩ := r6.look hv
  rcases hr.isA hi with rfl | ⟨x, rfl⟩
  · exact lv_aloadN hx hb hdg (r5.2.2 _ hm) (kk H locs ls _ cells slots ⟨ws, lc, r1, r2, r3, r4, r5, r6, ⟨hr, r7⟩, r8⟩ h1 h2)
  · exact lv_aload hx hb hdg (r5.2.2 _ hm) (kk H locs ls _ cells slots ⟨ws, lc, r1, r2, r3, r4, r5, r6, ⟨hr, r7⟩, r8⟩ h1 h2)
theorem rg_istore_n (hx : p.tables.exec = Jvm.exec) (hb : c.code = cc) {k : Fin 4} (hdg : decode cc pc = .ok (.istore_n k, 1)) {v : Value} (hi : rx_isI v = true) (hn : (k : Nat) < nL) (kk : rx_G p l e R s m args below meth c Q D cA A old rho nL MC MS ad0 (pc + 1) (rx_lst la k v) st h mc ms) : rx_G p l e R s m args below meth c Q D cA A old rho nL MC MS ad0 pc la (v :: st) h mc ms := by
  intro H locs ls cst0 cells slots hR h1 h2
  obtain ⟨ws, lc, r1, r2, r3, r4, r5, r6, r7, r8⟩ := hR
  obtain ⟨cv, cst, rfl, hr, q7⟩ := rx_RL.uncons r7
  obtain ⟨x, rfl⟩ := hr.isI hi
  exact lv_istore_n hx hb hdg rfl r5 hn rfl (fun ls2 r5 => kk H locs ls2 _ cells slots ⟨ws, _, r1, r2, r3, r4, r5, ⟨⟨rfl, hr⟩, rx_RC.filter (fun a b => !(a == (k : Nat)) && !(a + 1 == (k : Nat) && b == 2)) r6⟩, q7, r8⟩ h1 h2)
theorem rg_istore (hx : p.tables.exec = Jvm.exec) (hb : c.code = cc) {i : Nat} (hdg : decode cc pc = .ok (.istore i, 2)) {v : Value} (hi : rx_isI v = true) (hn : i < nL) (kk : rx_G p l e R s m args below meth c Q D cA A old rho nL MC MS ad0 (pc + 2) (rx_lst la i v) st h mc ms) : rx_G p l e R s m args below meth c Q D cA A old rho nL MC MS ad0 pc la (v :: st) h mc ms := by
  intro H locs ls cst0 cells slots hR h1 h2
  obtain ⟨ws, lc, r1, r2, r3, r4, r5, r6, r7, r8⟩ := hR
  obtain ⟨cv, cst, rfl, hr, q7⟩ := rx_RL.uncons r7
  obtain ⟨x, rfl⟩ := hr.isI hi
  exact lv_istore hx hb hdg r5 hn rfl (fun ls2 r5 => kk H locs ls2 _ cells slots ⟨ws, _, r1, r2, r3, r4, r5, ⟨⟨rfl, hr⟩, rx_RC.filter (fun a b => !(a == i) && !(a + 1 == i && b == 2)) r6⟩, q7, r8⟩ h1 h2)
theorem rg_lstore_n (hx : p.tables.exec = Jvm.exec) (hb : c.code = cc) {k : Fin 4} (hdg : decode cc pc = .ok (.lstore_n k, 1)) {v : Value} (hi : rx_isL v = true) (hn : (k : Nat) + 1 < nL) (kk : rx_G p l e R s m args below meth c Q D cA A old rho nL MC MS ad0 (pc + 1) (rx_lst2 la k v) st h mc ms) : rx_G p l e R s m args below meth c Q D cA A old rho nL MC MS ad0 pc la (v :: st) h mc ms := by
  intro H locs ls cst0 cells slots hR h1 h2
  obtain ⟨ws, lc, r1, r2, r3, r4, r5, r6, r7, r8⟩ := hR
  obtain ⟨cv, cst, rfl, hr, q7⟩ := rx_RL.uncons r7
  obtain ⟨x, rfl⟩ := hr.isL hi
  exact lv_lstore_n hx hb hdg rfl r5 hn rfl (fun ls2 r5 => kk H locs ls2 _ cells slots ⟨ws, _, r1, r2, r3, r4, r5, ⟨⟨rfl, hr⟩, rx_RC.filter (fun a b => !(a == (k : Nat)) && (!(a == (k : Nat) + 1) && !(a + 1 == (k : Nat) && b == 2))) r6⟩, q7, r8⟩ h1 h2)
theorem rg_lstore (hx : p.tables.exec = Jvm.exec) (hb : c.code = cc) {i : Nat} (hdg : decode cc pc = .ok (.lstore i, 2)) {v : Value} (hi : rx_isL v = true) (hn : i + 1 < nL) (kk : rx_G p l e R s m args below meth c Q D cA A old rho nL MC MS ad0 (pc + 2) (rx_lst2 la i v) st h mc ms) : rx_G p l e R s m args below meth c Q D cA A old rho nL MC MS ad0 pc la (v :: st) h mc ms := by
  intro H locs ls cst0 cells slots hR h1 h2
  obtain ⟨ws, lc, r1, r2, r3, r4, r5, r6, r7, r8⟩ := hR
  obtain ⟨cv, cst, rfl, hr, q7⟩ := rx_RL.uncons r7
  obtain ⟨x, rfl⟩ := hr.isL hi
  exact lv_lstore hx hb hdg r5 hn rfl (fun ls2 r5 => kk H locs ls2 _ cells slots ⟨ws, _, r1, r2, r3, r4, r5, ⟨⟨rfl, hr⟩, rx_RC.filter (fun a b => !(a == i) && (!(a == i + 1) && !(a + 1 == i && b == 2))) r6⟩, q7, r8⟩ h1 h2)
theorem rg_astore_n (hx : p.tables.exec = Jvm.exec) (hb : c.code = cc) {k : Fin 4} (hdg : decode cc pc = .ok (.astore_n k, 1)) {v : Value} (hi : rx_isA v = true) (hn : (k : Nat) < nL) (kk : rx_G p l e R s m args below meth c Q D cA A old rho nL MC MS ad0 (pc + 1) (rx_lst la k v) st h mc ms) : rx_G p l e R s m args below meth c Q D cA A old rho nL MC MS ad0 pc la (v :: st) h mc ms := by
  intro H locs ls cst0 cells slots hR h1 h2
  obtain ⟨ws, lc, r1, r2, r3, r4, r5, r6, r7, r8⟩ := hR
  obtain ⟨cv, cst, rfl, hr, q7⟩ := rx_RL.uncons r7
  rcases hr.isA hi with rfl | ⟨x, rfl⟩
  · exact lv_astore_nN hx hb hdg rfl r5 hn rfl (fun ls2 r5 => kk H locs ls2 _ cells slots ⟨ws, _, r1, r2, r3, r4, r5, ⟨⟨rfl, hr⟩, rx_RC.filter (fun a b => !(a == (k : Nat)) && !(a + 1 == (k : Nat) && b == 2)) r6⟩, q7, r8⟩ h1 h2)
  · exact lv_astore_n hx hb hdg rfl r5 hn rfl (fun ls2 r5 => kk H locs ls2 _ cells slots ⟨ws, _, r1, r2, r3, r4, r5, ⟨⟨rfl, hr⟩, rx_RC.filter (fun a b => !(a == (k : Nat)) && !(a + 1 == (k : Nat) && b == 2)) r6⟩, q7, r8⟩ h1 h2)
theorem rg_astore (hx : p.tables.exec = Jvm.exec) (hb : c.code = cc) {i : Nat} (hdg : decode cc pc = .ok (.astore i, 2)) {v : Value} (hi : rx_isA v = true) (hn : i < nL) (kk : rx_G p l e R s m args below meth c Q D cA A old rho nL MC MS ad0 (pc + 2) (rx_lst la i v) st h mc ms) : rx_G p l e R s m args below meth c Q D cA A old rho nL MC MS ad0 pc la (v :: st) h mc ms := by
  intro H locs ls cst0 cells slots hR h1 h2
  obtain ⟨ws, lc, r1, r2, r3, r4, r5, r6, r7, r8⟩ := hR
  obtain ⟨cv, cst, rfl, hr, q7⟩ := rx_RL.uncons r7
  rcases hr.isA hi with rfl | ⟨x, rfl⟩
  · exact lv_astoreN hx hb hdg r5 hn rfl (fun ls2 r5 => kk H locs ls2 _ cells slots ⟨ws, _, r1, r2, r3, r4, r5, ⟨⟨rfl, hr⟩, rx_RC.filter (fun a b => !(a == i) && !(a + 1 == i && b == 2)) r6⟩, q7, r8⟩ h1 h2)
  · exact lv_astore hx hb hdg r5 hn rfl (fun ls2 r5 => kk H locs ls2 _ cells slots ⟨ws, _, r1, r2, r3, r4, r5, ⟨⟨rfl, hr⟩, rx_RC.filter (fun a b => !(a == i) && !(a + 1 == i && b == 2)) r6⟩, q7, r8⟩ h1 h2)
theorem rg_iinc (hx : p.tables.exec = Jvm.exec) (hb : c.code = cc) {i : Nat} {n : Int} {x : Int32} (hdg : decode cc pc = .ok (.iinc i n, 3)) (hv : rx_look la i = some (.int x)) (hn : i < nL) (kk : rx_G p l e R s m args below meth c Q D cA A old rho nL MC MS ad0 (pc + 3) (rx_lst la i (.int (x + Int32.ofInt n))) st h mc ms) : rx_G p l e R s m args below meth c Q D cA A old rho nL MC MS ad0 pc la st h mc ms := by
  intro H locs ls cst cells slots hR h1 h2
  obtain ⟨ws, lc, r1, r2, r3, r4, r5, r6, r7, r8⟩ := hR
  obtain ⟨cv, hm, hr⟩ := r6.look hv
  cases hr
  obtain ⟨k, hk⟩ := List.getElem?_of_mem hm
  exact lv_iinc hx hb hdg r5 hk rfl hn rfl (fun ls2 r5 => kk H locs ls2 _ cells slots ⟨ws, _, r1, r2, r3, r4, r5, ⟨⟨rfl, rfl⟩, rx_RC.filter (fun a b => !(a == i) && !(a + 1 == i && b == 2)) r6⟩, r7, r8⟩ h1 h2)
theorem rg_iconst (hx : p.tables.exec = Jvm.exec) (hb : c.code = cc) {n : Int} (hdg : decode cc pc = .ok (.iconst n, 1)) (kk : rx_G p l e R s m args below meth c Q D cA A old rho nL MC MS ad0 (pc + 1) la (.int (Int32.ofInt n) :: st) h mc ms) : rx_G p l e R s m args below meth c Q D cA A old rho nL MC MS ad0 pc la st h mc ms := by
  intro H locs ls cst cells slots hR h1 h2
  obtain ⟨ws, lc, r1, r2, r3, r4, r5, r6, r7, r8⟩ := hR
  exact lv_iconst hx hb hdg rfl (kk H locs ls _ cells slots ⟨ws, lc, r1, r2, r3, r4, r5, r6, ⟨rfl, r7⟩, r8⟩ h1 h2)
theorem rg_bipush (hx : p.tables.exec = Jvm.exec) (hb : c.code = cc) {n : Int} (hdg : decode cc pc = .ok (.bipush n, 2)) (kk : rx_G p l e R s m args below meth c Q D cA A old rho nL MC MS ad0 (pc + 2) la (.int (Int8.ofInt n).toInt32 :: st) h mc ms) : rx_G p l e R s m args below meth c Q D cA A old rho nL MC MS ad0 pc la st h mc ms := by
  intro H locs ls cst cells slots hR h1 h2
  obtain ⟨ws, lc, r1, r2, r3, r4, r5, r6, r7, r8⟩ := hR
  exact lv_bipush hx hb hdg rfl (kk H locs ls _ cells slots ⟨ws, lc, r1, r2, r3, r4, r5, r6, ⟨rfl, r7⟩, r8⟩ h1 h2)
theorem rg_sipush (hx : p.tables.exec = Jvm.exec) (hb : c.code = cc) {n : Int} (hdg : decode cc pc = .ok (.sipush n, 3)) (kk : rx_G p l e R s m args below meth c Q D cA A old rho nL MC MS ad0 (pc + 3) la (.int (Int16.ofInt n).toInt32 :: st) h mc ms) : rx_G p l e R s m args below meth c Q D cA A old rho nL MC MS ad0 pc la st h mc ms := by
  intro H locs ls cst cells slots hR h1 h2
  obtain ⟨ws, lc, r1, r2, r3, r4, r5, r6, r7, r8⟩ := hR
  exact lv_sipush hx hb hdg rfl (kk H locs ls _ cells slots ⟨ws, lc, r1, r2, r3, r4, r5, r6, ⟨rfl, r7⟩, r8⟩ h1 h2)
theorem rg_lconst (hx : p.tables.exec = Jvm.exec) (hb : c.code = cc) {n : Fin 2} (hdg : decode cc pc = .ok (.lconst n, 1)) (kk : rx_G p l e R s m args below meth c Q D cA A old rho nL MC MS ad0 (pc + 1) la (.long (Int64.ofNat (n : Nat)) :: st) h mc ms) : rx_G p l e R s m args below meth c Q D cA A old rho nL MC MS ad0 pc la st h mc ms := by
  intro H locs ls cst cells slots hR h1 h2
  obtain ⟨ws, lc, r1, r2, r3, r4, r5, r6, r7, r8⟩ := hR
  exact lv_lconst hx hb hdg rfl (kk H locs ls _ cells slots ⟨ws, lc, r1, r2, r3, r4, r5, r6, ⟨rfl, r7⟩, r8⟩ h1 h2)
theorem rg_aconst_null (hx : p.tables.exec = Jvm.exec) (hb : c.code = cc)  (hdg : decode cc pc = .ok (.aconst_null, 1)) (kk : rx_G p l e R s m args below meth c Q D cA A old rho nL MC MS ad0 (pc + 1) la (.null :: st) h mc ms) : rx_G p l e R s m args below meth c Q D cA A old rho nL MC MS ad0 pc la st h mc ms := by
  intro H locs ls cst cells slots hR h1 h2
  obtain ⟨ws, lc, r1, r2, r3, r4, r5, r6, r7, r8⟩ := hR
  exact lv_null hx hb hdg (kk H locs ls _ cells slots ⟨ws, lc, r1, r2, r3, r4, r5, r6, ⟨rfl, r7⟩, r8⟩ h1 h2)
theorem rg_dup (hx : p.tables.exec = Jvm.exec) (hb : c.code = cc) (hdg : decode cc pc = .ok (.dup, 1)) {v : Value} (hi : v.category = 1) (kk : rx_G p l e R s m args below meth c Q D cA A old rho nL MC MS ad0 (pc + 1) la (v :: v :: st) h mc ms) : rx_G p l e R s m args below meth c Q D cA A old rho nL MC MS ad0 pc la (v :: st) h mc ms := by
  intro H locs ls cst0 cells slots hR h1 h2
  obtain ⟨ws, lc, r1, r2, r3, r4, r5, r6, r7, r8⟩ := hR
  obtain ⟨cv, cst, rfl, hr, q7⟩ := rx_RL.uncons r7
  exact lv_dup hx hb hdg (by rw [← hr.cat]; exact hi) (kk H locs ls _ cells slots ⟨ws, lc, r1, r2, r3, r4, r5, r6, ⟨hr, hr, q7⟩, r8⟩ h1 h2)
theorem rg_pop (hx : p.tables.exec = Jvm.exec) (hb : c.code = cc) (hdg : decode cc pc = .ok (.pop, 1)) {v : Value} (hi : v.category = 1) (kk : rx_G p l e R s m args below meth c Q D cA A old rho nL MC MS ad0 (pc + 1) la st h mc ms) : rx_G p l e R s m args below meth c Q D cA A old rho nL MC MS ad0 pc la (v :: st) h mc ms := by
  intro H locs ls cst0 cells slots hR h1 h2
  obtain ⟨ws, lc, r1, r2, r3, r4, r5, r6, r7, r8⟩ := hR
  obtain ⟨cv, cst, rfl, hr, q7⟩ := rx_RL.uncons r7
  exact lv_pop hx hb hdg (by rw [← hr.cat]; exact hi) (kk H locs ls _ cells slots ⟨ws, lc, r1, r2, r3, r4, r5, r6, q7, r8⟩ h1 h2)
theorem rg_dup_x1 (hx : p.tables.exec = Jvm.exec) (hb : c.code = cc) (hdg : decode cc pc = .ok (.dup_x1, 1)) {v w : Value} (hi : v.category = 1) (hj : w.category = 1) (kk : rx_G p l e R s m args below meth c Q D cA A old rho nL MC MS ad0 (pc + 1) la (v :: w :: v :: st) h mc ms) : rx_G p l e R s m args below meth c Q D cA A old rho nL MC MS ad0 pc la (v :: w :: st) h mc ms := by
  intro H locs ls cst0 cells slots hR h1 h2
  obtain ⟨ws, lc, r1, r2, r3, r4, r5, r6, r7, r8⟩ := hR
  obtain ⟨cv, cst1, rfl, hr, q6⟩ := rx_RL.uncons r7
  obtain ⟨cw, cst, rfl, hr2, q7⟩ := rx_RL.uncons q6
  exact lv_dup_x1 hx hb hdg (by rw [← hr.cat]; exact hi) (by rw [← hr2.cat]; exact hj) (kk H locs ls _ cells slots ⟨ws, lc, r1, r2, r3, r4, r5, r6, ⟨hr, hr2, hr, q7⟩, r8⟩ h1 h2)
theorem rg_iadd (hx : p.tables.exec = Jvm.exec) (hb : c.code = cc) (hdg : decode cc pc = .ok (.iadd, 1)) {a b : Value} (ha : rx_isI a = true) (hb2 : rx_isI b = true) (kk : rx_G p l e R s m args below meth c Q D cA A old rho nL MC MS ad0 (pc + 1) la (rx_ib (fun x y => x + y) a b :: st) h mc ms) : rx_G p l e R s m args below meth c Q D cA A old rho nL MC MS ad0 pc la (b :: a :: st) h mc ms := by
  intro H locs ls cst0 cells slots hR h1 h2
  obtain ⟨ws, lc, r1, r2, r3, r4, r5, r6, r7, r8⟩ := hR
  obtain ⟨cv, cst1, rfl, hr, q6⟩ := rx_RL.uncons r7
  obtain ⟨cw, cst, rfl, hr2, q7⟩ := rx_RL.uncons q6
  obtain ⟨y, rfl⟩ := hr.isI hb2
  obtain ⟨x, rfl⟩ := hr2.isI ha
  exact lv_iadd hx hb hdg (kk H locs ls _ cells slots ⟨ws, lc, r1, r2, r3, r4, r5, r6, ⟨rx_R.ib hr2 hr, q7⟩, r8⟩ h1 h2)
theorem rg_isub (hx : p.tables.exec = Jvm.exec) (hb : c.code = cc) (hdg : decode cc pc = .ok (.isub, 1)) {a b : Value} (ha : rx_isI a = true) (hb2 : rx_isI b = true) (kk : rx_G p l e R s m args below meth c Q D cA A old rho nL MC MS ad0 (pc + 1) la (rx_ib (fun x y => x - y) a b :: st) h mc ms) : rx_G p l e R s m args below meth c Q D cA A old rho nL MC MS ad0 pc la (b :: a :: st) h mc ms := by
  intro H locs ls cst0 cells slots hR h1 h2
  obtain ⟨ws, lc, r1, r2, r3, r4, r5, r6, r7, r8⟩ := hR
  obtain ⟨cv, cst1, rfl, hr, q6⟩ := rx_RL.uncons r7
  obtain ⟨cw, cst, rfl, hr2, q7⟩ := rx_RL.uncons q6
  obtain ⟨y, rfl⟩ := hr.isI hb2
  obtain ⟨x, rfl⟩ := hr2.isI ha
  exact lv_isub hx hb hdg (kk H locs ls _ cells slots ⟨ws, lc, r1, r2, r3, r4, r5, r6, ⟨rx_R.ib hr2 hr, q7⟩, r8⟩ h1 h2)
theorem rg_imul (hx : p.tables.exec = Jvm.exec) (hb : c.code = cc) (hdg : decode cc pc = .ok (.imul, 1)) {a b : Value} (ha : rx_isI a = true) (hb2 : rx_isI b = true) (kk : rx_G p l e R s m args below meth c Q D cA A old rho nL MC MS ad0 (pc + 1) la (rx_ib (fun x y => x * y) a b :: st) h mc ms) : rx_G p l e R s m args below meth c Q D cA A old rho nL MC MS ad0 pc la (b :: a :: st) h mc ms := by
  intro H locs ls cst0 cells slots hR h1 h2
  obtain ⟨ws, lc, r1, r2, r3, r4, r5, r6, r7, r8⟩ := hR
  obtain ⟨cv, cst1, rfl, hr, q6⟩ := rx_RL.uncons r7
  obtain ⟨cw, cst, rfl, hr2, q7⟩ := rx_RL.uncons q6
  obtain ⟨y, rfl⟩ := hr.isI hb2
  obtain ⟨x, rfl⟩ := hr2.isI ha
  exact lv_imul hx hb hdg (kk H locs ls _ cells slots ⟨ws, lc, r1, r2, r3, r4, r5, r6, ⟨rx_R.ib hr2 hr, q7⟩, r8⟩ h1 h2)
theorem rg_iand (hx : p.tables.exec = Jvm.exec) (hb : c.code = cc) (hdg : decode cc pc = .ok (.iand, 1)) {a b : Value} (ha : rx_isI a = true) (hb2 : rx_isI b = true) (kk : rx_G p l e R s m args below meth c Q D cA A old rho nL MC MS ad0 (pc + 1) la (rx_ib (fun x y => x &&& y) a b :: st) h mc ms) : rx_G p l e R s m args below meth c Q D cA A old rho nL MC MS ad0 pc la (b :: a :: st) h mc ms := by
  intro H locs ls cst0 cells slots hR h1 h2
  obtain ⟨ws, lc, r1, r2, r3, r4, r5, r6, r7, r8⟩ := hR
  obtain ⟨cv, cst1, rfl, hr, q6⟩ := rx_RL.uncons r7
  obtain ⟨cw, cst, rfl, hr2, q7⟩ := rx_RL.uncons q6
  obtain ⟨y, rfl⟩ := hr.isI hb2
  obtain ⟨x, rfl⟩ := hr2.isI ha
  exact lv_iand hx hb hdg (kk H locs ls _ cells slots ⟨ws, lc, r1, r2, r3, r4, r5, r6, ⟨rx_R.ib hr2 hr, q7⟩, r8⟩ h1 h2)
theorem rg_ior (hx : p.tables.exec = Jvm.exec) (hb : c.code = cc) (hdg : decode cc pc = .ok (.ior, 1)) {a b : Value} (ha : rx_isI a = true) (hb2 : rx_isI b = true) (kk : rx_G p l e R s m args below meth c Q D cA A old rho nL MC MS ad0 (pc + 1) la (rx_ib (fun x y => x ||| y) a b :: st) h mc ms) : rx_G p l e R s m args below meth c Q D cA A old rho nL MC MS ad0 pc la (b :: a :: st) h mc ms := by
  intro H locs ls cst0 cells slots hR h1 h2
  obtain ⟨ws, lc, r1, r2, r3, r4, r5, r6, r7, r8⟩ := hR
  obtain ⟨cv, cst1, rfl, hr, q6⟩ := rx_RL.uncons r7
  obtain ⟨cw, cst, rfl, hr2, q7⟩ := rx_RL.uncons q6
  obtain ⟨y, rfl⟩ := hr.isI hb2
  obtain ⟨x, rfl⟩ := hr2.isI ha
  exact lv_ior hx hb hdg (kk H locs ls _ cells slots ⟨ws, lc, r1, r2, r3, r4, r5, r6, ⟨rx_R.ib hr2 hr, q7⟩, r8⟩ h1 h2)
theorem rg_ishl (hx : p.tables.exec = Jvm.exec) (hb : c.code = cc) (hdg : decode cc pc = .ok (.ishl, 1)) {a b : Value} (ha : rx_isI a = true) (hb2 : rx_isI b = true) (kk : rx_G p l e R s m args below meth c Q D cA A old rho nL MC MS ad0 (pc + 1) la (rx_ib (fun x y => x <<< (y &&& 31)) a b :: st) h mc ms) : rx_G p l e R s m args below meth c Q D cA A old rho nL MC MS ad0 pc la (b :: a :: st) h mc ms := by
  intro H locs ls cst0 cells slots hR h1 h2
  obtain ⟨ws, lc, r1, r2, r3, r4, r5, r6, r7, r8⟩ := hR
  obtain ⟨cv, cst1, rfl, hr, q6⟩ := rx_RL.uncons r7
  obtain ⟨cw, cst, rfl, hr2, q7⟩ := rx_RL.uncons q6
  obtain ⟨y, rfl⟩ := hr.isI hb2
  obtain ⟨x, rfl⟩ := hr2.isI ha
  exact lv_ishl hx hb hdg (kk H locs ls _ cells slots ⟨ws, lc, r1, r2, r3, r4, r5, r6, ⟨rx_R.ib hr2 hr, q7⟩, r8⟩ h1 h2)
theorem rg_ishr (hx : p.tables.exec = Jvm.exec) (hb : c.code = cc) (hdg : decode cc pc = .ok (.ishr, 1)) {a b : Value} (ha : rx_isI a = true) (hb2 : rx_isI b = true) (kk : rx_G p l e R s m args below meth c Q D cA A old rho nL MC MS ad0 (pc + 1) la (rx_ib (fun x y => x >>> (y &&& 31)) a b :: st) h mc ms) : rx_G p l e R s m args below meth c Q D cA A old rho nL MC MS ad0 pc la (b :: a :: st) h mc ms := by
  intro H locs ls cst0 cells slots hR h1 h2
  obtain ⟨ws, lc, r1, r2, r3, r4, r5, r6, r7, r8⟩ := hR
  obtain ⟨cv, cst1, rfl, hr, q6⟩ := rx_RL.uncons r7
  obtain ⟨cw, cst, rfl, hr2, q7⟩ := rx_RL.uncons q6
  obtain ⟨y, rfl⟩ := hr.isI hb2
  obtain ⟨x, rfl⟩ := hr2.isI ha
  exact lv_ishr hx hb hdg (kk H locs ls _ cells slots ⟨ws, lc, r1, r2, r3, r4, r5, r6, ⟨rx_R.ib hr2 hr, q7⟩, r8⟩ h1 h2)
theorem rg_ladd (hx : p.tables.exec = Jvm.exec) (hb : c.code = cc) (hdg : decode cc pc = .ok (.ladd, 1)) {a b : Value} (ha : rx_isL a = true) (hb2 : rx_isL b = true) (kk : rx_G p l e R s m args below meth c Q D cA A old rho nL MC MS ad0 (pc + 1) la (rx_lb (fun x y => x + y) a b :: st) h mc ms) : rx_G p l e R s m args below meth c Q D cA A old rho nL MC MS ad0 pc la (b :: a :: st) h mc ms := by
  intro H locs ls cst0 cells slots hR h1 h2
  obtain ⟨ws, lc, r1, r2, r3, r4, r5, r6, r7, r8⟩ := hR
  obtain ⟨cv, cst1, rfl, hr, q6⟩ := rx_RL.uncons r7
  obtain ⟨cw, cst, rfl, hr2, q7⟩ := rx_RL.uncons q6
  obtain ⟨y, rfl⟩ := hr.isL hb2
  obtain ⟨x, rfl⟩ := hr2.isL ha
  exact lv_ladd hx hb hdg (kk H locs ls _ cells slots ⟨ws, lc, r1, r2, r3, r4, r5, r6, ⟨rx_R.lb hr2 hr, q7⟩, r8⟩ h1 h2)
theorem rg_lsub (hx : p.tables.exec = Jvm.exec) (hb : c.code = cc) (hdg : decode cc pc = .ok (.lsub, 1)) {a b : Value} (ha : rx_isL a = true) (hb2 : rx_isL b = true) (kk : rx_G p l e R s m args below meth c Q D cA A old rho nL MC MS ad0 (pc + 1) la (rx_lb (fun x y => x - y) a b :: st) h mc ms) : rx_G p l e R s m args below meth c Q D cA A old rho nL MC MS ad0 pc la (b :: a :: st) h mc ms := by
  intro H locs ls cst0 cells slots hR h1 h2
  obtain ⟨ws, lc, r1, r2, r3, r4, r5, r6, r7, r8⟩ := hR
  obtain ⟨cv, cst1, rfl, hr, q6⟩ := rx_RL.uncons r7
  obtain ⟨cw, cst, rfl, hr2, q7⟩ := rx_RL.uncons q6
  obtain ⟨y, rfl⟩ := hr.isL hb2
  obtain ⟨x, rfl⟩ := hr2.isL ha
  exact lv_lsub hx hb hdg (kk H locs ls _ cells slots ⟨ws, lc, r1, r2, r3, r4, r5, r6, ⟨rx_R.lb hr2 hr, q7⟩, r8⟩ h1 h2)
theorem rg_lmul (hx : p.tables.exec = Jvm.exec) (hb : c.code = cc) (hdg : decode cc pc = .ok (.lmul, 1)) {a b : Value} (ha : rx_isL a = true) (hb2 : rx_isL b = true) (kk : rx_G p l e R s m args below meth c Q D cA A old rho nL MC MS ad0 (pc + 1) la (rx_lb (fun x y => x * y) a b :: st) h mc ms) : rx_G p l e R s m args below meth c Q D cA A old rho nL MC MS ad0 pc la (b :: a :: st) h mc ms := by
  intro H locs ls cst0 cells slots hR h1 h2
  obtain ⟨ws, lc, r1, r2, r3, r4, r5, r6, r7, r8⟩ := hR
  obtain ⟨cv, cst1, rfl, hr, q6⟩ := rx_RL.uncons r7
  obtain ⟨cw, cst, rfl, hr2, q7⟩ := rx_RL.uncons q6
  obtain ⟨y, rfl⟩ := hr.isL hb2
  obtain ⟨x, rfl⟩ := hr2.isL ha
  exact lv_lmul hx hb hdg (kk H locs ls _ cells slots ⟨ws, lc, r1, r2, r3, r4, r5, r6, ⟨rx_R.lb hr2 hr, q7⟩, r8⟩ h1 h2)
theorem rg_land (hx : p.tables.exec = Jvm.exec) (hb : c.code = cc) (hdg : decode cc pc = .ok (.land, 1)) {a b : Value} (ha : rx_isL a = true) (hb2 : rx_isL b = true) (kk : rx_G p l e R s m args below meth c Q D cA A old rho nL MC MS ad0 (pc + 1) la (rx_lb (fun x y => x &&& y) a b :: st) h mc ms) : rx_G p l e R s m args below meth c Q D cA A old rho nL MC MS ad0 pc la (b :: a :: st) h mc ms := by
  intro H locs ls cst0 cells slots hR h1 h2
  obtain ⟨ws, lc, r1, r2, r3, r4, r5, r6, r7, r8⟩ := hR
  obtain ⟨cv, cst1, rfl, hr, q6⟩ := rx_RL.uncons r7
  obtain ⟨cw, cst, rfl, hr2, q7⟩ := rx_RL.uncons q6
  obtain ⟨y, rfl⟩ := hr.isL hb2
  obtain ⟨x, rfl⟩ := hr2.isL ha
  exact lv_land hx hb hdg (kk H locs ls _ cells slots ⟨ws, lc, r1, r2, r3, r4, r5, r6, ⟨rx_R.lb hr2 hr, q7⟩, r8⟩ h1 h2)
theorem rg_lor (hx : p.tables.exec = Jvm.exec) (hb : c.code = cc) (hdg : decode cc pc = .ok (.lor, 1)) {a b : Value} (ha : rx_isL a = true) (hb2 : rx_isL b = true) (kk : rx_G p l e R s m args below meth c Q D cA A old rho nL MC MS ad0 (pc + 1) la (rx_lb (fun x y => x ||| y) a b :: st) h mc ms) : rx_G p l e R s m args below meth c Q D cA A old rho nL MC MS ad0 pc la (b :: a :: st) h mc ms := by
  intro H locs ls cst0 cells slots hR h1 h2
  obtain ⟨ws, lc, r1, r2, r3, r4, r5, r6, r7, r8⟩ := hR
  obtain ⟨cv, cst1, rfl, hr, q6⟩ := rx_RL.uncons r7
  obtain ⟨cw, cst, rfl, hr2, q7⟩ := rx_RL.uncons q6
  obtain ⟨y, rfl⟩ := hr.isL hb2
  obtain ⟨x, rfl⟩ := hr2.isL ha
  exact lv_lor hx hb hdg (kk H locs ls _ cells slots ⟨ws, lc, r1, r2, r3, r4, r5, r6, ⟨rx_R.lb hr2 hr, q7⟩, r8⟩ h1 h2)
theorem rg_lshl (hx : p.tables.exec = Jvm.exec) (hb : c.code = cc) (hdg : decode cc pc = .ok (.lshl, 1)) {a b : Value} (ha : rx_isL a = true) (hb2 : rx_isI b = true) (kk : rx_G p l e R s m args below meth c Q D cA A old rho nL MC MS ad0 (pc + 1) la (rx_ls (fun x y => x <<< (y.toInt64 &&& 63)) a b :: st) h mc ms) : rx_G p l e R s m args below meth c Q D cA A old rho nL MC MS ad0 pc la (b :: a :: st) h mc ms := by
  intro H locs ls cst0 cells slots hR h1 h2
  obtain ⟨ws, lc, r1, r2, r3, r4, r5, r6, r7, r8⟩ := hR
  obtain ⟨cv, cst1, rfl, hr, q6⟩ := rx_RL.uncons r7
  obtain ⟨cw, cst, rfl, hr2, q7⟩ := rx_RL.uncons q6
  obtain ⟨y, rfl⟩ := hr.isI hb2
  obtain ⟨x, rfl⟩ := hr2.isL ha
  exact lv_lshl hx hb hdg rfl (kk H locs ls _ cells slots ⟨ws, lc, r1, r2, r3, r4, r5, r6, ⟨rx_R.ls (f := fun x y => x <<< (y.toInt64 &&& 63)) hr2 hr, q7⟩, r8⟩ h1 h2)
theorem rg_lshr (hx : p.tables.exec = Jvm.exec) (hb : c.code = cc) (hdg : decode cc pc = .ok (.lshr, 1)) {a b : Value} (ha : rx_isL a = true) (hb2 : rx_isI b = true) (kk : rx_G p l e R s m args below meth c Q D cA A old rho nL MC MS ad0 (pc + 1) la (rx_ls (fun x y => x >>> (y.toInt64 &&& 63)) a b :: st) h mc ms) : rx_G p l e R s m args below meth c Q D cA A old rho nL MC MS ad0 pc la (b :: a :: st) h mc ms := by
  intro H locs ls cst0 cells slots hR h1 h2
  obtain ⟨ws, lc, r1, r2, r3, r4, r5, r6, r7, r8⟩ := hR
  obtain ⟨cv, cst1, rfl, hr, q6⟩ := rx_RL.uncons r7
  obtain ⟨cw, cst, rfl, hr2, q7⟩ := rx_RL.uncons q6
  obtain ⟨y, rfl⟩ := hr.isI hb2
  obtain ⟨x, rfl⟩ := hr2.isL ha
  exact lv_lshr hx hb hdg rfl (kk H locs ls _ cells slots ⟨ws, lc, r1, r2, r3, r4, r5, r6, ⟨rx_R.ls (f := fun x y => x >>> (y.toInt64 &&& 63)) hr2 hr, q7⟩, r8⟩ h1 h2)
theorem rg_lushr (hx : p.tables.exec = Jvm.exec) (hb : c.code = cc) (hdg : decode cc pc = .ok (.lushr, 1)) {a b : Value} (ha : rx_isL a = true) (hb2 : rx_isI b = true) (kk : rx_G p l e R s m args below meth c Q D cA A old rho nL MC MS ad0 (pc + 1) la (rx_ls (fun x y => (x.toUInt64 >>> (y.toInt64.toUInt64 &&& Int64.toUInt64 63)).toInt64) a b :: st) h mc ms) : rx_G p l e R s m args below meth c Q D cA A old rho nL MC MS ad0 pc la (b :: a :: st) h mc ms := by
  intro H locs ls cst0 cells slots hR h1 h2
  obtain ⟨ws, lc, r1, r2, r3, r4, r5, r6, r7, r8⟩ := hR
  obtain ⟨cv, cst1, rfl, hr, q6⟩ := rx_RL.uncons r7
  obtain ⟨cw, cst, rfl, hr2, q7⟩ := rx_RL.uncons q6
  obtain ⟨y, rfl⟩ := hr.isI hb2
  obtain ⟨x, rfl⟩ := hr2.isL ha
  exact lv_lushr hx hb hdg rfl (kk H locs ls _ cells slots ⟨ws, lc, r1, r2, r3, r4, r5, r6, ⟨rx_R.ls (f := fun x y => (x.toUInt64 >>> (y.toInt64.toUInt64 &&& Int64.toUInt64 63)).toInt64) hr2 hr, q7⟩, r8⟩ h1 h2)
theorem rg_lcmp (hx : p.tables.exec = Jvm.exec) (hb : c.code = cc) (hdg : decode cc pc = .ok (.lcmp, 1)) {a b : Value} (ha : rx_isL a = true) (hb2 : rx_isL b = true) (kk : rx_G p l e R s m args below meth c Q D cA A old rho nL MC MS ad0 (pc + 1) la (rx_lc a b :: st) h mc ms) : rx_G p l e R s m args below meth c Q D cA A old rho nL MC MS ad0 pc la (b :: a :: st) h mc ms := by
  intro H locs ls cst0 cells slots hR h1 h2
  obtain ⟨ws, lc, r1, r2, r3, r4, r5, r6, r7, r8⟩ := hR
  obtain ⟨cv, cst1, rfl, hr, q6⟩ := rx_RL.uncons r7
  obtain ⟨cw, cst, rfl, hr2, q7⟩ := rx_RL.uncons q6
  obtain ⟨y, rfl⟩ := hr.isL hb2
  obtain ⟨x, rfl⟩ := hr2.isL ha
  exact W.lcmp hx hb hdg (kk H locs ls _ cells slots ⟨ws, lc, r1, r2, r3, r4, r5, r6, ⟨rx_R.lc hr2 hr, q7⟩, r8⟩ h1 h2)
theorem rg_ineg (hx : p.tables.exec = Jvm.exec) (hb : c.code = cc) (hdg : decode cc pc = .ok (.ineg, 1)) {a : Value} (ha : rx_isI a = true) (kk : rx_G p l e R s m args below meth c Q D cA A old rho nL MC MS ad0 (pc + 1) la (rx_iu (fun x => -x) a :: st) h mc ms) : rx_G p l e R s m args below meth c Q D cA A old rho nL MC MS ad0 pc la (a :: st) h mc ms := by
  intro H locs ls cst0 cells slots hR h1 h2
  obtain ⟨ws, lc, r1, r2, r3, r4, r5, r6, r7, r8⟩ := hR
  obtain ⟨cv, cst, rfl, hr, q7⟩ := rx_RL.uncons r7
  obtain ⟨x, rfl⟩ := hr.isI ha
  exact lv_ineg hx hb hdg (kk H locs ls _ cells slots ⟨ws, lc, r1, r2, r3, r4, r5, r6, ⟨rx_R.iu hr, q7⟩, r8⟩ h1 h2)
theorem rg_i2b (hx : p.tables.exec = Jvm.exec) (hb : c.code = cc) (hdg : decode cc pc = .ok (.i2b, 1)) {a : Value} (ha : rx_isI a = true) (kk : rx_G p l e R s m args below meth c Q D cA A old rho nL MC MS ad0 (pc + 1) la (rx_iu (fun x => x.toInt8.toInt32) a :: st) h mc ms) : rx_G p l e R s m args below meth c Q D cA A old rho nL MC MS ad0 pc la (a :: st) h mc ms := by
  intro H locs ls cst0 cells slots hR h1 h2
  obtain ⟨ws, lc, r1, r2, r3, r4, r5, r6, r7, r8⟩ := hR
  obtain ⟨cv, cst, rfl, hr, q7⟩ := rx_RL.uncons r7
  obtain ⟨x, rfl⟩ := hr.isI ha
  exact lv_i2b hx hb hdg rfl (kk H locs ls _ cells slots ⟨ws, lc, r1, r2, r3, r4, r5, r6, ⟨rx_R.iu (f := fun x => x.toInt8.toInt32) hr, q7⟩, r8⟩ h1 h2)
theorem rg_i2c (hx : p.tables.exec = Jvm.exec) (hb : c.code = cc) (hdg : decode cc pc = .ok (.i2c, 1)) {a : Value} (ha : rx_isI a = true) (kk : rx_G p l e R s m args below meth c Q D cA A old rho nL MC MS ad0 (pc + 1) la (rx_iu (fun x => (x.toUInt32 % 65536).toInt32) a :: st) h mc ms) : rx_G p l e R s m args below meth c Q D cA A old rho nL MC MS ad0 pc la (a :: st) h mc ms := by
  intro H locs ls cst0 cells slots hR h1 h2
  obtain ⟨ws, lc, r1, r2, r3, r4, r5, r6, r7, r8⟩ := hR
  obtain ⟨cv, cst, rfl, hr, q7⟩ := rx_RL.uncons r7
  obtain ⟨x, rfl⟩ := hr.isI ha
  exact lv_i2c hx hb hdg rfl (kk H locs ls _ cells slots ⟨ws, lc, r1, r2, r3, r4, r5, r6, ⟨rx_R.iu (f := fun x => (x.toUInt32 % 65536).toInt32) hr, q7⟩, r8⟩ h1 h2)
theorem rg_i2l (hx : p.tables.exec = Jvm.exec) (hb : c.code = cc) (hdg : decode cc pc = .ok (.i2l, 1)) {a : Value} (ha : rx_isI a = true) (kk : rx_G p l e R s m args below meth c Q D cA A old rho nL MC MS ad0 (pc + 1) la (rx_i2l a :: st) h mc ms) : rx_G p l e R s m args below meth c Q D cA A old rho nL MC MS ad0 pc la (a :: st) h mc ms := by
  intro H locs ls cst0 cells slots hR h1 h2
  obtain ⟨ws, lc, r1, r2, r3, r4, r5, r6, r7, r8⟩ := hR
  obtain ⟨cv, cst, rfl, hr, q7⟩ := rx_RL.uncons r7
  obtain ⟨x, rfl⟩ := hr.isI ha
  exact lv_i2l hx hb hdg rfl (kk H locs ls _ cells slots ⟨ws, lc, r1, r2, r3, r4, r5, r6, ⟨rx_R.i2l hr, q7⟩, r8⟩ h1 h2)
theorem rg_l2i (hx : p.tables.exec = Jvm.exec) (hb : c.code = cc) (hdg : decode cc pc = .ok (.l2i, 1)) {a : Value} (ha : rx_isL a = true) (kk : rx_G p l e R s m args below meth c Q D cA A old rho nL MC MS ad0 (pc + 1) la (rx_l2i a :: st) h mc ms) : rx_G p l e R s m args below meth c Q D cA A old rho nL MC MS ad0 pc la (a :: st) h mc ms := by
  intro H locs ls cst0 cells slots hR h1 h2
  obtain ⟨ws, lc, r1, r2, r3, r4, r5, r6, r7, r8⟩ := hR
  obtain ⟨cv, cst, rfl, hr, q7⟩ := rx_RL.uncons r7
  obtain ⟨x, rfl⟩ := hr.isL ha
  exact lv_l2i hx hb hdg rfl (kk H locs ls _ cells slots ⟨ws, lc, r1, r2, r3, r4, r5, r6, ⟨rx_R.l2i hr, q7⟩, r8⟩ h1 h2)
theorem rg_goto (hx : p.tables.exec = Jvm.exec) (hb : c.code = cc) {off : Int} {t : Nat} (hdg : decode cc pc = .ok (.goto off, 3)) (ht : (pc : Int) + off = (t : Int)) (kk : rx_G p l e R s m args below meth c Q D cA A old rho nL MC MS ad0 t la st h mc ms) : rx_G p l e R s m args below meth c Q D cA A old rho nL MC MS ad0 pc la st h mc ms := fun H locs ls cst cells slots hR h1 h2 => lv_goto hx hb hdg ht (kk H locs ls cst cells slots hR h1 h2)
theorem rw_icmp (hx : p.tables.exec = Jvm.exec) (hb : c.code = cc) {H : Heap} {locs : List Loc} {ls : Array Slot} {rest : List Value} {cells slots : Nat} {cnd : ClassFile.Cond} {off : Int} {t : Nat} {x y : Int32} (hdg : decode cc pc = .ok (.if_icmp cnd off, 3)) (ht : (pc : Int) + off = (t : Int)) (kt : rx_cb cnd x y = true → W p l e R s m args below meth c H locs cells slots Q (F0 m t ls rest)) (kf : rx_cb cnd x y = false → W p l e R s m args below meth c H locs cells slots Q (F0 m (pc + 3) ls rest)) : W p l e R s m args below meth c H locs cells slots Q (F0 m pc ls (.int y :: .int x :: rest)) := by
  cases cnd with
  | eq => exact lv_icmp_eq hx hb hdg ht (fun z => kt (by simp [rx_cb, z])) (fun z => kf (by simp [rx_cb, z]))
  | ne => exact lv_icmp_ne hx hb hdg ht (fun z => kt (by simp [rx_cb, z])) (fun z => kf (by simp [rx_cb, z]))
  | lt => exact lv_icmp_lt hx hb hdg ht (fun z => kt (by simp only [rx_cb, decide_eq_true z])) (fun z => kf (by simp only [rx_cb, decide_eq_false z]))
  | ge => exact lv_icmp_ge hx hb hdg ht (fun z => kt (by simp only [rx_cb, decide_eq_true z])) (fun z => kf (by simp only [rx_cb, decide_eq_false z]))
  | gt => exact lv_icmp_gt hx hb hdg ht (fun z => kt (by simp only [rx_cb, decide_eq_true z])) (fun z => kf (by simp only [rx_cb, decide_eq_false z]))
  | le => exact lv_icmp_le hx hb hdg ht (fun z => kt (by simp only [rx_cb, decide_eq_true z])) (fun z => kf (by simp only [rx_cb, decide_eq_false z]))
theorem rw_if (hx : p.tables.exec = Jvm.exec) (hb : c.code = cc) {H : Heap} {locs : List Loc} {ls : Array Slot} {rest : List Value} {cells slots : Nat} {cnd : ClassFile.Cond} {off : Int} {t : Nat} {x : Int32} (hdg : decode cc pc = .ok (.ifCond cnd off, 3)) (ht : (pc : Int) + off = (t : Int)) (kt : rx_cb cnd x 0 = true → W p l e R s m args below meth c H locs cells slots Q (F0 m t ls rest)) (kf : rx_cb cnd x 0 = false → W p l e R s m args below meth c H locs cells slots Q (F0 m (pc + 3) ls rest)) : W p l e R s m args below meth c H locs cells slots Q (F0 m pc ls (.int x :: rest)) := by
  cases cnd with
  | eq => exact lv_if_eq hx hb hdg ht (fun z => kt (by simp [rx_cb, z])) (fun z => kf (by simp [rx_cb, z]))
  | ne => exact lv_if_ne hx hb hdg ht (fun z => kt (by simp [rx_cb, z])) (fun z => kf (by simp [rx_cb, z]))
  | lt => exact lv_if_lt hx hb hdg ht (fun z => kt (by simp only [rx_cb, decide_eq_true z])) (fun z => kf (by simp only [rx_cb, decide_eq_false z]))
  | ge => exact lv_if_ge hx hb hdg ht (fun z => kt (by simp only [rx_cb, decide_eq_true z])) (fun z => kf (by simp only [rx_cb, decide_eq_false z]))
  | gt => exact lv_if_gt hx hb hdg ht (fun z => kt (by simp only [rx_cb, decide_eq_true z])) (fun z => kf (by simp only [rx_cb, decide_eq_false z]))
  | le => exact lv_if_le hx hb hdg ht (fun z => kt (by simp only [rx_cb, decide_eq_true z])) (fun z => kf (by simp only [rx_cb, decide_eq_false z]))
theorem rg_icmp (hx : p.tables.exec = Jvm.exec) (hb : c.code = cc) {F : RFact} (hF : rx_FT rho F) {cnd : ClassFile.Cond} {off : Int} {t : Nat} {a b : Value} (hdg : decode cc pc = .ok (.if_icmp cnd off, 3)) (ht : (pc : Int) + off = (t : Int)) (ha : rx_isI a = true) (hb2 : rx_isI b = true) (kt : rx_cmp F cnd a b ≠ some false → rx_G p l e R s m args below meth c Q D cA A old rho nL MC MS ad0 t la st h mc ms) (kf : rx_cmp F cnd a b ≠ some true → rx_G p l e R s m args below meth c Q D cA A old rho nL MC MS ad0 (pc + 3) la st h mc ms) : rx_G p l e R s m args below meth c Q D cA A old rho nL MC MS ad0 pc la (b :: a :: st) h mc ms := by
  intro H locs ls cst0 cells slots hR h1 h2
  obtain ⟨ws, lc, r1, r2, r3, r4, r5, r6, r7, r8⟩ := hR
  obtain ⟨cv, cst1, rfl, hr, q6⟩ := rx_RL.uncons r7
  obtain ⟨cw, cst, rfl, hr2, q7⟩ := rx_RL.uncons q6
  obtain ⟨y, rfl⟩ := hr.isI hb2
  obtain ⟨x, rfl⟩ := hr2.isI ha
  refine rw_icmp hx hb hdg ht (fun z => kt ?_ H locs ls _ cells slots ⟨ws, lc, r1, r2, r3, r4, r5, r6, q7, r8⟩ h1 h2) (fun z => kf ?_ H locs ls _ cells slots ⟨ws, lc, r1, r2, r3, r4, r5, r6, q7, r8⟩ h1 h2)
  · intro hc
    rw [rx_cmp_of hF hr2 hr hc] at z
    cases z
  · intro hc
    rw [rx_cmp_of hF hr2 hr hc] at z
    cases z
theorem rg_if (hx : p.tables.exec = Jvm.exec) (hb : c.code = cc) {F : RFact} (hF : rx_FT rho F) {cnd : ClassFile.Cond} {off : Int} {t : Nat} {a : Value} (hdg : decode cc pc = .ok (.ifCond cnd off, 3)) (ht : (pc : Int) + off = (t : Int)) (ha : rx_isI a = true) (kt : rx_cmp F cnd a (.int 0) ≠ some false → rx_G p l e R s m args below meth c Q D cA A old rho nL MC MS ad0 t la st h mc ms) (kf : rx_cmp F cnd a (.int 0) ≠ some true → rx_G p l e R s m args below meth c Q D cA A old rho nL MC MS ad0 (pc + 3) la st h mc ms) : rx_G p l e R s m args below meth c Q D cA A old rho nL MC MS ad0 pc la (a :: st) h mc ms := by
  intro H locs ls cst0 cells slots hR h1 h2
  obtain ⟨ws, lc, r1, r2, r3, r4, r5, r6, r7, r8⟩ := hR
  obtain ⟨cv, cst, rfl, hr, q7⟩ := rx_RL.uncons r7
  obtain ⟨x, rfl⟩ := hr.isI ha
  refine rw_if hx hb hdg ht (fun z => kt ?_ H locs ls _ cells slots ⟨ws, lc, r1, r2, r3, r4, r5, r6, q7, r8⟩ h1 h2) (fun z => kf ?_ H locs ls _ cells slots ⟨ws, lc, r1, r2, r3, r4, r5, r6, q7, r8⟩ h1 h2)
  · intro hc
    rw [rx_cmp_of hF hr (show rx_R old rho (ws.map (·.1)) (.int 0) (.int 0) from rfl) hc] at z
    cases z
  · intro hc
    rw [rx_cmp_of hF hr (show rx_R old rho (ws.map (·.1)) (.int 0) (.int 0) from rfl) hc] at z
    cases z
end RowsA
