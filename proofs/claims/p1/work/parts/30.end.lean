theorem rx_and15 (x : Int32) : ∃ n, n < 16 ∧ x &&& 15 = Int32.ofNat n := by
  refine ⟨x.toBitVec.toNat % 16, Nat.mod_lt _ (by decide), ?_⟩
  apply Int32.toBitVec_inj.mp
  apply BitVec.eq_of_toNat_eq
  rw [Int32.toBitVec_and, BitVec.toNat_and, show (15 : Int32).toBitVec.toNat = 2 ^ 4 - 1 by decide, Nat.and_two_pow_sub_one_eq_mod]
  show _ = (Int32.ofNat _).toBitVec.toNat
  rw [Int32.toBitVec_ofNat', BitVec.toNat_ofNat]
  have : x.toBitVec.toNat % 16 < 16 := Nat.mod_lt _ (by decide)
  omega
theorem rx_sc4 {xs : Nat → Int32} : ∀ (i : Nat) (v : Value), ([.float 1, .float 2, .float 3, .float 4] : List Value)[i]? = some v → ∀ (old : Nat → Nat) (ads : List Nat), rx_R old (fun i => xs (i.toNat - 1)) ads v (.int (xs i)) := by
  intro i v hv old ads
  match i, hv with
  | 0, hv => cases hv; exact ⟨_, rfl, fun _ => rfl⟩
  | 1, hv => cases hv; exact ⟨_, rfl, fun _ => rfl⟩
  | 2, hv => cases hv; exact ⟨_, rfl, fun _ => rfl⟩
  | 3, hv => cases hv; exact ⟨_, rfl, fun _ => rfl⟩
  | i + 4, hv => simp at hv
theorem rx_sc4n {xs : Nat → Int32} {n : Int32} (hn : xs 1 = n) : ∀ (i : Nat) (v : Value), ([.float 1, .int n, .float 3, .float 4] : List Value)[i]? = some v → ∀ (old : Nat → Nat) (ads : List Nat), rx_R old (fun i => xs (i.toNat - 1)) ads v (.int (xs i)) := by
  intro i v hv old ads
  match i, hv with
  | 0, hv => cases hv; exact ⟨_, rfl, fun _ => rfl⟩
  | 1, hv => cases hv; exact congrArg Value.int hn
  | 2, hv => cases hv; exact ⟨_, rfl, fun _ => rfl⟩
  | 3, hv => cases hv; exact ⟨_, rfl, fun _ => rfl⟩
  | i + 4, hv => simp at hv
theorem rx_ft0 {xs : Nat → Int32} {c : Int32} (hc : xs 0 &&& 15 = c) : rx_FT2 (fun i => xs (i.toNat - 1)) ([], [(1, 15, c)], []) := by
  refine ⟨fun q hq => absurd hq List.not_mem_nil, fun q hq => ?_, fun q hq => absurd hq List.not_mem_nil⟩
  rw [List.mem_singleton.mp hq]
  exact hc
theorem rx_ftF {xs : Nat → Int32} {c : Int32} {F : RFact} (hc : xs 0 &&& 15 = c) (hF : F.all (fun q => decide (q.1 = 2) && decide (rx_cb q.2.1 (xs 1) q.2.2.1 = q.2.2.2)) = true) : rx_FT2 (fun i => xs (i.toNat - 1)) (F, [(1, 15, c)], []) := by
  refine ⟨fun q hq => ?_, (rx_ft0 hc).2⟩
  have h := List.all_eq_true.mp hF q hq
  rw [Bool.and_eq_true] at h
  have h1 := of_decide_eq_true h.1
  have h2 := of_decide_eq_true h.2
  rw [h1]
  exact h2
theorem rx_ftL {xs : Nat → Int32} {c r : Int32} (hc : xs 0 &&& 15 = c) (hr : ∀ k, k < 8 → lg_cmp ((xs 1).toInt64 + Int64.ofNat k) 0 = r) : rx_FT2 (fun i => xs (i.toNat - 1)) ([], [(1, 15, c)], rx_LF r) := by
  refine ⟨fun q hq => absurd hq List.not_mem_nil, (rx_ft0 hc).2.1, fun q hq => ?_⟩
  obtain ⟨k, hk, rfl⟩ := List.mem_map.mp hq
  have hk8 : k < 8 := by
    simp only [List.mem_cons, List.not_mem_nil, or_false] at hk
    omega
  have hn : (UInt64.ofNat (2 + 4294967296 * k)).toNat = 2 + 4294967296 * k := by
    rw [UInt64.toNat_ofNat', Nat.mod_eq_of_lt]
    omega
  have h5 : (UInt64.ofNat (2 + 4294967296 * k)).toUInt32 = 2 := by
    apply UInt32.toNat_inj.mp
    rw [UInt64.toNat_toUInt32, hn]
    show (2 + 4294967296 * k) % 4294967296 = 2
    omega
  show lg_cmp (rx_dl _ (UInt64.ofNat (2 + 4294967296 * k))) 0 = r
  unfold rx_dl
  rw [h5, hn, show (2 + 4294967296 * k) / 4294967296 = k by omega]
  exact hr k hk8
theorem rx_lsum {x : Int32} {k : Nat} (hk : k < 8) : (x.toInt64 + Int64.ofNat k).toInt = x.toInt + k := by
  have h1 := Int32.le_toInt x
  have h2 : x.toInt < 2147483648 := Int32.toInt_lt x
  rw [Int64.toInt_add, Int32.toInt_toInt64, Int64.toInt_ofNat_of_lt (by omega)]
  apply Int.bmod_eq_of_le <;> omega
theorem rx_lpos {x : Int32} {k : Nat} (hk : k < 8) (hx : 1 ≤ x.toInt) : lg_cmp (x.toInt64 + Int64.ofNat k) 0 = 1 := by
  have h := rx_lsum (x := x) hk
  unfold lg_cmp
  rw [if_pos]
  show (0 : Int64) < _
  rw [Int64.lt_iff_toInt_lt, h]
  show (0 : Int) < _
  omega
theorem rx_lneg {x : Int32} {k : Nat} (hk : k < 8) (hx : x.toInt ≤ -8) : lg_cmp (x.toInt64 + Int64.ofNat k) 0 = -1 := by
  have h := rx_lsum (x := x) hk
  unfold lg_cmp
  rw [if_neg, if_neg]
  · intro z
    rw [z] at h
    have h : (0 : Int) = _ := h
    omega
  · intro z
    have z : (0 : Int64) < _ := z
    rw [Int64.lt_iff_toInt_lt, h] at z
    have z : (0 : Int) < _ := z
    omega
theorem rx_i32 {x : Int32} {a b : Int} (k : Int32) (ha : a ≤ x.toInt) (hb : x.toInt ≤ b) : (k.toInt < a → rx_cb .lt x k = false ∧ rx_cb .ge x k = true ∧ rx_cb .gt x k = true ∧ rx_cb .le x k = false ∧ rx_cb .eq x k = false ∧ rx_cb .ne x k = true) ∧ (b < k.toInt → rx_cb .lt x k = true ∧ rx_cb .ge x k = false ∧ rx_cb .gt x k = false ∧ rx_cb .le x k = true ∧ rx_cb .eq x k = false ∧ rx_cb .ne x k = true) ∧ (k.toInt = a → rx_cb .lt x k = false ∧ rx_cb .ge x k = true) ∧ (k.toInt = b → rx_cb .gt x k = false ∧ rx_cb .le x k = true) := by
  simp only [rx_cb, decide_eq_true_eq, decide_eq_false_iff_not, Bool.not_eq_true', Int32.lt_iff_toInt_lt, Int32.le_iff_toInt_le, ← Int32.toInt_inj]
  refine ⟨fun h => ?_, fun h => ?_, fun h => ?_, fun h => ?_⟩
  all_goals (repeat' constructor)
  all_goals omega
/-- the law on any script of at most 4 ints -/
theorem whole_start {p : Program} {e : Env} {s : State} {m : MethodId} {below : List Frame} {meth : Method} {c : Code} (l : Launch) (hl : l.stackTraces = false) (hnm : meth.name = "law") {b L : Nat} {xs : Nat → Int32} (hL : L ≤ 4) (C0 : lw_At p s m meth c b L xs) : W p l e room_1 s m #[Value.ref b] below meth c s.heap [] 0 0 (lw_Z below #[Value.ref b] s) (entryFrame m ([Value.ref b] : List Value).toArray 7) := by
  have hF0 : rx_FT2 (fun i => xs (i.toNat - 1)) ([], [], []) := ⟨fun q hq => absurd hq List.not_mem_nil, fun q hq => absurd hq List.not_mem_nil, fun q hq => absurd hq List.not_mem_nil⟩
  rcases (show L = 0 ∨ L = 1 ∨ L = 2 ∨ L = 3 ∨ L = 4 by omega) with rfl | rfl | rfl | rfl | rfl
  · exact rx_start hl hnm C0 rt_L0 hF0 rfl (fun i v hv => by simp at hv)
  · exact rx_start hl hnm C0 rt_L1 hF0 rfl (fun i v hv old ads => rx_sc4 i v (by
      match i, hv with
      | 0, hv => exact hv
      | i + 1, hv => simp at hv) old ads)
  · exact rx_start hl hnm C0 rt_L2 hF0 rfl (fun i v hv old ads => rx_sc4 i v (by
      match i, hv with
      | 0, hv => exact hv
      | 1, hv => exact hv
      | i + 2, hv => simp at hv) old ads)
  · exact rx_start hl hnm C0 rt_L3 hF0 rfl (fun i v hv old ads => rx_sc4 i v (by
      match i, hv with
      | 0, hv => exact hv
      | 1, hv => exact hv
      | 2, hv => exact hv
      | i + 3, hv => simp at hv) old ads)
  · obtain ⟨n, hn, hc⟩ := rx_and15 (xs 0)
    rcases (show n = 0 ∨ n = 1 ∨ n = 2 ∨ n = 3 ∨ n = 4 ∨ n = 5 ∨ n = 6 ∨ n = 7 ∨ n = 8 ∨ n = 9 ∨ n = 10 ∨ n = 11 ∨ n = 12 ∨ n = 13 ∨ n = 14 ∨ n = 15 by omega) with rfl | rfl | rfl | rfl | rfl | rfl | rfl | rfl | rfl | rfl | rfl | rfl | rfl | rfl | rfl | rfl
    · have hr1 := Int32.le_toInt (xs 1)
      have hr2 : (xs 1).toInt < 2147483648 := Int32.toInt_lt (xs 1)
      rcases (show (xs 1).toInt < 1 ∨ (xs 1).toInt = 1 ∨ (xs 1).toInt = 2 ∨ (xs 1).toInt = 3 ∨ (xs 1).toInt = 4 ∨ (xs 1).toInt = 5 ∨ (xs 1).toInt = 6 ∨ (xs 1).toInt = 7 ∨ (xs 1).toInt = 8 ∨  (8 : Int) < (xs 1).toInt by omega) with h | h | h | h | h | h | h | h | h |  h
      · exact rx_start hl hnm C0 rt_flo (rx_ftF hc (by
          have h9 := fun k => rx_i32 (x := xs 1) (a := -2147483648) (b := 0) k (by omega) (by omega)
          have g0 := h9 0
          have g1 := h9 1
          have g8 := h9 8
          have z0 := g0.2.2.2 (by decide)
          have z1 := g1.2.1 (by decide)
          have z8 := g8.2.1 (by decide)
          simp [z0, z1, z8])) rfl rx_sc4
      · exact rx_start hl hnm C0 rt_f1 (rx_ft0 hc) rfl (rx_sc4n (Int32.toInt_inj.mp h))
      · exact rx_start hl hnm C0 rt_f2 (rx_ft0 hc) rfl (rx_sc4n (Int32.toInt_inj.mp h))
      · exact rx_start hl hnm C0 rt_f3 (rx_ft0 hc) rfl (rx_sc4n (Int32.toInt_inj.mp h))
      · exact rx_start hl hnm C0 rt_f4 (rx_ft0 hc) rfl (rx_sc4n (Int32.toInt_inj.mp h))
      · exact rx_start hl hnm C0 rt_f5 (rx_ft0 hc) rfl (rx_sc4n (Int32.toInt_inj.mp h))
      · exact rx_start hl hnm C0 rt_f6 (rx_ft0 hc) rfl (rx_sc4n (Int32.toInt_inj.mp h))
      · exact rx_start hl hnm C0 rt_f7 (rx_ft0 hc) rfl (rx_sc4n (Int32.toInt_inj.mp h))
      · exact rx_start hl hnm C0 rt_f8 (rx_ft0 hc) rfl (rx_sc4n (Int32.toInt_inj.mp h))
      · exact rx_start hl hnm C0 rt_fhi (rx_ftF hc (by
          have h9 := fun k => rx_i32 (x := xs 1) (a := 9) (b := 2147483647) k (by omega) (by omega)
          have g0 := h9 0
          have g1 := h9 1
          have g8 := h9 8
          have z0 := g0.1 (by decide)
          have z1 := g1.1 (by decide)
          have z8 := g8.1 (by decide)
          simp [z0, z1, z8])) rfl rx_sc4
    · exact rx_start hl hnm C0 rt_c1 (rx_ft0 hc) rfl rx_sc4
    · exact rx_start hl hnm C0 rt_c2 (rx_ft0 hc) rfl rx_sc4
    · exact rx_start hl hnm C0 rt_c3 (rx_ft0 hc) rfl rx_sc4
    · exact rx_start hl hnm C0 rt_c4 (rx_ft0 hc) rfl rx_sc4
    · exact rx_start hl hnm C0 rt_c5 (rx_ft0 hc) rfl rx_sc4
    · have hr1 := Int32.le_toInt (xs 1)
      have hr2 : (xs 1).toInt < 2147483648 := Int32.toInt_lt (xs 1)
      rcases (show (xs 1).toInt < 0 ∨ (0 ≤ (xs 1).toInt ∧ (xs 1).toInt ≤ 20000) ∨ 20000 < (xs 1).toInt by omega) with h | h | h
      · exact rx_start hl hnm C0 rt_rlo (rx_ftF hc (by
          have h9 := fun k => rx_i32 (x := xs 1) (a := -2147483648) (b := -1) k (by omega) (by omega)
          have g0 := h9 0
          have g20000 := h9 20000
          have z0 := g0.2.1 (by decide)
          have z20000 := g20000.2.1 (by decide)
          simp [z0, z20000])) rfl rx_sc4
      · exact rx_start hl hnm C0 rt_rmi (rx_ftF hc (by
          have h9 := fun k => rx_i32 (x := xs 1) (a := 0) (b := 20000) k (by omega) (by omega)
          have g0 := h9 0
          have g20000 := h9 20000
          have z0 := g0.2.2.1 (by decide)
          have z20000 := g20000.2.2.2 (by decide)
          simp [z0, z20000])) rfl rx_sc4
      · exact rx_start hl hnm C0 rt_rhi (rx_ftF hc (by
          have h9 := fun k => rx_i32 (x := xs 1) (a := 20001) (b := 2147483647) k (by omega) (by omega)
          have g0 := h9 0
          have g20000 := h9 20000
          have z0 := g0.1 (by decide)
          have z20000 := g20000.1 (by decide)
          simp [z0, z20000])) rfl rx_sc4
    · exact rx_start hl hnm C0 rt_c7 (rx_ft0 hc) rfl rx_sc4
    · exact rx_start hl hnm C0 rt_c8 (rx_ft0 hc) rfl rx_sc4
    · rcases (show (xs 1).toInt ≤ -8 ∨ (xs 1).toInt = -7 ∨ (xs 1).toInt = -6 ∨ (xs 1).toInt = -5 ∨ (xs 1).toInt = -4 ∨ (xs 1).toInt = -3 ∨ (xs 1).toInt = -2 ∨ (xs 1).toInt = -1 ∨ (xs 1).toInt = 0 ∨ 1 ≤ (xs 1).toInt by omega) with h | h | h | h | h | h | h | h | h | h
      · exact rx_start hl hnm C0 rt_xlo (rx_ftL hc (fun k hk => rx_lneg hk h)) rfl rx_sc4
      · exact rx_start hl hnm C0 rt_x7 (rx_ft0 hc) rfl (rx_sc4n (Int32.toInt_inj.mp h))
      · exact rx_start hl hnm C0 rt_x6 (rx_ft0 hc) rfl (rx_sc4n (Int32.toInt_inj.mp h))
      · exact rx_start hl hnm C0 rt_x5 (rx_ft0 hc) rfl (rx_sc4n (Int32.toInt_inj.mp h))
      · exact rx_start hl hnm C0 rt_x4 (rx_ft0 hc) rfl (rx_sc4n (Int32.toInt_inj.mp h))
      · exact rx_start hl hnm C0 rt_x3 (rx_ft0 hc) rfl (rx_sc4n (Int32.toInt_inj.mp h))
      · exact rx_start hl hnm C0 rt_x2 (rx_ft0 hc) rfl (rx_sc4n (Int32.toInt_inj.mp h))
      · exact rx_start hl hnm C0 rt_x1 (rx_ft0 hc) rfl (rx_sc4n (Int32.toInt_inj.mp h))
      · exact rx_start hl hnm C0 rt_x0 (rx_ft0 hc) rfl (rx_sc4n (Int32.toInt_inj.mp h))
      · exact rx_start hl hnm C0 rt_xhi (rx_ftL hc (fun k hk => rx_lpos hk h)) rfl rx_sc4
    · have hr1 := Int32.le_toInt (xs 1)
      have hr2 : (xs 1).toInt < 2147483648 := Int32.toInt_lt (xs 1)
      rcases (show (xs 1).toInt < 0 ∨ (xs 1).toInt = 0 ∨ (xs 1).toInt = 1 ∨ (xs 1).toInt = 2 ∨ (xs 1).toInt = 3 ∨  (3 : Int) < (xs 1).toInt by omega) with h | h | h | h | h |  h
      · exact rx_start hl hnm C0 rt_tlo (rx_ftF hc (by
          have h9 := fun k => rx_i32 (x := xs 1) (a := -2147483648) (b := -1) k (by omega) (by omega)
          have g0 := h9 0
          have g3 := h9 3
          have z0 := g0.2.1 (by decide)
          have z3 := g3.2.1 (by decide)
          simp [z0, z3])) rfl rx_sc4
      · exact rx_start hl hnm C0 rt_t0 (rx_ft0 hc) rfl (rx_sc4n (Int32.toInt_inj.mp h))
      · exact rx_start hl hnm C0 rt_t1 (rx_ft0 hc) rfl (rx_sc4n (Int32.toInt_inj.mp h))
      · exact rx_start hl hnm C0 rt_t2 (rx_ft0 hc) rfl (rx_sc4n (Int32.toInt_inj.mp h))
      · exact rx_start hl hnm C0 rt_t3 (rx_ft0 hc) rfl (rx_sc4n (Int32.toInt_inj.mp h))
      · exact rx_start hl hnm C0 rt_thi (rx_ftF hc (by
          have h9 := fun k => rx_i32 (x := xs 1) (a := 4) (b := 2147483647) k (by omega) (by omega)
          have g0 := h9 0
          have g3 := h9 3
          have z0 := g0.1 (by decide)
          have z3 := g3.1 (by decide)
          simp [z0, z3])) rfl rx_sc4
    · exact rx_start hl hnm C0 rt_c11 (rx_ft0 hc) rfl rx_sc4
    · exact rx_start hl hnm C0 rt_c12 (rx_ft0 hc) rfl rx_sc4
    · exact rx_start hl hnm C0 rt_c13 (rx_ft0 hc) rfl rx_sc4
    · exact rx_start hl hnm C0 rt_c14 (rx_ft0 hc) rfl rx_sc4
    · exact rx_start hl hnm C0 rt_c15 (rx_ft0 hc) rfl rx_sc4
set_option maxHeartbeats 4000000 in
theorem lw_walk (l : Launch) (hl : l.stackTraces = false) (b : Addr) (xs : List Int32) : MetFree l x (headSpec (Jvm.Cond.code x code maxLocals ret :: tables_1) room_1) (lw_P b xs) (fun _ _ _ _ _ => True) lw_Q := by
  refine MetFree.of_bodyS (code := code) (maxLocals := maxLocals) (ret := ret) (by decide) ?_ ?_
  · intro args s m h hn
    obtain ⟨meth, c, h1, h2, h3, h4, h5, h6, -, -⟩ := Cond.code_spec hn (atoms_spec (ws := Jvm.Cond.code x code maxLocals ret :: tables_1) h _ List.mem_cons_self)
    exact ⟨meth, c, h1, h2, h3, h4, h5, h6⟩
  · intro p e s m args below meth c s₁ B hml0 hP _
    obtain ⟨rfl, hx, hbd, hgv⟩ := hP
    obtain ⟨scr, harrAt, hlist, hof, hsmall⟩ := hx
    obtain ⟨hcb, hkn, -, -⟩ := State.arrayAt?_spec harrAt
    have hown : s.vm.findClass R_law = some m.cls := findClass_of_methodNamed B.named
    have hts0 : ∀ c ∈ (Jvm.Cond.code x code maxLocals ret :: tables_1), c.before #[Value.ref b] s = true := atoms_spec (ws := Jvm.Cond.code x code maxLocals ret :: tables_1) B.pre
    have hts : ∀ w ∈ lw_tbl, w.before #[Value.ref b] s = true := k2_hts_sels lw_privs (fun w hw => hts0 w (List.mem_cons_of_mem _ hw)) lw_privs_ok
    have hml : c.maxLocals = 7 := B.maxLocals_eq (hts0 _ List.mem_cons_self)
    have X₀ : Stand p l e room_1 s m #[Value.ref b] below meth c s₁ [] 0 0 := Stand.of_body B
    have hh0 : s₁.heap = s.heap := by rw [B.state]; rfl
    have hsz : scr.slots.size = xs.length := by rw [← Array.length_toList, hlist, List.length_map]
    have hval : ∀ j : Nat, j < xs.length → scr.slots[j]? = some (.int (xs.getD j 0)) := fun j hj => by
      rw [← Array.getElem?_toList, hlist]
      simp [hj]
    have hbl : b < s.heap.size := (Array.getElem?_eq_some_iff.mp hcb).1
    have hX : va_X b xs.length (fun j => xs.getD j 0) s s.heap := ⟨scr, hcb, hof, hkn, hsz, hval⟩
    have K : W p l e room_1 s m #[Value.ref b] below meth c s₁.heap [] 0 0 (lw_Z below #[Value.ref b] s) (entryFrame m ([Value.ref b] : List Value).toArray 7) := by
      rw [hh0]
      exact whole_start l hl (name_of_methodNamed B.named B.method).1 hbd ⟨B.exec, B.bytes, B.returns, hml, hown, hts, hX, hbl, B.notSynchronized, hgv⟩
    obtain ⟨t, a1, o, b1, b2, b3⟩ := K s₁ rfl X₀
    exact ⟨t, o, a1, b1, b2, b3⟩
theorem lw_pre_spec {args : Array Value} {s : State} (h : (Jvm.Cond.and given_1 narrow_1).before args s = true) (hr : rest_1_c.before args s = true) : ∃ (b : Addr) (xs : List Int32), lw_P b xs args s := by
  have hs := flat_of_before _ h
  have hq := flat_of_before _ hr
  have hc : (Cond.count 1).before args s = true := hs _ (by decide +kernel)
  have harr : (Cond.arrayOf (.arg 0) .int).before args s = true := hs _ (by decide +kernel)
  have hle : (Cond.le (.length (.arg 0)) (.int 4)).before args s = true := hs _ (by decide +kernel)
  have hlen : (Cond.isInt (.length (.arg 0))).before args s = true := hq _ (by decide +kernel)
  have hall : (Cond.all (.arg 0) (.isInt (.elem (.arg 0) (.index 0)))).before args s = true := hq _ (by decide +kernel)
  obtain ⟨b, xs, hb, hx⟩ := State.ints_of_pre rfl harr hlen hall
  have hsm : xs.length < 2 ^ 31 := hx.choose_spec.2.2.2
  have hev : (Term.length (.arg 0)).eval args s none [] s = some (.int xs.length.toInt32) := hx.length_eval hb
  have hv := Cond.le_ints hev (show (Term.int 4).eval args s none [] s = some (.int 4) from rfl)
  have hd : xs.length.toInt32 ≤ 4 := by
    simpa [Cond.before, Cond.holds, hv] using hle
  have hN : xs.length ≤ 4 := (Int32.ofNat_le_ofNat hsm (by decide)).mp (show Int32.ofNat xs.length ≤ Int32.ofNat 4 from hd)
  exact ⟨b, xs, Cond.one_arg hc (show args[0]? = some (.ref b) from hb), hx, hN, h⟩
theorem lw_comes (l : Launch) (hl : l.stackTraces = false) : Comes l x (Jvm.Cond.code x code maxLocals ret :: tables_1) room_1 (fun tb e args s => Calls_1 tb e args s ∧ rest_1 tb e args s ∧ Pre_1 tb e args s)
    (fun _ _ args s o t => lw_Q args s o t) := by
  intro p e ha hc hk s m args below hf hfit hheap happ hpre
  obtain ⟨b, xs, hP⟩ := lw_pre_spec hpre.2.2 hpre.2.1
  obtain ⟨k, o, h1, h2, h3, hQ⟩ := lw_walk l hl b xs p e ha hc hk s m args below hf ((Spec.applies_iff_loose hf).mp happ).1 hP trivial
  exact ⟨k, o, h1, h2, h3, hQ⟩
theorem lw_frame {s t : State} {o : Outcome} {args : Array Value} (h : Framed s o t [] 600002 7302232) :
    Framed s o t (fieldLocs frame_1_writes args s ++ arrayLocs frame_1_arrays args s ++ staticLocs frame_1_statics s) 600002 7302232 := h
theorem lw_limb (L : Cond) (hL : ∀ (args : Array Value) (s t : State), L.after args s (.returned (some (.int 1))) t = true) :
    ArmFor flags0 classFile x code maxLocals ret World_1 tables_1 room_1 Calls_1 rest_1 Pre_1
      (fun tb e a s o t => postC L tb e a s o t ∧ Framed s o t (fieldLocs frame_1_writes a s ++ arrayLocs frame_1_arrays a s ++ staticLocs frame_1_statics s) 600002 7302232) := by
  intro l hfl _ _ p e ha hc hk s m args below hf hfit hheap happ hpre
  obtain ⟨k, o, h1, h2, h3, rfl, hF⟩ := lw_comes l (by unfold Launch.stackTraces; rw [hfl]; decide +kernel) p e ha hc hk s m args below hf hfit hheap happ hpre
  exact ⟨k, _, h1, h2, h3, hL args s _, lw_frame hF⟩
theorem i_vc : Claimed_1_1 ∧ Claimed_1_2 := ⟨lw_limb limb_1_1 (fun args s t => by simp [limb_1_1, Cond.after, Cond.holds, Cond.value]), lw_limb limb_1_2 (fun args s t => Cond.after_iff.mpr (by
  first | (rw [show limb_1_2 = Cond.eq .result (.int 1) from rfl, Cond.eq_ints (x := 1) (y := 1) rfl rfl]; simp; done) | (simp [limb_1_2, Cond.value, Term.eval]; done)))⟩
