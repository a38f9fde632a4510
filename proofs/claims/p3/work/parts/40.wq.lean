/-! numbers -/
def i32 (x : Int) : Int := x.bmod 4294967296
def i64 (x : Int) : Int := x.bmod 18446744073709551616
def InI (x : Int) : Prop := -2147483648 ≤ x ∧ x ≤ 2147483647
def InL (x : Int) : Prop := -9223372036854775808 ≤ x ∧ x ≤ 9223372036854775807
theorem i32_of {x : Int} (h : InI x) : i32 x = x := by
  have h1 := h.1
  have h2 := h.2
  unfold i32
  apply Int.bmod_eq_of_le <;> omega
theorem i64_of {x : Int} (h : InL x) : i64 x = x := by
  have h1 := h.1
  have h2 := h.2
  unfold i64
  apply Int.bmod_eq_of_le <;> omega
theorem InI_i32 (x : Int) : InI (i32 x) := by
  have h1 := Int.le_bmod (x := x) (m := 4294967296) (by decide)
  have h2 := Int.bmod_lt (x := x) (m := 4294967296) (by decide)
  unfold i32 InI
  omega
theorem InL_i64 (x : Int) : InL (i64 x) := by
  have h1 := Int.le_bmod (x := x) (m := 18446744073709551616) (by decide)
  have h2 := Int.bmod_lt (x := x) (m := 18446744073709551616) (by decide)
  unfold i64 InL
  omega
theorem InI_toInt (x : Int32) : InI x.toInt := by
  have h1 := Int32.le_toInt x
  have h2 : x.toInt < 2147483648 := Int32.toInt_lt x
  unfold InI
  omega
theorem InL_toInt (x : Int64) : InL x.toInt := by
  have h1 := Int64.le_toInt x
  have h2 : x.toInt < 9223372036854775808 := Int64.toInt_lt x
  unfold InL
  omega
theorem InI.toL {x : Int} (h : InI x) : InL x := by
  have h1 := h.1
  have h2 := h.2
  unfold InL
  omega
theorem wI (x : Int) : (Int32.ofInt x).toInt = i32 x := Int32.toInt_ofInt
theorem wL (x : Int) : (Int64.ofInt x).toInt = i64 x := Int64.toInt_ofInt
theorem wI_of {x : Int} (h : InI x) : (Int32.ofInt x).toInt = x := (wI x).trans (i32_of h)
theorem wL_of {x : Int} (h : InL x) : (Int64.ofInt x).toInt = x := (wL x).trans (i64_of h)
theorem i32_i32 (x : Int) : i32 (i32 x) = i32 x := i32_of (InI_i32 x)
theorem i64_i64 (x : Int) : i64 (i64 x) = i64 x := i64_of (InL_i64 x)
theorem ofI (x : Int) : Int32.ofInt (i32 x) = Int32.ofInt x := Int32.toInt_inj.mp (by rw [wI, wI, i32_i32])
theorem ofL (x : Int) : Int64.ofInt (i64 x) = Int64.ofInt x := Int64.toInt_inj.mp (by rw [wL, wL, i64_i64])
def wvi (x : Int) : Value := .int (Int32.ofInt x)
def wvl (x : Int) : Value := .long (Int64.ofInt x)
def wva (x : Int) : Value := if x < 0 then .null else .ref x.toNat

theorem ofI_add (a b : Int) : Int32.ofInt a + Int32.ofInt b = Int32.ofInt (i32 (a + b)) := by
  rw [ofI, Int32.ofInt_add]
theorem ofI_sub (a b : Int) : Int32.ofInt a - Int32.ofInt b = Int32.ofInt (i32 (a - b)) := by
  rw [ofI, Int32.ofInt_sub]
theorem ofI_mul (a b : Int) : Int32.ofInt a * Int32.ofInt b = Int32.ofInt (i32 (a * b)) := by
  rw [ofI, Int32.ofInt_mul]
theorem ofL_add (a b : Int) : Int64.ofInt a + Int64.ofInt b = Int64.ofInt (i64 (a + b)) := by
  rw [ofL, Int64.ofInt_add]
theorem ofL_sub (a b : Int) : Int64.ofInt a - Int64.ofInt b = Int64.ofInt (i64 (a - b)) := by
  rw [ofL, Int64.ofInt_sub]
theorem ofL_mul (a b : Int) : Int64.ofInt a * Int64.ofInt b = Int64.ofInt (i64 (a * b)) := by
  rw [ofL, Int64.ofInt_mul]
theorem ofI_neg (a : Int) : -(Int32.ofInt a) = Int32.ofInt (i32 (-a)) := by
  rw [ofI, Int32.ofInt_neg]
theorem ofL_neg (a : Int) : -(Int64.ofInt a) = Int64.ofInt (i64 (-a)) := by
  rw [ofL, Int64.ofInt_neg]
def i_and (a b : Int) : Int := (Int32.ofInt a &&& Int32.ofInt b).toInt
def i_or (a b : Int) : Int := (Int32.ofInt a ||| Int32.ofInt b).toInt
def i_shl (a b : Int) : Int := (Int32.ofInt a <<< (Int32.ofInt b &&& 31)).toInt
def i_shr (a b : Int) : Int := (Int32.ofInt a >>> (Int32.ofInt b &&& 31)).toInt
def i_div (a b : Int) : Int := (Int32.ofInt a / Int32.ofInt b).toInt
def i_rem (a b : Int) : Int := (Int32.ofInt a - Int32.ofInt a / Int32.ofInt b * Int32.ofInt b).toInt
def i_b (a : Int) : Int := (Int32.ofInt a).toInt8.toInt32.toInt
def i_c (a : Int) : Int := ((Int32.ofInt a).toUInt32 % 65536).toInt32.toInt
def l_and (a b : Int) : Int := (Int64.ofInt a &&& Int64.ofInt b).toInt
def l_or (a b : Int) : Int := (Int64.ofInt a ||| Int64.ofInt b).toInt
def l_xor (a b : Int) : Int := (Int64.ofInt a ^^^ Int64.ofInt b).toInt
def l_shl (a b : Int) : Int := (Int64.ofInt a <<< ((Int32.ofInt b).toInt64 &&& 63)).toInt
def l_shr (a b : Int) : Int := (Int64.ofInt a >>> ((Int32.ofInt b).toInt64 &&& 63)).toInt
def l_ushr (a b : Int) : Int := ((Int64.ofInt a).toUInt64 >>> ((Int32.ofInt b).toInt64.toUInt64 &&& Int64.toUInt64 63)).toInt64.toInt
def l_div (a b : Int) : Int := (Int64.ofInt a / Int64.ofInt b).toInt
def l_rem (a b : Int) : Int := (Int64.ofInt a - Int64.ofInt a / Int64.ofInt b * Int64.ofInt b).toInt
theorem ofI_lt {a b : Int} (ha : InI a) (hb : InI b) : Int32.ofInt a < Int32.ofInt b ↔ a < b := by
  rw [Int32.lt_iff_toInt_lt, wI_of ha, wI_of hb]
theorem ofI_le {a b : Int} (ha : InI a) (hb : InI b) : Int32.ofInt a ≤ Int32.ofInt b ↔ a ≤ b := by
  rw [Int32.le_iff_toInt_le, wI_of ha, wI_of hb]
theorem ofI_eq {a b : Int} (ha : InI a) (hb : InI b) : Int32.ofInt a = Int32.ofInt b ↔ a = b := by
  rw [← Int32.toInt_inj, wI_of ha, wI_of hb]
theorem ofL_lt {a b : Int} (ha : InL a) (hb : InL b) : Int64.ofInt a < Int64.ofInt b ↔ a < b := by
  rw [Int64.lt_iff_toInt_lt, wL_of ha, wL_of hb]
theorem ofL_eq {a b : Int} (ha : InL a) (hb : InL b) : Int64.ofInt a = Int64.ofInt b ↔ a = b := by
  rw [← Int64.toInt_inj, wL_of ha, wL_of hb]
theorem ofI_toL {a : Int} (ha : InI a) : (Int32.ofInt a).toInt64 = Int64.ofInt a := by
  apply Int64.toInt_inj.mp
  rw [Int32.toInt_toInt64, wI_of ha, wL_of ha.toL]
theorem ofL_toI (a : Int) : (Int64.ofInt a).toInt32 = Int32.ofInt (i32 a) := by
  apply Int32.toInt_inj.mp
  rw [Int64.toInt_toInt32, wL, wI, i32_i32]
  unfold i32 i64
  exact Int.bmod_bmod_of_dvd (by decide)
theorem ofI_idx {a : Int} (ha : InI a) (h0 : 0 ≤ a) : (Int32.ofInt a).toNatClampNeg = a.toNat := by
  show (Int32.ofInt a).toInt.toNat = a.toNat
  rw [wI_of ha]
theorem ofI_neg0 {a : Int} (ha : InI a) (h0 : 0 ≤ a) : decide (Int32.ofInt a < 0) = false := by
  apply decide_eq_false
  intro h
  have h := (ofI_lt ha (show InI 0 from ⟨by decide, by decide⟩)).mp h
  omega
/-! the runner from behind -/
def Wq (O : ROld) (F : RFacts) (C : Nat → Nat → List Value → RHeap → Option RRes) (I : RInf) (rows : List RRow) (la : RLoc) (st : List Value) (h : RHeap) (Q : RRes → Prop) : Prop :=
  ∃ r N, (∀ s n, N ≤ s → N ≤ n → rx_run O F (C s) I n rows la st h = some r) ∧ Q r
def Cq (C : Nat → Nat → List Value → RHeap → Option RRes) (mi : Nat) (as : List Value) (h : RHeap) (Q : RRes → Prop) : Prop :=
  ∃ r N, (∀ s, N ≤ s → C s mi as h = some r) ∧ Q r
def Cd (O : ROld) (F : RFacts) (P : List RInf) (d : Nat) : Nat → Nat → List Value → RHeap → Option RRes := fun s => rx_call O F P s d
def nxt (rest : List RRow) (pc : Nat) : Bool := match rest with
  | r :: _ => Nat.beq r.1 pc
  | [] => false
theorem Cq.imp {C : Nat → Nat → List Value → RHeap → Option RRes} {mi : Nat} {as : List Value} {h : RHeap} {Q Q2 : RRes → Prop} (H : Cq C mi as h Q) (hq : ∀ r, Q r → Q2 r) : Cq C mi as h Q2 := by
  obtain ⟨r, N, h1, h2⟩ := H
  exact ⟨r, N, h1, hq r h2⟩
section WqS
variable {O : ROld} {F : RFacts} {C : Nat → Nat → List Value → RHeap → Option RRes} {I : RInf} {rest rest2 : List RRow} {la la2 : RLoc} {st st2 : List Value} {h h2 : RHeap} {Q : RRes → Prop} {pc len : Nat} {aux : List Nat} {i : Instr}
theorem nx_eq {k : List RRow → RLoc → List Value → RHeap → Option RRes} {pc2 : Nat} (hn : nxt rest pc2 = true) : rx_nx k rest pc2 la st h = k rest la st h := by
  cases rest with
  | nil => cases hn
  | cons r z =>
    have hn : Nat.beq r.1 pc2 = true := hn
    unfold rx_nx
    simp only [hn]
theorem wq_go (H1 : ∀ (c : Nat → List Value → RHeap → Option RRes) (k : List RRow → RLoc → List Value → RHeap → Option RRes), rx_one O F c I k pc i len aux rest la st h = k rest2 la2 st2 h2) (H2 : Wq O F C I rest2 la2 st2 h2 Q) : Wq O F C I ((pc, i, len, aux) :: rest) la st h Q := by
  obtain ⟨r, N, h1, h2⟩ := H2
  refine ⟨r, N + 1, fun s n hs hn => ?_, h2⟩
  obtain ⟨n, rfl⟩ : ∃ m, n = m + 1 := ⟨n - 1, by omega⟩
  show rx_one O F (C s) I (rx_run O F (C s) I n) pc i len aux rest la st h = some r
  rw [H1]
  exact h1 s n (by omega) (by omega)
theorem wq_end {r : RRes} (H1 : ∀ (c : Nat → List Value → RHeap → Option RRes) (k : List RRow → RLoc → List Value → RHeap → Option RRes), rx_one O F c I k pc i len aux rest la st h = some r) (H2 : Q r) : Wq O F C I ((pc, i, len, aux) :: rest) la st h Q := by
  refine ⟨r, 1, fun s n hs hn => ?_, H2⟩
  obtain ⟨n, rfl⟩ : ∃ m, n = m + 1 := ⟨n - 1, by omega⟩
  exact H1 (C s) (rx_run O F (C s) I n)

theorem wq_iload {j : Nat} {x : Int} (hl : rx_look la j = some (wvi x)) (hn : nxt rest (pc + len) = true) (k : Wq O F C I rest la (wvi x :: st) h Q) : Wq O F C I ((pc, .iload j, len, aux) :: rest) la st h Q := wq_go (fun c k => by
  show rx_ld rx_isI la j st (fun st => rx_nx k rest (pc + len) la st h) = _
  unfold rx_ld
  rw [hl]
  exact nx_eq hn) k
theorem wq_iload_n {j : Fin 4} {x : Int} (hl : rx_look la j = some (wvi x)) (hn : nxt rest (pc + len) = true) (k : Wq O F C I rest la (wvi x :: st) h Q) : Wq O F C I ((pc, .iload_n j, len, aux) :: rest) la st h Q := wq_go (fun c k => by
  show rx_ld rx_isI la j st (fun st => rx_nx k rest (pc + len) la st h) = _
  unfold rx_ld
  rw [hl]
  exact nx_eq hn) k
theorem wq_lload {j : Nat} {x : Int} (hl : rx_look la j = some (wvl x)) (hn : nxt rest (pc + len) = true) (k : Wq O F C I rest la (wvl x :: st) h Q) : Wq O F C I ((pc, .lload j, len, aux) :: rest) la st h Q := wq_go (fun c k => by
  show rx_ld rx_isL la j st (fun st => rx_nx k rest (pc + len) la st h) = _
  unfold rx_ld
  rw [hl]
  exact nx_eq hn) k
theorem wq_lload_n {j : Fin 4} {x : Int} (hl : rx_look la j = some (wvl x)) (hn : nxt rest (pc + len) = true) (k : Wq O F C I rest la (wvl x :: st) h Q) : Wq O F C I ((pc, .lload_n j, len, aux) :: rest) la st h Q := wq_go (fun c k => by
  show rx_ld rx_isL la j st (fun st => rx_nx k rest (pc + len) la st h) = _
  unfold rx_ld
  rw [hl]
  exact nx_eq hn) k
theorem wq_aload {j : Nat} {x : Nat} (hl : rx_look la j = some (.ref x)) (hn : nxt rest (pc + len) = true) (k : Wq O F C I rest la (.ref x :: st) h Q) : Wq O F C I ((pc, .aload j, len, aux) :: rest) la st h Q := wq_go (fun c k => by
  show rx_ld rx_isA la j st (fun st => rx_nx k rest (pc + len) la st h) = _
  unfold rx_ld
  rw [hl]
  exact nx_eq hn) k
theorem wq_aload_n {j : Fin 4} {x : Nat} (hl : rx_look la j = some (.ref x)) (hn : nxt rest (pc + len) = true) (k : Wq O F C I rest la (.ref x :: st) h Q) : Wq O F C I ((pc, .aload_n j, len, aux) :: rest) la st h Q := wq_go (fun c k => by
  show rx_ld rx_isA la j st (fun st => rx_nx k rest (pc + len) la st h) = _
  unfold rx_ld
  rw [hl]
  exact nx_eq hn) k
theorem wq_istore {j : Nat} {x : Int} (hj : Nat.blt j I.1 = true) (hl : rx_lst la j (wvi x) = la2) (hn : nxt rest (pc + len) = true) (k : Wq O F C I rest la2 st h Q) : Wq O F C I ((pc, .istore j, len, aux) :: rest) la (wvi x :: st) h Q := wq_go (fun c k => by
  show rx_str rx_isI I.1 la j (wvi x :: st) (fun la st => rx_nx k rest (pc + len) la st h) = _
  unfold rx_str
  simp only [rx_isI, wvi, wvl, hj]
  rw [nx_eq hn]
  exact congrArg (fun z => k rest z st h) hl) k
theorem wq_istore_n {j : Fin 4} {x : Int} (hj : Nat.blt j I.1 = true) (hl : rx_lst la j (wvi x) = la2) (hn : nxt rest (pc + len) = true) (k : Wq O F C I rest la2 st h Q) : Wq O F C I ((pc, .istore_n j, len, aux) :: rest) la (wvi x :: st) h Q := wq_go (fun c k => by
  show rx_str rx_isI I.1 la j (wvi x :: st) (fun la st => rx_nx k rest (pc + len) la st h) = _
  unfold rx_str
  simp only [rx_isI, wvi, wvl, hj]
  rw [nx_eq hn]
  exact congrArg (fun z => k rest z st h) hl) k
theorem wq_lstore {j : Nat} {x : Int} (hj : Nat.blt (j + 1) I.1 = true) (hl : rx_lst2 la j (wvl x) = la2) (hn : nxt rest (pc + len) = true) (k : Wq O F C I rest la2 st h Q) : Wq O F C I ((pc, .lstore j, len, aux) :: rest) la (wvl x :: st) h Q := wq_go (fun c k => by
  show rx_str2 rx_isL I.1 la j (wvl x :: st) (fun la st => rx_nx k rest (pc + len) la st h) = _
  unfold rx_str2
  simp only [rx_isL, wvi, wvl, hj]
  rw [nx_eq hn]
  exact congrArg (fun z => k rest z st h) hl) k
theorem wq_lstore_n {j : Fin 4} {x : Int} (hj : Nat.blt (j + 1) I.1 = true) (hl : rx_lst2 la j (wvl x) = la2) (hn : nxt rest (pc + len) = true) (k : Wq O F C I rest la2 st h Q) : Wq O F C I ((pc, .lstore_n j, len, aux) :: rest) la (wvl x :: st) h Q := wq_go (fun c k => by
  show rx_str2 rx_isL I.1 la j (wvl x :: st) (fun la st => rx_nx k rest (pc + len) la st h) = _
  unfold rx_str2
  simp only [rx_isL, wvi, wvl, hj]
  rw [nx_eq hn]
  exact congrArg (fun z => k rest z st h) hl) k
theorem wq_astore {j : Nat} {x : Int} (hj : Nat.blt j I.1 = true) (hl : rx_lst la j (Value.ref x.toNat) = la2) (hn : nxt rest (pc + len) = true) (k : Wq O F C I rest la2 st h Q) : Wq O F C I ((pc, .astore j, len, aux) :: rest) la (Value.ref x.toNat :: st) h Q := wq_go (fun c k => by
  show rx_str rx_isA I.1 la j (Value.ref x.toNat :: st) (fun la st => rx_nx k rest (pc + len) la st h) = _
  unfold rx_str
  simp only [rx_isA, wvi, wvl, hj]
  rw [nx_eq hn]
  exact congrArg (fun z => k rest z st h) hl) k
theorem wq_astore_n {j : Fin 4} {x : Int} (hj : Nat.blt j I.1 = true) (hl : rx_lst la j (Value.ref x.toNat) = la2) (hn : nxt rest (pc + len) = true) (k : Wq O F C I rest la2 st h Q) : Wq O F C I ((pc, .astore_n j, len, aux) :: rest) la (Value.ref x.toNat :: st) h Q := wq_go (fun c k => by
  show rx_str rx_isA I.1 la j (Value.ref x.toNat :: st) (fun la st => rx_nx k rest (pc + len) la st h) = _
  unfold rx_str
  simp only [rx_isA, wvi, wvl, hj]
  rw [nx_eq hn]
  exact congrArg (fun z => k rest z st h) hl) k
theorem wq_iinc {j : Nat} {z : Int} {x : Int} (hx : rx_look la j = some (wvi x)) (hj : Nat.blt j I.1 = true) (hl : rx_lst la j (wvi (i32 (x + z))) = la2) (hn : nxt rest (pc + len) = true) (k : Wq O F C I rest la2 st h Q) : Wq O F C I ((pc, .iinc j z, len, aux) :: rest) la st h Q := wq_go (fun c k => by
  show rx_inc I.1 la j z (fun la => rx_nx k rest (pc + len) la st h) = _
  unfold rx_inc
  rw [hx]
  simp only [wvi, hj]
  rw [nx_eq hn, ofI_add]
  exact congrArg (fun z => k rest z st h) hl) k
theorem wq_iconst {z : Int} (hn : nxt rest (pc + len) = true) (k : Wq O F C I rest la (wvi z :: st) h Q) : Wq O F C I ((pc, .iconst z, len, aux) :: rest) la st h Q := wq_go (fun c k => nx_eq hn) k
theorem wq_bipush {z : Int} (hz : (Int8.ofInt z).toInt32 = Int32.ofInt z) (hn : nxt rest (pc + len) = true) (k : Wq O F C I rest la (wvi z :: st) h Q) : Wq O F C I ((pc, .bipush z, len, aux) :: rest) la st h Q := wq_go (fun c k => by
  show rx_nx k rest (pc + len) la (.int (Int8.ofInt z).toInt32 :: st) h = _
  rw [hz]
  exact nx_eq hn) k
theorem wq_sipush {z : Int} (hz : (Int16.ofInt z).toInt32 = Int32.ofInt z) (hn : nxt rest (pc + len) = true) (k : Wq O F C I rest la (wvi z :: st) h Q) : Wq O F C I ((pc, .sipush z, len, aux) :: rest) la st h Q := wq_go (fun c k => by
  show rx_nx k rest (pc + len) la (.int (Int16.ofInt z).toInt32 :: st) h = _
  rw [hz]
  exact nx_eq hn) k
theorem wq_lconst {z : Fin 2} {x : Int} (hz : Int64.ofNat z = Int64.ofInt x) (hn : nxt rest (pc + len) = true) (k : Wq O F C I rest la (wvl x :: st) h Q) : Wq O F C I ((pc, .lconst z, len, aux) :: rest) la st h Q := wq_go (fun c k => by
  show rx_nx k rest (pc + len) la (.long (Int64.ofNat z) :: st) h = _
  rw [hz]
  exact nx_eq hn) k
theorem wq_ldci {z v w : Nat} {x : Int} (hz : Int32.ofNat v = Int32.ofInt x) (hn : nxt rest (pc + len) = true) (k : Wq O F C I rest la (wvi x :: st) h Q) : Wq O F C I ((pc, .ldc z, len, [0, v, w]) :: rest) la st h Q := wq_go (fun c k => by
  show rx_nx k rest (pc + len) la (.int (Int32.ofNat v) :: st) h = _
  rw [hz]
  exact nx_eq hn) k
theorem wq_ldc2 {z v w : Nat} {x : Int} (hz : Int64.ofNat v = Int64.ofInt x) (hn : nxt rest (pc + len) = true) (k : Wq O F C I rest la (wvl x :: st) h Q) : Wq O F C I ((pc, .ldc2_w z, len, [v, w]) :: rest) la st h Q := wq_go (fun c k => by
  show rx_nx k rest (pc + len) la (.long (Int64.ofNat v) :: st) h = _
  rw [hz]
  exact nx_eq hn) k
theorem wq_dup {v : Value} (hv : Nat.beq v.category 1 = true) (hn : nxt rest (pc + len) = true) (k : Wq O F C I rest la (v :: v :: st) h Q) : Wq O F C I ((pc, .dup, len, aux) :: rest) la (v :: st) h Q := wq_go (fun c k => by
  show rx_dup (v :: st) (fun st => rx_nx k rest (pc + len) la st h) = _
  unfold rx_dup
  simp only [hv]
  exact nx_eq hn) k
theorem wq_dup_x1 {v w : Value} (hv : Nat.beq v.category 1 = true) (hw : Nat.beq w.category 1 = true) (hn : nxt rest (pc + len) = true) (k : Wq O F C I rest la (v :: w :: v :: st) h Q) : Wq O F C I ((pc, .dup_x1, len, aux) :: rest) la (v :: w :: st) h Q := wq_go (fun c k => by
  show rx_dupx1 (v :: w :: st) (fun st => rx_nx k rest (pc + len) la st h) = _
  unfold rx_dupx1
  simp only [hv, hw]
  exact nx_eq hn) k
theorem wq_dup2 {v w : Value} (hv : Nat.beq v.category 1 = true) (hw : Nat.beq w.category 1 = true) (hn : nxt rest (pc + len) = true) (k : Wq O F C I rest la (v :: w :: v :: w :: st) h Q) : Wq O F C I ((pc, .dup2, len, aux) :: rest) la (v :: w :: st) h Q := wq_go (fun c k => by
  show rx_dup2 (v :: w :: st) (fun st => rx_nx k rest (pc + len) la st h) = _
  unfold rx_dup2
  simp only [hv, hw]
  exact nx_eq hn) k
theorem wq_pop {v : Value} (hv : Nat.beq v.category 1 = true) (hn : nxt rest (pc + len) = true) (k : Wq O F C I rest la st h Q) : Wq O F C I ((pc, .pop, len, aux) :: rest) la (v :: st) h Q := wq_go (fun c k => by
  show rx_pop (v :: st) (fun st => rx_nx k rest (pc + len) la st h) = _
  unfold rx_pop
  simp only [hv]
  exact nx_eq hn) k
theorem wq_pop2 {v : Value} (hv : Nat.beq v.category 2 = true) (hn : nxt rest (pc + len) = true) (k : Wq O F C I rest la st h Q) : Wq O F C I ((pc, .pop2, len, aux) :: rest) la (v :: st) h Q := wq_go (fun c k => by
  show rx_pop2 (v :: st) (fun st => rx_nx k rest (pc + len) la st h) = _
  unfold rx_pop2
  simp only [hv]
  exact nx_eq hn) k
theorem wq_iadd {a b : Int} (hn : nxt rest (pc + len) = true) (k : Wq O F C I rest la (wvi (i32 (a + b)) :: st) h Q) : Wq O F C I ((pc, .iadd, len, aux) :: rest) la (wvi b :: wvi a :: st) h Q := wq_go (fun c k => by
  show rx_nx k rest (pc + len) la (.int _ :: st) h = _
  rw [nx_eq hn]
  exact congrArg (fun z => k rest la (Value.int z :: st) h) (ofI_add a b)) k
theorem wq_isub {a b : Int} (hn : nxt rest (pc + len) = true) (k : Wq O F C I rest la (wvi (i32 (a - b)) :: st) h Q) : Wq O F C I ((pc, .isub, len, aux) :: rest) la (wvi b :: wvi a :: st) h Q := wq_go (fun c k => by
  show rx_nx k rest (pc + len) la (.int _ :: st) h = _
  rw [nx_eq hn]
  exact congrArg (fun z => k rest la (Value.int z :: st) h) (ofI_sub a b)) k
theorem wq_imul {a b : Int} (hn : nxt rest (pc + len) = true) (k : Wq O F C I rest la (wvi (i32 (a * b)) :: st) h Q) : Wq O F C I ((pc, .imul, len, aux) :: rest) la (wvi b :: wvi a :: st) h Q := wq_go (fun c k => by
  show rx_nx k rest (pc + len) la (.int _ :: st) h = _
  rw [nx_eq hn]
  exact congrArg (fun z => k rest la (Value.int z :: st) h) (ofI_mul a b)) k
theorem wq_ior {a b : Int} (hn : nxt rest (pc + len) = true) (k : Wq O F C I rest la (wvi (i_or a b) :: st) h Q) : Wq O F C I ((pc, .ior, len, aux) :: rest) la (wvi b :: wvi a :: st) h Q := wq_go (fun c k => by
  show rx_nx k rest (pc + len) la (.int _ :: st) h = _
  rw [nx_eq hn]
  exact congrArg (fun z => k rest la (Value.int z :: st) h) ((Int32.ofInt_toInt _).symm)) k
theorem wq_ishl {a b : Int} (hn : nxt rest (pc + len) = true) (k : Wq O F C I rest la (wvi (i_shl a b) :: st) h Q) : Wq O F C I ((pc, .ishl, len, aux) :: rest) la (wvi b :: wvi a :: st) h Q := wq_go (fun c k => by
  show rx_nx k rest (pc + len) la (.int _ :: st) h = _
  rw [nx_eq hn]
  exact congrArg (fun z => k rest la (Value.int z :: st) h) ((Int32.ofInt_toInt _).symm)) k
theorem wq_ishr {a b : Int} (hn : nxt rest (pc + len) = true) (k : Wq O F C I rest la (wvi (i_shr a b) :: st) h Q) : Wq O F C I ((pc, .ishr, len, aux) :: rest) la (wvi b :: wvi a :: st) h Q := wq_go (fun c k => by
  show rx_nx k rest (pc + len) la (.int _ :: st) h = _
  rw [nx_eq hn]
  exact congrArg (fun z => k rest la (Value.int z :: st) h) ((Int32.ofInt_toInt _).symm)) k
theorem wq_iand {a b : Int} (hn : nxt rest (pc + len) = true) (k : Wq O F C I rest la (wvi (i_and a b) :: st) h Q) : Wq O F C I ((pc, .iand, len, aux) :: rest) la (wvi b :: wvi a :: st) h Q := wq_go (fun c k => by
  show rx_nx k rest (pc + len) la (.int _ :: st) h = _
  rw [nx_eq hn]
  exact congrArg (fun z => k rest la (Value.int z :: st) h) ((Int32.ofInt_toInt _).symm)) k
theorem wq_idiv {a b : Int} (hb : InI b) (h0 : b ≠ 0) (hn : nxt rest (pc + len) = true) (k : Wq O F C I rest la (wvi (i_div a b) :: st) h Q) : Wq O F C I ((pc, .idiv, len, aux) :: rest) la (wvi b :: wvi a :: st) h Q := wq_go (fun c k => by
  show rx_idv (fun x y => x / y) (wvi b :: wvi a :: st) (fun st => rx_nx k rest (pc + len) la st h) = _
  have hz : decide (Int32.ofInt b = 0) = false := decide_eq_false (fun z => h0 ((ofI_eq hb (show InI 0 from ⟨by decide, by decide⟩)).mp z))
  simp only [rx_idv, wvi, hz]
  rw [nx_eq hn]
  exact congrArg (fun z => k rest la (Value.int z :: st) h) ((Int32.ofInt_toInt _).symm)) k
theorem wq_irem {a b : Int} (hb : InI b) (h0 : b ≠ 0) (hn : nxt rest (pc + len) = true) (k : Wq O F C I rest la (wvi (i_rem a b) :: st) h Q) : Wq O F C I ((pc, .irem, len, aux) :: rest) la (wvi b :: wvi a :: st) h Q := wq_go (fun c k => by
  show rx_idv (fun x y => x - x / y * y) (wvi b :: wvi a :: st) (fun st => rx_nx k rest (pc + len) la st h) = _
  have hz : decide (Int32.ofInt b = 0) = false := decide_eq_false (fun z => h0 ((ofI_eq hb (show InI 0 from ⟨by decide, by decide⟩)).mp z))
  simp only [rx_idv, wvi, hz]
  rw [nx_eq hn]
  exact congrArg (fun z => k rest la (Value.int z :: st) h) ((Int32.ofInt_toInt _).symm)) k
theorem wq_ldiv {a b : Int} (hb : InL b) (h0 : b ≠ 0) (hn : nxt rest (pc + len) = true) (k : Wq O F C I rest la (wvl (l_div a b) :: st) h Q) : Wq O F C I ((pc, .ldiv, len, aux) :: rest) la (wvl b :: wvl a :: st) h Q := wq_go (fun c k => by
  show rx_ldv (fun x y => x / y) (wvl b :: wvl a :: st) (fun st => rx_nx k rest (pc + len) la st h) = _
  have hz : decide (Int64.ofInt b = 0) = false := decide_eq_false (fun z => h0 ((ofL_eq hb (show InL 0 from ⟨by decide, by decide⟩)).mp z))
  simp only [rx_ldv, wvl, hz]
  rw [nx_eq hn]
  exact congrArg (fun z => k rest la (Value.long z :: st) h) ((Int64.ofInt_toInt _).symm)) k
theorem wq_lrem {a b : Int} (hb : InL b) (h0 : b ≠ 0) (hn : nxt rest (pc + len) = true) (k : Wq O F C I rest la (wvl (l_rem a b) :: st) h Q) : Wq O F C I ((pc, .lrem, len, aux) :: rest) la (wvl b :: wvl a :: st) h Q := wq_go (fun c k => by
  show rx_ldv (fun x y => x - x / y * y) (wvl b :: wvl a :: st) (fun st => rx_nx k rest (pc + len) la st h) = _
  have hz : decide (Int64.ofInt b = 0) = false := decide_eq_false (fun z => h0 ((ofL_eq hb (show InL 0 from ⟨by decide, by decide⟩)).mp z))
  simp only [rx_ldv, wvl, hz]
  rw [nx_eq hn]
  exact congrArg (fun z => k rest la (Value.long z :: st) h) ((Int64.ofInt_toInt _).symm)) k
theorem wq_ineg {a : Int} (hn : nxt rest (pc + len) = true) (k : Wq O F C I rest la (wvi (i32 (-a)) :: st) h Q) : Wq O F C I ((pc, .ineg, len, aux) :: rest) la (wvi a :: st) h Q := wq_go (fun c k => by
  show rx_nx k rest (pc + len) la (.int _ :: st) h = _
  rw [nx_eq hn]
  exact congrArg (fun z => k rest la (Value.int z :: st) h) (ofI_neg a)) k
theorem wq_i2b {a : Int} (hn : nxt rest (pc + len) = true) (k : Wq O F C I rest la (wvi (i_b a) :: st) h Q) : Wq O F C I ((pc, .i2b, len, aux) :: rest) la (wvi a :: st) h Q := wq_go (fun c k => by
  show rx_nx k rest (pc + len) la (.int _ :: st) h = _
  rw [nx_eq hn]
  exact congrArg (fun z => k rest la (Value.int z :: st) h) ((Int32.ofInt_toInt _).symm)) k
theorem wq_i2c {a : Int} (hn : nxt rest (pc + len) = true) (k : Wq O F C I rest la (wvi (i_c a) :: st) h Q) : Wq O F C I ((pc, .i2c, len, aux) :: rest) la (wvi a :: st) h Q := wq_go (fun c k => by
  show rx_nx k rest (pc + len) la (.int _ :: st) h = _
  rw [nx_eq hn]
  exact congrArg (fun z => k rest la (Value.int z :: st) h) ((Int32.ofInt_toInt _).symm)) k
theorem wq_i2l {a : Int} (ha : InI a) (hn : nxt rest (pc + len) = true) (k : Wq O F C I rest la (wvl a :: st) h Q) : Wq O F C I ((pc, .i2l, len, aux) :: rest) la (wvi a :: st) h Q := wq_go (fun c k => by
  show rx_nx k rest (pc + len) la (.long _ :: st) h = _
  rw [nx_eq hn]
  exact congrArg (fun z => k rest la (Value.long z :: st) h) (ofI_toL ha)) k
theorem wq_l2i {a : Int} (hn : nxt rest (pc + len) = true) (k : Wq O F C I rest la (wvi (i32 a) :: st) h Q) : Wq O F C I ((pc, .l2i, len, aux) :: rest) la (wvl a :: st) h Q := wq_go (fun c k => by
  show rx_nx k rest (pc + len) la (.int _ :: st) h = _
  rw [nx_eq hn]
  exact congrArg (fun z => k rest la (Value.int z :: st) h) (ofL_toI a)) k
theorem wq_lneg {a : Int} (hn : nxt rest (pc + len) = true) (k : Wq O F C I rest la (wvl (i64 (-a)) :: st) h Q) : Wq O F C I ((pc, .lneg, len, aux) :: rest) la (wvl a :: st) h Q := wq_go (fun c k => by
  show rx_nx k rest (pc + len) la (.long _ :: st) h = _
  rw [nx_eq hn]
  exact congrArg (fun z => k rest la (Value.long z :: st) h) (ofL_neg a)) k
theorem wq_ladd {a b : Int} (hn : nxt rest (pc + len) = true) (k : Wq O F C I rest la (wvl (i64 (a + b)) :: st) h Q) : Wq O F C I ((pc, .ladd, len, aux) :: rest) la (wvl b :: wvl a :: st) h Q := wq_go (fun c k => by
  show rx_nx k rest (pc + len) la (.long _ :: st) h = _
  rw [nx_eq hn]
  exact congrArg (fun z => k rest la (Value.long z :: st) h) (ofL_add a b)) k
theorem wq_lsub {a b : Int} (hn : nxt rest (pc + len) = true) (k : Wq O F C I rest la (wvl (i64 (a - b)) :: st) h Q) : Wq O F C I ((pc, .lsub, len, aux) :: rest) la (wvl b :: wvl a :: st) h Q := wq_go (fun c k => by
  show rx_nx k rest (pc + len) la (.long _ :: st) h = _
  rw [nx_eq hn]
  exact congrArg (fun z => k rest la (Value.long z :: st) h) (ofL_sub a b)) k
theorem wq_lmul {a b : Int} (hn : nxt rest (pc + len) = true) (k : Wq O F C I rest la (wvl (i64 (a * b)) :: st) h Q) : Wq O F C I ((pc, .lmul, len, aux) :: rest) la (wvl b :: wvl a :: st) h Q := wq_go (fun c k => by
  show rx_nx k rest (pc + len) la (.long _ :: st) h = _
  rw [nx_eq hn]
  exact congrArg (fun z => k rest la (Value.long z :: st) h) (ofL_mul a b)) k
theorem wq_land {a b : Int} (hn : nxt rest (pc + len) = true) (k : Wq O F C I rest la (wvl (l_and a b) :: st) h Q) : Wq O F C I ((pc, .land, len, aux) :: rest) la (wvl b :: wvl a :: st) h Q := wq_go (fun c k => by
  show rx_nx k rest (pc + len) la (.long _ :: st) h = _
  rw [nx_eq hn]
  exact congrArg (fun z => k rest la (Value.long z :: st) h) ((Int64.ofInt_toInt _).symm)) k
theorem wq_lor {a b : Int} (hn : nxt rest (pc + len) = true) (k : Wq O F C I rest la (wvl (l_or a b) :: st) h Q) : Wq O F C I ((pc, .lor, len, aux) :: rest) la (wvl b :: wvl a :: st) h Q := wq_go (fun c k => by
  show rx_nx k rest (pc + len) la (.long _ :: st) h = _
  rw [nx_eq hn]
  exact congrArg (fun z => k rest la (Value.long z :: st) h) ((Int64.ofInt_toInt _).symm)) k
theorem wq_lxor {a b : Int} (hn : nxt rest (pc + len) = true) (k : Wq O F C I rest la (wvl (l_xor a b) :: st) h Q) : Wq O F C I ((pc, .lxor, len, aux) :: rest) la (wvl b :: wvl a :: st) h Q := wq_go (fun c k => by
  show rx_nx k rest (pc + len) la (.long _ :: st) h = _
  rw [nx_eq hn]
  exact congrArg (fun z => k rest la (Value.long z :: st) h) ((Int64.ofInt_toInt _).symm)) k
theorem wq_lshl {a b : Int} (hn : nxt rest (pc + len) = true) (k : Wq O F C I rest la (wvl (l_shl a b) :: st) h Q) : Wq O F C I ((pc, .lshl, len, aux) :: rest) la (wvi b :: wvl a :: st) h Q := wq_go (fun c k => by
  show rx_nx k rest (pc + len) la (.long _ :: st) h = _
  rw [nx_eq hn]
  exact congrArg (fun z => k rest la (Value.long z :: st) h) ((Int64.ofInt_toInt _).symm)) k
theorem wq_lshr {a b : Int} (hn : nxt rest (pc + len) = true) (k : Wq O F C I rest la (wvl (l_shr a b) :: st) h Q) : Wq O F C I ((pc, .lshr, len, aux) :: rest) la (wvi b :: wvl a :: st) h Q := wq_go (fun c k => by
  show rx_nx k rest (pc + len) la (.long _ :: st) h = _
  rw [nx_eq hn]
  exact congrArg (fun z => k rest la (Value.long z :: st) h) ((Int64.ofInt_toInt _).symm)) k
theorem wq_lushr {a b : Int} (hn : nxt rest (pc + len) = true) (k : Wq O F C I rest la (wvl (l_ushr a b) :: st) h Q) : Wq O F C I ((pc, .lushr, len, aux) :: rest) la (wvi b :: wvl a :: st) h Q := wq_go (fun c k => by
  show rx_nx k rest (pc + len) la (.long _ :: st) h = _
  rw [nx_eq hn]
  exact congrArg (fun z => k rest la (Value.long z :: st) h) ((Int64.ofInt_toInt _).symm)) k
theorem rx_at_ne {rows : List RRow} {t : Nat} {r : RRow} {z : List RRow} (hz : rx_at rows t = r :: z) (k : List RRow → Option RRes) : rx_to rows t k = k (r :: z) := by
  unfold rx_to
  rw [hz]
theorem wq_goto {off : Int} {r : RRow} {z : List RRow} (ht : rx_tok pc off = true) (hz : rx_at I.2.2.1 (rx_tgt pc off) = r :: z) (k : Wq O F C I (r :: z) la st h Q) : Wq O F C I ((pc, .goto off, len, aux) :: rest) la st h Q := wq_go (fun c k => by
  show rx_go I.2.2.1 pc off (fun z => k z la st h) = _
  unfold rx_go
  simp only [ht]
  exact rx_at_ne hz _) k
/-- a jump by a test -/
theorem wq_br {b : Bool} {off : Int} {r : RRow} {z : List RRow} (H1 : ∀ (c : Nat → List Value → RHeap → Option RRes) (k : List RRow → RLoc → List Value → RHeap → Option RRes), rx_one O F c I k pc i len aux rest la st h = rx_br (some b) (fun _ => rx_to I.2.2.1 (rx_tgt pc off) (fun z => k z la st2 h)) (fun _ => rx_nx k rest (pc + len) la st2 h)) (hz : rx_at I.2.2.1 (rx_tgt pc off) = r :: z) (hn : nxt rest (pc + len) = true) (k1 : b = true → Wq O F C I (r :: z) la st2 h Q) (k2 : b = false → Wq O F C I rest la st2 h Q) : Wq O F C I ((pc, i, len, aux) :: rest) la st h Q := by
  cases b with
  | true =>
    refine wq_go (rest2 := r :: z) (la2 := la) (st2 := st2) (h2 := h) (fun c k => ?_) (k1 rfl)
    rw [H1]
    exact rx_at_ne hz (fun z => k z la st2 h)
  | false =>
    refine wq_go (rest2 := rest) (la2 := la) (st2 := st2) (h2 := h) (fun c k => ?_) (k2 rfl)
    rw [H1]
    exact nx_eq hn

theorem cb_eq {a b : Int} (ha : InI a) (hb : InI b) : (rx_cb .eq (Int32.ofInt a) (Int32.ofInt b) = true → a = b) ∧ (rx_cb .eq (Int32.ofInt a) (Int32.ofInt b) = false → a ≠ b) := by
  refine ⟨fun e => ?_, fun e => ?_⟩
  · exact (ofI_eq ha hb).mp (of_decide_eq_true e)
  · exact fun z => of_decide_eq_false e ((ofI_eq ha hb).mpr z)
theorem wq_icmp_eq {a b : Int} {off : Int} {r : RRow} {z : List RRow} (ha : InI a) (hb : InI b) (ht : rx_tok pc off = true) (hz : rx_at I.2.2.1 (rx_tgt pc off) = r :: z) (hn : nxt rest (pc + len) = true) (k1 : a = b → Wq O F C I (r :: z) la st h Q) (k2 : a ≠ b → Wq O F C I rest la st h Q) : Wq O F C I ((pc, .if_icmp .eq off, len, aux) :: rest) la (wvi b :: wvi a :: st) h Q := wq_br (b := rx_cb .eq (Int32.ofInt a) (Int32.ofInt b)) (off := off) (st2 := st) (fun c k => by
  show (match true, true, rx_tok pc off with | true, true, true => rx_br (some (rx_cb .eq (Int32.ofInt a) (Int32.ofInt b))) (fun _ => rx_to I.2.2.1 (rx_tgt pc off) (fun z => k z la st h)) (fun _ => rx_nx k rest (pc + len) la st h) | _, _, _ => none) = _
  rw [ht]) hz hn (fun e => k1 ((cb_eq ha hb).1 e)) (fun e => k2 ((cb_eq ha hb).2 e))
theorem wq_if_eq {a : Int} {off : Int} {r : RRow} {z : List RRow} (ha : InI a) (ht : rx_tok pc off = true) (hz : rx_at I.2.2.1 (rx_tgt pc off) = r :: z) (hn : nxt rest (pc + len) = true) (k1 : a = 0 → Wq O F C I (r :: z) la st h Q) (k2 : a ≠ 0 → Wq O F C I rest la st h Q) : Wq O F C I ((pc, .ifCond .eq off, len, aux) :: rest) la (wvi a :: st) h Q := wq_br (b := rx_cb .eq (Int32.ofInt a) (Int32.ofInt 0)) (off := off) (st2 := st) (fun c k => by
  show (match true, rx_tok pc off with | true, true => rx_br (some (rx_cb .eq (Int32.ofInt a) (Int32.ofInt 0))) (fun _ => rx_to I.2.2.1 (rx_tgt pc off) (fun z => k z la st h)) (fun _ => rx_nx k rest (pc + len) la st h) | _, _ => none) = _
  rw [ht]) hz hn (fun e => k1 ((cb_eq ha ⟨by decide, by decide⟩).1 e)) (fun e => k2 ((cb_eq ha ⟨by decide, by decide⟩).2 e))
theorem cb_ne {a b : Int} (ha : InI a) (hb : InI b) : (rx_cb .ne (Int32.ofInt a) (Int32.ofInt b) = true → a ≠ b) ∧ (rx_cb .ne (Int32.ofInt a) (Int32.ofInt b) = false → a = b) := by
  refine ⟨fun e => ?_, fun e => ?_⟩
  · exact (fun z => (by cases ((show (!decide (Int32.ofInt a = Int32.ofInt b)) = true from e).symm.trans (by rw [decide_eq_true ((ofI_eq ha hb).mpr z)]; rfl : (!decide (Int32.ofInt a = Int32.ofInt b)) = false)) : False))
  · exact Decidable.byContradiction (fun z => (by cases ((show (!decide (Int32.ofInt a = Int32.ofInt b)) = false from e).symm.trans (by rw [decide_eq_false (fun w => z ((ofI_eq ha hb).mp w))]; rfl : (!decide (Int32.ofInt a = Int32.ofInt b)) = true)) : False))
theorem wq_icmp_ne {a b : Int} {off : Int} {r : RRow} {z : List RRow} (ha : InI a) (hb : InI b) (ht : rx_tok pc off = true) (hz : rx_at I.2.2.1 (rx_tgt pc off) = r :: z) (hn : nxt rest (pc + len) = true) (k1 : a ≠ b → Wq O F C I (r :: z) la st h Q) (k2 : a = b → Wq O F C I rest la st h Q) : Wq O F C I ((pc, .if_icmp .ne off, len, aux) :: rest) la (wvi b :: wvi a :: st) h Q := wq_br (b := rx_cb .ne (Int32.ofInt a) (Int32.ofInt b)) (off := off) (st2 := st) (fun c k => by
  show (match true, true, rx_tok pc off with | true, true, true => rx_br (some (rx_cb .ne (Int32.ofInt a) (Int32.ofInt b))) (fun _ => rx_to I.2.2.1 (rx_tgt pc off) (fun z => k z la st h)) (fun _ => rx_nx k rest (pc + len) la st h) | _, _, _ => none) = _
  rw [ht]) hz hn (fun e => k1 ((cb_ne ha hb).1 e)) (fun e => k2 ((cb_ne ha hb).2 e))
theorem wq_if_ne {a : Int} {off : Int} {r : RRow} {z : List RRow} (ha : InI a) (ht : rx_tok pc off = true) (hz : rx_at I.2.2.1 (rx_tgt pc off) = r :: z) (hn : nxt rest (pc + len) = true) (k1 : a ≠ 0 → Wq O F C I (r :: z) la st h Q) (k2 : a = 0 → Wq O F C I rest la st h Q) : Wq O F C I ((pc, .ifCond .ne off, len, aux) :: rest) la (wvi a :: st) h Q := wq_br (b := rx_cb .ne (Int32.ofInt a) (Int32.ofInt 0)) (off := off) (st2 := st) (fun c k => by
  show (match true, rx_tok pc off with | true, true => rx_br (some (rx_cb .ne (Int32.ofInt a) (Int32.ofInt 0))) (fun _ => rx_to I.2.2.1 (rx_tgt pc off) (fun z => k z la st h)) (fun _ => rx_nx k rest (pc + len) la st h) | _, _ => none) = _
  rw [ht]) hz hn (fun e => k1 ((cb_ne ha ⟨by decide, by decide⟩).1 e)) (fun e => k2 ((cb_ne ha ⟨by decide, by decide⟩).2 e))
theorem cb_lt {a b : Int} (ha : InI a) (hb : InI b) : (rx_cb .lt (Int32.ofInt a) (Int32.ofInt b) = true → a < b) ∧ (rx_cb .lt (Int32.ofInt a) (Int32.ofInt b) = false → b ≤ a) := by
  refine ⟨fun e => ?_, fun e => ?_⟩
  · exact (ofI_lt ha hb).mp (of_decide_eq_true e)
  · exact Int.not_lt.mp (fun z => of_decide_eq_false e ((ofI_lt ha hb).mpr z))
theorem wq_icmp_lt {a b : Int} {off : Int} {r : RRow} {z : List RRow} (ha : InI a) (hb : InI b) (ht : rx_tok pc off = true) (hz : rx_at I.2.2.1 (rx_tgt pc off) = r :: z) (hn : nxt rest (pc + len) = true) (k1 : a < b → Wq O F C I (r :: z) la st h Q) (k2 : b ≤ a → Wq O F C I rest la st h Q) : Wq O F C I ((pc, .if_icmp .lt off, len, aux) :: rest) la (wvi b :: wvi a :: st) h Q := wq_br (b := rx_cb .lt (Int32.ofInt a) (Int32.ofInt b)) (off := off) (st2 := st) (fun c k => by
  show (match true, true, rx_tok pc off with | true, true, true => rx_br (some (rx_cb .lt (Int32.ofInt a) (Int32.ofInt b))) (fun _ => rx_to I.2.2.1 (rx_tgt pc off) (fun z => k z la st h)) (fun _ => rx_nx k rest (pc + len) la st h) | _, _, _ => none) = _
  rw [ht]) hz hn (fun e => k1 ((cb_lt ha hb).1 e)) (fun e => k2 ((cb_lt ha hb).2 e))
theorem wq_if_lt {a : Int} {off : Int} {r : RRow} {z : List RRow} (ha : InI a) (ht : rx_tok pc off = true) (hz : rx_at I.2.2.1 (rx_tgt pc off) = r :: z) (hn : nxt rest (pc + len) = true) (k1 : a < 0 → Wq O F C I (r :: z) la st h Q) (k2 : 0 ≤ a → Wq O F C I rest la st h Q) : Wq O F C I ((pc, .ifCond .lt off, len, aux) :: rest) la (wvi a :: st) h Q := wq_br (b := rx_cb .lt (Int32.ofInt a) (Int32.ofInt 0)) (off := off) (st2 := st) (fun c k => by
  show (match true, rx_tok pc off with | true, true => rx_br (some (rx_cb .lt (Int32.ofInt a) (Int32.ofInt 0))) (fun _ => rx_to I.2.2.1 (rx_tgt pc off) (fun z => k z la st h)) (fun _ => rx_nx k rest (pc + len) la st h) | _, _ => none) = _
  rw [ht]) hz hn (fun e => k1 ((cb_lt ha ⟨by decide, by decide⟩).1 e)) (fun e => k2 ((cb_lt ha ⟨by decide, by decide⟩).2 e))
theorem cb_ge {a b : Int} (ha : InI a) (hb : InI b) : (rx_cb .ge (Int32.ofInt a) (Int32.ofInt b) = true → b ≤ a) ∧ (rx_cb .ge (Int32.ofInt a) (Int32.ofInt b) = false → a < b) := by
  refine ⟨fun e => ?_, fun e => ?_⟩
  · exact (ofI_le hb ha).mp (of_decide_eq_true e)
  · exact Int.not_le.mp (fun z => of_decide_eq_false e ((ofI_le hb ha).mpr z))
theorem wq_icmp_ge {a b : Int} {off : Int} {r : RRow} {z : List RRow} (ha : InI a) (hb : InI b) (ht : rx_tok pc off = true) (hz : rx_at I.2.2.1 (rx_tgt pc off) = r :: z) (hn : nxt rest (pc + len) = true) (k1 : b ≤ a → Wq O F C I (r :: z) la st h Q) (k2 : a < b → Wq O F C I rest la st h Q) : Wq O F C I ((pc, .if_icmp .ge off, len, aux) :: rest) la (wvi b :: wvi a :: st) h Q := wq_br (b := rx_cb .ge (Int32.ofInt a) (Int32.ofInt b)) (off := off) (st2 := st) (fun c k => by
  show (match true, true, rx_tok pc off with | true, true, true => rx_br (some (rx_cb .ge (Int32.ofInt a) (Int32.ofInt b))) (fun _ => rx_to I.2.2.1 (rx_tgt pc off) (fun z => k z la st h)) (fun _ => rx_nx k rest (pc + len) la st h) | _, _, _ => none) = _
  rw [ht]) hz hn (fun e => k1 ((cb_ge ha hb).1 e)) (fun e => k2 ((cb_ge ha hb).2 e))
theorem wq_if_ge {a : Int} {off : Int} {r : RRow} {z : List RRow} (ha : InI a) (ht : rx_tok pc off = true) (hz : rx_at I.2.2.1 (rx_tgt pc off) = r :: z) (hn : nxt rest (pc + len) = true) (k1 : 0 ≤ a → Wq O F C I (r :: z) la st h Q) (k2 : a < 0 → Wq O F C I rest la st h Q) : Wq O F C I ((pc, .ifCond .ge off, len, aux) :: rest) la (wvi a :: st) h Q := wq_br (b := rx_cb .ge (Int32.ofInt a) (Int32.ofInt 0)) (off := off) (st2 := st) (fun c k => by
  show (match true, rx_tok pc off with | true, true => rx_br (some (rx_cb .ge (Int32.ofInt a) (Int32.ofInt 0))) (fun _ => rx_to I.2.2.1 (rx_tgt pc off) (fun z => k z la st h)) (fun _ => rx_nx k rest (pc + len) la st h) | _, _ => none) = _
  rw [ht]) hz hn (fun e => k1 ((cb_ge ha ⟨by decide, by decide⟩).1 e)) (fun e => k2 ((cb_ge ha ⟨by decide, by decide⟩).2 e))
theorem cb_gt {a b : Int} (ha : InI a) (hb : InI b) : (rx_cb .gt (Int32.ofInt a) (Int32.ofInt b) = true → b < a) ∧ (rx_cb .gt (Int32.ofInt a) (Int32.ofInt b) = false → a ≤ b) := by
  refine ⟨fun e => ?_, fun e => ?_⟩
  · exact (ofI_lt hb ha).mp (of_decide_eq_true e)
  · exact Int.not_lt.mp (fun z => of_decide_eq_false e ((ofI_lt hb ha).mpr z))
theorem wq_icmp_gt {a b : Int} {off : Int} {r : RRow} {z : List RRow} (ha : InI a) (hb : InI b) (ht : rx_tok pc off = true) (hz : rx_at I.2.2.1 (rx_tgt pc off) = r :: z) (hn : nxt rest (pc + len) = true) (k1 : b < a → Wq O F C I (r :: z) la st h Q) (k2 : a ≤ b → Wq O F C I rest la st h Q) : Wq O F C I ((pc, .if_icmp .gt off, len, aux) :: rest) la (wvi b :: wvi a :: st) h Q := wq_br (b := rx_cb .gt (Int32.ofInt a) (Int32.ofInt b)) (off := off) (st2 := st) (fun c k => by
  show (match true, true, rx_tok pc off with | true, true, true => rx_br (some (rx_cb .gt (Int32.ofInt a) (Int32.ofInt b))) (fun _ => rx_to I.2.2.1 (rx_tgt pc off) (fun z => k z la st h)) (fun _ => rx_nx k rest (pc + len) la st h) | _, _, _ => none) = _
  rw [ht]) hz hn (fun e => k1 ((cb_gt ha hb).1 e)) (fun e => k2 ((cb_gt ha hb).2 e))
theorem wq_if_gt {a : Int} {off : Int} {r : RRow} {z : List RRow} (ha : InI a) (ht : rx_tok pc off = true) (hz : rx_at I.2.2.1 (rx_tgt pc off) = r :: z) (hn : nxt rest (pc + len) = true) (k1 : 0 < a → Wq O F C I (r :: z) la st h Q) (k2 : a ≤ 0 → Wq O F C I rest la st h Q) : Wq O F C I ((pc, .ifCond .gt off, len, aux) :: rest) la (wvi a :: st) h Q := wq_br (b := rx_cb .gt (Int32.ofInt a) (Int32.ofInt 0)) (off := off) (st2 := st) (fun c k => by
  show (match true, rx_tok pc off with | true, true => rx_br (some (rx_cb .gt (Int32.ofInt a) (Int32.ofInt 0))) (fun _ => rx_to I.2.2.1 (rx_tgt pc off) (fun z => k z la st h)) (fun _ => rx_nx k rest (pc + len) la st h) | _, _ => none) = _
  rw [ht]) hz hn (fun e => k1 ((cb_gt ha ⟨by decide, by decide⟩).1 e)) (fun e => k2 ((cb_gt ha ⟨by decide, by decide⟩).2 e))
theorem cb_le {a b : Int} (ha : InI a) (hb : InI b) : (rx_cb .le (Int32.ofInt a) (Int32.ofInt b) = true → a ≤ b) ∧ (rx_cb .le (Int32.ofInt a) (Int32.ofInt b) = false → b < a) := by
  refine ⟨fun e => ?_, fun e => ?_⟩
  · exact (ofI_le ha hb).mp (of_decide_eq_true e)
  · exact Int.not_le.mp (fun z => of_decide_eq_false e ((ofI_le ha hb).mpr z))
theorem wq_icmp_le {a b : Int} {off : Int} {r : RRow} {z : List RRow} (ha : InI a) (hb : InI b) (ht : rx_tok pc off = true) (hz : rx_at I.2.2.1 (rx_tgt pc off) = r :: z) (hn : nxt rest (pc + len) = true) (k1 : a ≤ b → Wq O F C I (r :: z) la st h Q) (k2 : b < a → Wq O F C I rest la st h Q) : Wq O F C I ((pc, .if_icmp .le off, len, aux) :: rest) la (wvi b :: wvi a :: st) h Q := wq_br (b := rx_cb .le (Int32.ofInt a) (Int32.ofInt b)) (off := off) (st2 := st) (fun c k => by
  show (match true, true, rx_tok pc off with | true, true, true => rx_br (some (rx_cb .le (Int32.ofInt a) (Int32.ofInt b))) (fun _ => rx_to I.2.2.1 (rx_tgt pc off) (fun z => k z la st h)) (fun _ => rx_nx k rest (pc + len) la st h) | _, _, _ => none) = _
  rw [ht]) hz hn (fun e => k1 ((cb_le ha hb).1 e)) (fun e => k2 ((cb_le ha hb).2 e))
theorem wq_if_le {a : Int} {off : Int} {r : RRow} {z : List RRow} (ha : InI a) (ht : rx_tok pc off = true) (hz : rx_at I.2.2.1 (rx_tgt pc off) = r :: z) (hn : nxt rest (pc + len) = true) (k1 : a ≤ 0 → Wq O F C I (r :: z) la st h Q) (k2 : 0 < a → Wq O F C I rest la st h Q) : Wq O F C I ((pc, .ifCond .le off, len, aux) :: rest) la (wvi a :: st) h Q := wq_br (b := rx_cb .le (Int32.ofInt a) (Int32.ofInt 0)) (off := off) (st2 := st) (fun c k => by
  show (match true, rx_tok pc off with | true, true => rx_br (some (rx_cb .le (Int32.ofInt a) (Int32.ofInt 0))) (fun _ => rx_to I.2.2.1 (rx_tgt pc off) (fun z => k z la st h)) (fun _ => rx_nx k rest (pc + len) la st h) | _, _ => none) = _
  rw [ht]) hz hn (fun e => k1 ((cb_le ha ⟨by decide, by decide⟩).1 e)) (fun e => k2 ((cb_le ha ⟨by decide, by decide⟩).2 e))
def lc (a b : Int) : Int := if a < b then -1 else if a = b then 0 else 1
theorem InI_lc (a b : Int) : InI (lc a b) := by
  unfold lc InI
  split
  · omega
  · split <;> omega
theorem lg_lc {a b : Int} (ha : InL a) (hb : InL b) : lg_cmp (Int64.ofInt a) (Int64.ofInt b) = Int32.ofInt (lc a b) := by
  unfold lg_cmp lc
  by_cases h1 : b < a
  · rw [if_pos ((ofL_lt hb ha).mpr h1), if_neg (by omega), if_neg (by omega)]
    rfl
  · rw [if_neg (fun z => h1 ((ofL_lt hb ha).mp z))]
    by_cases h2 : a = b
    · rw [if_pos ((ofL_eq ha hb).mpr h2), if_neg (by omega), if_pos h2]
      rfl
    · rw [if_neg (fun z => h2 ((ofL_eq ha hb).mp z)), if_pos (by omega)]
      rfl
theorem wq_lcmp {a b : Int} (ha : InL a) (hb : InL b) (hn : nxt rest (pc + len) = true) (k : Wq O F C I rest la (wvi (lc a b) :: st) h Q) : Wq O F C I ((pc, .lcmp, len, aux) :: rest) la (wvl b :: wvl a :: st) h Q := wq_go (fun c k => by
  show rx_nx k rest (pc + len) la (.int _ :: st) h = _
  rw [nx_eq hn]
  exact congrArg (fun z => k rest la (Value.int z :: st) h) (lg_lc ha hb)) k
theorem lc_lt {a b : Int} : lc a b < 0 ↔ a < b := by
  unfold lc
  split
  · omega
  · split <;> omega
theorem lc_ge {a b : Int} : 0 ≤ lc a b ↔ b ≤ a := by
  unfold lc
  split
  · omega
  · split <;> omega
theorem lc_gt {a b : Int} : 0 < lc a b ↔ b < a := by
  unfold lc
  split
  · omega
  · split <;> omega
theorem lc_le {a b : Int} : lc a b ≤ 0 ↔ a ≤ b := by
  unfold lc
  split
  · omega
  · split <;> omega
theorem lc_eq {a b : Int} : lc a b = 0 ↔ a = b := by
  unfold lc
  split
  · omega
  · split <;> omega

theorem wq_lc_eq {a b : Int} {off : Int} {pc2 len2 : Nat} {aux2 : List Nat} {r : RRow} {z : List RRow} (ha : InL a) (hb : InL b) (hn0 : Nat.beq pc2 (pc + len) = true) (ht : rx_tok pc2 off = true) (hz : rx_at I.2.2.1 (rx_tgt pc2 off) = r :: z) (hn : nxt rest (pc2 + len2) = true) (k1 : a = b → Wq O F C I (r :: z) la st h Q) (k2 : a ≠ b → Wq O F C I rest la st h Q) : Wq O F C I ((pc, .lcmp, len, aux) :: (pc2, .ifCond .eq off, len2, aux2) :: rest) la (wvl b :: wvl a :: st) h Q := wq_lcmp ha hb hn0 (wq_if_eq (InI_lc a b) ht hz hn (fun e => k1 (lc_eq.mp e)) (fun e => k2 (fun w => e (lc_eq.mpr w))))
theorem wq_lc_ne {a b : Int} {off : Int} {pc2 len2 : Nat} {aux2 : List Nat} {r : RRow} {z : List RRow} (ha : InL a) (hb : InL b) (hn0 : Nat.beq pc2 (pc + len) = true) (ht : rx_tok pc2 off = true) (hz : rx_at I.2.2.1 (rx_tgt pc2 off) = r :: z) (hn : nxt rest (pc2 + len2) = true) (k1 : a ≠ b → Wq O F C I (r :: z) la st h Q) (k2 : a = b → Wq O F C I rest la st h Q) : Wq O F C I ((pc, .lcmp, len, aux) :: (pc2, .ifCond .ne off, len2, aux2) :: rest) la (wvl b :: wvl a :: st) h Q := wq_lcmp ha hb hn0 (wq_if_ne (InI_lc a b) ht hz hn (fun e => k1 (fun w => e (lc_eq.mpr w))) (fun e => k2 (lc_eq.mp e)))
theorem wq_lc_lt {a b : Int} {off : Int} {pc2 len2 : Nat} {aux2 : List Nat} {r : RRow} {z : List RRow} (ha : InL a) (hb : InL b) (hn0 : Nat.beq pc2 (pc + len) = true) (ht : rx_tok pc2 off = true) (hz : rx_at I.2.2.1 (rx_tgt pc2 off) = r :: z) (hn : nxt rest (pc2 + len2) = true) (k1 : a < b → Wq O F C I (r :: z) la st h Q) (k2 : b ≤ a → Wq O F C I rest la st h Q) : Wq O F C I ((pc, .lcmp, len, aux) :: (pc2, .ifCond .lt off, len2, aux2) :: rest) la (wvl b :: wvl a :: st) h Q := wq_lcmp ha hb hn0 (wq_if_lt (InI_lc a b) ht hz hn (fun e => k1 (lc_lt.mp e)) (fun e => k2 (lc_ge.mp e)))
theorem wq_lc_ge {a b : Int} {off : Int} {pc2 len2 : Nat} {aux2 : List Nat} {r : RRow} {z : List RRow} (ha : InL a) (hb : InL b) (hn0 : Nat.beq pc2 (pc + len) = true) (ht : rx_tok pc2 off = true) (hz : rx_at I.2.2.1 (rx_tgt pc2 off) = r :: z) (hn : nxt rest (pc2 + len2) = true) (k1 : b ≤ a → Wq O F C I (r :: z) la st h Q) (k2 : a < b → Wq O F C I rest la st h Q) : Wq O F C I ((pc, .lcmp, len, aux) :: (pc2, .ifCond .ge off, len2, aux2) :: rest) la (wvl b :: wvl a :: st) h Q := wq_lcmp ha hb hn0 (wq_if_ge (InI_lc a b) ht hz hn (fun e => k1 (lc_ge.mp e)) (fun e => k2 (lc_lt.mp e)))
theorem wq_lc_gt {a b : Int} {off : Int} {pc2 len2 : Nat} {aux2 : List Nat} {r : RRow} {z : List RRow} (ha : InL a) (hb : InL b) (hn0 : Nat.beq pc2 (pc + len) = true) (ht : rx_tok pc2 off = true) (hz : rx_at I.2.2.1 (rx_tgt pc2 off) = r :: z) (hn : nxt rest (pc2 + len2) = true) (k1 : b < a → Wq O F C I (r :: z) la st h Q) (k2 : a ≤ b → Wq O F C I rest la st h Q) : Wq O F C I ((pc, .lcmp, len, aux) :: (pc2, .ifCond .gt off, len2, aux2) :: rest) la (wvl b :: wvl a :: st) h Q := wq_lcmp ha hb hn0 (wq_if_gt (InI_lc a b) ht hz hn (fun e => k1 (lc_gt.mp e)) (fun e => k2 (lc_le.mp e)))
theorem wq_lc_le {a b : Int} {off : Int} {pc2 len2 : Nat} {aux2 : List Nat} {r : RRow} {z : List RRow} (ha : InL a) (hb : InL b) (hn0 : Nat.beq pc2 (pc + len) = true) (ht : rx_tok pc2 off = true) (hz : rx_at I.2.2.1 (rx_tgt pc2 off) = r :: z) (hn : nxt rest (pc2 + len2) = true) (k1 : a ≤ b → Wq O F C I (r :: z) la st h Q) (k2 : b < a → Wq O F C I rest la st h Q) : Wq O F C I ((pc, .lcmp, len, aux) :: (pc2, .ifCond .le off, len2, aux2) :: rest) la (wvl b :: wvl a :: st) h Q := wq_lcmp ha hb hn0 (wq_if_le (InI_lc a b) ht hz hn (fun e => k1 (lc_le.mp e)) (fun e => k2 (lc_gt.mp e)))
/-! ends -/
theorem wq_return (hI : I.2.1 = 0) (hq : Q (.inl none, h, 0, 0)) : Wq O F C I ((pc, .return_, len, aux) :: rest) la [] h Q := wq_end (r := (.inl none, h, 0, 0)) (fun c k => by
  unfold rx_one
  simp only [hI]) hq
theorem wq_ireturn {a : Int} (hI : I.2.1 = 1) (hq : Q (.inl (some (wvi a)), h, 0, 0)) : Wq O F C I ((pc, .ireturn, len, aux) :: rest) la [wvi a] h Q := wq_end (r := (.inl (some (wvi a)), h, 0, 0)) (fun c k => by
  unfold rx_one
  simp only [wvi, hI]) hq
theorem wq_zreturn {a : Int} (hI : I.2.1 = 2) (ha : a = 0 ∨ a = 1) (hq : Q (.inl (some (wvi a)), h, 0, 0)) : Wq O F C I ((pc, .ireturn, len, aux) :: rest) la [wvi a] h Q := wq_end (r := (.inl (some (wvi a)), h, 0, 0)) (fun c k => by
  have hd : decide (narrow .boolean (.int (Int32.ofInt a)) = .int (Int32.ofInt a)) = true := by
    rcases ha with rfl | rfl <;> decide
  unfold rx_one
  simp only [wvi, hI, hd]) hq
theorem wq_lreturn {a : Int} (hI : I.2.1 = 5) (hq : Q (.inl (some (wvl a)), h, 0, 0)) : Wq O F C I ((pc, .lreturn, len, aux) :: rest) la [wvl a] h Q := wq_end (r := (.inl (some (wvl a)), h, 0, 0)) (fun c k => by
  unfold rx_one
  simp only [wvl, hI, rx_isL]) hq
/-- a method's body, from its call -/
theorem cq_of {P : List RInf} {d mi : Nat} {as : List Value} {I : RInf} (hP : rx_nth P mi = some I) (hc : Nat.ble (rx_cats as) I.1 = true) (hd : 0 < d) (hw : Wq O F (Cd O F P (d - 1)) I I.2.2.1 (lv_args 0 as) [] h Q) : Cq (Cd O F P d) mi as h Q := by
  obtain ⟨d, rfl⟩ : ∃ m, d = m + 1 := ⟨d - 1, by omega⟩
  obtain ⟨r, N, h1, h2⟩ := hw
  refine ⟨r, N, fun s hs => ?_, h2⟩
  show rx_call O F P s (d + 1) mi as h = some r
  unfold rx_call
  rw [hP]
  simp only [hc]
  exact h1 s s hs hs

end WqS
