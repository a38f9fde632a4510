/-! what a step of the runner says when it goes on -/
theorem rx_more_of {a b : Nat} {o : Option RRes} {r : Option Value ⊕ Nat} {hf : RHeap} {mc ms : Nat} (h : rx_more a b o = some (r, hf, mc, ms)) : ∃ mc2 ms2, o = some (r, hf, mc2, ms2) ∧ mc = mc2 + a ∧ ms = ms2 + b := by
  unfold rx_more at h
  split at h
  · simp only [Option.some.injEq, Prod.mk.injEq] at h
    obtain ⟨rfl, rfl, rfl, rfl⟩ := h
    exact ⟨_, _, rfl, rfl, rfl⟩
  · cases h
theorem rx_ld_of {q : Value → Bool} {la : RLoc} {i : Nat} {st : List Value} {k : List Value → Option RRes} {x : RRes} (h : rx_ld q la i st k = some x) : ∃ v, rx_look la i = some v ∧ q v = true ∧ k (v :: st) = some x := by
  unfold rx_ld at h
  split at h
  · rename_i v hv
    split at h
    · rename_i hq; exact ⟨v, hv, hq, h⟩
    · cases h
  · cases h
theorem rx_str_of {q : Value → Bool} {nL : Nat} {la : RLoc} {i : Nat} {st : List Value} {k : RLoc → List Value → Option RRes} {x : RRes} (h : rx_str q nL la i st k = some x) : ∃ v r, st = v :: r ∧ q v = true ∧ i < nL ∧ k (rx_lst la i v) r = some x := by
  cases st with
  | nil => cases h
  | cons v r =>
    simp only [rx_str] at h
    cases hq : q v with
    | false => simp [hq] at h
    | true =>
      cases hn : Nat.blt i nL with
      | false => simp [hq, hn] at h
      | true =>
        simp only [hq, hn] at h
        exact ⟨v, r, rfl, hq, Nat.le_of_ble_eq_true hn, h⟩
theorem rx_str2_of {q : Value → Bool} {nL : Nat} {la : RLoc} {i : Nat} {st : List Value} {k : RLoc → List Value → Option RRes} {x : RRes} (h : rx_str2 q nL la i st k = some x) : ∃ v r, st = v :: r ∧ q v = true ∧ i + 1 < nL ∧ k (rx_lst2 la i v) r = some x := by
  cases st with
  | nil => cases h
  | cons v r =>
    simp only [rx_str2] at h
    cases hq : q v with
    | false => simp [hq] at h
    | true =>
      cases hn : Nat.blt (i + 1) nL with
      | false => simp [hq, hn] at h
      | true =>
        simp only [hq, hn] at h
        exact ⟨v, r, rfl, hq, Nat.le_of_ble_eq_true hn, h⟩
theorem rx_b1_of {f : Value → Value} {q : Value → Bool} {st : List Value} {k : List Value → Option RRes} {x : RRes} (h : rx_b1 f q st k = some x) : ∃ a r, st = a :: r ∧ q a = true ∧ k (f a :: r) = some x := by
  cases st with
  | nil => cases h
  | cons a r =>
    simp only [rx_b1] at h
    cases hq : q a with
    | false => simp [hq] at h
    | true =>
      simp only [hq] at h
      exact ⟨a, r, rfl, hq, h⟩
theorem rx_b2_of {f : Value → Value → Value} {q q2 : Value → Bool} {st : List Value} {k : List Value → Option RRes} {x : RRes} (h : rx_b2 f q q2 st k = some x) : ∃ b a r, st = b :: a :: r ∧ q a = true ∧ q2 b = true ∧ k (f a b :: r) = some x := by
  match st, h with
  | [], h => cases h
  | [_], h => cases h
  | b :: a :: r, h =>
    simp only [rx_b2] at h
    cases hq : q a with
    | false => simp [hq] at h
    | true =>
      cases hq2 : q2 b with
      | false => simp [hq, hq2] at h
      | true =>
        simp only [hq, hq2] at h
        exact ⟨b, a, r, rfl, hq, hq2, h⟩
theorem rx_inc_of {nL : Nat} {la : RLoc} {i : Nat} {n : Int} {k : RLoc → Option RRes} {x : RRes} (h : rx_inc nL la i n k = some x) : ∃ v, rx_look la i = some (.int v) ∧ i < nL ∧ k (rx_lst la i (.int (v + Int32.ofInt n))) = some x := by
  unfold rx_inc at h
  split at h
  · rename_i v hv
    split at h
    · rename_i hn; exact ⟨v, hv, Nat.lt_of_lt_of_le (Nat.lt_succ_self _) (Nat.le_of_ble_eq_true hn), h⟩
    · cases h
  · cases h
theorem rx_dup_of {st : List Value} {k : List Value → Option RRes} {x : RRes} (h : rx_dup st k = some x) : ∃ a r, st = a :: r ∧ a.category = 1 ∧ k (a :: a :: r) = some x := by
  cases st with
  | nil => cases h
  | cons a r =>
    simp only [rx_dup] at h
    cases hq : Nat.beq a.category 1 with
    | false => simp [hq] at h
    | true =>
      simp only [hq] at h
      exact ⟨a, r, rfl, Nat.eq_of_beq_eq_true hq, h⟩
theorem rx_pop_of {st : List Value} {k : List Value → Option RRes} {x : RRes} (h : rx_pop st k = some x) : ∃ a r, st = a :: r ∧ a.category = 1 ∧ k r = some x := by
  cases st with
  | nil => cases h
  | cons a r =>
    simp only [rx_pop] at h
    cases hq : Nat.beq a.category 1 with
    | false => simp [hq] at h
    | true =>
      simp only [hq] at h
      exact ⟨a, r, rfl, Nat.eq_of_beq_eq_true hq, h⟩
theorem rx_dupx1_of {st : List Value} {k : List Value → Option RRes} {x : RRes} (h : rx_dupx1 st k = some x) : ∃ a b r, st = a :: b :: r ∧ a.category = 1 ∧ b.category = 1 ∧ k (a :: b :: a :: r) = some x := by
  match st, h with
  | [], h => cases h
  | [_], h => cases h
  | a :: b :: r, h =>
    simp only [rx_dupx1] at h
    cases hq : Nat.beq a.category 1 with
    | false => simp [hq] at h
    | true =>
      cases hq2 : Nat.beq b.category 1 with
      | false => simp [hq, hq2] at h
      | true =>
        simp only [hq, hq2] at h
        exact ⟨a, b, r, rfl, Nat.eq_of_beq_eq_true hq, Nat.eq_of_beq_eq_true hq2, h⟩
theorem rx_at_of : ∀ {rows : List RRow} {t : Nat} {r : RRow} {z : List RRow}, rx_at rows t = r :: z → r.1 = t ∧ ∀ q ∈ r :: z, q ∈ rows
  | [], _, _, _, h => by simp [rx_at] at h
  | r0 :: l, t, r, z, h => by
    unfold rx_at at h
    split at h
    · rename_i hb
      cases h
      exact ⟨Nat.eq_of_beq_eq_true hb, fun q hq => hq⟩
    · obtain ⟨h1, h2⟩ := rx_at_of h
      exact ⟨h1, fun q hq => List.mem_cons_of_mem _ (h2 q hq)⟩
theorem rx_to_of {rows : List RRow} {t : Nat} {k : List RRow → Option RRes} {x : RRes} (h : rx_to rows t k = some x) : ∃ r z, r.1 = t ∧ (∀ q ∈ r :: z, q ∈ rows) ∧ k (r :: z) = some x := by
  unfold rx_to at h
  split at h
  · rename_i r z hz
    obtain ⟨h1, h2⟩ := rx_at_of hz
    exact ⟨r, z, h1, h2, h⟩
  · cases h
theorem rx_go_of {rows : List RRow} {pc : Nat} {off : Int} {k : List RRow → Option RRes} {x : RRes} (h : rx_go rows pc off k = some x) : ∃ r z, (pc : Int) + off = (r.1 : Int) ∧ (∀ q ∈ r :: z, q ∈ rows) ∧ k (r :: z) = some x := by
  unfold rx_go at h
  split at h
  · rename_i ht
    obtain ⟨r, z, h1, h2, h3⟩ := rx_to_of h
    refine ⟨r, z, ?_, h2, h3⟩
    have h0 : 0 ≤ (pc : Int) + off := of_decide_eq_true ht
    rw [h1]
    unfold rx_tgt
    rw [Int.toNat_of_nonneg h0]
  · cases h
theorem rx_br_of {o : Option Bool} {a b : Unit → Option RRes} {x : RRes} (h : rx_br o a b = some x) : (o ≠ some false → a () = some x) ∧ (o ≠ some true → b () = some x) := by
  unfold rx_br at h
  split at h
  · exact ⟨fun _ => h, fun z => absurd rfl z⟩
  · exact ⟨fun z => absurd rfl z, fun _ => h⟩
  · unfold rx_join at h
    split at h
    · rename_i x1 y1 hx1 hy1
      split at h
      · rename_i e1 e2 e3
        have he : x1 = y1 := Prod.ext (of_decide_eq_true e1) (Prod.ext (of_decide_eq_true e2) (of_decide_eq_true e3))
        cases h
        exact ⟨fun _ => hx1, fun _ => by rw [hy1, he]⟩
      · cases h
    · cases h
theorem rx_old_of {k : Nat} (h : rx_old k = false) : k < 1000000 := by
  apply Nat.lt_of_not_le
  intro h2
  have : Nat.ble 1000000 k = true := Nat.ble_eq_true_of_le h2
  rw [show rx_old k = Nat.ble 1000000 k from rfl, this] at h
  cases h
theorem rx_oldA_of : ∀ {l : List (Nat × Nat × List Value)} {i t : Nat} {a : List Value}, rx_oldA l i = some (t, a) → (i, t, a) ∈ l
  | [], _, _, _, h => by simp [rx_oldA] at h
  | (j, t0, a0) :: l, i, t, a, h => by
    unfold rx_oldA at h
    split at h
    · rename_i hb
      have hb := Nat.eq_of_beq_eq_true hb
      cases h
      rw [← hb]
      exact List.mem_cons_self
    · exact List.mem_cons_of_mem _ (rx_oldA_of h)
theorem rx_oldF_of : ∀ {l : List (Nat × Nat × Nat × Value)} {i ci f : Nat} {v : Value}, rx_oldF l i ci f = some v → (i, ci, f, v) ∈ l
  | [], _, _, _, _, h => by simp [rx_oldF] at h
  | (j, c0, f0, v0) :: l, i, ci, f, v, h => by
    unfold rx_oldF at h
    split at h
    · rename_i h1 h2 h3
      have h1 := Nat.eq_of_beq_eq_true h1
      have h2 := Nat.eq_of_beq_eq_true h2
      have h3 := Nat.eq_of_beq_eq_true h3
      cases h
      rw [← h1, ← h2, ← h3]
      exact List.mem_cons_self
    · exact List.mem_cons_of_mem _ (rx_oldF_of h)
/-! the check of a row: it decodes, and its words are among the tables' -/
abbrev RSig : Type := MethodName × ByteArray × Option FieldType × Nat × Nat × Nat × Nat × List (Nat × Nat × Nat × Nat) × Nat
def rc_good : List Jvm.Cond := lw_tbl.filter goodWord
def rx_wd (w : Nat) (d : Jvm.Cond) : Bool := match rx_nth lw_tbl w with
  | some x => decide (x = d) && goodWord d
  | none => false
theorem rx_wd_mem {w : Nat} {d : Jvm.Cond} (h : rx_wd w d = true) : d ∈ rc_good := by
  unfold rx_wd at h
  split at h
  · rename_i x hx
    rw [Bool.and_eq_true] at h
    have h1 : x = d := of_decide_eq_true h.1
    subst h1
    rw [rx_nth_eq] at hx
    exact List.mem_filter.mpr ⟨List.mem_of_getElem? hx, h.2⟩
  · cases h
def rx_ilen : Instr → Nat
  | .aload _ => 2
  | .iload _ => 2
  | .lload _ => 2
  | .astore _ => 2
  | .istore _ => 2
  | .lstore _ => 2
  | .bipush _ => 2
  | .newarray _ => 2
  | .ldc _ => 2
  | .sipush _ => 3
  | .getfield _ => 3
  | .putfield _ => 3
  | .getstatic _ => 3
  | .new _ => 3
  | .anewarray _ => 3
  | .ldc2_w _ => 3
  | .goto _ => 3
  | .if_icmp _ _ => 3
  | .ifCond _ _ => 3
  | .ifnull _ => 3
  | .ifnonnull _ => 3
  | .iinc _ _ => 3
  | .invokespecial _ => 3
  | .invokevirtual _ => 3
  | .invokestatic _ => 3
  | _ => 1
def rx_isT : Instr → Bool
  | .tableswitch _ _ _ _ => true
  | _ => false
def rx_cw (sg : RSig) : Jvm.Cond := match sg.2.2.2.2.2.2.2.1 with
  | [] => .code sg.1 sg.2.1 sg.2.2.2.2.2.2.2.2 sg.2.2.1
  | h :: t => .codeWith sg.1 sg.2.1 sg.2.2.2.2.2.2.2.2 sg.2.2.1 (h :: t)
def rx_sgok (sg : RSig) : Bool := rx_wd sg.2.2.2.1 (rx_cw sg) && rx_wd sg.2.2.2.2.2.2.1 (.initialized sg.1.cls) && Nat.ble sg.2.2.2.2.2.2.2.2 40
def rx_sigok (sg : RSig) (n : Nat) : Bool := decide (sg.1.cls ≠ "java/lang/invoke/MethodHandle") && decide (sg.1.cls ≠ "java/lang/invoke/VarHandle") && decide ((parseMethodDescriptor sg.1.desc).map (fun d => d.parameters.length) = some n)
def rx_aok (ini : Bool) (own : String) (sigs : List RSig) (i : Instr) (aux : List Nat) : Bool := match i, aux with
  | .getfield x, [ci, f, w] => match rx_nth rc_cls ci with
    | some q => Nat.blt f q.2.2 && rx_wd w (.fieldLink own x (q.2.1 f).1 (q.2.1 f).2.1 (q.2.1 f).2.2.1)
    | none => false
  | .putfield x, [ci, f, w] => match rx_nth rc_cls ci with
    | some q => Nat.blt f q.2.2 && rx_wd w (.fieldLink own x (q.2.1 f).1 (q.2.1 f).2.1 (q.2.1 f).2.2.1) && (!(q.2.1 f).2.2.2 || (ini && decide ((q.2.1 f).1 = own)))
    | none => false
  | .new x, [ci, w] => match rx_nth rc_cls ci with
    | some q => rx_wd w (.classLink own x q.1)
    | none => false
  | .newarray a, [t] => decide (rx_nth rc_arr t = some (newarray.typeOf a)) && Nat.blt t 4
  | .anewarray x, [t, w] => match t with
    | 4 => rx_wd w (.classLink own x RX4)
    | 5 => rx_wd w (.classLink own x RX9)
    | _ => false
  | .ldc x, [0, v, w] => rx_wd w (.constant own x (Int32.ofNat v))
  | .ldc x, [1, 1, _] => decide (own = RX10) && Nat.beq x 33
  | .ldc x, [1, 3, _] => decide (own = RX5) && Nat.beq x 55
  | .ldc _, [1, _, _] => false
  | .ldc2_w x, [v, w] => rx_wd w (.constantLong own x (Int64.ofNat v))
  | .getstatic x, [0, w] => rx_wd w (.fieldLink own x "java/lang/String" "COMPACT_STRINGS" "Z")
  | .getstatic x, [1, w] => rx_wd w (.fieldLink own x "jdk/internal/util/Preconditions" "SIOOBE_FORMATTER" "Ljava/util/function/BiFunction;")
  | .invokespecial x, [9999, w] => rx_wd w (.methodLink own x Lib.objectInit)
  | .invokespecial x, [mi, n, _, w] => match rx_nth sigs mi with
    | some sg => (rx_wd w (.methodLink own x sg.1) || (decide (own = RX11) && Nat.beq x 9 && decide (sg.1 = ⟨RX8, "<init>", "()V"⟩)) || (decide (own = RX11) && Nat.beq x 30 && decide (sg.1 = ⟨RX1, "<init>", "()V"⟩)) || (decide (own = RX3) && Nat.beq x 11 && decide (sg.1 = ⟨RX8, "<init>", "()V"⟩))) && decide (sg.1.name = "<init>") && decide (sg.2.2.1 = none) && rx_sigok sg n && sg.2.2.2.2.2.2.2.1.isEmpty && rx_sgok sg && rx_wd sg.2.2.2.2.1 (.instanceMethod sg.1)
    | none => false
  | .invokevirtual x, [mi, n, ci, w] => match rx_nth sigs mi, rx_nth rc_cls ci with
    | some sg, some q => rx_wd w (.methodLink own x sg.1) && rx_sigok sg n && decide (sg.1.cls = q.1) && rx_sgok sg && rx_wd sg.2.2.2.2.1 (.instanceMethod sg.1) && rx_wd sg.2.2.2.2.2.1 (.selects sg.1.cls sg.1 sg.1)
    | _, _ => false
  | .invokestatic x, [8888, w] => rx_wd w (.methodLink own x arraycopyName)
  | .invokestatic x, [mi, n, w] => match rx_nth sigs mi with
    | some sg => rx_wd w (.methodLink own x sg.1) && rx_sigok sg n && rx_sgok sg && rx_wd sg.2.2.2.2.1 (.static sg.1)
    | none => false
  | _, _ => true
def rx_chk (ini : Bool) (own : String) (cc : ByteArray) (sigs : List RSig) (q : RRow) : Bool := decide (decode cc q.1 = .ok (q.2.1, q.2.2.1)) && (Nat.beq q.2.2.1 (rx_ilen q.2.1) || rx_isT q.2.1) && rx_aok ini own sigs q.2.1 q.2.2.2
