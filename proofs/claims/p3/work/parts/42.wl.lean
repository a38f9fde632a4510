theorem look_cons {j i : Nat} {v : Value} {l : RLoc} : rx_look ((j, v) :: l) i = if j = i then some v else rx_look l i := by
  show (match Nat.beq j i with | true => some v | false => rx_look l i) = _
  by_cases h : j = i
  · subst h
    rw [if_pos rfl, Nat.beq_refl]
  · rw [if_neg h]
    have : Nat.beq j i = false := by
      cases hb : Nat.beq j i with
      | false => rfl
      | true => exact absurd (Nat.eq_of_beq_eq_true hb) h
    rw [this]
theorem look_filter {p : Nat × Value → Bool} {i : Nat} {w : Value} (hp : p (i, w) = true) : ∀ {l : RLoc}, rx_look l i = some w → rx_look (l.filter p) i = some w
  | [], h => by cases h
  | (j, v) :: l, h => by
    rw [look_cons] at h
    by_cases hj : j = i
    · subst hj
      rw [if_pos rfl] at h
      cases h
      rw [List.filter_cons_of_pos hp, look_cons, if_pos rfl]
    · rw [if_neg hj] at h
      have ih := look_filter hp h
      by_cases hq : p (j, v) = true
      · rw [List.filter_cons_of_pos hq, look_cons, if_neg hj]
        exact ih
      · rw [List.filter_cons_of_neg hq]
        exact ih
theorem look_lst {la : RLoc} {j i : Nat} {v w : Value} (hi : i ≠ j) (hc : i + 1 ≠ j ∨ w.category = 1) (hl : rx_look la i = some w) : rx_look (rx_lst la j v) i = some w := by
  unfold rx_lst
  rw [look_cons, if_neg (fun z => hi z.symm)]
  refine look_filter ?_ hl
  rcases hc with hc | hc <;> simp [hi, hc]
theorem look_lst2 {la : RLoc} {j i : Nat} {v w : Value} (hi : i ≠ j ∧ i ≠ j + 1) (hc : i + 1 ≠ j ∨ w.category = 1) (hl : rx_look la i = some w) : rx_look (rx_lst2 la j v) i = some w := by
  unfold rx_lst2
  rw [look_cons, if_neg (fun z => hi.1 z.symm)]
  refine look_filter ?_ hl
  rcases hc with hc | hc <;> simp [hi, hc]
section WlS
variable {O : ROld} {F : RFacts} {C : Nat → Nat → List Value → RHeap → Option RRes} {I : RInf} {rest : List RRow} {la : RLoc} {st : List Value} {h : RHeap} {Q : RRes → Prop} {pc len : Nat} {aux : List Nat}
theorem wl_istore {j : Nat} {x : Int} (hj : Nat.blt (j : Nat) I.1 = true) (hn : nxt rest (pc + len) = true) (k : ∀ la2, rx_look la2 j = some (wvi x) → (∀ (i : Nat) (w : Value), i ≠ (j : Nat) → (i + 1 ≠ (j : Nat) ∨ w.category = 1) → rx_look la i = some w → rx_look la2 i = some w) → Wq O F C I rest la2 st h Q) : Wq O F C I ((pc, .istore j, len, aux) :: rest) la (wvi x :: st) h Q := wq_istore hj rfl hn (k _ (by
  unfold rx_lst
  rw [look_cons, if_pos rfl]) (fun _ _ => look_lst))
theorem wl_istore_n {j : Fin 4} {x : Int} (hj : Nat.blt (j : Nat) I.1 = true) (hn : nxt rest (pc + len) = true) (k : ∀ la2, rx_look la2 j = some (wvi x) → (∀ (i : Nat) (w : Value), i ≠ (j : Nat) → (i + 1 ≠ (j : Nat) ∨ w.category = 1) → rx_look la i = some w → rx_look la2 i = some w) → Wq O F C I rest la2 st h Q) : Wq O F C I ((pc, .istore_n j, len, aux) :: rest) la (wvi x :: st) h Q := wq_istore_n hj rfl hn (k _ (by
  unfold rx_lst
  rw [look_cons, if_pos rfl]) (fun _ _ => look_lst))
theorem wl_lstore {j : Nat} {x : Int} (hj : Nat.blt ((j : Nat) + 1) I.1 = true) (hn : nxt rest (pc + len) = true) (k : ∀ la2, rx_look la2 j = some (wvl x) → (∀ (i : Nat) (w : Value), (i ≠ (j : Nat) ∧ i ≠ (j : Nat) + 1) → (i + 1 ≠ (j : Nat) ∨ w.category = 1) → rx_look la i = some w → rx_look la2 i = some w) → Wq O F C I rest la2 st h Q) : Wq O F C I ((pc, .lstore j, len, aux) :: rest) la (wvl x :: st) h Q := wq_lstore hj rfl hn (k _ (by
  unfold rx_lst2
  rw [look_cons, if_pos rfl]) (fun _ _ => look_lst2))
theorem wl_lstore_n {j : Fin 4} {x : Int} (hj : Nat.blt ((j : Nat) + 1) I.1 = true) (hn : nxt rest (pc + len) = true) (k : ∀ la2, rx_look la2 j = some (wvl x) → (∀ (i : Nat) (w : Value), (i ≠ (j : Nat) ∧ i ≠ (j : Nat) + 1) → (i + 1 ≠ (j : Nat) ∨ w.category = 1) → rx_look la i = some w → rx_look la2 i = some w) → Wq O F C I rest la2 st h Q) : Wq O F C I ((pc, .lstore_n j, len, aux) :: rest) la (wvl x :: st) h Q := wq_lstore_n hj rfl hn (k _ (by
  unfold rx_lst2
  rw [look_cons, if_pos rfl]) (fun _ _ => look_lst2))
theorem wl_astore {j : Nat} {x : Int} (hj : Nat.blt (j : Nat) I.1 = true) (hn : nxt rest (pc + len) = true) (k : ∀ la2, rx_look la2 j = some (Value.ref x.toNat) → (∀ (i : Nat) (w : Value), i ≠ (j : Nat) → (i + 1 ≠ (j : Nat) ∨ w.category = 1) → rx_look la i = some w → rx_look la2 i = some w) → Wq O F C I rest la2 st h Q) : Wq O F C I ((pc, .astore j, len, aux) :: rest) la (Value.ref x.toNat :: st) h Q := wq_astore hj rfl hn (k _ (by
  unfold rx_lst
  rw [look_cons, if_pos rfl]) (fun _ _ => look_lst))
theorem wl_astore_n {j : Fin 4} {x : Int} (hj : Nat.blt (j : Nat) I.1 = true) (hn : nxt rest (pc + len) = true) (k : ∀ la2, rx_look la2 j = some (Value.ref x.toNat) → (∀ (i : Nat) (w : Value), i ≠ (j : Nat) → (i + 1 ≠ (j : Nat) ∨ w.category = 1) → rx_look la i = some w → rx_look la2 i = some w) → Wq O F C I rest la2 st h Q) : Wq O F C I ((pc, .astore_n j, len, aux) :: rest) la (Value.ref x.toNat :: st) h Q := wq_astore_n hj rfl hn (k _ (by
  unfold rx_lst
  rw [look_cons, if_pos rfl]) (fun _ _ => look_lst))
theorem wl_iinc {j : Nat} {z : Int} {x : Int} (hx : rx_look la j = some (wvi x)) (hj : Nat.blt j I.1 = true) (hn : nxt rest (pc + len) = true) (k : ∀ la2, rx_look la2 j = some (wvi (i32 (x + z))) → (∀ (i : Nat) (w : Value), i ≠ j → (i + 1 ≠ j ∨ w.category = 1) → rx_look la i = some w → rx_look la2 i = some w) → Wq O F C I rest la2 st h Q) : Wq O F C I ((pc, .iinc j z, len, aux) :: rest) la st h Q := wq_iinc hx hj rfl hn (k _ (by
  unfold rx_lst
  rw [look_cons, if_pos rfl]) (fun _ _ => look_lst))
/-- a switch: the case's place is known -/
theorem wq_tsw_in {d lo hi off x : Int} {offs : Array Int} {j : Nat} {r : RRow} {z : List RRow} (hx : InI x) (h1 : lo ≤ x) (h2 : x ≤ hi) (hj : x - lo = j) (ho : rx_nth offs.toList j = some off) (ht : rx_tok pc off = true) (hz : rx_at I.2.2.1 (rx_tgt pc off) = r :: z) (k : Wq O F C I (r :: z) la st h Q) : Wq O F C I ((pc, .tableswitch d lo hi offs, len, aux) :: rest) la (wvi x :: st) h Q := wq_go (fun c k => by
  show rx_tsw F.1 I.2.2.1 pc d lo hi offs (.int (Int32.ofInt x) :: st) (fun z st => k z la st h) = _
  have e1 : decide ((Int32.ofInt x).toInt < lo) = false := decide_eq_false (by rw [wI_of hx]; omega)
  have e2 : decide (hi < (Int32.ofInt x).toInt) = false := decide_eq_false (by rw [wI_of hx]; omega)
  have e3 : ((Int32.ofInt x).toInt - lo).toNat = j := by rw [wI_of hx]; omega
  simp only [rx_tsw, e1, e2, e3, ho, rx_go, ht]
  exact rx_at_ne hz _) k
theorem wq_tsw_out {d lo hi x : Int} {offs : Array Int} {r : RRow} {z : List RRow} (hx : InI x) (h1 : x < lo ∨ hi < x) (ht : rx_tok pc d = true) (hz : rx_at I.2.2.1 (rx_tgt pc d) = r :: z) (k : Wq O F C I (r :: z) la st h Q) : Wq O F C I ((pc, .tableswitch d lo hi offs, len, aux) :: rest) la (wvi x :: st) h Q := wq_go (fun c k => by
  show rx_tsw F.1 I.2.2.1 pc d lo hi offs (.int (Int32.ofInt x) :: st) (fun z st => k z la st h) = _
  unfold rx_tsw
  have hw := wI_of hx
  have key : rx_go I.2.2.1 pc d (fun z => k z la st h) = k (r :: z) la st h := by
    unfold rx_go
    simp only [ht]
    exact rx_at_ne hz _
  by_cases h2 : x < lo
  · have e1 : decide ((Int32.ofInt x).toInt < lo) = true := decide_eq_true (by rw [hw]; exact h2)
    simp only [e1]
    exact key
  · have e1 : decide ((Int32.ofInt x).toInt < lo) = false := decide_eq_false (by rw [hw]; exact h2)
    have e2 : decide (hi < (Int32.ofInt x).toInt) = true := decide_eq_true (by rw [hw]; omega)
    simp only [e1, e2]
    exact key) k
theorem wq_lsw {d off x : Int} {ps : Array (Int × Int)} {r : RRow} {z : List RRow} (hx : InI x) (hs : (ps.toList.zip (ps.toList.drop 1)).all (fun (a, next) => a.1 < next.1) = true) (ho : rx_lk ps.toList d x = off) (ht : rx_tok pc off = true) (hz : rx_at I.2.2.1 (rx_tgt pc off) = r :: z) (k : Wq O F C I (r :: z) la st h Q) : Wq O F C I ((pc, .lookupswitch d ps, len, aux) :: rest) la (wvi x :: st) h Q := wq_go (fun c k => by
  show rx_lsw I.2.2.1 pc d ps (.int (Int32.ofInt x) :: st) (fun z st => k z la st h) = _
  unfold rx_lsw
  rw [hs]
  simp only [wI_of hx, ho, rx_go, ht]
  exact rx_at_ne hz _) k
end WlS
theorem lk_cons {a b d x : Int} {l : List (Int × Int)} : rx_lk ((a, b) :: l) d x = if a = x then b else rx_lk l d x := by
  show (match decide (a = x) with | true => b | false => rx_lk l d x) = _
  by_cases h : a = x
  · rw [if_pos h, decide_eq_true h]
  · rw [if_neg h, decide_eq_false h]
/-! the words of what is read off the code -/
def wlet {α β : Type} (a : α) (f : α → β) : β := f a
theorem wlet_of {α β : Type} {a : α} {f : α → β} {r : β} (h : wlet a f = r) : ∃ x, x = a ∧ f x = r := ⟨a, rfl, h⟩
def ck {α : Type} (i n : Int) (o : Option α) : Option α := if 0 ≤ i ∧ i < n then o else none
theorem ck_of {α : Type} {i n : Int} {o : Option α} {r : α} (h : ck i n o = some r) : 0 ≤ i ∧ i < n ∧ o = some r := by
  unfold ck at h
  split at h
  · rename_i g
    exact ⟨g.1, g.2, h⟩
  · cases h
theorem ck_pos {α : Type} {i n : Int} {o : Option α} (h1 : 0 ≤ i) (h2 : i < n) : ck i n o = o := if_pos ⟨h1, h2⟩
def cz {α : Type} (b : Int) (o : Option α) : Option α := if b = 0 then none else o
theorem cz_of {α : Type} {b : Int} {o : Option α} {r : α} (h : cz b o = some r) : b ≠ 0 ∧ o = some r := by
  unfold cz at h
  split at h
  · cases h
  · rename_i g
    exact ⟨g, h⟩
theorem cz_neg {α : Type} {b : Int} {o : Option α} (h : b ≠ 0) : cz b o = o := if_neg h
def nb {α : Type} (o : Option MS) (k : MS → Option α) : Option α := match o with
  | some m => k m
  | none => none
theorem nb_of {α : Type} {o : Option MS} {k : MS → Option α} {r : α} (h : nb o k = some r) : ∃ m, o = some m ∧ k m = some r := by
  cases o with
  | none => cases h
  | some m => exact ⟨m, rfl, h⟩
theorem nb_some {α : Type} {m : MS} {k : MS → Option α} : nb (some m) k = k m := rfl
def vb {α : Type} (o : Option (Int × MS)) (k : Int → MS → Option α) : Option α := match o with
  | some (v, m) => k v m
  | none => none
theorem vb_of {α : Type} {o : Option (Int × MS)} {k : Int → MS → Option α} {r : α} (h : vb o k = some r) : ∃ v m, o = some (v, m) ∧ k v m = some r := by
  cases o with
  | none => cases h
  | some p => exact ⟨p.1, p.2, rfl, h⟩
theorem vb_some {α : Type} {v : Int} {m : MS} {k : Int → MS → Option α} : vb (some (v, m)) k = k v m := rfl
