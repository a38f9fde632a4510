/-! the check of a method -/
def rx_any (d : Jvm.Cond) : Bool := lw_tbl.any (fun x => decide (x = d)) && goodWord d
theorem rx_any_mem {d : Jvm.Cond} (h : rx_any d = true) : d ∈ rc_good := by
  unfold rx_any at h
  rw [Bool.and_eq_true, List.any_eq_true] at h
  obtain ⟨⟨x, hx, he⟩, hg⟩ := h
  have he : x = d := of_decide_eq_true he
  subst he
  exact List.mem_filter.mpr ⟨hx, hg⟩
def rx_retok (k : Nat) (ret : Option FieldType) : Bool := match k, ret with
  | 0, none => true
  | 1, some .int => true
  | 2, some .boolean => true
  | 3, some .byte => true
  | 4, some .char => true
  | 5, some .long => true
  | 6, some (.object _) => true
  | 6, some (.array _) => true
  | _, _ => false
def rx_hok (own : String) (raw hh : List (Nat × Nat × Nat × Nat)) : Bool := match raw, hh with
  | [], [] => true
  | [x], [y] => Nat.beq x.1 y.1 && Nat.beq x.2.1 y.2.1 && Nat.beq x.2.2.1 y.2.2.1 && !Nat.beq x.2.2.2 0 && rx_any (.classLink own x.2.2.2 (rx_XN y.2.2.2))
  | _, _ => false
def rx_xok (own : String) (cc : ByteArray) (q : RRow) : Bool := match q.2.1, q.2.2.2 with
  | .new x, [7777, E, w] => rx_wd w (.classLink own x (rx_XN E)) && decide (decode cc (q.1 + 3) = .ok (.dup, 1)) && decide (decode cc (q.1 + 9) = .ok (.athrow, 1)) &&
      ((decide (own = RX11) && Nat.beq E 1 && (decide (decode cc (q.1 + 4) = .ok (.ldc 66, 2)) || decide (decode cc (q.1 + 4) = .ok (.ldc 113, 2)) || decide (decode cc (q.1 + 4) = .ok (.ldc 144, 2))) && decide (decode cc (q.1 + 6) = .ok (.invokespecial 68, 3))) ||
       (decide (own = RX10) && Nat.beq E 2 && decide (decode cc (q.1 + 4) = .ok (.ldc 150, 2)) && decide (decode cc (q.1 + 6) = .ok (.invokespecial 152, 3))))
  | _, _ => true
def rx_rowsok (sigs : List RSig) (sg : RSig) (rows : List RRow) : Bool := rows.all (fun q => rx_chk (decide (sg.1.name = "<init>")) sg.1.cls sg.2.1 sigs q && rx_xok sg.1.cls sg.2.1 q)
def rx_mok0 (sg : RSig) (I : RInf) : Bool := Nat.beq I.1 sg.2.2.2.2.2.2.2.2 && plainFor sg.1 && (sg.2.2.2.2.2.2.2.1.isEmpty || Jvm.plainName sg.1.cls) && rx_retok I.2.1 sg.2.2.1 && (match I.2.2.1 with
  | r :: _ => Nat.beq r.1 0
  | [] => false) && rx_hok sg.1.cls sg.2.2.2.2.2.2.2.1 I.2.2.2
