/-! the same runner, its rows taken by the recursors themselves -/
abbrev RStep : Type := ROld → RFacts → (Nat → List Value → RHeap → Option RRes) → RInf → (List RRow → RLoc → List Value → RHeap → Option RRes) → Nat → Nat → List Nat → List RRow → RLoc → List Value → RHeap → Option RRes
noncomputable def rf_tl {α : Type} (l : List α) : List α := List.rec (motive := fun _ => List α) [] (fun _ t _ => t) l
noncomputable def rf_dr {α : Type} (l : List α) (k : Nat) : List α := Nat.rec (motive := fun _ => List α) l (fun _ ih => rf_tl ih) k
noncomputable def rf_nth {α : Type} (l : List α) (k : Nat) : Option α := List.rec (motive := fun _ => Option α) none (fun a _ _ => some a) (rf_dr l k)
theorem rf_dr_nil {α : Type} (k : Nat) : rf_dr ([] : List α) k = [] := by
  induction k with
  | zero => rfl
  | succ k ih => show rf_tl (rf_dr [] k) = []; rw [ih]; rfl
theorem rf_dr_cons {α : Type} (a : α) (l : List α) (k : Nat) : rf_dr (a :: l) (k + 1) = rf_dr l k := by
  induction k with
  | zero => rfl
  | succ k ih => show rf_tl (rf_dr (a :: l) (k + 1)) = rf_tl (rf_dr l k); rw [ih]
noncomputable def rf_set {α : Type} (l : List α) : Nat → α → List α := List.rec (motive := fun _ => Nat → α → List α) (fun _ _ => []) (fun a t ih k x => Nat.rec (motive := fun _ => List α) (x :: t) (fun k _ => a :: ih k x) k) l
noncomputable def rf_look (l : List (Nat × Value)) : Nat → Option Value := List.rec (motive := fun _ => Nat → Option Value) (fun _ => none) (fun q _ ih i => Bool.rec (motive := fun _ => Option Value) (ih i) (some q.2) (Nat.beq q.1 i)) l
noncomputable def rf_at (l : List RRow) : Nat → List RRow := List.rec (motive := fun _ => Nat → List RRow) (fun _ => []) (fun r t ih pc => Bool.rec (motive := fun _ => List RRow) (ih pc) (r :: t) (Nat.beq r.1 pc)) l
theorem rf_nth_eq : @rf_nth = @rx_nth := by
  funext α l
  induction l with
  | nil => funext k; unfold rf_nth; rw [rf_dr_nil]; rfl
  | cons a l ih =>
    funext k
    cases k with
    | zero => rfl
    | succ k =>
      have h := congrFun ih k
      unfold rf_nth at h ⊢
      rw [rf_dr_cons]
      exact h
theorem rf_set_eq : @rf_set = @List.set := by
  funext α l
  induction l with
  | nil => funext k x; rfl
  | cons a l ih =>
    funext k x
    cases k with
    | zero => rfl
    | succ k => exact congrArg (List.cons a) (congrFun (congrFun ih k) x)
theorem rf_look_eq : rf_look = rx_look := by
  funext l
  induction l with
  | nil => funext i; rfl
  | cons q l ih =>
    funext i
    obtain ⟨j, v⟩ := q
    show Bool.rec (motive := fun _ => Option Value) (rf_look l i) (some v) (Nat.beq j i) = rx_look ((j, v) :: l) i
    rw [congrFun ih i]
    simp only [rx_look]
    cases Nat.beq j i <;> rfl
theorem rf_at_eq : rf_at = rx_at := by
  funext l
  induction l with
  | nil => funext i; rfl
  | cons r l ih =>
    funext pc
    show Bool.rec (motive := fun _ => List RRow) (rf_at l pc) (r :: l) (Nat.beq r.1 pc) = rx_at (r :: l) pc
    rw [congrFun ih pc]
    simp only [rx_at]
    cases Nat.beq r.1 pc <;> rfl
noncomputable def rf_fty (ci f : Nat) : Option FieldType := match rf_nth rc_ftl ci with
  | some l => rf_nth l f
  | none => none
theorem rf_fty_eq : @rf_fty = @rc_fty := by
  unfold rf_fty rc_fty
  simp only [rf_nth_eq, rf_set_eq, rf_look_eq, rf_at_eq] <;> rfl
noncomputable def rf_elt (t : Nat) (u : List (Nat × Value)) (j : Nat) : Value := match rf_look u j with
  | some v => v
  | none => rx_dv t
theorem rf_elt_eq : @rf_elt = @rx_elt := by
  unfold rf_elt rx_elt
  simp only [rf_nth_eq, rf_set_eq, rf_look_eq, rf_at_eq, rf_fty_eq] <;> rfl
noncomputable def rf_ald (O : ROld) (q : Nat → Bool) (st : List Value) (h : RHeap) (k : List Value → Option RRes) : Option RRes := match st with
  | .int i :: .ref a :: r => match rx_old a with
    | true => match rx_oldA O.2 (a - 1000000) with
      | some (t, l) => match q t, decide (i < 0) with
        | true, false => match rf_nth l i.toNatClampNeg with
          | some v => k (v :: r)
          | none => none
        | _, _ => none
      | none => none
    | false => match rf_nth h a with
      | some (.inl (t, n, u)) => match q t, decide (i < 0), Nat.blt i.toNatClampNeg n with
        | true, false, true => k (rf_elt t u i.toNatClampNeg :: r)
        | _, _, _ => none
      | _ => none
  | _ => none
theorem rf_ald_eq : @rf_ald = @rx_ald := by
  unfold rf_ald rx_ald
  simp only [rf_nth_eq, rf_set_eq, rf_look_eq, rf_at_eq, rf_fty_eq, rf_elt_eq] <;> rfl
noncomputable def rf_ast (q : Nat → Bool) (f : Nat → Value → Option Value) (st : List Value) (h : RHeap) (k : List Value → RHeap → Option RRes) : Option RRes := match st with
  | v :: .int i :: .ref a :: r => match rf_nth h a with
    | some (.inl (t, n, u)) => match q t && Nat.blt a 1000000, decide (i < 0), Nat.blt i.toNatClampNeg n, f t v with
      | true, false, true, some w => rx_lit i.toNatClampNeg (fun j => k r (rf_set h a (.inl (t, n, (j, w) :: u))))
      | _, _, _, _ => none
    | _ => none
  | _ => none
theorem rf_ast_eq : @rf_ast = @rx_ast := by
  unfold rf_ast rx_ast
  simp only [rf_nth_eq, rf_set_eq, rf_look_eq, rf_at_eq, rf_fty_eq, rf_elt_eq, rf_ald_eq] <;> rfl
noncomputable def rf_len (O : ROld) (st : List Value) (h : RHeap) (k : List Value → Option RRes) : Option RRes := match st with
  | .ref a :: r => match rx_old a with
    | true => match rx_oldA O.2 (a - 1000000) with
      | some (_, l) => k (.int (Int32.ofNat l.length) :: r)
      | none => none
    | false => match rf_nth h a with
      | some (.inl (_, n, _)) => k (.int (Int32.ofNat n) :: r)
      | _ => none
  | _ => none
theorem rf_len_eq : @rf_len = @rx_len := by
  unfold rf_len rx_len
  simp only [rf_nth_eq, rf_set_eq, rf_look_eq, rf_at_eq, rf_fty_eq, rf_elt_eq, rf_ald_eq, rf_ast_eq] <;> rfl
noncomputable def rf_gf (O : ROld) (ci f : Nat) (st : List Value) (h : RHeap) (k : List Value → Option RRes) : Option RRes := match st with
  | .ref a :: r => match rx_old a with
    | true => match rx_oldF O.1 (a - 1000000) ci f with
      | some v => k (v :: r)
      | none => none
    | false => match rf_nth h a with
      | some (.inr (c, fs)) => match Nat.beq c ci, rf_nth fs f with
        | true, some v => k (v :: r)
        | _, _ => none
      | _ => none
  | _ => none
theorem rf_gf_eq : @rf_gf = @rx_gf := by
  unfold rf_gf rx_gf
  simp only [rf_nth_eq, rf_set_eq, rf_look_eq, rf_at_eq, rf_fty_eq, rf_elt_eq, rf_ald_eq, rf_ast_eq, rf_len_eq] <;> rfl
noncomputable def rf_pf (ty : Option FieldType) (ci f : Nat) (st : List Value) (h : RHeap) (k : List Value → RHeap → Option RRes) : Option RRes := match st with
  | v :: .ref a :: r => match rf_nth h a, ty with
    | some (.inr (c, fs)), some ty => match Nat.beq c ci, rx_fit ty v, Nat.blt f fs.length && Nat.blt a 1000000 with
      | true, true, true => k r (rf_set h a (.inr (c, rf_set fs f v)))
      | _, _, _ => none
    | _, _ => none
  | _ => none
theorem rf_pf_eq : @rf_pf = @rx_pf := by
  unfold rf_pf rx_pf
  simp only [rf_nth_eq, rf_set_eq, rf_look_eq, rf_at_eq, rf_fty_eq, rf_elt_eq, rf_ald_eq, rf_ast_eq, rf_len_eq, rf_gf_eq] <;> rfl
noncomputable def rf_ld (q : Value → Bool) (la : RLoc) (i : Nat) (st : List Value) (k : List Value → Option RRes) : Option RRes := match rf_look la i with
  | some v => match q v with
    | true => k (v :: st)
    | false => none
  | none => none
theorem rf_ld_eq : @rf_ld = @rx_ld := by
  unfold rf_ld rx_ld
  simp only [rf_nth_eq, rf_set_eq, rf_look_eq, rf_at_eq, rf_fty_eq, rf_elt_eq, rf_ald_eq, rf_ast_eq, rf_len_eq, rf_gf_eq, rf_pf_eq] <;> rfl
noncomputable def rf_to (rows : List RRow) (t : Nat) (k : List RRow → Option RRes) : Option RRes := match rf_at rows t with
  | r :: z => k (r :: z)
  | [] => none
theorem rf_to_eq : @rf_to = @rx_to := by
  unfold rf_to rx_to
  simp only [rf_nth_eq, rf_set_eq, rf_look_eq, rf_at_eq, rf_fty_eq, rf_elt_eq, rf_ald_eq, rf_ast_eq, rf_len_eq, rf_gf_eq, rf_pf_eq, rf_ld_eq] <;> rfl
noncomputable def rf_go (rows : List RRow) (pc : Nat) (off : Int) (k : List RRow → Option RRes) : Option RRes := match rx_tok pc off with
  | true => rf_to rows (rx_tgt pc off) k
  | false => none
theorem rf_go_eq : @rf_go = @rx_go := by
  unfold rf_go rx_go
  simp only [rf_nth_eq, rf_set_eq, rf_look_eq, rf_at_eq, rf_fty_eq, rf_elt_eq, rf_ald_eq, rf_ast_eq, rf_len_eq, rf_gf_eq, rf_pf_eq, rf_ld_eq, rf_to_eq] <;> rfl
noncomputable def rf_aast (st : List Value) (h : RHeap) (k : List Value → RHeap → Option RRes) : Option RRes := match st with
  | v :: .int i :: .ref a :: r => match rf_nth h a with
    | some (.inl (t, n, u)) => match decide (i < 0), Nat.blt i.toNatClampNeg n, v with
      | false, true, .null => match Nat.ble 4 t && Nat.blt a 1000000 with
        | true => rx_lit i.toNatClampNeg (fun j => k r (rf_set h a (.inl (t, n, (j, v) :: u))))
        | false => none
      | false, true, .ref b => match rf_nth h b, rf_nth rc_arc t with
        | some (.inr (ci, _)), some c => match Nat.beq ci c, Nat.ble 4 t && Nat.blt a 1000000 && Nat.blt b 1000000 with
          | true, true => rx_lit i.toNatClampNeg (fun j => k r (rf_set h a (.inl (t, n, (j, v) :: u))))
          | _, _ => none
        | _, _ => none
      | _, _, _ => none
    | _ => none
  | _ => none
theorem rf_aast_eq : @rf_aast = @rx_aast := by
  unfold rf_aast rx_aast
  simp only [rf_nth_eq, rf_set_eq, rf_look_eq, rf_at_eq, rf_fty_eq, rf_elt_eq, rf_ald_eq, rf_ast_eq, rf_len_eq, rf_gf_eq, rf_pf_eq, rf_ld_eq, rf_to_eq, rf_go_eq] <;> rfl
noncomputable def rf_new (ci : Nat) (st : List Value) (h : RHeap) (k : List Value → RHeap → Option RRes) : Option RRes := match rf_nth rc_dfl ci with
  | some fs => match Nat.blt h.length 1000000 with
    | true => rx_more 1 fs.length (k (.ref h.length :: st) (h ++ [.inr (ci, fs)]))
    | false => none
  | none => none
theorem rf_new_eq : @rf_new = @rx_new := by
  unfold rf_new rx_new
  simp only [rf_nth_eq, rf_set_eq, rf_look_eq, rf_at_eq, rf_fty_eq, rf_elt_eq, rf_ald_eq, rf_ast_eq, rf_len_eq, rf_gf_eq, rf_pf_eq, rf_ld_eq, rf_to_eq, rf_go_eq, rf_aast_eq] <;> rfl
noncomputable def rf_inc (nL : Nat) (la : RLoc) (i : Nat) (n : Int) (k : RLoc → Option RRes) : Option RRes := match rf_look la i with
  | some (.int x) => match Nat.blt i nL with
    | true => k (rx_lst la i (.int (x + Int32.ofInt n)))
    | false => none
  | _ => none
theorem rf_inc_eq : @rf_inc = @rx_inc := by
  unfold rf_inc rx_inc
  simp only [rf_nth_eq, rf_set_eq, rf_look_eq, rf_at_eq, rf_fty_eq, rf_elt_eq, rf_ald_eq, rf_ast_eq, rf_len_eq, rf_gf_eq, rf_pf_eq, rf_ld_eq, rf_to_eq, rf_go_eq, rf_aast_eq, rf_new_eq] <;> rfl
noncomputable def rf_recv (O : ROld) (ci : Nat) (h : RHeap) : Value → Bool
  | .ref a => match rx_old a with
    | true => match rx_oldF O.1 (a - 1000000) ci 0 with
      | some _ => true
      | none => false
    | false => match rf_nth h a with
      | some (.inr (c, _)) => Nat.beq c ci
      | _ => false
  | _ => false
theorem rf_recv_eq : @rf_recv = @rx_recv := by
  unfold rf_recv rx_recv
  simp only [rf_nth_eq, rf_set_eq, rf_look_eq, rf_at_eq, rf_fty_eq, rf_elt_eq, rf_ald_eq, rf_ast_eq, rf_len_eq, rf_gf_eq, rf_pf_eq, rf_ld_eq, rf_to_eq, rf_go_eq, rf_aast_eq, rf_new_eq, rf_inc_eq] <;> rfl
noncomputable def rf_inv (O : ROld) (C : Nat → List Value → RHeap → Option RRes) (st : List Value) (h : RHeap) (mi n ci : Nat) (kind : Nat) (k : List Value → Option RRes → Option RRes) : Option RRes := match rx_take n [] st with
  | some (as, r) => match kind with
    | 0 => match Nat.ble (rx_cats r) 8 with
      | true => k r (C mi as h)
      | false => none
    | _ => match r with
      | b :: r => match Nat.ble (rx_cats r) 8, rf_recv O ci h b with
        | true, true => k r (C mi (b :: as) h)
        | _, _ => none
      | [] => none
  | none => none
theorem rf_inv_eq : @rf_inv = @rx_inv := by
  unfold rf_inv rx_inv
  simp only [rf_nth_eq, rf_set_eq, rf_look_eq, rf_at_eq, rf_fty_eq, rf_elt_eq, rf_ald_eq, rf_ast_eq, rf_len_eq, rf_gf_eq, rf_pf_eq, rf_ld_eq, rf_to_eq, rf_go_eq, rf_aast_eq, rf_new_eq, rf_inc_eq, rf_recv_eq] <;> rfl
noncomputable def rf_tsw (F : RFact) (rows : List RRow) (pc : Nat) (dflt lo hi : Int) (offs : Array Int) (st : List Value) (k : List RRow → List Value → Option RRes) : Option RRes := match st with
  | .int x :: r => match decide (x.toInt < lo), decide (hi < x.toInt) with
    | false, false => match rf_nth offs.toList (x.toInt - lo).toNat with
      | some off => rf_go rows pc off (fun z => k z r)
      | none => none
    | _, _ => rf_go rows pc dflt (fun z => k z r)
  | .float i :: r => match decide (i = 0), rx_fact F i .lt (Int32.ofInt lo), rx_fact F i .gt (Int32.ofInt hi), decide ((Int32.ofInt lo).toInt = lo), decide ((Int32.ofInt hi).toInt = hi) with
    | false, some true, _, true, _ => rf_go rows pc dflt (fun z => k z r)
    | false, _, some true, _, true => rf_go rows pc dflt (fun z => k z r)
    | _, _, _, _, _ => none
  | _ => none
theorem rf_tsw_eq : @rf_tsw = @rx_tsw := by
  unfold rf_tsw rx_tsw
  simp only [rf_nth_eq, rf_set_eq, rf_look_eq, rf_at_eq, rf_fty_eq, rf_elt_eq, rf_ald_eq, rf_ast_eq, rf_len_eq, rf_gf_eq, rf_pf_eq, rf_ld_eq, rf_to_eq, rf_go_eq, rf_aast_eq, rf_new_eq, rf_inc_eq, rf_recv_eq, rf_inv_eq] <;> rfl
noncomputable def rf_cp0 (st : List Value) (h : RHeap) (k : List Value → Option RRes) : Option RRes := match st with
  | .int n :: .int dp :: .ref a :: .int sp :: .ref b :: r => match decide (n = 0), decide (dp = 0), decide (sp = 0), Nat.blt a 1000000 && Nat.blt b 1000000 && Nat.ble (rx_cats r) 8, rf_nth h a, rf_nth h b with
    | true, true, true, true, some (.inl (2, _, _)), some (.inl (2, _, _)) => k r
    | _, _, _, _, _, _ => none
  | _ => none
theorem rf_cp0_eq : @rf_cp0 = @rx_cp0 := by
  unfold rf_cp0 rx_cp0
  simp only [rf_nth_eq, rf_set_eq, rf_look_eq, rf_at_eq, rf_fty_eq, rf_elt_eq, rf_ald_eq, rf_ast_eq, rf_len_eq, rf_gf_eq, rf_pf_eq, rf_ld_eq, rf_to_eq, rf_go_eq, rf_aast_eq, rf_new_eq, rf_inc_eq, rf_recv_eq, rf_inv_eq, rf_tsw_eq] <;> rfl
noncomputable def rf_one (i : Instr) : RStep := Instr.rec (motive := fun _ => RStep)
  (fun O F C I k pc len aux rest la st h => rf_ald O (fun t => Nat.ble 4 t) st h (fun st => rx_nx k rest (pc + len) la st h))
  (fun O F C I k pc len aux rest la st h => rf_aast st h (fun st h => rx_nx k rest (pc + len) la st h))
  (fun O F C I k pc len aux rest la st h => rx_nx k rest (pc + len) la (.null :: st) h)
  (fun n O F C I k pc len aux rest la st h => rf_ld rx_isA la n st (fun st => rx_nx k rest (pc + len) la st h))
  (fun n O F C I k pc len aux rest la st h => rf_ld rx_isA la n st (fun st => rx_nx k rest (pc + len) la st h))
  (fun _ O F C I k pc len aux rest la st h => match aux with
      | [t, _] => rx_newa t st h (fun st h => rx_nx k rest (pc + len) la st h)
      | _ => none)
  (fun O F C I k pc len aux rest la st h => match st, I.2.1 with
      | [v], 6 => match rx_isA v with
        | true => some (.inl (some v), h, 0, 0)
        | false => none
      | _, _ => none)
  (fun O F C I k pc len aux rest la st h => rf_len O st h (fun st => rx_nx k rest (pc + len) la st h))
  (fun n O F C I k pc len aux rest la st h => rx_str rx_isA I.1 la n st (fun la st => rx_nx k rest (pc + len) la st h))
  (fun n O F C I k pc len aux rest la st h => rx_str rx_isA I.1 la n st (fun la st => rx_nx k rest (pc + len) la st h))
  (fun _ _ _ _ _ _ _ _ _ _ _ _ => none)
  (fun O F C I k pc len aux rest la st h => rf_ald O (fun t => Nat.beq t 2 || Nat.beq t 3) st h (fun st => rx_nx k rest (pc + len) la st h))
  (fun O F C I k pc len aux rest la st h => rf_ast (fun t => Nat.beq t 2 || Nat.beq t 3) (fun t v => match rx_isI v with | true => some (rx_iu (vp_nar (match t with | 2 => .byte | _ => .boolean)) v) | false => none) st h (fun st h => rx_nx k rest (pc + len) la st h))
  (fun n O F C I k pc len aux rest la st h => rx_nx k rest (pc + len) la (.int (Int8.ofInt n).toInt32 :: st) h)
  (fun _ _ _ _ _ _ _ _ _ _ _ _ => none)
  (fun _ _ _ _ _ _ _ _ _ _ _ _ => none)
  (fun _ _ _ _ _ _ _ _ _ _ _ _ _ => none)
  (fun _ _ _ _ _ _ _ _ _ _ _ _ => none)
  (fun _ _ _ _ _ _ _ _ _ _ _ _ => none)
  (fun _ _ _ _ _ _ _ _ _ _ _ _ => none)
  (fun _ _ _ _ _ _ _ _ _ _ _ _ => none)
  (fun _ _ _ _ _ _ _ _ _ _ _ _ => none)
  (fun _ _ _ _ _ _ _ _ _ _ _ _ => none)
  (fun _ _ _ _ _ _ _ _ _ _ _ _ _ => none)
  (fun _ _ _ _ _ _ _ _ _ _ _ _ _ => none)
  (fun _ _ _ _ _ _ _ _ _ _ _ _ => none)
  (fun _ _ _ _ _ _ _ _ _ _ _ _ _ => none)
  (fun _ _ _ _ _ _ _ _ _ _ _ _ _ => none)
  (fun _ _ _ _ _ _ _ _ _ _ _ _ => none)
  (fun _ _ _ _ _ _ _ _ _ _ _ _ => none)
  (fun _ _ _ _ _ _ _ _ _ _ _ _ => none)
  (fun _ _ _ _ _ _ _ _ _ _ _ _ => none)
  (fun _ _ _ _ _ _ _ _ _ _ _ _ _ => none)
  (fun _ _ _ _ _ _ _ _ _ _ _ _ _ => none)
  (fun _ _ _ _ _ _ _ _ _ _ _ _ => none)
  (fun O F C I k pc len aux rest la st h => rx_dup st (fun st => rx_nx k rest (pc + len) la st h))
  (fun O F C I k pc len aux rest la st h => rx_dupx1 st (fun st => rx_nx k rest (pc + len) la st h))
  (fun _ _ _ _ _ _ _ _ _ _ _ _ => none)
  (fun _ _ _ _ _ _ _ _ _ _ _ _ => none)
  (fun _ _ _ _ _ _ _ _ _ _ _ _ => none)
  (fun _ _ _ _ _ _ _ _ _ _ _ _ => none)
  (fun _ _ _ _ _ _ _ _ _ _ _ _ => none)
  (fun _ _ _ _ _ _ _ _ _ _ _ _ => none)
  (fun _ _ _ _ _ _ _ _ _ _ _ _ => none)
  (fun _ _ _ _ _ _ _ _ _ _ _ _ => none)
  (fun _ _ _ _ _ _ _ _ _ _ _ _ => none)
  (fun _ _ _ _ _ _ _ _ _ _ _ _ => none)
  (fun _ _ _ _ _ _ _ _ _ _ _ _ _ => none)
  (fun _ _ _ _ _ _ _ _ _ _ _ _ _ => none)
  (fun _ _ _ _ _ _ _ _ _ _ _ _ => none)
  (fun _ _ _ _ _ _ _ _ _ _ _ _ _ => none)
  (fun _ _ _ _ _ _ _ _ _ _ _ _ _ => none)
  (fun _ _ _ _ _ _ _ _ _ _ _ _ => none)
  (fun _ _ _ _ _ _ _ _ _ _ _ _ => none)
  (fun _ _ _ _ _ _ _ _ _ _ _ _ => none)
  (fun _ _ _ _ _ _ _ _ _ _ _ _ => none)
  (fun _ _ _ _ _ _ _ _ _ _ _ _ _ => none)
  (fun _ _ _ _ _ _ _ _ _ _ _ _ _ => none)
  (fun _ _ _ _ _ _ _ _ _ _ _ _ => none)
  (fun _ O F C I k pc len aux rest la st h => match aux with
      | [ci, f, _] => rf_gf O ci f st h (fun st => rx_nx k rest (pc + len) la st h)
      | _ => none)
  (fun _ O F C I k pc len aux rest la st h => match aux with
      | [0, _] => rx_nx k rest (pc + len) la (.int 1 :: st) h
      | [1, _] => rx_nx k rest (pc + len) la (.ref 2000000 :: st) h
      | _ => none)
  (fun off O F C I k pc len aux rest la st h => rf_go I.2.2.1 pc off (fun z => k z la st h))
  (fun _ _ _ _ _ _ _ _ _ _ _ _ _ => none)
  (fun O F C I k pc len aux rest la st h => rx_b1 (rx_iu (fun x => x.toInt8.toInt32)) rx_isI st (fun st => rx_nx k rest (pc + len) la st h))
  (fun O F C I k pc len aux rest la st h => rx_b1 (rx_iu (fun x => (x.toUInt32 % 65536).toInt32)) rx_isI st (fun st => rx_nx k rest (pc + len) la st h))
  (fun _ _ _ _ _ _ _ _ _ _ _ _ => none)
  (fun _ _ _ _ _ _ _ _ _ _ _ _ => none)
  (fun O F C I k pc len aux rest la st h => rx_b1 rx_i2l rx_isI st (fun st => rx_nx k rest (pc + len) la st h))
  (fun _ _ _ _ _ _ _ _ _ _ _ _ => none)
  (fun O F C I k pc len aux rest la st h => rx_b2 (rx_ib (fun x y => x + y)) rx_isI rx_isI st (fun st => rx_nx k rest (pc + len) la st h))
  (fun O F C I k pc len aux rest la st h => rf_ald O (fun t => Nat.beq t 0) st h (fun st => rx_nx k rest (pc + len) la st h))
  (fun O F C I k pc len aux rest la st h => rx_b2 (rx_iand F.2.1) rx_isI rx_isI st (fun st => rx_nx k rest (pc + len) la st h))
  (fun O F C I k pc len aux rest la st h => rf_ast (fun t => Nat.beq t 0) (fun _ v => match rx_isI v with | true => some v | false => none) st h (fun st h => rx_nx k rest (pc + len) la st h))
  (fun n O F C I k pc len aux rest la st h => rx_nx k rest (pc + len) la (.int (Int32.ofInt n) :: st) h)
  (fun _ _ _ _ _ _ _ _ _ _ _ _ => none)
  (fun _ _ _ _ _ _ _ _ _ _ _ _ _ _ => none)
  (fun c off O F C I k pc len aux rest la st h => match st with
      | b :: a :: r => match rx_isI a, rx_isI b, rx_tok pc off with
        | true, true, true => rx_br (rx_cmp F.1 c a b) (fun _ => rf_to I.2.2.1 (rx_tgt pc off) (fun z => k z la r h)) (fun _ => rx_nx k rest (pc + len) la r h)
        | _, _, _ => none
      | _ => none)
  (fun c off O F C I k pc len aux rest la st h => match st with
      | a :: r => match rx_isI a, rx_tok pc off with
        | true, true => rx_br (rx_cmp F.1 c a (.int 0)) (fun _ => rf_to I.2.2.1 (rx_tgt pc off) (fun z => k z la r h)) (fun _ => rx_nx k rest (pc + len) la r h)
        | _, _ => none
      | _ => none)
  (fun _ _ _ _ _ _ _ _ _ _ _ _ _ => none)
  (fun _ _ _ _ _ _ _ _ _ _ _ _ _ => none)
  (fun n z O F C I k pc len aux rest la st h => rf_inc I.1 la n z (fun la => rx_nx k rest (pc + len) la st h))
  (fun n O F C I k pc len aux rest la st h => rf_ld rx_isI la n st (fun st => rx_nx k rest (pc + len) la st h))
  (fun n O F C I k pc len aux rest la st h => rf_ld rx_isI la n st (fun st => rx_nx k rest (pc + len) la st h))
  (fun O F C I k pc len aux rest la st h => rx_b2 (rx_ib (fun x y => x * y)) rx_isI rx_isI st (fun st => rx_nx k rest (pc + len) la st h))
  (fun O F C I k pc len aux rest la st h => rx_b1 (rx_iu (fun x => -x)) rx_isI st (fun st => rx_nx k rest (pc + len) la st h))
  (fun _ _ _ _ _ _ _ _ _ _ _ _ _ => none)
  (fun _ _ _ _ _ _ _ _ _ _ _ _ _ => none)
  (fun _ _ _ _ _ _ _ _ _ _ _ _ _ _ => none)
  (fun _ O F C I k pc len aux rest la st h => match aux with
      | [9999, _] => match st with
        | .ref a :: r => match Nat.ble (rx_cats r) 8, Nat.blt a 2000000 with
          | true, true => rx_nx k rest (pc + len) la r h
          | _, _ => none
        | _ => none
      | [mi, n, ci, _] => rf_inv O C st h mi n ci 1 (fun r o => rx_backN r o (fun st h => rx_nx k rest (pc + len) la st h))
      | _ => none)
  (fun _ O F C I k pc len aux rest la st h => match aux with
      | [8888, _] => rf_cp0 st h (fun st => rx_nx k rest (pc + len) la st h)
      | [mi, n, _] => rf_inv O C st h mi n 0 0 (fun r o => rx_backN r o (fun st h => rx_nx k rest (pc + len) la st h))
      | _ => none)
  (fun _ O F C I k pc len aux rest la st h => match aux with
      | [mi, n, ci, _] => rf_inv O C st h mi n ci 1 (fun r o => rx_back I.2.2.2 pc r o (fun st h => rx_nx k rest (pc + len) la st h) (fun t h => rf_to I.2.2.1 t (fun z => k z la [.ref 2000000] h)))
      | _ => none)
  (fun O F C I k pc len aux rest la st h => rx_b2 (rx_ib (fun x y => x ||| y)) rx_isI rx_isI st (fun st => rx_nx k rest (pc + len) la st h))
  (fun _ _ _ _ _ _ _ _ _ _ _ _ => none)
  (fun O F C I k pc len aux rest la st h => match st, I.2.1 with
      | [.int x], 1 => some (.inl (some (.int x)), h, 0, 0)
      | [.float x], 1 => some (.inl (some (.float x)), h, 0, 0)
      | [.int x], 2 => match decide (narrow .boolean (.int x) = .int x) with
        | true => some (.inl (some (.int x)), h, 0, 0)
        | false => none
      | [.int x], 3 => match decide (narrow .byte (.int x) = .int x) with
        | true => some (.inl (some (.int x)), h, 0, 0)
        | false => none
      | [.int x], 4 => match decide (narrow .char (.int x) = .int x) with
        | true => some (.inl (some (.int x)), h, 0, 0)
        | false => none
      | _, _ => none)
  (fun O F C I k pc len aux rest la st h => rx_b2 (rx_ib (fun x y => x <<< (y &&& 31))) rx_isI rx_isI st (fun st => rx_nx k rest (pc + len) la st h))
  (fun O F C I k pc len aux rest la st h => rx_b2 (rx_ib (fun x y => x >>> (y &&& 31))) rx_isI rx_isI st (fun st => rx_nx k rest (pc + len) la st h))
  (fun n O F C I k pc len aux rest la st h => rx_str rx_isI I.1 la n st (fun la st => rx_nx k rest (pc + len) la st h))
  (fun n O F C I k pc len aux rest la st h => rx_str rx_isI I.1 la n st (fun la st => rx_nx k rest (pc + len) la st h))
  (fun O F C I k pc len aux rest la st h => rx_b2 (rx_ib (fun x y => x - y)) rx_isI rx_isI st (fun st => rx_nx k rest (pc + len) la st h))
  (fun _ _ _ _ _ _ _ _ _ _ _ _ => none)
  (fun _ _ _ _ _ _ _ _ _ _ _ _ => none)
  (fun _ _ _ _ _ _ _ _ _ _ _ _ _ => none)
  (fun _ _ _ _ _ _ _ _ _ _ _ _ _ => none)
  (fun _ _ _ _ _ _ _ _ _ _ _ _ => none)
  (fun _ _ _ _ _ _ _ _ _ _ _ _ => none)
  (fun O F C I k pc len aux rest la st h => rx_b1 rx_l2i rx_isL st (fun st => rx_nx k rest (pc + len) la st h))
  (fun O F C I k pc len aux rest la st h => rx_b2 rx_ladd rx_isL rx_isL st (fun st => rx_nx k rest (pc + len) la st h))
  (fun O F C I k pc len aux rest la st h => rf_ald O (fun t => Nat.beq t 1) st h (fun st => rx_nx k rest (pc + len) la st h))
  (fun O F C I k pc len aux rest la st h => rx_b2 (rx_lb (fun x y => x &&& y)) rx_isL rx_isL st (fun st => rx_nx k rest (pc + len) la st h))
  (fun O F C I k pc len aux rest la st h => rf_ast (fun t => Nat.beq t 1) (fun _ v => match rx_isL v with | true => some v | false => none) st h (fun st h => rx_nx k rest (pc + len) la st h))
  (fun O F C I k pc len aux rest la st h => rx_b2 (rx_lcA F.2.2) rx_isL rx_isL st (fun st => rx_nx k rest (pc + len) la st h))
  (fun n O F C I k pc len aux rest la st h => rx_nx k rest (pc + len) la (.long (Int64.ofNat (n : Nat)) :: st) h)
  (fun _ O F C I k pc len aux rest la st h => match aux with
      | [0, v, _] => rx_nx k rest (pc + len) la (.int (Int32.ofNat v) :: st) h
      | [1, j, _] => rx_nx k rest (pc + len) la (.ref (1000000 + j) :: st) h
      | _ => none)
  (fun _ _ _ _ _ _ _ _ _ _ _ _ _ => none)
  (fun _ O F C I k pc len aux rest la st h => match aux with
      | [v, _] => rx_nx k rest (pc + len) la (.long (Int64.ofNat v) :: st) h
      | _ => none)
  (fun _ _ _ _ _ _ _ _ _ _ _ _ => none)
  (fun n O F C I k pc len aux rest la st h => rf_ld rx_isL la n st (fun st => rx_nx k rest (pc + len) la st h))
  (fun n O F C I k pc len aux rest la st h => rf_ld rx_isL la n st (fun st => rx_nx k rest (pc + len) la st h))
  (fun O F C I k pc len aux rest la st h => rx_b2 (rx_lb (fun x y => x * y)) rx_isL rx_isL st (fun st => rx_nx k rest (pc + len) la st h))
  (fun _ _ _ _ _ _ _ _ _ _ _ _ => none)
  (fun _ _ _ _ _ _ _ _ _ _ _ _ _ _ => none)
  (fun O F C I k pc len aux rest la st h => rx_b2 (rx_lb (fun x y => x ||| y)) rx_isL rx_isL st (fun st => rx_nx k rest (pc + len) la st h))
  (fun _ _ _ _ _ _ _ _ _ _ _ _ => none)
  (fun O F C I k pc len aux rest la st h => match st, I.2.1 with
      | [v], 5 => match rx_isL v with
        | true => some (.inl (some v), h, 0, 0)
        | false => none
      | _, _ => none)
  (fun O F C I k pc len aux rest la st h => rx_b2 (rx_ls (fun x y => x <<< (y.toInt64 &&& 63))) rx_isL rx_isI st (fun st => rx_nx k rest (pc + len) la st h))
  (fun O F C I k pc len aux rest la st h => rx_b2 (rx_ls (fun x y => x >>> (y.toInt64 &&& 63))) rx_isL rx_isI st (fun st => rx_nx k rest (pc + len) la st h))
  (fun n O F C I k pc len aux rest la st h => rx_str2 rx_isL I.1 la n st (fun la st => rx_nx k rest (pc + len) la st h))
  (fun n O F C I k pc len aux rest la st h => rx_str2 rx_isL I.1 la n st (fun la st => rx_nx k rest (pc + len) la st h))
  (fun O F C I k pc len aux rest la st h => rx_b2 (rx_lb (fun x y => x - y)) rx_isL rx_isL st (fun st => rx_nx k rest (pc + len) la st h))
  (fun O F C I k pc len aux rest la st h => rx_b2 (rx_ls (fun x y => (x.toUInt64 >>> (y.toInt64.toUInt64 &&& Int64.toUInt64 63)).toInt64)) rx_isL rx_isI st (fun st => rx_nx k rest (pc + len) la st h))
  (fun _ _ _ _ _ _ _ _ _ _ _ _ => none)
  (fun _ _ _ _ _ _ _ _ _ _ _ _ => none)
  (fun _ _ _ _ _ _ _ _ _ _ _ _ => none)
  (fun _ _ _ _ _ _ _ _ _ _ _ _ _ _ => none)
  (fun _ O F C I k pc len aux rest la st h => match aux with
      | [7777, E, _] => match I.2.2.2, st with
        | [], [] => some (.inr E, h, 1, 6)
        | _, _ => none
      | [ci, _] => rf_new ci st h (fun st h => rx_nx k rest (pc + len) la st h)
      | _ => none)
  (fun _ O F C I k pc len aux rest la st h => match aux with
      | [t] => rx_newa t st h (fun st h => rx_nx k rest (pc + len) la st h)
      | _ => none)
  (fun _ _ _ _ _ _ _ _ _ _ _ _ => none)
  (fun O F C I k pc len aux rest la st h => rx_pop st (fun st => rx_nx k rest (pc + len) la st h))
  (fun _ _ _ _ _ _ _ _ _ _ _ _ => none)
  (fun _ O F C I k pc len aux rest la st h => match aux with
      | [ci, f, _] => rf_pf (rf_fty ci f) ci f st h (fun st h => rx_nx k rest (pc + len) la st h)
      | _ => none)
  (fun _ _ _ _ _ _ _ _ _ _ _ _ _ => none)
  (fun _ _ _ _ _ _ _ _ _ _ _ _ _ => none)
  (fun O F C I k pc len aux rest la st h => match st, I.2.1 with
      | [], 0 => some (.inl none, h, 0, 0)
      | _, _ => none)
  (fun _ _ _ _ _ _ _ _ _ _ _ _ => none)
  (fun _ _ _ _ _ _ _ _ _ _ _ _ => none)
  (fun n O F C I k pc len aux rest la st h => rx_nx k rest (pc + len) la (.int (Int16.ofInt n).toInt32 :: st) h)
  (fun _ _ _ _ _ _ _ _ _ _ _ _ => none)
  (fun d lo hi offs O F C I k pc len aux rest la st h => rf_tsw F.1 I.2.2.1 pc d lo hi offs st (fun z st => k z la st h)) i
theorem rf_one_eq (i : Instr) (O : ROld) (F : RFacts) (C : Nat → List Value → RHeap → Option RRes) (I : RInf) (k : List RRow → RLoc → List Value → RHeap → Option RRes) (pc len : Nat) (aux : List Nat) (rest : List RRow) (la : RLoc) (st : List Value) (h : RHeap) : rf_one i O F C I k pc len aux rest la st h = rx_one O F C I k pc i len aux rest la st h := match i with
  | .aaload =>
    have h9 : ((rf_ald O (fun t => Nat.ble 4 t) st h (fun st => rx_nx k rest (pc + len) la st h)) : Option RRes) = (rx_ald O (fun t => Nat.ble 4 t) st h (fun st => rx_nx k rest (pc + len) la st h)) := by simp only [rf_ald_eq]
    h9
  | .aastore =>
    have h9 : ((rf_aast st h (fun st h => rx_nx k rest (pc + len) la st h)) : Option RRes) = (rx_aast st h (fun st h => rx_nx k rest (pc + len) la st h)) := by simp only [rf_aast_eq]
    h9
  | .aconst_null => rfl
  | .aload n =>
    have h9 : ((rf_ld rx_isA la n st (fun st => rx_nx k rest (pc + len) la st h)) : Option RRes) = (rx_ld rx_isA la n st (fun st => rx_nx k rest (pc + len) la st h)) := by simp only [rf_ld_eq]
    h9
  | .aload_n n =>
    have h9 : ((rf_ld rx_isA la n st (fun st => rx_nx k rest (pc + len) la st h)) : Option RRes) = (rx_ld rx_isA la n st (fun st => rx_nx k rest (pc + len) la st h)) := by simp only [rf_ld_eq]
    h9
  | .anewarray _ => rfl
  | .areturn => rfl
  | .arraylength =>
    have h9 : ((rf_len O st h (fun st => rx_nx k rest (pc + len) la st h)) : Option RRes) = (rx_len O st h (fun st => rx_nx k rest (pc + len) la st h)) := by simp only [rf_len_eq]
    h9
  | .astore n => rfl
  | .astore_n n => rfl
  | .athrow => rfl
  | .baload =>
    have h9 : ((rf_ald O (fun t => Nat.beq t 2 || Nat.beq t 3) st h (fun st => rx_nx k rest (pc + len) la st h)) : Option RRes) = (rx_ald O (fun t => Nat.beq t 2 || Nat.beq t 3) st h (fun st => rx_nx k rest (pc + len) la st h)) := by simp only [rf_ald_eq]
    h9
  | .bastore =>
    have h9 : ((rf_ast (fun t => Nat.beq t 2 || Nat.beq t 3) (fun t v => match rx_isI v with | true => some (rx_iu (vp_nar (match t with | 2 => .byte | _ => .boolean)) v) | false => none) st h (fun st h => rx_nx k rest (pc + len) la st h)) : Option RRes) = (rx_ast (fun t => Nat.beq t 2 || Nat.beq t 3) (fun t v => match rx_isI v with | true => some (rx_iu (vp_nar (match t with | 2 => .byte | _ => .boolean)) v) | false => none) st h (fun st h => rx_nx k rest (pc + len) la st h)) := by simp only [rf_ast_eq]
    h9
  | .bipush n => rfl
  | .caload => rfl
  | .castore => rfl
  | .checkcast _ => rfl
  | .d2f => rfl
  | .d2i => rfl
  | .d2l => rfl
  | .dadd => rfl
  | .daload => rfl
  | .dastore => rfl
  | .dcmp _ => rfl
  | .dconst _ => rfl
  | .ddiv => rfl
  | .dload _ => rfl
  | .dload_n _ => rfl
  | .dmul => rfl
  | .dneg => rfl
  | .drem => rfl
  | .dreturn => rfl
  | .dstore _ => rfl
  | .dstore_n _ => rfl
  | .dsub => rfl
  | .dup => rfl
  | .dup_x1 => rfl
  | .dup_x2 => rfl
  | .dup2 => rfl
  | .dup2_x1 => rfl
  | .dup2_x2 => rfl
  | .f2d => rfl
  | .f2i => rfl
  | .f2l => rfl
  | .fadd => rfl
  | .faload => rfl
  | .fastore => rfl
  | .fcmp _ => rfl
  | .fconst _ => rfl
  | .fdiv => rfl
  | .fload _ => rfl
  | .fload_n _ => rfl
  | .fmul => rfl
  | .fneg => rfl
  | .frem => rfl
  | .freturn => rfl
  | .fstore _ => rfl
  | .fstore_n _ => rfl
  | .fsub => rfl
  | .getfield _ =>
    have h9 : ((match aux with
        | [ci, f, _] => rf_gf O ci f st h (fun st => rx_nx k rest (pc + len) la st h)
        | _ => none) : Option RRes) = (match aux with
        | [ci, f, _] => rx_gf O ci f st h (fun st => rx_nx k rest (pc + len) la st h)
        | _ => none) := by simp only [rf_gf_eq]
    h9
  | .getstatic _ => rfl
  | .goto off =>
    have h9 : ((rf_go I.2.2.1 pc off (fun z => k z la st h)) : Option RRes) = (rx_go I.2.2.1 pc off (fun z => k z la st h)) := by simp only [rf_go_eq]
    h9
  | .goto_w _ => rfl
  | .i2b => rfl
  | .i2c => rfl
  | .i2d => rfl
  | .i2f => rfl
  | .i2l => rfl
  | .i2s => rfl
  | .iadd => rfl
  | .iaload =>
    have h9 : ((rf_ald O (fun t => Nat.beq t 0) st h (fun st => rx_nx k rest (pc + len) la st h)) : Option RRes) = (rx_ald O (fun t => Nat.beq t 0) st h (fun st => rx_nx k rest (pc + len) la st h)) := by simp only [rf_ald_eq]
    h9
  | .iand => rfl
  | .iastore =>
    have h9 : ((rf_ast (fun t => Nat.beq t 0) (fun _ v => match rx_isI v with | true => some v | false => none) st h (fun st h => rx_nx k rest (pc + len) la st h)) : Option RRes) = (rx_ast (fun t => Nat.beq t 0) (fun _ v => match rx_isI v with | true => some v | false => none) st h (fun st h => rx_nx k rest (pc + len) la st h)) := by simp only [rf_ast_eq]
    h9
  | .iconst n => rfl
  | .idiv => rfl
  | .if_acmp _ _ => rfl
  | .if_icmp c off =>
    have h9 : ((match st with
        | b :: a :: r => match rx_isI a, rx_isI b, rx_tok pc off with
          | true, true, true => rx_br (rx_cmp F.1 c a b) (fun _ => rf_to I.2.2.1 (rx_tgt pc off) (fun z => k z la r h)) (fun _ => rx_nx k rest (pc + len) la r h)
          | _, _, _ => none
        | _ => none) : Option RRes) = (match st with
        | b :: a :: r => match rx_isI a, rx_isI b, rx_tok pc off with
          | true, true, true => rx_br (rx_cmp F.1 c a b) (fun _ => rx_to I.2.2.1 (rx_tgt pc off) (fun z => k z la r h)) (fun _ => rx_nx k rest (pc + len) la r h)
          | _, _, _ => none
        | _ => none) := by simp only [rf_to_eq]
    h9
  | .ifCond c off =>
    have h9 : ((match st with
        | a :: r => match rx_isI a, rx_tok pc off with
          | true, true => rx_br (rx_cmp F.1 c a (.int 0)) (fun _ => rf_to I.2.2.1 (rx_tgt pc off) (fun z => k z la r h)) (fun _ => rx_nx k rest (pc + len) la r h)
          | _, _ => none
        | _ => none) : Option RRes) = (match st with
        | a :: r => match rx_isI a, rx_tok pc off with
          | true, true => rx_br (rx_cmp F.1 c a (.int 0)) (fun _ => rx_to I.2.2.1 (rx_tgt pc off) (fun z => k z la r h)) (fun _ => rx_nx k rest (pc + len) la r h)
          | _, _ => none
        | _ => none) := by simp only [rf_to_eq]
    h9
  | .ifnonnull _ => rfl
  | .ifnull _ => rfl
  | .iinc n z =>
    have h9 : ((rf_inc I.1 la n z (fun la => rx_nx k rest (pc + len) la st h)) : Option RRes) = (rx_inc I.1 la n z (fun la => rx_nx k rest (pc + len) la st h)) := by simp only [rf_inc_eq]
    h9
  | .iload n =>
    have h9 : ((rf_ld rx_isI la n st (fun st => rx_nx k rest (pc + len) la st h)) : Option RRes) = (rx_ld rx_isI la n st (fun st => rx_nx k rest (pc + len) la st h)) := by simp only [rf_ld_eq]
    h9
  | .iload_n n =>
    have h9 : ((rf_ld rx_isI la n st (fun st => rx_nx k rest (pc + len) la st h)) : Option RRes) = (rx_ld rx_isI la n st (fun st => rx_nx k rest (pc + len) la st h)) := by simp only [rf_ld_eq]
    h9
  | .imul => rfl
  | .ineg => rfl
  | .instanceof _ => rfl
  | .invokedynamic _ => rfl
  | .invokeinterface _ _ => rfl
  | .invokespecial _ =>
    have h9 : ((match aux with
        | [9999, _] => match st with
          | .ref a :: r => match Nat.ble (rx_cats r) 8, Nat.blt a 2000000 with
            | true, true => rx_nx k rest (pc + len) la r h
            | _, _ => none
          | _ => none
        | [mi, n, ci, _] => rf_inv O C st h mi n ci 1 (fun r o => rx_backN r o (fun st h => rx_nx k rest (pc + len) la st h))
        | _ => none) : Option RRes) = (match aux with
        | [9999, _] => match st with
          | .ref a :: r => match Nat.ble (rx_cats r) 8, Nat.blt a 2000000 with
            | true, true => rx_nx k rest (pc + len) la r h
            | _, _ => none
          | _ => none
        | [mi, n, ci, _] => rx_inv O C st h mi n ci 1 (fun r o => rx_backN r o (fun st h => rx_nx k rest (pc + len) la st h))
        | _ => none) := by simp only [rf_inv_eq]
    h9
  | .invokestatic _ =>
    have h9 : ((match aux with
        | [8888, _] => rf_cp0 st h (fun st => rx_nx k rest (pc + len) la st h)
        | [mi, n, _] => rf_inv O C st h mi n 0 0 (fun r o => rx_backN r o (fun st h => rx_nx k rest (pc + len) la st h))
        | _ => none) : Option RRes) = (match aux with
        | [8888, _] => rx_cp0 st h (fun st => rx_nx k rest (pc + len) la st h)
        | [mi, n, _] => rx_inv O C st h mi n 0 0 (fun r o => rx_backN r o (fun st h => rx_nx k rest (pc + len) la st h))
        | _ => none) := by simp only [rf_inv_eq, rf_cp0_eq]
    h9
  | .invokevirtual _ =>
    have h9 : ((match aux with
        | [mi, n, ci, _] => rf_inv O C st h mi n ci 1 (fun r o => rx_back I.2.2.2 pc r o (fun st h => rx_nx k rest (pc + len) la st h) (fun t h => rf_to I.2.2.1 t (fun z => k z la [.ref 2000000] h)))
        | _ => none) : Option RRes) = (match aux with
        | [mi, n, ci, _] => rx_inv O C st h mi n ci 1 (fun r o => rx_back I.2.2.2 pc r o (fun st h => rx_nx k rest (pc + len) la st h) (fun t h => rx_to I.2.2.1 t (fun z => k z la [.ref 2000000] h)))
        | _ => none) := by simp only [rf_to_eq, rf_inv_eq]
    h9
  | .ior => rfl
  | .irem => rfl
  | .ireturn => rfl
  | .ishl => rfl
  | .ishr => rfl
  | .istore n => rfl
  | .istore_n n => rfl
  | .isub => rfl
  | .iushr => rfl
  | .ixor => rfl
  | .jsr _ => rfl
  | .jsr_w _ => rfl
  | .l2d => rfl
  | .l2f => rfl
  | .l2i => rfl
  | .ladd => rfl
  | .laload =>
    have h9 : ((rf_ald O (fun t => Nat.beq t 1) st h (fun st => rx_nx k rest (pc + len) la st h)) : Option RRes) = (rx_ald O (fun t => Nat.beq t 1) st h (fun st => rx_nx k rest (pc + len) la st h)) := by simp only [rf_ald_eq]
    h9
  | .land => rfl
  | .lastore =>
    have h9 : ((rf_ast (fun t => Nat.beq t 1) (fun _ v => match rx_isL v with | true => some v | false => none) st h (fun st h => rx_nx k rest (pc + len) la st h)) : Option RRes) = (rx_ast (fun t => Nat.beq t 1) (fun _ v => match rx_isL v with | true => some v | false => none) st h (fun st h => rx_nx k rest (pc + len) la st h)) := by simp only [rf_ast_eq]
    h9
  | .lcmp => rfl
  | .lconst n => rfl
  | .ldc _ => rfl
  | .ldc_w _ => rfl
  | .ldc2_w _ => rfl
  | .ldiv => rfl
  | .lload n =>
    have h9 : ((rf_ld rx_isL la n st (fun st => rx_nx k rest (pc + len) la st h)) : Option RRes) = (rx_ld rx_isL la n st (fun st => rx_nx k rest (pc + len) la st h)) := by simp only [rf_ld_eq]
    h9
  | .lload_n n =>
    have h9 : ((rf_ld rx_isL la n st (fun st => rx_nx k rest (pc + len) la st h)) : Option RRes) = (rx_ld rx_isL la n st (fun st => rx_nx k rest (pc + len) la st h)) := by simp only [rf_ld_eq]
    h9
  | .lmul => rfl
  | .lneg => rfl
  | .lookupswitch _ _ => rfl
  | .lor => rfl
  | .lrem => rfl
  | .lreturn => rfl
  | .lshl => rfl
  | .lshr => rfl
  | .lstore n => rfl
  | .lstore_n n => rfl
  | .lsub => rfl
  | .lushr => rfl
  | .lxor => rfl
  | .monitorenter => rfl
  | .monitorexit => rfl
  | .multianewarray _ _ => rfl
  | .new _ =>
    have h9 : ((match aux with
        | [7777, E, _] => match I.2.2.2, st with
          | [], [] => some (.inr E, h, 1, 6)
          | _, _ => none
        | [ci, _] => rf_new ci st h (fun st h => rx_nx k rest (pc + len) la st h)
        | _ => none) : Option RRes) = (match aux with
        | [7777, E, _] => match I.2.2.2, st with
          | [], [] => some (.inr E, h, 1, 6)
          | _, _ => none
        | [ci, _] => rx_new ci st h (fun st h => rx_nx k rest (pc + len) la st h)
        | _ => none) := by simp only [rf_new_eq]
    h9
  | .newarray _ => rfl
  | .nop => rfl
  | .pop => rfl
  | .pop2 => rfl
  | .putfield _ =>
    have h9 : ((match aux with
        | [ci, f, _] => rf_pf (rf_fty ci f) ci f st h (fun st h => rx_nx k rest (pc + len) la st h)
        | _ => none) : Option RRes) = (match aux with
        | [ci, f, _] => rx_pf (rc_fty ci f) ci f st h (fun st h => rx_nx k rest (pc + len) la st h)
        | _ => none) := by simp only [rf_fty_eq, rf_pf_eq]
    h9
  | .putstatic _ => rfl
  | .ret _ => rfl
  | .return_ => rfl
  | .saload => rfl
  | .sastore => rfl
  | .sipush n => rfl
  | .swap => rfl
  | .tableswitch d lo hi offs =>
    have h9 : ((rf_tsw F.1 I.2.2.1 pc d lo hi offs st (fun z st => k z la st h)) : Option RRes) = (rx_tsw F.1 I.2.2.1 pc d lo hi offs st (fun z st => k z la st h)) := by simp only [rf_tsw_eq]
    h9
noncomputable def rf_run (O : ROld) (F : RFacts) (C : Nat → List Value → RHeap → Option RRes) (I : RInf) (n : Nat) : List RRow → RLoc → List Value → RHeap → Option RRes := Nat.rec (motive := fun _ => List RRow → RLoc → List Value → RHeap → Option RRes) (fun _ _ _ _ => none) (fun _ ih rows la st h => List.rec (motive := fun _ => Option RRes) none (fun r rest _ => rf_one r.2.1 O F C I ih r.1 r.2.2.1 r.2.2.2 rest la st h) rows) n
theorem rf_run_eq (O : ROld) (F : RFacts) (C : Nat → List Value → RHeap → Option RRes) (I : RInf) (n : Nat) : rf_run O F C I n = rx_run O F C I n := by
  induction n with
  | zero => funext rows la st h; simp only [rx_run]; rfl
  | succ n ih =>
    funext rows la st h
    cases rows with
    | nil => simp only [rx_run]; rfl
    | cons r rest =>
      obtain ⟨pc, i, len, aux⟩ := r
      show rf_one i O F C I (rf_run O F C I n) pc len aux rest la st h = _
      rw [rf_one_eq, ih]
      simp only [rx_run]
noncomputable def rf_call (O : ROld) (F : RFacts) (P : List RInf) (steps : Nat) (d : Nat) : Nat → List Value → RHeap → Option RRes := Nat.rec (motive := fun _ => Nat → List Value → RHeap → Option RRes) (fun _ _ _ => none) (fun _ ih mi as h => match rf_nth P mi with
    | some I => match Nat.ble (rx_cats as) I.1 with
      | true => rf_run O F ih I steps I.2.2.1 (lv_args 0 as) [] h
      | false => none
    | none => none) d
theorem rf_call_eq (O : ROld) (F : RFacts) (P : List RInf) (steps : Nat) (d : Nat) : rf_call O F P steps d = rx_call O F P steps d := by
  induction d with
  | zero => funext mi as h; simp only [rx_call]; rfl
  | succ d ih =>
    funext mi as h
    simp only [rx_call]
    rw [← ih, ← rf_nth_eq]
    simp only [← rf_run_eq]
    rfl
