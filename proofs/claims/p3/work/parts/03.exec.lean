/-! A small runner over rows of code. Its cells are known by number: .ref k below 1000000 is the k-th cell made since the start, .ref (1000000 + j) the j-th cell that was there before. .float 0 is some int, .float (i + 1) the i-th unknown int, .double _ some long. -/
abbrev RRow : Type := Nat × Instr × Nat × List Nat
abbrev RCell : Type := (Nat × Nat × List (Nat × Value)) ⊕ (Nat × List Value)
abbrev RHeap : Type := List RCell
abbrev RLoc : Type := List (Nat × Value)
abbrev RRes : Type := (Option Value ⊕ Nat) × RHeap × Nat × Nat
abbrev RInf : Type := Nat × Nat × List RRow × List (Nat × Nat × Nat × Nat)
abbrev ROld : Type := List (Nat × Nat × Nat × Value) × List (Nat × Nat × List Value)
def rx_nth {α : Type} : List α → Nat → Option α
  | [], _ => none
  | a :: _, 0 => some a
  | _ :: l, k + 1 => rx_nth l k
def rc_fty (ci f : Nat) : Option FieldType := match rx_nth rc_ftl ci with
  | some l => rx_nth l f
  | none => none
def rx_lit {α : Type} (n : Nat) (k : Nat → α) : α := match n with
  | 0 => k 0
  | m + 1 => k (m + 1)
def rx_look : List (Nat × Value) → Nat → Option Value
  | [], _ => none
  | (j, v) :: l, i => match Nat.beq j i with
    | true => some v
    | false => rx_look l i
def rx_at : List RRow → Nat → List RRow
  | [], _ => []
  | r :: l, pc => match Nat.beq r.1 pc with
    | true => r :: l
    | false => rx_at l pc
def rx_isI : Value → Bool
  | .int _ => true
  | .float _ => true
  | _ => false
def rx_isL : Value → Bool
  | .long _ => true
  | .double _ => true
  | _ => false
def rx_isA : Value → Bool
  | .ref _ => true
  | .null => true
  | _ => false
def rx_ib (f : Int32 → Int32 → Int32) : Value → Value → Value
  | .int x, .int y => .int (f x y)
  | _, _ => .float 0
def rx_iu (f : Int32 → Int32) : Value → Value
  | .int x => .int (f x)
  | _ => .float 0
def rx_lb (f : Int64 → Int64 → Int64) : Value → Value → Value
  | .long x, .long y => .long (f x y)
  | _, _ => .double 0
def rx_ls (f : Int64 → Int32 → Int64) : Value → Value → Value
  | .long x, .int y => .long (f x y)
  | _, _ => .double 0
def rx_lu (f : Int64 → Int64) : Value → Value
  | .long x => .long (f x)
  | _ => .double 0
def rx_i2l : Value → Value
  | .int x => .long x.toInt64
  | .float i => .double i.toUInt64
  | _ => .double 0
/-- .double e is the long of the unknown int e % 2 ^ 32, and e / 2 ^ 32 over it -/
def rx_ladd : Value → Value → Value
  | .long x, .long y => .long (x + y)
  | .double e, .long y => match decide (e = 0), Nat.blt e.toNat 4294967296, Nat.blt y.toNatClampNeg 1000, decide (Int64.ofNat y.toNatClampNeg = y) with
    | false, true, true, true => .double (UInt64.ofNat (e.toNat + 4294967296 * y.toNatClampNeg))
    | _, _, _, _ => .double 0
  | _, _ => .double 0
def rx_lfact : List (UInt64 × Int64 × Int32) → UInt64 → Int64 → Option Int32
  | [], _, _ => none
  | (i, n, r) :: l, j, m => match decide (i = j), decide (n = m) with
    | true, true => some r
    | _, _ => rx_lfact l j m
def rx_lcA (F : List (UInt64 × Int64 × Int32)) : Value → Value → Value
  | .long x, .long y => .int (lg_cmp x y)
  | .double e, .long y => match decide (e = 0), rx_lfact F e y with
    | false, some r => .int r
    | _, _ => .float 0
  | _, _ => .float 0
def rx_l2i : Value → Value
  | .long x => .int x.toInt32
  | _ => .float 0
def rx_lc : Value → Value → Value
  | .long x, .long y => .int (lg_cmp x y)
  | _, _ => .float 0
def rx_cb (c : ClassFile.Cond) (x y : Int32) : Bool := match c with
  | .eq => decide (x = y)
  | .ne => !decide (x = y)
  | .lt => decide (x < y)
  | .ge => decide (y ≤ x)
  | .gt => decide (y < x)
  | .le => decide (x ≤ y)
/-- what is known of unknown ints: (which, what is asked, a number) to an answer -/
abbrev RFact : Type := List (UInt32 × ClassFile.Cond × Int32 × Bool)
def rx_fact : RFact → UInt32 → ClassFile.Cond → Int32 → Option Bool
  | [], _, _, _ => none
  | (i, c, n, b) :: l, j, d, m => match decide (i = j), decide (c = d), decide (n = m) with
    | true, true, true => some b
    | _, _, _ => rx_fact l j d m
abbrev RFacts : Type := RFact × List (UInt32 × Int32 × Int32) × List (UInt64 × Int64 × Int32)
def rx_mask : List (UInt32 × Int32 × Int32) → UInt32 → Int32 → Option Int32
  | [], _, _ => none
  | (i, n, r) :: l, j, m => match decide (i = j), decide (n = m) with
    | true, true => some r
    | _, _ => rx_mask l j m
def rx_iand (F : List (UInt32 × Int32 × Int32)) : Value → Value → Value
  | .int x, .int y => .int (x &&& y)
  | .float i, .int y => match decide (i = 0), rx_mask F i y with
    | false, some r => .int r
    | _, _ => .float 0
  | _, _ => .float 0
def rx_cmp (F : RFact) (c : ClassFile.Cond) : Value → Value → Option Bool
  | .int x, .int y => some (rx_cb c x y)
  | .float i, .int y => match decide (i = 0) with
    | true => none
    | false => rx_fact F i c y
  | _, _ => none
def rx_b1 (f : Value → Value) (q : Value → Bool) (st : List Value) (k : List Value → Option RRes) : Option RRes := match st with
  | a :: r => match q a with
    | true => k (f a :: r)
    | false => none
  | _ => none
def rx_b2 (f : Value → Value → Value) (q q2 : Value → Bool) (st : List Value) (k : List Value → Option RRes) : Option RRes := match st with
  | b :: a :: r => match q a, q2 b with
    | true, true => k (f a b :: r)
    | _, _ => none
  | _ => none
def rx_join (a b : Option RRes) : Option RRes := match a, b with
  | some x, some y => match decide (x.1 = y.1), decide (x.2.1 = y.2.1), decide (x.2.2 = y.2.2) with
    | true, true, true => some x
    | _, _, _ => none
  | _, _ => none
def rx_br (o : Option Bool) (a b : Unit → Option RRes) : Option RRes := match o with
  | some true => a ()
  | some false => b ()
  | none => rx_join (a ()) (b ())
def rx_dv (t : Nat) : Value := match t with
  | 0 => .int 0
  | 1 => .long 0
  | 2 => .int 0
  | 3 => .int 0
  | _ => .null
def rx_elt (t : Nat) (u : List (Nat × Value)) (j : Nat) : Value := match rx_look u j with
  | some v => v
  | none => rx_dv t
def rx_old (k : Nat) : Bool := Nat.ble 1000000 k
def rx_oldA : List (Nat × Nat × List Value) → Nat → Option (Nat × List Value)
  | [], _ => none
  | (j, t, l) :: r, i => match Nat.beq j i with
    | true => some (t, l)
    | false => rx_oldA r i
def rx_oldF : List (Nat × Nat × Nat × Value) → Nat → Nat → Nat → Option Value
  | [], _, _, _ => none
  | (j, c, f, v) :: r, i, ci, k => match Nat.beq j i, Nat.beq c ci, Nat.beq f k with
    | true, true, true => some v
    | _, _, _ => rx_oldF r i ci k
/-- a row's element -/
def rx_ald (O : ROld) (q : Nat → Bool) (st : List Value) (h : RHeap) (k : List Value → Option RRes) : Option RRes := match st with
  | .int i :: .ref a :: r => match rx_old a with
    | true => match rx_oldA O.2 (a - 1000000) with
      | some (t, l) => match q t, decide (i < 0) with
        | true, false => match rx_nth l i.toNatClampNeg with
          | some v => k (v :: r)
          | none => none
        | _, _ => none
      | none => none
    | false => match rx_nth h a with
      | some (.inl (t, n, u)) => match q t, decide (i < 0), Nat.blt i.toNatClampNeg n with
        | true, false, true => k (rx_elt t u i.toNatClampNeg :: r)
        | _, _, _ => none
      | _ => none
  | _ => none
def rx_ast (q : Nat → Bool) (f : Nat → Value → Option Value) (st : List Value) (h : RHeap) (k : List Value → RHeap → Option RRes) : Option RRes := match st with
  | v :: .int i :: .ref a :: r => match rx_nth h a with
    | some (.inl (t, n, u)) => match q t && Nat.blt a 1000000, decide (i < 0), Nat.blt i.toNatClampNeg n, f t v with
      | true, false, true, some w => rx_lit i.toNatClampNeg (fun j => k r (h.set a (.inl (t, n, (j, w) :: u))))
      | _, _, _, _ => none
    | _ => none
  | _ => none
def rx_len (O : ROld) (st : List Value) (h : RHeap) (k : List Value → Option RRes) : Option RRes := match st with
  | .ref a :: r => match rx_old a with
    | true => match rx_oldA O.2 (a - 1000000) with
      | some (_, l) => k (.int (Int32.ofNat l.length) :: r)
      | none => none
    | false => match rx_nth h a with
      | some (.inl (_, n, _)) => k (.int (Int32.ofNat n) :: r)
      | _ => none
  | _ => none
def rx_gf (O : ROld) (ci f : Nat) (st : List Value) (h : RHeap) (k : List Value → Option RRes) : Option RRes := match st with
  | .ref a :: r => match rx_old a with
    | true => match rx_oldF O.1 (a - 1000000) ci f with
      | some v => k (v :: r)
      | none => none
    | false => match rx_nth h a with
      | some (.inr (c, fs)) => match Nat.beq c ci, rx_nth fs f with
        | true, some v => k (v :: r)
        | _, _ => none
      | _ => none
  | _ => none
def rx_fit (ty : FieldType) (v : Value) : Bool := match v with
  | .float _ => decide (ty = .int)
  | .double _ => decide (ty = .long)
  | .ref _ => match ty with
    | .object _ => true
    | .array _ => true
    | _ => false
  | v => decide (narrow ty v = v) && fits ty v
def rx_pf (ty : Option FieldType) (ci f : Nat) (st : List Value) (h : RHeap) (k : List Value → RHeap → Option RRes) : Option RRes := match st with
  | v :: .ref a :: r => match rx_nth h a, ty with
    | some (.inr (c, fs)), some ty => match Nat.beq c ci, rx_fit ty v, Nat.blt f fs.length && Nat.blt a 1000000 with
      | true, true, true => k r (h.set a (.inr (c, fs.set f v)))
      | _, _, _ => none
    | _, _ => none
  | _ => none
def rx_lst (la : RLoc) (i : Nat) (v : Value) : RLoc := (i, v) :: la.filter (fun q => !(q.1 == i) && !(q.1 + 1 == i && q.2.category == 2))
def rx_lst2 (la : RLoc) (i : Nat) (v : Value) : RLoc := (i, v) :: la.filter (fun q => !(q.1 == i) && (!(q.1 == i + 1) && !(q.1 + 1 == i && q.2.category == 2)))
def rx_ld (q : Value → Bool) (la : RLoc) (i : Nat) (st : List Value) (k : List Value → Option RRes) : Option RRes := match rx_look la i with
  | some v => match q v with
    | true => k (v :: st)
    | false => none
  | none => none
def rx_str (q : Value → Bool) (nL : Nat) (la : RLoc) (i : Nat) (st : List Value) (k : RLoc → List Value → Option RRes) : Option RRes := match st with
  | v :: r => match q v, Nat.blt i nL with
    | true, true => k (rx_lst la i v) r
    | _, _ => none
  | _ => none
def rx_str2 (q : Value → Bool) (nL : Nat) (la : RLoc) (i : Nat) (st : List Value) (k : RLoc → List Value → Option RRes) : Option RRes := match st with
  | v :: r => match q v, Nat.blt (i + 1) nL with
    | true, true => k (rx_lst2 la i v) r
    | _, _ => none
  | _ => none
def rx_more (mc ms : Nat) (o : Option RRes) : Option RRes := match o with
  | some (r, h, a, b) => some (r, h, a + mc, b + ms)
  | none => none
def rx_take : Nat → List Value → List Value → Option (List Value × List Value)
  | 0, acc, st => some (acc, st)
  | n + 1, acc, v :: st => rx_take n (v :: acc) st
  | _ + 1, _, [] => none
def rx_cats : List Value → Nat
  | [] => 0
  | v :: l => v.category + rx_cats l
def rx_tgt (pc : Nat) (off : Int) : Nat := ((pc : Int) + off).toNat
def rx_tok (pc : Nat) (off : Int) : Bool := decide (0 ≤ (pc : Int) + off)
def rx_to (rows : List RRow) (t : Nat) (k : List RRow → Option RRes) : Option RRes := match rx_at rows t with
  | r :: z => k (r :: z)
  | [] => none
def rx_go (rows : List RRow) (pc : Nat) (off : Int) (k : List RRow → Option RRes) : Option RRes := match rx_tok pc off with
  | true => rx_to rows (rx_tgt pc off) k
  | false => none
def rx_hand (pc E : Nat) : List (Nat × Nat × Nat × Nat) → Option Nat
  | [] => none
  | (a, b, t, e) :: l => match Nat.ble a pc, Nat.blt pc b, Nat.beq e E with
    | true, true, true => some t
    | true, true, false => none
    | _, _, _ => rx_hand pc E l
/-- a row of references takes a cell of its own kind, or none -/
def rx_aast (st : List Value) (h : RHeap) (k : List Value → RHeap → Option RRes) : Option RRes := match st with
  | v :: .int i :: .ref a :: r => match rx_nth h a with
    | some (.inl (t, n, u)) => match decide (i < 0), Nat.blt i.toNatClampNeg n, v with
      | false, true, .null => match Nat.ble 4 t && Nat.blt a 1000000 with
        | true => rx_lit i.toNatClampNeg (fun j => k r (h.set a (.inl (t, n, (j, v) :: u))))
        | false => none
      | false, true, .ref b => match rx_nth h b, rx_nth rc_arc t with
        | some (.inr (ci, _)), some c => match Nat.beq ci c, Nat.ble 4 t && Nat.blt a 1000000 && Nat.blt b 1000000 with
          | true, true => rx_lit i.toNatClampNeg (fun j => k r (h.set a (.inl (t, n, (j, v) :: u))))
          | _, _ => none
        | _, _ => none
      | _, _, _ => none
    | _ => none
  | _ => none
def rx_new (ci : Nat) (st : List Value) (h : RHeap) (k : List Value → RHeap → Option RRes) : Option RRes := match rx_nth rc_dfl ci with
  | some fs => match Nat.blt h.length 1000000 with
    | true => rx_more 1 fs.length (k (.ref h.length :: st) (h ++ [.inr (ci, fs)]))
    | false => none
  | none => none
def rx_newa (t : Nat) (st : List Value) (h : RHeap) (k : List Value → RHeap → Option RRes) : Option RRes := match st with
  | .int n :: r => match decide (n < 0), Nat.blt n.toNatClampNeg 60000000, Nat.blt t rc_arr.length && Nat.blt h.length 1000000 with
    | false, true, true => rx_lit n.toNatClampNeg (fun m => rx_more 1 m (k (.ref h.length :: r) (h ++ [.inl (t, m, [])])))
    | _, _, _ => none
  | _ => none
def rx_dup (st : List Value) (k : List Value → Option RRes) : Option RRes := match st with
  | a :: r => match Nat.beq a.category 1 with
    | true => k (a :: a :: r)
    | false => none
  | _ => none
def rx_dupx1 (st : List Value) (k : List Value → Option RRes) : Option RRes := match st with
  | a :: b :: r => match Nat.beq a.category 1, Nat.beq b.category 1 with
    | true, true => k (a :: b :: a :: r)
    | _, _ => none
  | _ => none
def rx_pop (st : List Value) (k : List Value → Option RRes) : Option RRes := match st with
  | a :: r => match Nat.beq a.category 1 with
    | true => k r
    | false => none
  | _ => none
def rx_inc (nL : Nat) (la : RLoc) (i : Nat) (n : Int) (k : RLoc → Option RRes) : Option RRes := match rx_look la i with
  | some (.int x) => match Nat.blt i nL with
    | true => k (rx_lst la i (.int (x + Int32.ofInt n)))
    | false => none
  | _ => none
/-- the cell that a method is called on is of the method's kind -/
def rx_recv (O : ROld) (ci : Nat) (h : RHeap) : Value → Bool
  | .ref a => match rx_old a with
    | true => match rx_oldF O.1 (a - 1000000) ci 0 with
      | some _ => true
      | none => false
    | false => match rx_nth h a with
      | some (.inr (c, _)) => Nat.beq c ci
      | _ => false
  | _ => false
def rx_back (hh : List (Nat × Nat × Nat × Nat)) (pc : Nat) (rest : List Value) (o : Option RRes) (k : List Value → RHeap → Option RRes) (kx : Nat → RHeap → Option RRes) : Option RRes := match o with
  | some (.inl none, h, mc, ms) => rx_more mc ms (k rest h)
  | some (.inl (some v), h, mc, ms) => rx_more mc ms (k (v :: rest) h)
  | some (.inr E, h, mc, ms) => match rx_hand pc E hh with
    | some t => rx_more mc ms (kx t h)
    | none => some (.inr E, h, mc, ms)
  | none => none
def rx_backN (rest : List Value) (o : Option RRes) (k : List Value → RHeap → Option RRes) : Option RRes := match o with
  | some (.inl none, h, mc, ms) => rx_more mc ms (k rest h)
  | some (.inl (some v), h, mc, ms) => rx_more mc ms (k (v :: rest) h)
  | _ => none
def rx_inv (O : ROld) (C : Nat → List Value → RHeap → Option RRes) (st : List Value) (h : RHeap) (mi n ci : Nat) (kind : Nat) (k : List Value → Option RRes → Option RRes) : Option RRes := match rx_take n [] st with
  | some (as, r) => match kind with
    | 0 => match Nat.ble (rx_cats r) 8 with
      | true => k r (C mi as h)
      | false => none
    | _ => match r with
      | b :: r => match Nat.ble (rx_cats r) 8, rx_recv O ci h b with
        | true, true => k r (C mi (b :: as) h)
        | _, _ => none
      | [] => none
  | none => none
def rx_tsw (F : RFact) (rows : List RRow) (pc : Nat) (dflt lo hi : Int) (offs : Array Int) (st : List Value) (k : List RRow → List Value → Option RRes) : Option RRes := match st with
  | .int x :: r => match decide (x.toInt < lo), decide (hi < x.toInt) with
    | false, false => match rx_nth offs.toList (x.toInt - lo).toNat with
      | some off => rx_go rows pc off (fun z => k z r)
      | none => none
    | _, _ => rx_go rows pc dflt (fun z => k z r)
  | .float i :: r => match decide (i = 0), rx_fact F i .lt (Int32.ofInt lo), rx_fact F i .gt (Int32.ofInt hi), decide ((Int32.ofInt lo).toInt = lo), decide ((Int32.ofInt hi).toInt = hi) with
    | false, some true, _, true, _ => rx_go rows pc dflt (fun z => k z r)
    | false, _, some true, _, true => rx_go rows pc dflt (fun z => k z r)
    | _, _, _, _, _ => none
  | _ => none
def rx_nx (k : List RRow → RLoc → List Value → RHeap → Option RRes) (rest : List RRow) (pc2 : Nat) (la : RLoc) (st : List Value) (h : RHeap) : Option RRes := match rest with
  | r :: z => match Nat.beq r.1 pc2 with
    | true => k (r :: z) la st h
    | false => none
  | [] => none

/-- elements of a row copied to another row -/
def rx_cpl (t : Nat) (u : List (Nat × Value)) (sp dp : Nat) : Nat → List (Nat × Value)
  | 0 => []
  | n + 1 => (dp + n, rx_elt t u (sp + n)) :: rx_cpl t u sp dp n
/-- each element fits the row's kind -/
def rx_cpf (t : Nat) (u : List (Nat × Value)) (sp : Nat) : Nat → Bool
  | 0 => true
  | n + 1 => (match rx_nth rc_arr t with
    | some ty => rx_fit ty (rx_elt t u (sp + n))
    | none => false) && rx_cpf t u sp n
def rx_cp (st : List Value) (h : RHeap) (k : List Value → RHeap → Option RRes) : Option RRes := match st with
  | .int n :: .int dp :: .ref a :: .int sp :: .ref b :: r => match decide (n < 0), decide (dp < 0), decide (sp < 0), Nat.blt a 1000000 && Nat.blt b 1000000 && Nat.ble (rx_cats r) 8 && !Nat.beq a b, rx_nth h a, rx_nth h b with
    | false, false, false, true, some (.inl (t, m, u)), some (.inl (t2, m2, u2)) => match Nat.beq t t2 && Nat.blt t 4 && Nat.ble (dp.toNatClampNeg + n.toNatClampNeg) m && Nat.ble (sp.toNatClampNeg + n.toNatClampNeg) m2 && rx_cpf t u2 sp.toNatClampNeg n.toNatClampNeg with
      | true => k r (h.set a (.inl (t, m, rx_cpl t u2 sp.toNatClampNeg dp.toNatClampNeg n.toNatClampNeg ++ u)))
      | false => none
    | _, _, _, _, _, _ => none
  | _ => none
def rx_idv (f : Int32 → Int32 → Int32) (st : List Value) (k : List Value → Option RRes) : Option RRes := match st with
  | .int y :: .int x :: r => match decide (y = 0) with
    | false => k (.int (f x y) :: r)
    | true => none
  | _ => none
def rx_ldv (f : Int64 → Int64 → Int64) (st : List Value) (k : List Value → Option RRes) : Option RRes := match st with
  | .long y :: .long x :: r => match decide (y = 0) with
    | false => k (.long (f x y) :: r)
    | true => none
  | _ => none
def rx_dup2 (st : List Value) (k : List Value → Option RRes) : Option RRes := match st with
  | a :: b :: r => match Nat.beq a.category 1, Nat.beq b.category 1 with
    | true, true => k (a :: b :: a :: b :: r)
    | _, _ => none
  | _ => none
def rx_pop2 (st : List Value) (k : List Value → Option RRes) : Option RRes := match st with
  | a :: r => match Nat.beq a.category 2 with
    | true => k r
    | false => none
  | _ => none
def rx_lk : List (Int × Int) → Int → Int → Int
  | [], d, _ => d
  | (a, o) :: l, d, x => match decide (a = x) with
    | true => o
    | false => rx_lk l d x
def rx_lsw (rows : List RRow) (pc : Nat) (dflt : Int) (ps : Array (Int × Int)) (st : List Value) (k : List RRow → List Value → Option RRes) : Option RRes := match st with
  | .int x :: r => match (ps.toList.zip (ps.toList.drop 1)).all (fun (a, next) => a.1 < next.1) with
    | true => rx_go rows pc (rx_lk ps.toList dflt x.toInt) (fun z => k z r)
    | false => none
  | _ => none
def rx_nul (rows : List RRow) (pc : Nat) (off : Int) (yes : Bool) (st : List Value) (k : List RRow → List Value → Option RRes) (k2 : List Value → Option RRes) : Option RRes := match st with
  | .null :: r => match yes with
    | true => rx_go rows pc off (fun z => k z r)
    | false => k2 r
  | .ref a :: r => match Nat.blt a 2000000 with
    | true => match yes with
      | true => k2 r
      | false => rx_go rows pc off (fun z => k z r)
    | false => none
  | _ => none
def rx_one (O : ROld) (F : RFacts) (C : Nat → List Value → RHeap → Option RRes) (I : RInf) (k : List RRow → RLoc → List Value → RHeap → Option RRes) (pc : Nat) (i : Instr) (len : Nat) (aux : List Nat) (rest : List RRow) (la : RLoc) (st : List Value) (h : RHeap) : Option RRes :=
  match i with
  | .aload_n n => rx_ld rx_isA la n st (fun st => rx_nx k rest (pc + len) la st h)
  | .aload n => rx_ld rx_isA la n st (fun st => rx_nx k rest (pc + len) la st h)
  | .iload_n n => rx_ld rx_isI la n st (fun st => rx_nx k rest (pc + len) la st h)
  | .iload n => rx_ld rx_isI la n st (fun st => rx_nx k rest (pc + len) la st h)
  | .lload_n n => rx_ld rx_isL la n st (fun st => rx_nx k rest (pc + len) la st h)
  | .lload n => rx_ld rx_isL la n st (fun st => rx_nx k rest (pc + len) la st h)
  | .astore_n n => rx_str rx_isA I.1 la n st (fun la st => rx_nx k rest (pc + len) la st h)
  | .astore n => rx_str rx_isA I.1 la n st (fun la st => rx_nx k rest (pc + len) la st h)
  | .istore_n n => rx_str rx_isI I.1 la n st (fun la st => rx_nx k rest (pc + len) la st h)
  | .istore n => rx_str rx_isI I.1 la n st (fun la st => rx_nx k rest (pc + len) la st h)
  | .lstore_n n => rx_str2 rx_isL I.1 la n st (fun la st => rx_nx k rest (pc + len) la st h)
  | .lstore n => rx_str2 rx_isL I.1 la n st (fun la st => rx_nx k rest (pc + len) la st h)
  | .iinc n z => rx_inc I.1 la n z (fun la => rx_nx k rest (pc + len) la st h)
  | .iconst n => rx_nx k rest (pc + len) la (.int (Int32.ofInt n) :: st) h
  | .bipush n => rx_nx k rest (pc + len) la (.int (Int8.ofInt n).toInt32 :: st) h
  | .sipush n => rx_nx k rest (pc + len) la (.int (Int16.ofInt n).toInt32 :: st) h
  | .lconst n => rx_nx k rest (pc + len) la (.long (Int64.ofNat (n : Nat)) :: st) h
  | .aconst_null => rx_nx k rest (pc + len) la (.null :: st) h
  | .ldc _ => match aux with
    | [0, v, _] => rx_nx k rest (pc + len) la (.int (Int32.ofNat v) :: st) h
    | [1, j, _] => rx_nx k rest (pc + len) la (.ref (1000000 + j) :: st) h
    | _ => none
  | .ldc2_w _ => match aux with
    | [v, _] => rx_nx k rest (pc + len) la (.long (Int64.ofNat v) :: st) h
    | _ => none
  | .getstatic _ => match aux with
    | [0, _] => rx_nx k rest (pc + len) la (.int 1 :: st) h
    | [1, _] => rx_nx k rest (pc + len) la (.ref 2000000 :: st) h
    | _ => none
  | .dup => rx_dup st (fun st => rx_nx k rest (pc + len) la st h)
  | .dup_x1 => rx_dupx1 st (fun st => rx_nx k rest (pc + len) la st h)
  | .pop => rx_pop st (fun st => rx_nx k rest (pc + len) la st h)
  | .iadd => rx_b2 (rx_ib (fun x y => x + y)) rx_isI rx_isI st (fun st => rx_nx k rest (pc + len) la st h)
  | .isub => rx_b2 (rx_ib (fun x y => x - y)) rx_isI rx_isI st (fun st => rx_nx k rest (pc + len) la st h)
  | .imul => rx_b2 (rx_ib (fun x y => x * y)) rx_isI rx_isI st (fun st => rx_nx k rest (pc + len) la st h)
  | .iand => rx_b2 (rx_iand F.2.1) rx_isI rx_isI st (fun st => rx_nx k rest (pc + len) la st h)
  | .ior => rx_b2 (rx_ib (fun x y => x ||| y)) rx_isI rx_isI st (fun st => rx_nx k rest (pc + len) la st h)
  | .ishl => rx_b2 (rx_ib (fun x y => x <<< (y &&& 31))) rx_isI rx_isI st (fun st => rx_nx k rest (pc + len) la st h)
  | .ishr => rx_b2 (rx_ib (fun x y => x >>> (y &&& 31))) rx_isI rx_isI st (fun st => rx_nx k rest (pc + len) la st h)
  | .ineg => rx_b1 (rx_iu (fun x => -x)) rx_isI st (fun st => rx_nx k rest (pc + len) la st h)
  | .i2b => rx_b1 (rx_iu (fun x => x.toInt8.toInt32)) rx_isI st (fun st => rx_nx k rest (pc + len) la st h)
  | .i2c => rx_b1 (rx_iu (fun x => (x.toUInt32 % 65536).toInt32)) rx_isI st (fun st => rx_nx k rest (pc + len) la st h)
  | .i2l => rx_b1 rx_i2l rx_isI st (fun st => rx_nx k rest (pc + len) la st h)
  | .l2i => rx_b1 rx_l2i rx_isL st (fun st => rx_nx k rest (pc + len) la st h)
  | .ladd => rx_b2 rx_ladd rx_isL rx_isL st (fun st => rx_nx k rest (pc + len) la st h)
  | .lsub => rx_b2 (rx_lb (fun x y => x - y)) rx_isL rx_isL st (fun st => rx_nx k rest (pc + len) la st h)
  | .lmul => rx_b2 (rx_lb (fun x y => x * y)) rx_isL rx_isL st (fun st => rx_nx k rest (pc + len) la st h)
  | .land => rx_b2 (rx_lb (fun x y => x &&& y)) rx_isL rx_isL st (fun st => rx_nx k rest (pc + len) la st h)
  | .lor => rx_b2 (rx_lb (fun x y => x ||| y)) rx_isL rx_isL st (fun st => rx_nx k rest (pc + len) la st h)
  | .lshl => rx_b2 (rx_ls (fun x y => x <<< (y.toInt64 &&& 63))) rx_isL rx_isI st (fun st => rx_nx k rest (pc + len) la st h)
  | .lshr => rx_b2 (rx_ls (fun x y => x >>> (y.toInt64 &&& 63))) rx_isL rx_isI st (fun st => rx_nx k rest (pc + len) la st h)
  | .lushr => rx_b2 (rx_ls (fun x y => (x.toUInt64 >>> (y.toInt64.toUInt64 &&& Int64.toUInt64 63)).toInt64)) rx_isL rx_isI st (fun st => rx_nx k rest (pc + len) la st h)
  | .lcmp => rx_b2 (rx_lcA F.2.2) rx_isL rx_isL st (fun st => rx_nx k rest (pc + len) la st h)
  | .idiv => rx_idv (fun x y => x / y) st (fun st => rx_nx k rest (pc + len) la st h)
  | .irem => rx_idv (fun x y => x - x / y * y) st (fun st => rx_nx k rest (pc + len) la st h)
  | .ldiv => rx_ldv (fun x y => x / y) st (fun st => rx_nx k rest (pc + len) la st h)
  | .lrem => rx_ldv (fun x y => x - x / y * y) st (fun st => rx_nx k rest (pc + len) la st h)
  | .lneg => rx_b1 (rx_lu (fun x => -x)) rx_isL st (fun st => rx_nx k rest (pc + len) la st h)
  | .lxor => rx_b2 (rx_lb (fun x y => x ^^^ y)) rx_isL rx_isL st (fun st => rx_nx k rest (pc + len) la st h)
  | .dup2 => rx_dup2 st (fun st => rx_nx k rest (pc + len) la st h)
  | .pop2 => rx_pop2 st (fun st => rx_nx k rest (pc + len) la st h)
  | .lookupswitch d ps => rx_lsw I.2.2.1 pc d ps st (fun z st => k z la st h)
  | .ifnull off => rx_nul I.2.2.1 pc off true st (fun z st => k z la st h) (fun st => rx_nx k rest (pc + len) la st h)
  | .ifnonnull off => rx_nul I.2.2.1 pc off false st (fun z st => k z la st h) (fun st => rx_nx k rest (pc + len) la st h)
  | .goto off => rx_go I.2.2.1 pc off (fun z => k z la st h)
  | .if_icmp c off => match st with
    | b :: a :: r => match rx_isI a, rx_isI b, rx_tok pc off with
      | true, true, true => rx_br (rx_cmp F.1 c a b) (fun _ => rx_to I.2.2.1 (rx_tgt pc off) (fun z => k z la r h)) (fun _ => rx_nx k rest (pc + len) la r h)
      | _, _, _ => none
    | _ => none
  | .ifCond c off => match st with
    | a :: r => match rx_isI a, rx_tok pc off with
      | true, true => rx_br (rx_cmp F.1 c a (.int 0)) (fun _ => rx_to I.2.2.1 (rx_tgt pc off) (fun z => k z la r h)) (fun _ => rx_nx k rest (pc + len) la r h)
      | _, _ => none
    | _ => none
  | .tableswitch d lo hi offs => rx_tsw F.1 I.2.2.1 pc d lo hi offs st (fun z st => k z la st h)
  | .getfield _ => match aux with
    | [ci, f, _] => rx_gf O ci f st h (fun st => rx_nx k rest (pc + len) la st h)
    | _ => none
  | .putfield _ => match aux with
    | [ci, f, _] => rx_pf (rc_fty ci f) ci f st h (fun st h => rx_nx k rest (pc + len) la st h)
    | _ => none
  | .new _ => match aux with
    | [7777, E, _] => match I.2.2.2, st with
      | [], [] => some (.inr E, h, 1, 6)
      | _, _ => none
    | [ci, _] => rx_new ci st h (fun st h => rx_nx k rest (pc + len) la st h)
    | _ => none
  | .newarray _ => match aux with
    | [t] => rx_newa t st h (fun st h => rx_nx k rest (pc + len) la st h)
    | _ => none
  | .anewarray _ => match aux with
    | [t, _] => rx_newa t st h (fun st h => rx_nx k rest (pc + len) la st h)
    | _ => none
  | .iaload => rx_ald O (fun t => Nat.beq t 0) st h (fun st => rx_nx k rest (pc + len) la st h)
  | .laload => rx_ald O (fun t => Nat.beq t 1) st h (fun st => rx_nx k rest (pc + len) la st h)
  | .baload => rx_ald O (fun t => Nat.beq t 2 || Nat.beq t 3) st h (fun st => rx_nx k rest (pc + len) la st h)
  | .aaload => rx_ald O (fun t => Nat.ble 4 t) st h (fun st => rx_nx k rest (pc + len) la st h)
  | .iastore => rx_ast (fun t => Nat.beq t 0) (fun _ v => match rx_isI v with | true => some v | false => none) st h (fun st h => rx_nx k rest (pc + len) la st h)
  | .lastore => rx_ast (fun t => Nat.beq t 1) (fun _ v => match rx_isL v with | true => some v | false => none) st h (fun st h => rx_nx k rest (pc + len) la st h)
  | .bastore => rx_ast (fun t => Nat.beq t 2 || Nat.beq t 3) (fun t v => match rx_isI v with | true => some (rx_iu (vp_nar (match t with | 2 => .byte | _ => .boolean)) v) | false => none) st h (fun st h => rx_nx k rest (pc + len) la st h)
  | .aastore => rx_aast st h (fun st h => rx_nx k rest (pc + len) la st h)
  | .arraylength => rx_len O st h (fun st => rx_nx k rest (pc + len) la st h)
  | .invokespecial _ => match aux with
    | [9999, _] => match st with
      | .ref a :: r => match Nat.ble (rx_cats r) 8, Nat.blt a 2000000 with
        | true, true => rx_nx k rest (pc + len) la r h
        | _, _ => none
      | _ => none
    | [mi, n, ci, _] => rx_inv O C st h mi n ci 1 (fun r o => rx_backN r o (fun st h => rx_nx k rest (pc + len) la st h))
    | _ => none
  | .invokevirtual _ => match aux with
    | [mi, n, ci, _] => rx_inv O C st h mi n ci 1 (fun r o => rx_back I.2.2.2 pc r o (fun st h => rx_nx k rest (pc + len) la st h) (fun t h => rx_to I.2.2.1 t (fun z => k z la [.ref 2000000] h)))
    | _ => none
  | .invokestatic _ => match aux with
    | [8888, _] => rx_cp st h (fun st h => rx_nx k rest (pc + len) la st h)
    | [mi, n, _] => rx_inv O C st h mi n 0 0 (fun r o => rx_backN r o (fun st h => rx_nx k rest (pc + len) la st h))
    | _ => none
  | .return_ => match st, I.2.1 with
    | [], 0 => some (.inl none, h, 0, 0)
    | _, _ => none
  | .ireturn => match st, I.2.1 with
    | [.int x], 1 => some (.inl (some (.int x)), h, 0, 0)
    | [.float x], 1 => some (.inl (some (.float x)), h, 0, 0)
    | [.int x], 2 => match decide (narrow .boolean (.int x) = .int x) with
      | true => some (.inl (some (.int x)), h, 0, 0)
      | false => none
    | [.int x], 3 => match decide (narrow .byte (.int x) = .int x) with
      | true => some (.inl (some (.int x)), h, 0, 0)
      | false => none
    | [.int x], 4 => match decide (narrow .char (.int x) = .int x) with
      | true => some (.inl (some (.int x)), h, 0, 0)
      | false => none
    | _, _ => none
  | .lreturn => match st, I.2.1 with
    | [v], 5 => match rx_isL v with
      | true => some (.inl (some v), h, 0, 0)
      | false => none
    | _, _ => none
  | .areturn => match st, I.2.1 with
    | [v], 6 => match rx_isA v with
      | true => some (.inl (some v), h, 0, 0)
      | false => none
    | _, _ => none
  | _ => none
def rx_run (O : ROld) (F : RFacts) (C : Nat → List Value → RHeap → Option RRes) (I : RInf) : Nat → List RRow → RLoc → List Value → RHeap → Option RRes
  | 0, _, _, _, _ => none
  | _ + 1, [], _, _, _ => none
  | n + 1, (pc, i, len, aux) :: rest, la, st, h => rx_one O F C I (rx_run O F C I n) pc i len aux rest la st h
def rx_call (O : ROld) (F : RFacts) (P : List RInf) (steps : Nat) : Nat → Nat → List Value → RHeap → Option RRes
  | 0, _, _, _ => none
  | d + 1, mi, as, h => match rx_nth P mi with
    | some I => match Nat.ble (rx_cats as) I.1 with
      | true => rx_run O F (rx_call O F P steps d) I steps I.2.2.1 (lv_args 0 as) [] h
      | false => none
    | none => none
