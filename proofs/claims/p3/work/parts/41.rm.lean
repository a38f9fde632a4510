/-! the model's state: its fields by number, a row's elements by place -/
abbrev MS : Type := Nat → Int → Int
def mset (m : MS) (f : Nat) (i x : Int) : MS := fun g j => if g = f ∧ j = i then x else m g j
theorem mset_eq {m : MS} {f : Nat} {i x : Int} : mset m f i x f i = x := by simp [mset]
theorem mset_f {m : MS} {f g : Nat} {i j x : Int} (h : g ≠ f) : mset m f i x g j = m g j := by simp [mset, h]
theorem mset_i {m : MS} {f g : Nat} {i j x : Int} (h : j ≠ i) : mset m f i x g j = m g j := by simp [mset, h]
def wt (t : Nat) (x : Int) : Prop := match t with
  | 0 => InI x
  | 1 => InL x
  | 2 => -128 ≤ x ∧ x ≤ 127
  | 3 => x = 0 ∨ x = 1
  | _ => -1 ≤ x
def wv (t : Nat) (x : Int) : Value := match t with
  | 0 => wvi x
  | 1 => wvl x
  | 2 => wvi x
  | 3 => wvi x
  | _ => wva x
theorem InI_z {x : Int} (h : x = 0 ∨ x = 1) : InI x := by
  rcases h with rfl | rfl <;> exact ⟨by decide, by decide⟩
/-- of each field: its kind (ten more: a row of that kind), the row's cell, its length -/
def mtab : List (Nat × Nat × Nat) := [(10, 171, 152), (10, 172, 71), (11, 173, 30), (0, 0, 0), (10, 174, 1500), (0, 0, 0), (0, 0, 0), (0, 0, 0), (0, 0, 0), (0, 0, 0), (0, 0, 0), (1, 0, 0), (0, 0, 0), (0, 0, 0), (0, 0, 0), (0, 0, 0), (11, 175, 140), (10, 176, 140), (10, 177, 140), (13, 178, 140), (10, 179, 140), (13, 180, 140), (10, 181, 140), (10, 182, 140), (13, 183, 140), (10, 184, 140), (10, 185, 140), (10, 186, 140), (10, 187, 140), (13, 188, 140), (10, 189, 140), (0, 0, 0), (0, 0, 0), (0, 0, 0), (3, 0, 0), (0, 0, 0), (0, 0, 0), (3, 0, 0), (0, 0, 0), (0, 0, 0), (0, 0, 0), (0, 0, 0), (10, 190, 8), (10, 191, 8), (10, 192, 8), (0, 0, 0), (10, 193, 240), (10, 194, 240), (10, 195, 240), (10, 196, 240), (13, 197, 240), (10, 198, 1920), (13, 199, 1920), (13, 200, 1920), (10, 201, 1920), (10, 202, 1920), (0, 0, 0), (0, 0, 0), (10, 203, 6000), (10, 204, 6000), (10, 205, 6000), (10, 206, 6000), (0, 0, 0), (0, 0, 0), (10, 207, 4000), (0, 0, 0), (10, 208, 8000), (0, 0, 0), (10, 209, 2000), (0, 0, 0), (10, 210, 6000), (10, 211, 6000), (10, 212, 6000), (10, 213, 6000), (10, 214, 240), (10, 215, 240), (10, 216, 240), (10, 217, 240), (13, 218, 240), (10, 219, 1500), (10, 220, 1500), (0, 0, 0), (0, 0, 0), (10, 221, 1500), (0, 0, 0), (11, 222, 3000), (13, 223, 3000), (0, 0, 0), (0, 0, 0), (0, 0, 0), (0, 0, 0), (10, 224, 200), (10, 225, 200), (10, 226, 200), (10, 227, 200), (10, 228, 200), (11, 229, 70000), (0, 0, 0), (0, 0, 0), (0, 0, 0), (0, 0, 0), (0, 0, 0), (0, 0, 0)]
def RepM (h : RHeap) (m : MS) : Prop :=
  (∃ fs, rx_nth h 170 = some (.inr (12, fs)) ∧ ∀ f c a n, rx_nth mtab f = some (c, a, n) → (c < 10 → rx_nth fs f = some (wv c (m f 0)) ∧ wt c (m f 0)) ∧ (10 ≤ c → rx_nth fs f = some (.ref a))) ∧
  (∀ f c a n, rx_nth mtab f = some (c + 10, a, n) → ∃ u, rx_nth h a = some (.inl (c, n, u)) ∧ ∀ i : Nat, i < n → rx_elt c u i = wv c (m f i) ∧ wt c (m f i))
def SB (h0 h : RHeap) : Prop := h.length = h0.length ∧ ∀ k, k < 170 ∨ 229 < k → h[k]? = h0[k]?
def RM (h0 h : RHeap) (m : MS) : Prop := RepM h m ∧ SB h0 h
theorem SB.refl (h : RHeap) : SB h h := ⟨rfl, fun _ _ => rfl⟩
def mchk : Bool := (List.range 103).all (fun f => match rx_nth mtab f with
  | some (c, a, _) => Nat.blt c 10 || (Nat.ble 171 a && Nat.ble a 229 && (List.range 103).all (fun g => match rx_nth mtab g with
    | some (c2, a2, _) => Nat.blt c2 10 || Nat.beq f g || !Nat.beq a a2
    | none => true))
  | none => false)
theorem mchk_ok : mchk = true := by decide +kernel
theorem nth_lt {α : Type} : ∀ {l : List α} {k : Nat} {x : α}, rx_nth l k = some x → k < l.length
  | [], _, _, h => by cases h
  | _ :: _, 0, _, _ => Nat.zero_lt_succ _
  | _ :: l, k + 1, x, h => Nat.succ_lt_succ (nth_lt (l := l) (k := k) (x := x) h)
theorem nth_set {α : Type} : ∀ {l : List α} {k j : Nat} {x : α}, rx_nth (l.set k x) j = if k = j ∧ k < l.length then some x else rx_nth l j
  | [], k, j, x => by simp [rx_nth]
  | a :: l, 0, 0, x => by simp [rx_nth]
  | a :: l, 0, j + 1, x => by simp [rx_nth]
  | a :: l, k + 1, 0, x => by simp [rx_nth]
  | a :: l, k + 1, j + 1, x => by
    have ih := nth_set (l := l) (k := k) (j := j) (x := x)
    simpa [rx_nth] using ih
theorem mtab_at {f c a n : Nat} (hf : rx_nth mtab f = some (c + 10, a, n)) : 171 ≤ a ∧ a ≤ 229 ∧ ∀ g c2 n2, rx_nth mtab g = some (c2 + 10, a, n2) → f = g := by
  have hl : ∀ {g : Nat} {q : Nat × Nat × Nat}, rx_nth mtab g = some q → g ∈ List.range 103 := fun h => List.mem_range.mpr (nth_lt h)
  have h1 := List.all_eq_true.mp mchk_ok f (hl hf)
  rw [hf] at h1
  have hc : ∀ c : Nat, Nat.blt (c + 10) 10 = false := fun c => by
    cases hb : Nat.blt (c + 10) 10 with
    | false => rfl
    | true => exact absurd (Nat.le_of_ble_eq_true hb) (by omega)
  simp only [hc, Bool.false_or, Bool.and_eq_true] at h1
  refine ⟨Nat.le_of_ble_eq_true h1.1.1, Nat.le_of_ble_eq_true h1.1.2, fun g c2 n2 hg => ?_⟩
  have h2 := List.all_eq_true.mp h1.2 g (hl hg)
  rw [hg] at h2
  simp only [hc, Bool.false_or, Nat.beq_refl, Bool.not_true, Bool.or_false] at h2
  exact Nat.eq_of_beq_eq_true h2
theorem rx_litq {α : Type} (n : Nat) (k : Nat → α) : rx_lit n k = k n := by cases n <;> rfl
theorem elt_cons {t j : Nat} {w : Value} {u : List (Nat × Value)} {i : Nat} : rx_elt t ((j, w) :: u) i = if j = i then w else rx_elt t u i := by
  unfold rx_elt
  show (match (match Nat.beq j i with | true => some w | false => rx_look u i) with | some v => v | none => rx_dv t) = _
  by_cases hj : j = i
  · subst hj
    rw [if_pos rfl, Nat.beq_refl]
  · rw [if_neg hj]
    have : Nat.beq j i = false := by
      cases hb : Nat.beq j i with
      | false => rfl
      | true => exact absurd (Nat.eq_of_beq_eq_true hb) hj
    rw [this]
    rfl
theorem ast_eq {q : Nat → Bool} {fn : Nat → Value → Option Value} {t n a : Nat} {u : List (Nat × Value)} {i : Int32} {v w : Value} {st : List Value} {h : RHeap} {k : List Value → RHeap → Option RRes} (hh : rx_nth h a = some (.inl (t, n, u))) (hq : (q t && Nat.blt a 1000000) = true) (hi : decide (i < 0) = false) (hl : Nat.blt i.toNatClampNeg n = true) (hw : fn t v = some w) : rx_ast q fn (v :: .int i :: .ref a :: st) h k = k st (h.set a (.inl (t, n, (i.toNatClampNeg, w) :: u))) := by
  simp only [rx_ast, hh, hq, hi, hl, hw, rx_litq]
theorem SB.set {h0 h : RHeap} {k : Nat} {c : RCell} (hs : SB h0 h) (hk : 170 ≤ k ∧ k ≤ 229) : SB h0 (h.set k c) := by
  refine ⟨by rw [List.length_set]; exact hs.1, fun j hj => ?_⟩
  rw [List.getElem?_set_ne (by omega)]
  exact hs.2 j hj
/-- a plain field written -/
theorem RM.putf {h0 h : RHeap} {m : MS} {f c : Nat} {x : Int} {fs : List Value} (hr : RM h0 h m) (hf : rx_nth mtab f = some (c, 0, 0)) (hc : c < 10) (hx : wt c x) (hh : rx_nth h 170 = some (.inr (12, fs))) : RM h0 (h.set 170 (.inr (12, fs.set f (wv c x)))) (mset m f 0 x) := by
  obtain ⟨⟨⟨fs', e1, e2⟩, e3⟩, e4⟩ := hr
  rw [hh] at e1
  cases e1
  refine ⟨⟨⟨fs.set f (wv c x), ?_, fun g c2 a n hg => ?_⟩, fun g c2 a n hg => ?_⟩, e4.set ⟨by decide, by decide⟩⟩
  · rw [nth_set, if_pos ⟨rfl, nth_lt hh⟩]
  · obtain ⟨g1, g2⟩ := e2 g c2 a n hg
    have hfl := nth_lt ((e2 f c 0 0 hf).1 hc).1
    by_cases hfg : f = g
    · subst hfg
      rw [hf] at hg
      cases hg
      refine ⟨fun _ => ⟨?_, by rw [mset_eq]; exact hx⟩, fun h9 => absurd hc (by omega)⟩
      rw [nth_set, if_pos ⟨rfl, hfl⟩, mset_eq]
    · rw [nth_set, if_neg (fun z => hfg z.1)]
      refine ⟨fun h9 => ?_, g2⟩
      rw [mset_f (fun z => hfg z.symm)]
      exact g1 h9
  · obtain ⟨u, u1, u2⟩ := e3 g c2 a n hg
    have ha := mtab_at hg
    refine ⟨u, ?_, fun i hi => ?_⟩
    · rw [nth_set, if_neg (fun z => absurd ha.1 (by omega))]
      exact u1
    · rw [mset_f (fun z => by
        rw [z, hf] at hg
        cases hg
        exact absurd hc (by omega))]
      exact u2 i hi
/-- an element written -/
theorem RM.puta {h0 h : RHeap} {m : MS} {f c a n : Nat} {i x : Int} {u : List (Nat × Value)} (hr : RM h0 h m) (hf : rx_nth mtab f = some (c + 10, a, n)) (hx : wt c x) (hh : rx_nth h a = some (.inl (c, n, u))) (hi : 0 ≤ i) : RM h0 (h.set a (.inl (c, n, (i.toNat, wv c x) :: u))) (mset m f i x) := by
  obtain ⟨⟨⟨fs', e1, e2⟩, e3⟩, e4⟩ := hr
  have ha := mtab_at hf
  refine ⟨⟨⟨fs', ?_, fun g c2 a2 n2 hg => ?_⟩, fun g c2 a2 n2 hg => ?_⟩, e4.set ⟨by omega, by omega⟩⟩
  · rw [nth_set, if_neg (fun z => absurd ha.1 (by omega))]
    exact e1
  · obtain ⟨g1, g2⟩ := e2 g c2 a2 n2 hg
    refine ⟨fun h9 => ?_, g2⟩
    rw [mset_f (fun z => by
      rw [z, hf] at hg
      cases hg
      exact absurd h9 (by omega))]
    exact g1 h9
  · obtain ⟨u2, v1, v2⟩ := e3 g c2 a2 n2 hg
    by_cases hfg : f = g
    · subst hfg
      rw [hf] at hg
      cases hg
      rw [hh] at v1
      cases v1
      refine ⟨_, by rw [nth_set, if_pos ⟨rfl, nth_lt hh⟩], fun j hj => ?_⟩
      rw [elt_cons]
      by_cases hij : i.toNat = j
      · rw [if_pos hij, show ((j : Nat) : Int) = i by omega, mset_eq]
        exact ⟨rfl, hx⟩
      · rw [if_neg hij, mset_i (by omega)]
        exact v2 j hj
    · refine ⟨u2, ?_, fun j hj => ?_⟩
      · rw [nth_set, if_neg (fun z => hfg (ha.2.2 g c2 n2 (by rw [z.1]; exact hg)))]
        exact v1
      · rw [mset_f (fun z => hfg z.symm)]
        exact v2 j hj
section WmS
variable {O : ROld} {F : RFacts} {C : Nat → Nat → List Value → RHeap → Option RRes} {I : RInf} {rest : List RRow} {la : RLoc} {st : List Value} {h0 h : RHeap} {m : MS} {Q : RRes → Prop} {pc len : Nat} {aux : List Nat}
theorem wm_gfi {f w x : Nat} (hr : RM h0 h m) (hf : rx_nth mtab f = some (0, 0, 0)) (hn : nxt rest (pc + len) = true) (k : InI (m f 0) → Wq O F C I rest la (wvi (m f 0) :: st) h Q) : Wq O F C I ((pc, .getfield x, len, [12, f, w]) :: rest) la (.ref 170 :: st) h Q := by
  obtain ⟨⟨⟨fs, e1, e2⟩, e3⟩, e4⟩ := hr
  obtain ⟨g1, g2⟩ := (e2 f 0 0 0 hf).1 (by decide)
  refine wq_go (fun c k => ?_) (k g2)
  show rx_gf O 12 f (.ref 170 :: st) h (fun st => rx_nx k rest (pc + len) la st h) = _
  show (match rx_nth h 170 with | some (.inr (c, fs)) => (match Nat.beq c 12, rx_nth fs f with | true, some v => rx_nx k rest (pc + len) la (v :: st) h | _, _ => none) | _ => none) = _
  simp only [e1, g1, Nat.beq_refl]
  exact nx_eq hn
theorem wm_gfl {f w x : Nat} (hr : RM h0 h m) (hf : rx_nth mtab f = some (1, 0, 0)) (hn : nxt rest (pc + len) = true) (k : InL (m f 0) → Wq O F C I rest la (wvl (m f 0) :: st) h Q) : Wq O F C I ((pc, .getfield x, len, [12, f, w]) :: rest) la (.ref 170 :: st) h Q := by
  obtain ⟨⟨⟨fs, e1, e2⟩, e3⟩, e4⟩ := hr
  obtain ⟨g1, g2⟩ := (e2 f 1 0 0 hf).1 (by decide)
  refine wq_go (fun c k => ?_) (k g2)
  show rx_gf O 12 f (.ref 170 :: st) h (fun st => rx_nx k rest (pc + len) la st h) = _
  show (match rx_nth h 170 with | some (.inr (c, fs)) => (match Nat.beq c 12, rx_nth fs f with | true, some v => rx_nx k rest (pc + len) la (v :: st) h | _, _ => none) | _ => none) = _
  simp only [e1, g1, Nat.beq_refl]
  exact nx_eq hn
theorem wm_gfz {f w x : Nat} (hr : RM h0 h m) (hf : rx_nth mtab f = some (3, 0, 0)) (hn : nxt rest (pc + len) = true) (k : (m f 0 = 0 ∨ m f 0 = 1) → Wq O F C I rest la (wvi (m f 0) :: st) h Q) : Wq O F C I ((pc, .getfield x, len, [12, f, w]) :: rest) la (.ref 170 :: st) h Q := by
  obtain ⟨⟨⟨fs, e1, e2⟩, e3⟩, e4⟩ := hr
  obtain ⟨g1, g2⟩ := (e2 f 3 0 0 hf).1 (by decide)
  refine wq_go (fun c k => ?_) (k g2)
  show rx_gf O 12 f (.ref 170 :: st) h (fun st => rx_nx k rest (pc + len) la st h) = _
  show (match rx_nth h 170 with | some (.inr (c, fs)) => (match Nat.beq c 12, rx_nth fs f with | true, some v => rx_nx k rest (pc + len) la (v :: st) h | _, _ => none) | _ => none) = _
  simp only [e1, g1, Nat.beq_refl]
  exact nx_eq hn
theorem wm_gfa {f c a n w x : Nat} (hr : RM h0 h m) (hf : rx_nth mtab f = some (c + 10, a, n)) (hn : nxt rest (pc + len) = true) (k : Wq O F C I rest la (.ref a :: st) h Q) : Wq O F C I ((pc, .getfield x, len, [12, f, w]) :: rest) la (.ref 170 :: st) h Q := by
  obtain ⟨⟨⟨fs, e1, e2⟩, e3⟩, e4⟩ := hr
  have g1 := (e2 f (c + 10) a n hf).2 (by omega)
  refine wq_go (fun c k => ?_) k
  show rx_gf O 12 f (.ref 170 :: st) h (fun st => rx_nx k rest (pc + len) la st h) = _
  show (match rx_nth h 170 with | some (.inr (c, fs)) => (match Nat.beq c 12, rx_nth fs f with | true, some v => rx_nx k rest (pc + len) la (v :: st) h | _, _ => none) | _ => none) = _
  simp only [e1, g1, Nat.beq_refl]
  exact nx_eq hn
theorem wm_pfi {f w x : Nat} {y : Int} (hr : RM h0 h m) (hf : rx_nth mtab f = some (0, 0, 0)) (ht : rc_fty 12 f = some .int) (hy : InI y) (hn : nxt rest (pc + len) = true) (k : ∀ h2, RM h0 h2 (mset m f 0 y) → Wq O F C I rest la st h2 Q) : Wq O F C I ((pc, .putfield x, len, [12, f, w]) :: rest) la (wvi y :: .ref 170 :: st) h Q := by
  have hr0 := hr
  obtain ⟨⟨⟨fs, e1, e2⟩, e3⟩, e4⟩ := hr
  obtain ⟨g1, g2⟩ := (e2 f 0 0 0 hf).1 (by decide)
  have hfl : Nat.blt f fs.length = true := Nat.ble_eq_true_of_le (nth_lt g1)
  have hfit : rx_fit .int (wvi y) = true := by
    show (decide (narrow .int (wvi y) = wvi y) && fits .int (wvi y)) = true
    rw [Bool.and_eq_true]
    exact ⟨decide_eq_true rfl, rfl⟩
  refine wq_go (fun c k => ?_) (k _ (hr0.putf hf (by decide) hy e1))
  show rx_pf (rc_fty 12 f) 12 f (wvi y :: .ref 170 :: st) h (fun st h => rx_nx k rest (pc + len) la st h) = _
  rw [ht]
  simp only [rx_pf, e1, hfit, hfl, Nat.beq_refl, show Nat.blt 170 1000000 = true from rfl, Bool.and_self]
  exact nx_eq hn
theorem wm_pfl {f w x : Nat} {y : Int} (hr : RM h0 h m) (hf : rx_nth mtab f = some (1, 0, 0)) (ht : rc_fty 12 f = some .long) (hy : InL y) (hn : nxt rest (pc + len) = true) (k : ∀ h2, RM h0 h2 (mset m f 0 y) → Wq O F C I rest la st h2 Q) : Wq O F C I ((pc, .putfield x, len, [12, f, w]) :: rest) la (wvl y :: .ref 170 :: st) h Q := by
  have hr0 := hr
  obtain ⟨⟨⟨fs, e1, e2⟩, e3⟩, e4⟩ := hr
  obtain ⟨g1, g2⟩ := (e2 f 1 0 0 hf).1 (by decide)
  have hfl : Nat.blt f fs.length = true := Nat.ble_eq_true_of_le (nth_lt g1)
  have hfit : rx_fit .long (wvl y) = true := by
    show (decide (narrow .long (wvl y) = wvl y) && fits .long (wvl y)) = true
    rw [Bool.and_eq_true]
    exact ⟨decide_eq_true rfl, rfl⟩
  refine wq_go (fun c k => ?_) (k _ (hr0.putf hf (by decide) hy e1))
  show rx_pf (rc_fty 12 f) 12 f (wvl y :: .ref 170 :: st) h (fun st h => rx_nx k rest (pc + len) la st h) = _
  rw [ht]
  simp only [rx_pf, e1, hfit, hfl, Nat.beq_refl, show Nat.blt 170 1000000 = true from rfl, Bool.and_self]
  exact nx_eq hn
theorem wm_pfz {f w x : Nat} {y : Int} (hr : RM h0 h m) (hf : rx_nth mtab f = some (3, 0, 0)) (ht : rc_fty 12 f = some .boolean) (hy : (y = 0 ∨ y = 1)) (hn : nxt rest (pc + len) = true) (k : ∀ h2, RM h0 h2 (mset m f 0 y) → Wq O F C I rest la st h2 Q) : Wq O F C I ((pc, .putfield x, len, [12, f, w]) :: rest) la (wvi y :: .ref 170 :: st) h Q := by
  have hr0 := hr
  obtain ⟨⟨⟨fs, e1, e2⟩, e3⟩, e4⟩ := hr
  obtain ⟨g1, g2⟩ := (e2 f 3 0 0 hf).1 (by decide)
  have hfl : Nat.blt f fs.length = true := Nat.ble_eq_true_of_le (nth_lt g1)
  have hfit : rx_fit .boolean (wvi y) = true := by
    rcases hy with rfl | rfl <;> decide
  refine wq_go (fun c k => ?_) (k _ (hr0.putf hf (by decide) hy e1))
  show rx_pf (rc_fty 12 f) 12 f (wvi y :: .ref 170 :: st) h (fun st h => rx_nx k rest (pc + len) la st h) = _
  rw [ht]
  simp only [rx_pf, e1, hfit, hfl, Nat.beq_refl, show Nat.blt 170 1000000 = true from rfl, Bool.and_self]
  exact nx_eq hn
theorem wm_ali {f a n : Nat} {i : Int} (hr : RM h0 h m) (hf : rx_nth mtab f = some (0 + 10, a, n)) (hi : InI i) (h1 : 0 ≤ i) (h2 : i < n) (hn : nxt rest (pc + len) = true) (k : InI (m f i) → Wq O F C I rest la (wvi (m f i) :: st) h Q) : Wq O F C I ((pc, .iaload, len, aux) :: rest) la (wvi i :: .ref a :: st) h Q := by
  obtain ⟨⟨-, e3⟩, -⟩ := hr
  obtain ⟨u, u1, u2⟩ := e3 f 0 a n hf
  have ha := mtab_at hf
  obtain ⟨g1, g2⟩ := u2 i.toNat (by omega)
  rw [show ((i.toNat : Nat) : Int) = i by omega] at g1 g2
  refine wq_go (fun c k => ?_) (k g2)
  have hold : rx_old a = false := by
    unfold rx_old
    cases hb : Nat.ble 1000000 a with
    | false => rfl
    | true => exact absurd (Nat.le_of_ble_eq_true hb) (by omega)
  have hlt : Nat.blt i.toNat n = true := Nat.ble_eq_true_of_le (by omega)
  show rx_ald O (fun t => Nat.beq t 0) (.int (Int32.ofInt i) :: .ref a :: st) h (fun st => rx_nx k rest (pc + len) la st h) = _
  have hq : ((fun t => Nat.beq t 0)) 0 = true := rfl
  simp only [rx_ald, hold, u1, ofI_neg0 hi h1, ofI_idx hi h1, hlt, hq, g1]
  exact nx_eq hn
theorem wm_all {f a n : Nat} {i : Int} (hr : RM h0 h m) (hf : rx_nth mtab f = some (1 + 10, a, n)) (hi : InI i) (h1 : 0 ≤ i) (h2 : i < n) (hn : nxt rest (pc + len) = true) (k : InL (m f i) → Wq O F C I rest la (wvl (m f i) :: st) h Q) : Wq O F C I ((pc, .laload, len, aux) :: rest) la (wvi i :: .ref a :: st) h Q := by
  obtain ⟨⟨-, e3⟩, -⟩ := hr
  obtain ⟨u, u1, u2⟩ := e3 f 1 a n hf
  have ha := mtab_at hf
  obtain ⟨g1, g2⟩ := u2 i.toNat (by omega)
  rw [show ((i.toNat : Nat) : Int) = i by omega] at g1 g2
  refine wq_go (fun c k => ?_) (k g2)
  have hold : rx_old a = false := by
    unfold rx_old
    cases hb : Nat.ble 1000000 a with
    | false => rfl
    | true => exact absurd (Nat.le_of_ble_eq_true hb) (by omega)
  have hlt : Nat.blt i.toNat n = true := Nat.ble_eq_true_of_le (by omega)
  show rx_ald O (fun t => Nat.beq t 1) (.int (Int32.ofInt i) :: .ref a :: st) h (fun st => rx_nx k rest (pc + len) la st h) = _
  have hq : ((fun t => Nat.beq t 1)) 1 = true := rfl
  simp only [rx_ald, hold, u1, ofI_neg0 hi h1, ofI_idx hi h1, hlt, hq, g1]
  exact nx_eq hn
theorem wm_alz {f a n : Nat} {i : Int} (hr : RM h0 h m) (hf : rx_nth mtab f = some (3 + 10, a, n)) (hi : InI i) (h1 : 0 ≤ i) (h2 : i < n) (hn : nxt rest (pc + len) = true) (k : (m f i = 0 ∨ m f i = 1) → Wq O F C I rest la (wvi (m f i) :: st) h Q) : Wq O F C I ((pc, .baload, len, aux) :: rest) la (wvi i :: .ref a :: st) h Q := by
  obtain ⟨⟨-, e3⟩, -⟩ := hr
  obtain ⟨u, u1, u2⟩ := e3 f 3 a n hf
  have ha := mtab_at hf
  obtain ⟨g1, g2⟩ := u2 i.toNat (by omega)
  rw [show ((i.toNat : Nat) : Int) = i by omega] at g1 g2
  refine wq_go (fun c k => ?_) (k g2)
  have hold : rx_old a = false := by
    unfold rx_old
    cases hb : Nat.ble 1000000 a with
    | false => rfl
    | true => exact absurd (Nat.le_of_ble_eq_true hb) (by omega)
  have hlt : Nat.blt i.toNat n = true := Nat.ble_eq_true_of_le (by omega)
  show rx_ald O (fun t => Nat.beq t 2 || Nat.beq t 3) (.int (Int32.ofInt i) :: .ref a :: st) h (fun st => rx_nx k rest (pc + len) la st h) = _
  have hq : ((fun t => Nat.beq t 2 || Nat.beq t 3)) 3 = true := rfl
  simp only [rx_ald, hold, u1, ofI_neg0 hi h1, ofI_idx hi h1, hlt, hq, g1]
  exact nx_eq hn
theorem wm_asi {f a n : Nat} {i y : Int} (hr : RM h0 h m) (hf : rx_nth mtab f = some (0 + 10, a, n)) (hi : InI i) (h1 : 0 ≤ i) (h2 : i < n) (hy : InI y) (hn : nxt rest (pc + len) = true) (k : ∀ h2, RM h0 h2 (mset m f i y) → Wq O F C I rest la st h2 Q) : Wq O F C I ((pc, .iastore, len, aux) :: rest) la (wvi y :: wvi i :: .ref a :: st) h Q := by
  have hr0 := hr
  obtain ⟨⟨-, e3⟩, -⟩ := hr
  obtain ⟨u, u1, u2⟩ := e3 f 0 a n hf
  have ha := mtab_at hf
  refine wq_go (fun c k => ?_) (k _ (hr0.puta (c := 0) hf hy u1 h1))
  have hal : Nat.blt a 1000000 = true := Nat.ble_eq_true_of_le (by omega)
  have hlt : Nat.blt i.toNat n = true := Nat.ble_eq_true_of_le (by omega)
  have hw : ((fun _ v => match rx_isI v with | true => some v | false => none) 0 (wvi y) : Option Value) = some (wv 0 y) := rfl
  show rx_ast (fun t => Nat.beq t 0) (fun _ v => match rx_isI v with | true => some v | false => none) (wvi y :: .int (Int32.ofInt i) :: .ref a :: st) h (fun st h => rx_nx k rest (pc + len) la st h) = _
  have hq : (((fun t => Nat.beq t 0)) 0 && Nat.blt a 1000000) = true := by
    rw [hal]
    rfl
  rw [ast_eq (q := (fun t => Nat.beq t 0)) (fn := (fun _ v => match rx_isI v with | true => some v | false => none)) u1 hq (ofI_neg0 hi h1) (by rw [ofI_idx hi h1]; exact hlt) hw, ofI_idx hi h1]
  exact nx_eq hn
theorem wm_asl {f a n : Nat} {i y : Int} (hr : RM h0 h m) (hf : rx_nth mtab f = some (1 + 10, a, n)) (hi : InI i) (h1 : 0 ≤ i) (h2 : i < n) (hy : InL y) (hn : nxt rest (pc + len) = true) (k : ∀ h2, RM h0 h2 (mset m f i y) → Wq O F C I rest la st h2 Q) : Wq O F C I ((pc, .lastore, len, aux) :: rest) la (wvl y :: wvi i :: .ref a :: st) h Q := by
  have hr0 := hr
  obtain ⟨⟨-, e3⟩, -⟩ := hr
  obtain ⟨u, u1, u2⟩ := e3 f 1 a n hf
  have ha := mtab_at hf
  refine wq_go (fun c k => ?_) (k _ (hr0.puta (c := 1) hf hy u1 h1))
  have hal : Nat.blt a 1000000 = true := Nat.ble_eq_true_of_le (by omega)
  have hlt : Nat.blt i.toNat n = true := Nat.ble_eq_true_of_le (by omega)
  have hw : ((fun _ v => match rx_isL v with | true => some v | false => none) 1 (wvl y) : Option Value) = some (wv 1 y) := rfl
  show rx_ast (fun t => Nat.beq t 1) (fun _ v => match rx_isL v with | true => some v | false => none) (wvl y :: .int (Int32.ofInt i) :: .ref a :: st) h (fun st h => rx_nx k rest (pc + len) la st h) = _
  have hq : (((fun t => Nat.beq t 1)) 1 && Nat.blt a 1000000) = true := by
    rw [hal]
    rfl
  rw [ast_eq (q := (fun t => Nat.beq t 1)) (fn := (fun _ v => match rx_isL v with | true => some v | false => none)) u1 hq (ofI_neg0 hi h1) (by rw [ofI_idx hi h1]; exact hlt) hw, ofI_idx hi h1]
  exact nx_eq hn
theorem wm_asz {f a n : Nat} {i y : Int} (hr : RM h0 h m) (hf : rx_nth mtab f = some (3 + 10, a, n)) (hi : InI i) (h1 : 0 ≤ i) (h2 : i < n) (hy : (y = 0 ∨ y = 1)) (hn : nxt rest (pc + len) = true) (k : ∀ h2, RM h0 h2 (mset m f i y) → Wq O F C I rest la st h2 Q) : Wq O F C I ((pc, .bastore, len, aux) :: rest) la (wvi y :: wvi i :: .ref a :: st) h Q := by
  have hr0 := hr
  obtain ⟨⟨-, e3⟩, -⟩ := hr
  obtain ⟨u, u1, u2⟩ := e3 f 3 a n hf
  have ha := mtab_at hf
  refine wq_go (fun c k => ?_) (k _ (hr0.puta (c := 3) hf hy u1 h1))
  have hal : Nat.blt a 1000000 = true := Nat.ble_eq_true_of_le (by omega)
  have hlt : Nat.blt i.toNat n = true := Nat.ble_eq_true_of_le (by omega)
  have hw : ((fun t v => match rx_isI v with | true => some (rx_iu (vp_nar (match t with | 2 => .byte | _ => .boolean)) v) | false => none) 3 (wvi y) : Option Value) = some (wv 3 y) := by
    rcases hy with rfl | rfl <;> decide
  show rx_ast (fun t => Nat.beq t 2 || Nat.beq t 3) (fun t v => match rx_isI v with | true => some (rx_iu (vp_nar (match t with | 2 => .byte | _ => .boolean)) v) | false => none) (wvi y :: .int (Int32.ofInt i) :: .ref a :: st) h (fun st h => rx_nx k rest (pc + len) la st h) = _
  have hq : (((fun t => Nat.beq t 2 || Nat.beq t 3)) 3 && Nat.blt a 1000000) = true := by
    rw [hal]
    rfl
  rw [ast_eq (q := (fun t => Nat.beq t 2 || Nat.beq t 3)) (fn := (fun t v => match rx_isI v with | true => some (rx_iu (vp_nar (match t with | 2 => .byte | _ => .boolean)) v) | false => none)) u1 hq (ofI_neg0 hi h1) (by rw [ofI_idx hi h1]; exact hlt) hw, ofI_idx hi h1]
  exact nx_eq hn
theorem RM.recv (hr : RM h0 h m) : rx_recv O 12 h (.ref 170) = true := by
  obtain ⟨⟨⟨fs, e1, -⟩, -⟩, -⟩ := hr
  show (match rx_nth h 170 with | some (.inr (c, _)) => Nat.beq c 12 | _ => false) = true
  rw [e1]
  rfl
/-- a call of a method on a cell -/
theorem wq_callv {mi n ci w x b : Nat} {as r : List Value} {ov : Option Value} {h2 : RHeap} (ht : rx_take n [] st = some (as, .ref b :: r)) (hc : Nat.ble (rx_cats r) 8 = true) (hb : rx_recv O ci h (.ref b) = true) (hn : nxt rest (pc + len) = true) (hC : Cq C mi (.ref b :: as) h (fun q => q = (.inl ov, h2, 0, 0))) (k : Wq O F C I rest la (ov.toList ++ r) h2 Q) : Wq O F C I ((pc, .invokevirtual x, len, [mi, n, ci, w]) :: rest) la st h Q := by
  obtain ⟨q, N1, c1, rfl⟩ := hC
  obtain ⟨⟨r1, r2, r3, r4⟩, N2, w1, w2⟩ := k
  refine ⟨(r1, r2, r3, r4), N1 + N2 + 1, fun s n hs hn2 => ?_, w2⟩
  obtain ⟨n, rfl⟩ : ∃ m, n = m + 1 := ⟨n - 1, by omega⟩
  show rx_inv O (C s) st h mi _ ci 1 (fun r o => rx_back I.2.2.2 pc r o (fun st h => rx_nx (rx_run O F (C s) I n) rest (pc + len) la st h) (fun t h => rx_to I.2.2.1 t (fun z => rx_run O F (C s) I n z la [.ref 2000000] h))) = _
  unfold rx_inv
  rw [ht]
  simp only [hc, hb]
  rw [c1 s (by omega)]
  have hw := w1 s n (by omega) (by omega)
  cases ov with
  | none =>
    show rx_more 0 0 (rx_nx (rx_run O F (C s) I n) rest (pc + len) la r h2) = _
    rw [nx_eq hn]
    show rx_more 0 0 (rx_run O F (C s) I n rest la r h2) = _
    rw [show rx_run O F (C s) I n rest la r h2 = some (r1, r2, r3, r4) from hw]
    rfl
  | some v =>
    show rx_more 0 0 (rx_nx (rx_run O F (C s) I n) rest (pc + len) la (v :: r) h2) = _
    rw [nx_eq hn]
    rw [show rx_run O F (C s) I n rest la (v :: r) h2 = some (r1, r2, r3, r4) from hw]
    rfl
theorem wq_calls {mi n w x : Nat} {as r : List Value} {ov : Option Value} {h2 : RHeap} (hone : ∀ (c : Nat → List Value → RHeap → Option RRes) (k : List RRow → RLoc → List Value → RHeap → Option RRes), rx_one O F c I k pc (.invokestatic x) len [mi, n, w] rest la st h = rx_inv O c st h mi n 0 0 (fun r o => rx_backN r o (fun st h => rx_nx k rest (pc + len) la st h))) (ht : rx_take n [] st = some (as, r)) (hc : Nat.ble (rx_cats r) 8 = true) (hn : nxt rest (pc + len) = true) (hC : Cq C mi as h (fun q => q = (.inl ov, h2, 0, 0))) (k : Wq O F C I rest la (ov.toList ++ r) h2 Q) : Wq O F C I ((pc, .invokestatic x, len, [mi, n, w]) :: rest) la st h Q := by
  obtain ⟨q, N1, c1, rfl⟩ := hC
  obtain ⟨⟨r1, r2, r3, r4⟩, N2, w1, w2⟩ := k
  refine ⟨(r1, r2, r3, r4), N1 + N2 + 1, fun s n hs hn2 => ?_, w2⟩
  obtain ⟨n, rfl⟩ : ∃ m, n = m + 1 := ⟨n - 1, by omega⟩
  show rx_one O F (C s) I (rx_run O F (C s) I n) pc (.invokestatic x) len [mi, _, w] rest la st h = _
  rw [hone]
  unfold rx_inv
  rw [ht]
  simp only [hc]
  rw [c1 s (by omega)]
  have hw := w1 s n (by omega) (by omega)
  cases ov with
  | none =>
    show rx_more 0 0 (rx_nx (rx_run O F (C s) I n) rest (pc + len) la r h2) = _
    rw [nx_eq hn]
    rw [show rx_run O F (C s) I n rest la r h2 = some (r1, r2, r3, r4) from hw]
    rfl
  | some v =>
    show rx_more 0 0 (rx_nx (rx_run O F (C s) I n) rest (pc + len) la (v :: r) h2) = _
    rw [nx_eq hn]
    rw [show rx_run O F (C s) I n rest la (v :: r) h2 = some (r1, r2, r3, r4) from hw]
    rfl
def QN (h0 : RHeap) (m : MS) : RRes → Prop := fun q => ∃ h2, q = (.inl none, h2, 0, 0) ∧ RM h0 h2 m
def QV (t : Nat) (h0 : RHeap) (v : Int) (m : MS) : RRes → Prop := fun q => ∃ h2, q = (.inl (some (wv t v)), h2, 0, 0) ∧ RM h0 h2 m ∧ wt t v
theorem wm_cvN {mi n w x : Nat} {as r : List Value} {m2 : MS} (hr : RM h0 h m) (hC : Cq C mi (.ref 170 :: as) h (QN h0 m2)) (ht : rx_take n [] st = some (as, .ref 170 :: r)) (hc : Nat.ble (rx_cats r) 8 = true) (hn : nxt rest (pc + len) = true) (k : ∀ h2, RM h0 h2 m2 → Wq O F C I rest la r h2 Q) : Wq O F C I ((pc, .invokevirtual x, len, [mi, n, 12, w]) :: rest) la st h Q := by
  obtain ⟨q, N, c1, h2, e1, e2⟩ := hC
  exact wq_callv ht hc hr.recv hn ⟨q, N, c1, e1⟩ (k h2 e2)
theorem wm_cvV {t : Nat} {v : Int} {mi n w x : Nat} {as r : List Value} {m2 : MS} (hr : RM h0 h m) (hC : Cq C mi (.ref 170 :: as) h (QV t h0 v m2)) (ht : rx_take n [] st = some (as, .ref 170 :: r)) (hc : Nat.ble (rx_cats r) 8 = true) (hn : nxt rest (pc + len) = true) (k : ∀ h2, RM h0 h2 m2 → wt t v → Wq O F C I rest la (wv t v :: r) h2 Q) : Wq O F C I ((pc, .invokevirtual x, len, [mi, n, 12, w]) :: rest) la st h Q := by
  obtain ⟨q, N, c1, h2, e1, e2, e3⟩ := hC
  exact wq_callv ht hc hr.recv hn ⟨q, N, c1, e1⟩ (k h2 e2 e3)
theorem wm_csV {t : Nat} {v : Int} {mi n w x : Nat} {as r : List Value} {m2 : MS} (hone : ∀ (c : Nat → List Value → RHeap → Option RRes) (k : List RRow → RLoc → List Value → RHeap → Option RRes), rx_one O F c I k pc (.invokestatic x) len [mi, n, w] rest la st h = rx_inv O c st h mi n 0 0 (fun r o => rx_backN r o (fun st h => rx_nx k rest (pc + len) la st h))) (hC : Cq C mi as h (QV t h0 v m2)) (ht : rx_take n [] st = some (as, r)) (hc : Nat.ble (rx_cats r) 8 = true) (hn : nxt rest (pc + len) = true) (k : ∀ h2, RM h0 h2 m2 → wt t v → Wq O F C I rest la (wv t v :: r) h2 Q) : Wq O F C I ((pc, .invokestatic x, len, [mi, n, w]) :: rest) la st h Q := by
  obtain ⟨q, N, c1, h2, e1, e2, e3⟩ := hC
  exact wq_calls hone ht hc hn ⟨q, N, c1, e1⟩ (k h2 e2 e3)
end WmS
