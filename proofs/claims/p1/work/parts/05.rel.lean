/-! what the runner's values, rows and cells stand for -/
def rx_dl (rho : UInt32 → Int32) (e : UInt64) : Int64 := (rho e.toUInt32).toInt64 + Int64.ofNat (e.toNat / 4294967296)
def rx_R (old : Nat → Nat) (rho : UInt32 → Int32) (ads : List Nat) : Value → Value → Prop
  | .int x, c => c = .int x
  | .long x, c => c = .long x
  | .null, c => c = .null
  | .float i, c => ∃ x, c = .int x ∧ (i ≠ 0 → x = rho i)
  | .double e, c => ∃ x, c = .long x ∧ (e ≠ 0 → x = rx_dl rho e)
  | .ref k, c => (2000000 ≤ k ∧ (c = .null ∨ ∃ a, c = .ref a)) ∨ (1000000 ≤ k ∧ k < 2000000 ∧ c = .ref (old (k - 1000000))) ∨ (k < 1000000 ∧ ∃ a, ads[k]? = some a ∧ c = .ref a)
  | .retAddr _, _ => False
def rx_RL (old : Nat → Nat) (rho : UInt32 → Int32) (ads : List Nat) : List Value → List Value → Prop
  | [], [] => True
  | a :: as, c :: cs => rx_R old rho ads a c ∧ rx_RL old rho ads as cs
  | _, _ => False
def rx_RC (old : Nat → Nat) (rho : UInt32 → Int32) (ads : List Nat) : RLoc → RLoc → Prop
  | [], [] => True
  | a :: as, c :: cs => (a.1 = c.1 ∧ rx_R old rho ads a.2 c.2) ∧ rx_RC old rho ads as cs
  | _, _ => False
def rx_kind (t : Nat) (x : vp_A) : Prop := match t with
  | 0 => ∃ f, x.2 = .inl f
  | 1 => ∃ f, x.2 = .inr (.inl f)
  | 2 => ∃ f, x.2 = .inl f
  | 3 => ∃ f, x.2 = .inl f
  | _ => ∃ f, x.2 = .inr (.inr (.inr (.inr f)))
def rx_xv (x : vp_A) (j : Nat) : Value := match x.2 with
  | .inl f => .int (f j)
  | .inr (.inl f) => .long (f j)
  | .inr (.inr (.inl f)) => .float (f j)
  | .inr (.inr (.inr (.inl f))) => .double (f j)
  | .inr (.inr (.inr (.inr f))) => va_rf (f j)
def rx_RE (old : Nat → Nat) (rho : UInt32 → Int32) (cA : Nat → ClassId) (ads : List Nat) : RCell → va_E → Prop
  | .inl (t, n, u), .inl (c, x) => c = cA t ∧ x.1 = n ∧ rx_kind t x ∧ t < rc_arr.length ∧ ∀ j, j < n → rx_R old rho ads (rx_elt t u j) (rx_xv x j)
  | .inr (ci, fs), .inr (cj, gs) => ci = cj ∧ rx_RL old rho ads fs gs
  | _, _ => False
def rx_RW (old : Nat → Nat) (rho : UInt32 → Int32) (cA : Nat → ClassId) (ads : List Nat) : RHeap → va_W → Prop
  | [], [] => True
  | a :: h, q :: ws => rx_RE old rho cA ads a q.2 ∧ rx_RW old rho cA ads h ws
  | _, _ => False
section RelA
variable {old : Nat → Nat} {rho : UInt32 → Int32} {cA : Nat → ClassId} {ads : List Nat}
theorem rx_nth_eq {α : Type} : ∀ (l : List α) (k : Nat), rx_nth l k = l[k]?
  | [], _ => by simp [rx_nth]
  | _ :: _, 0 => by simp [rx_nth]
  | _ :: l, k + 1 => by simp [rx_nth, rx_nth_eq l k]
theorem rx_lit_eq {α : Type} (n : Nat) (k : Nat → α) : rx_lit n k = k n := by cases n <;> rfl
theorem rx_R.more {l : List Nat} {a c : Value} (h : rx_R old rho ads a c) : rx_R old rho (ads ++ l) a c := by
  cases a with
  | ref k =>
    rcases h with h | h | ⟨h1, a, h2, h3⟩
    · exact Or.inl h
    · exact Or.inr (Or.inl h)
    · refine Or.inr (Or.inr ⟨h1, a, ?_, h3⟩)
      rw [List.getElem?_append_left (List.getElem?_eq_some_iff.mp h2).1]
      exact h2
  | _ => exact h
theorem rx_RL.more {l : List Nat} : ∀ {as cs : List Value}, rx_RL old rho ads as cs → rx_RL old rho (ads ++ l) as cs
  | [], [], _ => trivial
  | _ :: _, _ :: _, h => ⟨h.1.more, rx_RL.more h.2⟩
  | [], _ :: _, h => h.elim
  | _ :: _, [], h => h.elim
theorem rx_RC.more {l : List Nat} : ∀ {as cs : RLoc}, rx_RC old rho ads as cs → rx_RC old rho (ads ++ l) as cs
  | [], [], _ => trivial
  | _ :: _, _ :: _, h => ⟨⟨h.1.1, h.1.2.more⟩, rx_RC.more h.2⟩
  | [], _ :: _, h => h.elim
  | _ :: _, [], h => h.elim
theorem rx_RE.more {l : List Nat} : ∀ {a : RCell} {e : va_E}, rx_RE old rho cA ads a e → rx_RE old rho cA (ads ++ l) a e
  | .inl (_, _, _), .inl (_, _), h => ⟨h.1, h.2.1, h.2.2.1, h.2.2.2.1, fun j hj => (h.2.2.2.2 j hj).more⟩
  | .inr (_, _), .inr (_, _), h => ⟨h.1, h.2.more⟩
  | .inl _, .inr _, h => h.elim
  | .inr _, .inl _, h => h.elim
theorem rx_RW.more {l : List Nat} : ∀ {h : RHeap} {ws : va_W}, rx_RW old rho cA ads h ws → rx_RW old rho cA (ads ++ l) h ws
  | [], [], _ => trivial
  | _ :: _, _ :: _, h => ⟨h.1.more, rx_RW.more h.2⟩
  | [], _ :: _, h => h.elim
  | _ :: _, [], h => h.elim
theorem rx_RW.len : ∀ {h : RHeap} {ws : va_W}, rx_RW old rho cA ads h ws → h.length = ws.length
  | [], [], _ => rfl
  | _ :: _, _ :: _, h => by simp [rx_RW.len h.2]
  | [], _ :: _, h => h.elim
  | _ :: _, [], h => h.elim
theorem rx_RW.get : ∀ {h : RHeap} {ws : va_W} {k : Nat} {a : RCell}, rx_RW old rho cA ads h ws → h[k]? = some a → ∃ q, ws[k]? = some q ∧ rx_RE old rho cA ads a q.2
  | [], _, _, _, _, hk => by simp at hk
  | _ :: _, q :: _, 0, _, h, hk => ⟨q, by simp, by simp at hk; exact hk ▸ h.1⟩
  | _ :: _, _ :: _, k + 1, a, h, hk => by
    simp at hk
    obtain ⟨q, h1, h2⟩ := rx_RW.get h.2 hk
    exact ⟨q, by simpa using h1, h2⟩
  | _ :: _, [], _, _, h, _ => h.elim
theorem rx_RW.set : ∀ {h : RHeap} {ws : va_W} {k : Nat} {a : RCell} {q : Nat × va_E}, rx_RW old rho cA ads h ws → rx_RE old rho cA ads a q.2 → rx_RW old rho cA ads (h.set k a) (ws.set k q)
  | [], [], _, _, _, _, _ => trivial
  | _ :: _, _ :: _, 0, _, _, h, he => ⟨he, h.2⟩
  | _ :: _, _ :: _, _ + 1, _, _, h, he => ⟨h.1, rx_RW.set h.2 he⟩
  | [], _ :: _, _, _, _, h, _ => h.elim
  | _ :: _, [], _, _, _, h, _ => h.elim
theorem rx_RW.push : ∀ {h : RHeap} {ws : va_W} {a : RCell} {q : Nat × va_E}, rx_RW old rho cA ads h ws → rx_RE old rho cA ads a q.2 → rx_RW old rho cA ads (h ++ [a]) (ws ++ [q])
  | [], [], _, _, _, he => ⟨he, trivial⟩
  | _ :: _, _ :: _, _, _, h, he => ⟨h.1, rx_RW.push h.2 he⟩
  | [], _ :: _, _, _, h, _ => h.elim
  | _ :: _, [], _, _, h, _ => h.elim
theorem rx_ads_set {ws : va_W} {k : Nat} {a : Nat} {e0 e : va_E} (h : ws[k]? = some (a, e0)) : (ws.set k (a, e)).map (·.1) = ws.map (·.1) := by
  apply List.ext_getElem?
  intro i
  rw [List.getElem?_map, List.getElem?_map]
  by_cases hi : k = i
  · subst hi
    rw [List.getElem?_set_self (List.getElem?_eq_some_iff.mp h).1, h]
    rfl
  · rw [List.getElem?_set_ne hi]
theorem rx_RL.get : ∀ {fs gs : List Value} {k : Nat} {v : Value}, rx_RL old rho ads fs gs → fs[k]? = some v → ∃ g, gs[k]? = some g ∧ rx_R old rho ads v g
  | [], _, _, _, _, hk => by simp at hk
  | _ :: _, g :: _, 0, _, h, hk => ⟨g, by simp, by simp at hk; exact hk ▸ h.1⟩
  | _ :: _, _ :: _, k + 1, v, h, hk => by
    simp at hk
    obtain ⟨q, h1, h2⟩ := rx_RL.get h.2 hk
    exact ⟨q, by simpa using h1, h2⟩
  | _ :: _, [], _, _, h, _ => h.elim
theorem rx_RL.len : ∀ {fs gs : List Value}, rx_RL old rho ads fs gs → fs.length = gs.length
  | [], [], _ => rfl
  | _ :: _, _ :: _, h => by simp [rx_RL.len h.2]
  | [], _ :: _, h => h.elim
  | _ :: _, [], h => h.elim
theorem rx_RL.set : ∀ {fs gs : List Value} {k : Nat} {v g : Value}, rx_RL old rho ads fs gs → rx_R old rho ads v g → rx_RL old rho ads (fs.set k v) (gs.set k g)
  | [], [], _, _, _, _, _ => trivial
  | _ :: _, _ :: _, 0, _, _, h, he => ⟨he, h.2⟩
  | _ :: _, _ :: _, _ + 1, _, _, h, he => ⟨h.1, rx_RL.set h.2 he⟩
  | [], _ :: _, _, _, _, h, _ => h.elim
  | _ :: _, [], _, _, _, h, _ => h.elim
theorem rx_RL.app : ∀ {fs gs fs' gs' : List Value}, rx_RL old rho ads fs gs → rx_RL old rho ads fs' gs' → rx_RL old rho ads (fs ++ fs') (gs ++ gs')
  | [], [], _, _, _, h => h
  | _ :: _, _ :: _, _, _, h, h' => ⟨h.1, rx_RL.app h.2 h'⟩
  | [], _ :: _, _, _, h, _ => h.elim
  | _ :: _, [], _, _, h, _ => h.elim
theorem rx_R.cat {a c : Value} (h : rx_R old rho ads a c) : a.category = c.category := by
  cases a with
  | int x => cases h; rfl
  | long x => cases h; rfl
  | null => cases h; rfl
  | float i => obtain ⟨x, rfl, -⟩ := h; rfl
  | double i => obtain ⟨x, rfl, -⟩ := h; rfl
  | ref k =>
    rcases h with ⟨-, rfl | ⟨a, rfl⟩⟩ | ⟨-, -, rfl⟩ | ⟨-, a, -, rfl⟩ <;> rfl
  | retAddr _ => exact h.elim
theorem rx_RL.cats : ∀ {fs gs : List Value}, rx_RL old rho ads fs gs → rx_cats fs = (gs.map fun v => v.category).sum
  | [], [], _ => rfl
  | _ :: _, _ :: _, h => by simp [rx_cats, h.1.cat, rx_RL.cats h.2]
  | [], _ :: _, h => h.elim
  | _ :: _, [], h => h.elim
theorem rx_RC.look : ∀ {la lc : RLoc} {i : Nat} {v : Value}, rx_RC old rho ads la lc → rx_look la i = some v → ∃ c, (i, c) ∈ lc ∧ rx_R old rho ads v c
  | [], _, _, _, _, hk => by simp [rx_look] at hk
  | (j, w) :: la, (j', c) :: lc, i, v, h, hk => by
    unfold rx_look at hk
    split at hk
    · rename_i hj
      have hj := Nat.eq_of_beq_eq_true hj
      cases hk
      have h1 : j = j' := h.1.1
      exact ⟨c, by rw [← hj, h1]; exact List.mem_cons_self, h.1.2⟩
    · obtain ⟨c, h1, h2⟩ := rx_RC.look h.2 hk
      exact ⟨c, List.mem_cons_of_mem _ h1, h2⟩
  | _ :: _, [], _, _, h, _ => h.elim
theorem rx_RC.filter (f : Nat → Nat → Bool) : ∀ {la lc : RLoc}, rx_RC old rho ads la lc → rx_RC old rho ads (la.filter fun q => f q.1 q.2.category) (lc.filter fun q => f q.1 q.2.category)
  | [], [], _ => trivial
  | a :: la, c :: lc, h => by
    have h1 : a.1 = c.1 := h.1.1
    have h2 := h.1.2.cat
    simp only [List.filter_cons, h1, h2]
    split
    · exact ⟨h.1, rx_RC.filter f h.2⟩
    · exact rx_RC.filter f h.2
  | [], _ :: _, h => h.elim
  | _ :: _, [], h => h.elim
theorem rx_RC.entry : ∀ {as cs : List Value} {i : Nat}, rx_RL old rho ads as cs → rx_RC old rho ads (lv_args i as) (lv_args i cs)
  | [], [], _, _ => trivial
  | _ :: _, _ :: _, i, h => by
    simp only [lv_args, h.1.cat]
    exact ⟨⟨rfl, h.1⟩, rx_RC.entry h.2⟩
  | [], _ :: _, _, h => h.elim
  | _ :: _, [], _, h => h.elim
theorem rx_R.isI {a c : Value} (h : rx_R old rho ads a c) (hi : rx_isI a = true) : ∃ x, c = .int x := by
  cases a with
  | int x => exact ⟨x, h⟩
  | float i => obtain ⟨x, h1, -⟩ := h; exact ⟨x, h1⟩
  | _ => cases hi
theorem rx_R.isL {a c : Value} (h : rx_R old rho ads a c) (hi : rx_isL a = true) : ∃ x, c = .long x := by
  cases a with
  | long x => exact ⟨x, h⟩
  | double i => obtain ⟨x, hx, -⟩ := h; exact ⟨x, hx⟩
  | _ => cases hi
theorem rx_R.isA {a c : Value} (h : rx_R old rho ads a c) (hi : rx_isA a = true) : c = .null ∨ ∃ x, c = .ref x := by
  cases a with
  | null => exact Or.inl h
  | ref k =>
    rcases h with ⟨-, h⟩ | ⟨-, -, h⟩ | ⟨-, a, -, h⟩
    · exact h
    · exact Or.inr ⟨_, h⟩
    · exact Or.inr ⟨_, h⟩
  | _ => cases hi
theorem rx_R.anyI {x : Int32} : rx_R old rho ads (.float 0) (.int x) := ⟨x, rfl, fun h => absurd rfl h⟩
theorem rx_R.ib {f : Int32 → Int32 → Int32} {a b : Value} {x y : Int32} (ha : rx_R old rho ads a (.int x)) (hb : rx_R old rho ads b (.int y)) : rx_R old rho ads (rx_ib f a b) (.int (f x y)) := by
  unfold rx_ib
  split
  · cases ha; cases hb; rfl
  · exact rx_R.anyI
theorem rx_R.iu {f : Int32 → Int32} {a : Value} {x : Int32} (ha : rx_R old rho ads a (.int x)) : rx_R old rho ads (rx_iu f a) (.int (f x)) := by
  unfold rx_iu
  split
  · cases ha; rfl
  · exact rx_R.anyI
theorem rx_R.anyL {x : Int64} : rx_R old rho ads (.double 0) (.long x) := ⟨x, rfl, fun h => absurd rfl h⟩
theorem rx_R.lb {f : Int64 → Int64 → Int64} {a b : Value} {x y : Int64} (ha : rx_R old rho ads a (.long x)) (hb : rx_R old rho ads b (.long y)) : rx_R old rho ads (rx_lb f a b) (.long (f x y)) := by
  unfold rx_lb
  split
  · cases ha; cases hb; rfl
  · exact rx_R.anyL
theorem rx_R.ls {f : Int64 → Int32 → Int64} {a b : Value} {x : Int64} {y : Int32} (ha : rx_R old rho ads a (.long x)) (hb : rx_R old rho ads b (.int y)) : rx_R old rho ads (rx_ls f a b) (.long (f x y)) := by
  unfold rx_ls
  split
  · cases ha; cases hb; rfl
  · exact rx_R.anyL
theorem rx_R.i2l {a : Value} {x : Int32} (ha : rx_R old rho ads a (.int x)) : rx_R old rho ads (rx_i2l a) (.long x.toInt64) := by
  unfold rx_i2l
  split
  · cases ha; rfl
  · rename_i i
    obtain ⟨x2, e1, e2⟩ := ha
    cases e1
    refine ⟨_, rfl, fun hi => ?_⟩
    have hi2 : i ≠ 0 := fun z => hi (by rw [z]; rfl)
    rw [e2 hi2]
    unfold rx_dl
    rw [UInt32.toUInt32_toUInt64, UInt32.toNat_toUInt64, Nat.div_eq_of_lt i.toNat_lt]
    exact (Int64.add_zero _).symm
  · exact rx_R.anyL
theorem rx_R.ladd {a b : Value} {x y : Int64} (ha : rx_R old rho ads a (.long x)) (hb : rx_R old rho ads b (.long y)) : rx_R old rho ads (rx_ladd a b) (.long (x + y)) := by
  unfold rx_ladd
  split
  · cases ha; cases hb; rfl
  · rename_i e9 y2
    split
    · rename_i h1 h2 h3 h4
      cases hb
      obtain ⟨x2, e1, e2⟩ := ha
      cases e1
      have h1 := of_decide_eq_false h1
      have h2 : e9.toNat < 4294967296 := Nat.le_of_ble_eq_true h2
      have h3 : y.toNatClampNeg < 1000 := Nat.le_of_ble_eq_true h3
      have h4 := of_decide_eq_true h4
      refine ⟨_, rfl, fun _ => ?_⟩
      have hn : (UInt64.ofNat (e9.toNat + 4294967296 * y.toNatClampNeg)).toNat = e9.toNat + 4294967296 * y.toNatClampNeg := by
        rw [UInt64.toNat_ofNat', Nat.mod_eq_of_lt]
        omega
      have h5 : (UInt64.ofNat (e9.toNat + 4294967296 * y.toNatClampNeg)).toUInt32 = e9.toUInt32 := by
        apply UInt32.toNat_inj.mp
        rw [UInt64.toNat_toUInt32, UInt64.toNat_toUInt32, hn]
        omega
      rw [e2 h1]
      unfold rx_dl
      rw [h5, hn, Nat.div_eq_of_lt h2, show (e9.toNat + 4294967296 * y.toNatClampNeg) / 4294967296 = y.toNatClampNeg by omega, h4]
      show _ + 0 + y = _
      rw [Int64.add_zero]
    · exact rx_R.anyL
  · exact rx_R.anyL
theorem rx_R.l2i {a : Value} {x : Int64} (ha : rx_R old rho ads a (.long x)) : rx_R old rho ads (rx_l2i a) (.int x.toInt32) := by
  unfold rx_l2i
  split
  · cases ha; rfl
  · exact rx_R.anyI
theorem rx_R.lc {a b : Value} {x y : Int64} (ha : rx_R old rho ads a (.long x)) (hb : rx_R old rho ads b (.long y)) : rx_R old rho ads (rx_lc a b) (.int (lg_cmp x y)) := by
  unfold rx_lc
  split
  · cases ha; cases hb; rfl
  · exact rx_R.anyI
/-- what is known of the unknown ints holds -/
def rx_FT (rho : UInt32 → Int32) (F : RFact) : Prop := ∀ q ∈ F, rx_cb q.2.1 (rho q.1) q.2.2.1 = q.2.2.2
theorem rx_fact_of {F : RFact} {i : UInt32} {c : ClassFile.Cond} {n : Int32} {b : Bool} (hF : rx_FT rho F) (h : rx_fact F i c n = some b) : rx_cb c (rho i) n = b := by
  induction F with
  | nil => simp [rx_fact] at h
  | cons q F ih =>
    obtain ⟨i', c', n', b'⟩ := q
    unfold rx_fact at h
    split at h
    · rename_i h1 h2 h3
      cases h
      rw [← of_decide_eq_true h1, ← of_decide_eq_true h2, ← of_decide_eq_true h3]
      exact hF _ List.mem_cons_self
    · exact ih (fun q hq => hF q (List.mem_cons_of_mem _ hq)) h
theorem rx_cmp_of {F : RFact} {c : ClassFile.Cond} {a b : Value} {x y : Int32} {r : Bool} (hF : rx_FT rho F) (ha : rx_R old rho ads a (.int x)) (hb : rx_R old rho ads b (.int y)) (h : rx_cmp F c a b = some r) : rx_cb c x y = r := by
  unfold rx_cmp at h
  split at h
  · cases ha; cases hb; exact Option.some.inj h
  · split at h
    · cases h
    · rename_i i y' hi
      cases hb
      obtain ⟨x', h1, h2⟩ := ha
      cases h1
      rw [h2 (of_decide_eq_false hi)]
      exact rx_fact_of hF h
  · cases h
/-- .. and of the masks and of the longs -/
def rx_FT2 (rho : UInt32 → Int32) (F : RFacts) : Prop := rx_FT rho F.1 ∧ (∀ q ∈ F.2.1, rho q.1 &&& q.2.1 = q.2.2) ∧ ∀ q ∈ F.2.2, lg_cmp (rx_dl rho q.1) q.2.1 = q.2.2
theorem rx_lfact_of {F : List (UInt64 × Int64 × Int32)} {i : UInt64} {n : Int64} {r : Int32} (hF : ∀ q ∈ F, lg_cmp (rx_dl rho q.1) q.2.1 = q.2.2) (h : rx_lfact F i n = some r) : lg_cmp (rx_dl rho i) n = r := by
  induction F with
  | nil => simp [rx_lfact] at h
  | cons q F ih =>
    obtain ⟨i', n', r'⟩ := q
    unfold rx_lfact at h
    split at h
    · rename_i h1 h2
      cases h
      have e1 := of_decide_eq_true h1
      have e2 := of_decide_eq_true h2
      subst e1 e2
      have h9 := hF (i', n', r) List.mem_cons_self
      exact h9
    · exact ih (fun q hq => hF q (List.mem_cons_of_mem _ hq)) h
theorem rx_R.lcA {F : List (UInt64 × Int64 × Int32)} (hF : ∀ q ∈ F, lg_cmp (rx_dl rho q.1) q.2.1 = q.2.2) {a b : Value} {x y : Int64} (ha : rx_R old rho ads a (.long x)) (hb : rx_R old rho ads b (.long y)) : rx_R old rho ads (rx_lcA F a b) (.int (lg_cmp x y)) := by
  unfold rx_lcA
  split
  · cases ha; cases hb; rfl
  · rename_i e9 y2
    split
    · rename_i h1 h2
      cases hb
      obtain ⟨x2, e1, e2⟩ := ha
      cases e1
      rw [e2 (of_decide_eq_false h1), rx_lfact_of hF h2]
      rfl
    · exact rx_R.anyI
  · exact rx_R.anyI
theorem rx_mask_of {F : List (UInt32 × Int32 × Int32)} {i : UInt32} {n r : Int32} (hF : ∀ q ∈ F, rho q.1 &&& q.2.1 = q.2.2) (h : rx_mask F i n = some r) : rho i &&& n = r := by
  induction F with
  | nil => simp [rx_mask] at h
  | cons q F ih =>
    obtain ⟨i', n', r'⟩ := q
    unfold rx_mask at h
    split at h
    · rename_i h1 h2
      cases h
      rw [← of_decide_eq_true h1, ← of_decide_eq_true h2]
      exact hF _ List.mem_cons_self
    · exact ih (fun q hq => hF q (List.mem_cons_of_mem _ hq)) h
theorem rx_R.iand {F : List (UInt32 × Int32 × Int32)} (hF : ∀ q ∈ F, rho q.1 &&& q.2.1 = q.2.2) {a b : Value} {x y : Int32} (ha : rx_R old rho ads a (.int x)) (hb : rx_R old rho ads b (.int y)) : rx_R old rho ads (rx_iand F a b) (.int (x &&& y)) := by
  unfold rx_iand
  split
  · cases ha; cases hb; rfl
  · rename_i i y2
    split
    · rename_i h1 h2
      cases hb
      obtain ⟨x2, e1, e2⟩ := ha
      cases e1
      rw [e2 (of_decide_eq_false h1), rx_mask_of hF h2]
      rfl
    · exact rx_R.anyI
  · exact rx_R.anyI
end RelA
