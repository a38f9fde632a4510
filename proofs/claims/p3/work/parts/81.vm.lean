/-! the model's machine: the rule of each of its codes, what holds while it runs -/
def hs : Sh → Int
  | [] => 0
  | s :: S => (if s.1 = 2 then 3 else 1) + hs S
def NXo (Ru : Int → Sh → Int → List (Int × Sh × Int) → Prop) : NX := fun i S d P => ∃ L, Ru i S d L ∧ ∀ t, t ∈ L → P t.1 t.2.1 t.2.2
theorem nxo_m {Ru : Int → Sh → Int → List (Int × Sh × Int) → Prop} : NXm (NXo Ru) := fun _ _ _ _ _ h ⟨L, h1, h2⟩ => ⟨L, h1, fun t ht => h _ _ _ (h2 t ht)⟩
abbrev EV : Type := Int → Int → Int
abbrev LY : Type := Int → Int → Sl
def anc (W : EV) : Nat → Int → Int
  | 0, a => a
  | n + 1, a => anc W n (W 1 a)
def ancl (W : EV) (r l : Int) : Int := anc W (W 0 r - l).toNat r
abbrev sV (k : Int) : Sl := (0, k, 0)
abbrev sA (k n : Int) : Sl := (1, k, n)
abbrev sF (k d : Int) : Sl := (2, k, d)
def okv (k x : Int) : Prop := (k ≠ 3 → InI x) ∧ (k = 2 → x = 0 ∨ x = 1)
def ag (L : Int → Sl) : Nat → Sh
  | 0 => []
  | n + 1 => L (4 + n) :: ag L n
def res (W : EV) (a : Int) (S : Sh) : Sh := if W 4 a = 0 then S else sV (W 5 a) :: S
def rnk (i d j e : Int) : Prop := e < d ∨ (e = d ∧ i < j)
def cmp (x : Int) : Prop := x = 13 ∨ x = 25 ∨ x = 14 ∨ x = 26 ∨ x = 15 ∨ x = 27 ∨ x = 56
def jok (x y k1 k2 r : Int) : Prop := (cmp x ∧ r = 2) ∨ ((x = 51 ∨ x = 52) ∧ k2 ≠ 3 ∧ r = 0) ∨ ((x = 10 ∨ x = 11 ∨ x = 12) ∧ ((y = 3 ∧ r = 3) ∨ (y ≠ 3 ∧ r = 0))) ∨ ((x = 53 ∨ x = 54) ∧ k1 = 2 ∧ k2 = 2 ∧ r = 2)
def apk (x y k r : Int) : Prop := (x = 0 ∧ k ≠ 3 ∧ r = 0) ∨ (x = 1 ∧ k ≠ 3 ∧ r = 1) ∨ ((x = 2 ∨ x = 3) ∧ y = k ∧ (k = 0 ∨ k = 1 ∨ k = 2) ∧ r = k) ∨ (x = 4 ∧ r = 2) ∨ ((x = 5 ∨ x = 6) ∧ r = 0)
def Ro (W : EV) (ly : LY) (A r op x y i : Int) (S : Sh) (d : Int) (L : List (Int × Sh × Int)) : Prop :=
  if op = 0 then L = [(i + 1, S, d)] else
  if op = 1 then ∃ e, L = [(i + 1, S, e)] else
  if op = 2 then ∃ k, okv k x ∧ L = [(i + 1, sV k :: S, d)] else
  if op = 3 then ∃ k n, 1 ≤ x ∧ x ≤ W 0 r ∧ 1 ≤ n ∧ 0 ≤ y ∧ y + n ≤ W 2 (ancl W r x) ∧ (∀ z, 0 ≤ z → z < n → ly (ancl W r x) (y + z) = sV k) ∧ L = [(i + 1, sA k n :: S, d)] else
  if op = 4 then ∃ k, 1 ≤ x ∧ x ≤ W 0 r ∧ 0 ≤ y ∧ y < W 2 (ancl W r x) ∧ ly (ancl W r x) y = sA k 1 ∧ L = [(i + 1, sA k 1 :: S, d)] else
  if op = 5 then ∃ k k' n S', S = sV k' :: sA k n :: S' ∧ y - x < n ∧ L = [(i + 1, sA k 1 :: S', d)] else
  if op = 6 then ∃ k n S', S = sA k n :: S' ∧ 1 ≤ n ∧ L = [(i + 1, sV k :: S', d)] else
  if op = 7 then ∃ k n S', S = sV k :: sA k n :: S' ∧ 1 ≤ n ∧ L = [(i + 1, S', d)] else
  if op = 8 then ∃ k S', S = sV k :: S' ∧ L = [(i + 1, S, d)] else
  if op = 9 then ∃ k S', S = sV k :: S' ∧ L = [(i + 1, sV 0 :: S', d)] else
  if op = 10 then ∃ k1 k2 q S', S = sV k2 :: sV k1 :: S' ∧ jok x y k1 k2 q ∧ L = [(i + 1, sV q :: S', d)] else
  if op = 11 then ∃ S', S = sV 2 :: S' ∧ L = [(i + 1, S, d)] else
  if op = 12 then L = [(i + 1, sV 3 :: S, d)] else
  if op = 13 then ∃ k S', S = sV k :: sV 3 :: S' ∧ L = [(i + 1, sV 3 :: S', d)] else
  if op = 14 then ∃ k k' S', S = sV k :: sV k' :: sV 3 :: S' ∧ L = [(i + 1, sV 3 :: S', d)] else
  if op = 15 then ∃ k q S', S = sV k :: S' ∧ apk x y k q ∧ L = [(i + 1, sV q :: S', d)] else
  if op = 16 then L = [(i + 1, sV 2 :: S, d)] else
  if op = 17 then L = [(i + 1, sV 2 :: S, d)] else
  if op = 18 then ∃ S', 1 ≤ x ∧ x ≤ A ∧ W 0 x ≤ W 0 r + 1 ∧ W 1 x = ancl W r (W 0 x - 1) ∧ S = ag (ly x) (W 3 x).toNat ++ S' ∧ L = [(i + 1, res W x S', d)] else
  if op = 19 then x = r ∧ S = [] ∧ L = [] else
  if op = 20 then ∃ e, rnk i d x e ∧ L = [(x, S, e)] else
  if op = 21 then ∃ k S' e e', S = sV k :: S' ∧ rnk i d x e ∧ rnk i d (i + 1) e' ∧ L = [(x, S', e), (i + 1, S', e')] else
  if op = 22 then ∃ k S' e, k ≠ 3 ∧ S = sV k :: sV k :: sA k 1 :: S' ∧ rnk i d x e ∧ L = [(x, S, e), (i + 1, sF k y :: S', d)] else
  if op = 23 then ∃ k q S', S = sF k q :: S' ∧ L = [(i + 1, S, d)] else
  if op = 24 then ∃ k S' e e', k ≠ 3 ∧ S = sF k y :: S' ∧ rnk i d x e ∧ rnk i d (i + 1) e' ∧ L = [(x, S, e), (i + 1, sV k :: sV k :: sA k 1 :: S', e')] else
  if op = 25 then ∃ k S', S = sV k :: sV k :: sA k 1 :: S' ∧ L = [(i + 1, S', d)] else
  if op = 26 then ∃ k S' e, S = sV k :: S' ∧ rnk i d y e ∧ L = [(y, S, e), (i + 1, S, d)] else
  if op = 27 then ∃ k S', S = sV k :: S' ∧ L = [(i + 1, S', d)] else
  if op = 28 then L = [] else
  if op = 29 then (x = 0 ∨ x = 1) ∧ L = [(i + 1, sV x :: S, d)] else
  if op = 30 then ∃ S', S = sV x :: S' ∧ L = [(i + 1, S', d)] else
  if op = 31 then 0 ≤ x ∧ 0 ≤ y ∧ x + y ≤ 1500 ∧ L = [(i + 1, S, d)] else
  if op = 32 then L = [(i + 1, S, d)] else False
abbrev IC : Type := Int → Int × Int × Int × Int
def Rm (c : IC) (W : EV) (ly : LY) (A r : Int) : Int → Sh → Int → List (Int × Sh × Int) → Prop := fun i S d L =>
  0 ≤ i ∧ i < 6000 ∧ hs S ≤ 345 ∧ 0 ≤ d ∧ d ≤ 30 ∧ Ro W ly A r (c i).1 (c i).2.1 (c i).2.2.1 i S d L
abbrev Nm (c : IC) (W : EV) (ly : LY) (A r : Int) : NX := NXo (Rm c W ly A r)
def EnvOK (W : EV) (ly : LY) (A : Int) : Prop := 0 ≤ A ∧ A < 240 ∧ W 0 0 = 1 ∧ ∀ a, 0 ≤ a → a ≤ A →
  4 ≤ W 2 a ∧ W 2 a ≤ 100000 ∧ 0 ≤ W 3 a ∧ W 3 a ≤ 8 ∧ 4 + W 3 a ≤ W 2 a ∧ (W 4 a = 0 ∨ W 4 a = 1) ∧ (W 4 a = 1 → ly a 0 = sV (W 5 a)) ∧
  (∀ x, 0 ≤ x → x < W 2 a → (ly a x).1 = 1 → 4 ≤ x ∧ x < 4 + W 3 a) ∧ (∀ p, 0 ≤ p → p < W 3 a → ∃ k, ly a (4 + p) = sV k ∨ ly a (4 + p) = sA k 1) ∧
  (1 ≤ a → 2 ≤ W 0 a ∧ W 0 a ≤ 7 ∧ 0 ≤ W 1 a ∧ W 1 a < a ∧ W 0 (W 1 a) = W 0 a - 1)
def rcd (m : MS) : IC := fun i => (m 70 i, m 71 i, m 72 i, m 73 i)
def Pg (m : MS) (W : EV) (ly : LY) (A : Int) : Prop := EnvOK W ly A ∧ (∀ i, 0 ≤ i → i < 6000 → InI (m 71 i)) ∧ ∀ a, 0 ≤ a → a ≤ A →
  m 74 a = W 6 a ∧ m 75 a = W 0 a ∧ m 76 a = W 2 a ∧ m 77 a = W 3 a ∧ m 78 a = W 4 a ∧ TY (Nm (rcd m) W ly A a) (W 6 a) [] 0
/-- of the stack: what lies there fits what is expected -/
def aok (Th : Int → Sl) (U k n v : Int) : Prop := ∀ y, 0 ≤ y → y < n → 0 ≤ v + y ∧ v + y < U ∧ Th (v + y) = sV k
def sok (st : Int → Int) (Th : Int → Sl) (U : Int) (s : Sl) (h : Int) : Prop :=
  if s.1 = 0 then okv s.2.1 (st (h - 1)) else
  if s.1 = 1 then aok Th U s.2.1 s.2.2 (st (h - 1)) else
  okv s.2.1 (st (h - 1)) ∧ okv s.2.1 (st (h - 2)) ∧ aok Th U s.2.1 1 (st (h - 3)) ∧ (if s.2.2 = 1 then st (h - 1) ≤ st (h - 2) else st (h - 2) ≤ st (h - 1))
def Ms (st : Int → Int) (Th : Int → Sl) (U : Int) : Sh → Int → Int → Prop
  | [], h, b => h = b
  | s :: S, h, b => sok st Th U s h ∧ Ms st Th U S (h - (if s.1 = 2 then 3 else 1)) b
theorem hs_nn : ∀ S : Sh, 0 ≤ hs S
  | [] => Int.le_refl _
  | s :: S => by
    have := hs_nn S
    simp only [hs]
    split <;> omega
theorem ms_h {st : Int → Int} {Th : Int → Sl} {U : Int} : ∀ {S : Sh} {h b : Int}, Ms st Th U S h b → h = b + hs S
  | [], h, b, k => by simp only [Ms] at k; simp only [hs]; omega
  | s :: S, h, b, k => by
    simp only [Ms] at k
    have := ms_h k.2
    simp only [hs]
    omega
theorem sok_c {st st' : Int → Int} {Th Th' : Int → Sl} {U U' : Int} {s : Sl} {h : Int} (hU : U ≤ U') (ht : ∀ z, z < U → Th' z = Th z) (h1 : ∀ i, i < h → st' i = st i) (k : sok st Th U s h) : sok st' Th' U' s h := by
  have ha : ∀ {k n v : Int}, aok Th U k n v → aok Th' U' k n v := fun {k n v} q y y1 y2 => ⟨(q y y1 y2).1, Int.lt_of_lt_of_le (q y y1 y2).2.1 hU, by rw [ht _ (q y y1 y2).2.1]; exact (q y y1 y2).2.2⟩
  unfold sok at k ⊢
  rw [h1 (h - 1) (by omega), h1 (h - 2) (by omega), h1 (h - 3) (by omega)]
  split
  · rename_i h2
    rw [if_pos h2] at k
    exact k
  · rename_i h2
    rw [if_neg h2] at k
    split
    · rename_i h3
      rw [if_pos h3] at k
      exact ha k
    · rename_i h3
      rw [if_neg h3] at k
      exact ⟨k.1, k.2.1, ha k.2.2.1, k.2.2.2⟩
theorem ms_c {st st' : Int → Int} {Th Th' : Int → Sl} {U U' : Int} (hU : U ≤ U') (ht : ∀ z, z < U → Th' z = Th z) : ∀ {S : Sh} {h b : Int}, (∀ i, i < h → st' i = st i) → Ms st Th U S h b → Ms st' Th' U' S h b
  | [], h, b, _, k => k
  | s :: S, h, b, h1, k => by
    simp only [Ms] at k ⊢
    refine ⟨sok_c hU ht h1 k.1, ms_c hU ht (fun i hi => h1 i ?_) k.2⟩
    split at hi <;> omega
theorem ms_cons {st : Int → Int} {Th : Int → Sl} {U : Int} {s : Sl} {S : Sh} {h b : Int} : Ms st Th U (s :: S) h b ↔ sok st Th U s h ∧ Ms st Th U S (h - (if s.1 = 2 then 3 else 1)) b := Iff.rfl
theorem ms_v {st : Int → Int} {Th : Int → Sl} {U k h b : Int} {S : Sh} : Ms st Th U (sV k :: S) h b ↔ okv k (st (h - 1)) ∧ Ms st Th U S (h - 1) b := by
  rw [ms_cons]
  simp [sok]
theorem ms_a {st : Int → Int} {Th : Int → Sl} {U k n h b : Int} {S : Sh} : Ms st Th U (sA k n :: S) h b ↔ aok Th U k n (st (h - 1)) ∧ Ms st Th U S (h - 1) b := by
  rw [ms_cons]
  simp [sok]
theorem ms_f {st : Int → Int} {Th : Int → Sl} {U k d h b : Int} {S : Sh} : Ms st Th U (sF k d :: S) h b ↔ (okv k (st (h - 1)) ∧ okv k (st (h - 2)) ∧ aok Th U k 1 (st (h - 3)) ∧ (if d = 1 then st (h - 1) ≤ st (h - 2) else st (h - 2) ≤ st (h - 1))) ∧ Ms st Th U S (h - 3) b := by
  rw [ms_cons]
  simp [sok]
/-- cells, and what is put there -/
def CL (m : MS) (Th : Int → Sl) (U : Int) : Prop := ∀ z, 0 ≤ z → z < U → (∀ k, Th z = sV k → m 86 z ≠ 0 → okv k (m 85 z)) ∧ (∀ k, Th z = sA k 1 → aok Th z k 1 (m 85 z))
def PF (m m' : MS) : Prop := ∀ f, f < 82 → f ≠ 3 → m' f = m f
theorem PF.refl (m : MS) : PF m m := fun _ _ _ => rfl
theorem PF.trans {m m' m'' : MS} (h1 : PF m m') (h2 : PF m' m'') : PF m m'' := fun f h h3 => by rw [h2 f h h3, h1 f h h3]
theorem PF.set {m m' : MS} {f : Nat} {i x : Int} (h : PF m m') (hf : 82 ≤ f ∨ f = 3) : PF m (mset m' f i x) := fun g h1 h2 => by
  funext j
  rw [mset_f (by omega), h g h1 h2]
theorem PF.rc {m m' : MS} (h : PF m m') : rcd m' = rcd m := by
  funext i
  simp only [rcd, h 70 (by decide) (by decide), h 71 (by decide) (by decide), h 72 (by decide) (by decide), h 73 (by decide) (by decide)]
theorem PF.pg {m m' : MS} {W : EV} {ly : LY} {A : Int} (h : PF m m') (hp : Pg m W ly A) : Pg m' W ly A := by
  refine ⟨hp.1, by rw [h 71 (by decide) (by decide)]; exact hp.2.1, fun a h1 h2 => ?_⟩
  rw [h.rc, h 74 (by decide) (by decide), h 75 (by decide) (by decide), h 76 (by decide) (by decide), h 77 (by decide) (by decide), h 78 (by decide) (by decide)]
  exact hp.2.2 a h1 h2
/-- the frames: who, where its cells begin, its links; and of those that wait, where they go on and what of the stack is theirs -/
def RB (m : MS) (W : EV) (ly : LY) (A : Int) (Th : Int → Sl) (SS : Int → Sh) (HB EE : Int → Int) (n : Int) : Prop :=
  m 91 0 = 0 ∧ m 93 0 = 0 ∧ HB 0 = 0 ∧
  (∀ j, 0 ≤ j → j < n → 0 ≤ m 93 j ∧ m 93 j ≤ A ∧ 0 ≤ m 91 j ∧ 0 ≤ HB j ∧ HB j ≤ 345 * j ∧ (∀ x, 0 ≤ x → x < W 2 (m 93 j) → Th (m 91 j + x) = ly (m 93 j) x) ∧ (1 ≤ j → 1 ≤ m 93 j ∧ 0 ≤ m 92 j ∧ m 92 j < j ∧ m 93 (m 92 j) = W 1 (m 93 j))) ∧
  (∀ j, 0 ≤ j → j + 1 < n → m 91 (j + 1) = m 91 j + W 2 (m 93 j) ∧ TY (Nm (rcd m) W ly A (m 93 j)) (m 94 (j + 1)) (res W (m 93 (j + 1)) (SS j)) (EE j) ∧ Ms (m 96) Th (m 91 j + W 2 (m 93 j)) (SS j) (HB (j + 1)) (HB j))
def RI (m : MS) (W : EV) (ly : LY) (A : Int) (Th : Int → Sl) (SS : Int → Sh) (HB EE : Int → Int) (n : Int) : Prop :=
  Pg m W ly A ∧ RB m W ly A Th SS HB EE n ∧ 1 ≤ n ∧ n ≤ 200 ∧ m 89 0 = n ∧ m 87 0 = m 91 (n - 1) + W 2 (m 93 (n - 1)) ∧ m 87 0 ≤ 3000 ∧ CL m Th (m 87 0) ∧
  Ms (m 96) Th (m 87 0) (SS (n - 1)) (m 97 0) (HB (n - 1)) ∧ TY (Nm (rcd m) W ly A (m 93 (n - 1))) (m 98 0) (SS (n - 1)) (EE (n - 1)) ∧
  (0 ≤ m 82 0 ∧ m 82 0 ≤ m 81 0 ∧ m 81 0 ≤ 1500 ∧ 0 ≤ m 84 0 ∧ m 84 0 ≤ 1500) ∧ (0 ≤ m 100 0 ∧ m 100 0 ≤ m 99 0 ∧ m 99 0 ≤ 20000)
