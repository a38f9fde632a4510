/-! code with its types, for any machine: a rule of each instruction, pieces of code, and how they are put together -/
abbrev Sl : Type := Int × Int × Int
abbrev Sh : Type := List Sl
abbrev HT : Type := Int → Option (Sh × Int)
abbrev PO : Type := Int → Sh → Int → Prop
abbrev NX : Type := Int → Sh → Int → PO → Prop
def NXm (N : NX) : Prop := ∀ (i : Int) (S : Sh) (d : Int) (P Q : PO), (∀ j T e, P j T e → Q j T e) → N i S d P → N i S d Q
/-- a piece from a to b, entered at a; what leaves it is X -/
def GS (N : NX) (a b : Int) (S : Sh) (d : Int) (X : PO) : Prop := a ≤ b ∧ (a = b → X b S d) ∧ ∃ H : HT, (a < b → H a = some (S, d)) ∧ ∀ i S' e, a ≤ i → i < b → H i = some (S', e) → N i S' e (fun j T' e' => (a ≤ j ∧ j < b ∧ H j = some (T', e')) ∨ X j T' e')
def xe (b : Int) (T : Sh) (d : Int) : PO := fun j T' e' => j = b ∧ T' = T ∧ e' = d
/-- a piece that is left at its end alone -/
def FS (N : NX) (a b : Int) (S T : Sh) (d : Int) : Prop := GS N a b S d (xe b T d)
theorem gs_mono {N : NX} (hN : NXm N) {a b : Int} {S : Sh} {d : Int} {X Y : PO} (h : ∀ j T e, X j T e → Y j T e) (h1 : GS N a b S d X) : GS N a b S d Y := by
  obtain ⟨h2, h3, H, h4, h5⟩ := h1
  refine ⟨h2, fun e => h _ _ _ (h3 e), H, h4, fun i S' e k1 k2 k3 => ?_⟩
  refine hN _ _ _ _ _ (fun j T e' k4 => ?_) (h5 i S' e k1 k2 k3)
  exact k4.elim Or.inl (fun k => Or.inr (h _ _ _ k))
theorem gs_nil {N : NX} {a : Int} {S : Sh} {d : Int} {X : PO} (h : X a S d) : GS N a a S d X :=
  ⟨Int.le_refl _, fun _ => h, fun _ => none, fun h => absurd h (Int.lt_irrefl _), fun _ _ _ h1 h2 => absurd (Int.lt_of_le_of_lt h1 h2) (Int.lt_irrefl _)⟩
theorem gs_one {N : NX} (hN : NXm N) {a b : Int} {S : Sh} {d : Int} {X : PO} (hab : a < b) (h : N a S d X) : GS N a b S d X := by
  refine ⟨Int.le_of_lt hab, fun e => absurd hab (by omega), fun i => if i = a then some (S, d) else none, fun _ => if_pos rfl, fun i S' e k1 k2 k3 => ?_⟩
  dsimp only at k3
  by_cases hi : i = a
  · subst hi
    rw [if_pos rfl] at k3
    cases k3
    exact hN _ _ _ _ _ (fun _ _ _ k => Or.inr k) h
  · rw [if_neg hi] at k3
    cases k3
theorem gs_glue {N : NX} (hN : NXm N) {a b c : Int} {S T : Sh} {d e : Int} {X Y Z : PO} (h1 : GS N a b S d X) (h2 : GS N b c T e Y) (hab : a < b ∨ (S = T ∧ d = e))
    (hX : ∀ j T' e', X j T' e' → (j = b ∧ T' = T ∧ e' = e) ∨ Z j T' e')
    (hY : ∀ j T' e', Y j T' e' → (a < b ∧ j = a ∧ T' = S ∧ e' = d) ∨ (b < c ∧ j = b ∧ T' = T ∧ e' = e) ∨ Z j T' e') : GS N a c S d Z := by
  obtain ⟨p1, p2, H1, p3, p4⟩ := h1
  obtain ⟨q1, q2, H2, q3, q4⟩ := h2
  by_cases hac : a = c
  · have e1 : a = b := by omega
    have e2 : b = c := by omega
    subst e1
    subst e2
    refine ⟨Int.le_refl _, fun _ => ?_, fun _ => none, fun h => absurd h (Int.lt_irrefl _), fun _ _ _ h1 h2 => absurd (Int.lt_of_le_of_lt h1 h2) (Int.lt_irrefl _)⟩
    rcases hab with hab | ⟨rfl, rfl⟩
    · exact absurd hab (Int.lt_irrefl _)
    rcases hY _ _ _ (q2 rfl) with k | k | k
    · exact absurd k.1 (Int.lt_irrefl _)
    · exact absurd k.1 (Int.lt_irrefl _)
    · exact k
  refine ⟨by omega, fun h => absurd h hac, fun i => if i < b then H1 i else H2 i, fun _ => ?_, fun i S' e' k1 k2 k3 => ?_⟩
  · by_cases h : a < b
    · simp only [if_pos h]
      exact p3 h
    · have e1 : a = b := by omega
      subst e1
      simp only [if_neg h]
      rcases hab with hab | ⟨rfl, rfl⟩
      · exact absurd hab h
      · exact q3 (by omega)
  · by_cases hi : i < b
    · simp only [if_pos hi] at k3
      refine hN _ _ _ _ _ (fun j T' e'' k => ?_) (p4 i S' e' k1 hi k3)
      rcases k with ⟨k4, k5, k6⟩ | k
      · exact Or.inl ⟨k4, by omega, by simp only [if_pos k5]; exact k6⟩
      · rcases hX _ _ _ k with ⟨rfl, rfl, rfl⟩ | k
        · by_cases hb : j < c
          · exact Or.inl ⟨by omega, hb, by simp only [if_neg (Int.lt_irrefl j)]; exact q3 hb⟩
          · have e1 : j = c := by omega
            rcases hY _ _ _ (q2 e1) with k | k | k
            · exact absurd k.1 (by omega)
            · exact absurd k.1 (by omega)
            · rw [e1]
              exact Or.inr k
        · exact Or.inr k
    · simp only [if_neg hi] at k3
      refine hN _ _ _ _ _ (fun j T' e'' k => ?_) (q4 i S' e' (by omega) k2 k3)
      rcases k with ⟨k4, k5, k6⟩ | k
      · exact Or.inl ⟨by omega, k5, by simp only [if_neg (by omega : ¬ j < b)]; exact k6⟩
      · rcases hY _ _ _ k with ⟨k4, rfl, rfl, rfl⟩ | ⟨k4, rfl, rfl, rfl⟩ | k
        · exact Or.inl ⟨Int.le_refl _, by omega, by simp only [if_pos k4]; exact p3 k4⟩
        · exact Or.inl ⟨by omega, k4, by simp only [if_neg (Int.lt_irrefl j)]; exact q3 k4⟩
        · exact Or.inr k
theorem fs_nil {N : NX} {a : Int} {S : Sh} {d : Int} : FS N a a S S d := gs_nil ⟨rfl, rfl, rfl⟩
theorem fs_one {N : NX} (hN : NXm N) {a b : Int} {S T : Sh} {d : Int} (hab : a < b) (h : N a S d (xe b T d)) : FS N a b S T d := gs_one hN hab h
theorem fs_le {N : NX} {a b : Int} {S T : Sh} {d : Int} (h : FS N a b S T d) : a ≤ b := h.1
theorem fs_same {N : NX} {a : Int} {S T : Sh} {d : Int} (h : FS N a a S T d) : S = T := (h.2.1 rfl).2.1
/-- a piece behind which another comes, however that one is left -/
theorem gs_seq {N : NX} (hN : NXm N) {a b c : Int} {S T : Sh} {d : Int} {X : PO} (h1 : FS N a b S T d) (h2 : GS N b c T d X) : GS N a c S d X := by
  refine gs_glue hN h1 h2 ?_ (fun j T' e' k => Or.inl k) (fun j T' e' k => Or.inr (Or.inr k))
  by_cases h : a < b
  · exact Or.inl h
  · have e1 : a = b := by have := fs_le h1; omega
    subst e1
    exact Or.inr ⟨fs_same h1, rfl⟩
theorem fs_seq {N : NX} (hN : NXm N) {a b c : Int} {S T U : Sh} {d : Int} (h1 : FS N a b S T d) (h2 : FS N b c T U d) : FS N a c S U d := gs_seq hN h1 h2
/-- if: a value, a jump over what may be left out -/
theorem fs_if {N : NX} (hN : NXm N) {a b e : Int} {S : Sh} {d : Int} {T : Sh} (hab : a < b) (h1 : N a T d (fun j T' e' => (j = b ∨ j = e) ∧ T' = S ∧ e' = d)) (h2 : FS N b e S S d) : FS N a e T S d := by
  refine gs_glue hN (gs_one hN hab h1) h2 (Or.inl hab) (fun j T' e' k => ?_) (fun j T' e' k => Or.inr (Or.inr k))
  rcases k with ⟨rfl | rfl, rfl, rfl⟩
  · exact Or.inl ⟨rfl, rfl, rfl⟩
  · exact Or.inr ⟨rfl, rfl, rfl⟩
/-- if with else: the jump, the first, the jump over the second, the second -/
theorem fs_else {N : NX} (hN : NXm N) {a b x y e : Int} {S T : Sh} {d : Int} (hab : a < b) (hxy : x < y) (h1 : N a T d (fun j T' e' => (j = b ∨ j = y) ∧ T' = S ∧ e' = d)) (h2 : FS N b x S S d) (h3 : N x S d (xe e S d)) (h4 : FS N y e S S d) : FS N a e T S d := by
  have g1 : GS N b y S d (xe e S d) := gs_seq hN h2 (gs_one hN hxy h3)
  have g2 : GS N a y T d (fun j T' e' => (j = y ∨ j = e) ∧ T' = S ∧ e' = d) := by
    refine gs_glue hN (gs_one hN hab h1) g1 (Or.inl hab) (fun j T' e' k => ?_) (fun j T' e' k => Or.inr (Or.inr ⟨Or.inr k.1, k.2⟩))
    rcases k with ⟨rfl | rfl, rfl, rfl⟩
    · exact Or.inl ⟨rfl, rfl, rfl⟩
    · exact Or.inr ⟨Or.inl rfl, rfl, rfl⟩
  have : a < y := by have := fs_le h2; omega
  refine gs_glue hN g2 h4 (Or.inl this) (fun j T' e' k => ?_) (fun j T' e' k => Or.inr (Or.inr k))
  rcases k with ⟨rfl | rfl, rfl, rfl⟩
  · exact Or.inl ⟨rfl, rfl, rfl⟩
  · exact Or.inr ⟨rfl, rfl, rfl⟩
/-- while: a value, the jump out, the step, what is done again, the jump back -/
theorem fs_while {N : NX} (hN : NXm N) {l o p q x e : Int} {S T : Sh} {d : Int} (hop : o < p) (hpq : p < q) (hxe : x < e) (h1 : FS N l o S T d) (h2 : N o T d (fun j T' e' => (j = p ∨ j = e) ∧ T' = S ∧ e' = d)) (h3 : N p S d (xe q S (d + 1))) (h4 : FS N q x S S (d + 1)) (h5 : N x S (d + 1) (xe l S d)) : FS N l e S S d := by
  have g1 : GS N l p S d (fun j T' e' => (j = p ∨ j = e) ∧ T' = S ∧ e' = d) := gs_seq hN h1 (gs_one hN hop h2)
  have g2 : GS N q e S (d + 1) (xe l S d) := gs_seq hN h4 (gs_one hN hxe h5)
  have g3 : GS N p e S d (xe l S d) := gs_glue hN (gs_one hN hpq h3) g2 (Or.inl hpq) (fun j T' e' k => Or.inl k) (fun j T' e' k => Or.inr (Or.inr k))
  have hl := fs_le h1
  refine gs_glue hN g1 g3 (Or.inl (by omega)) (fun j T' e' k => ?_) (fun j T' e' k => Or.inl ⟨by omega, k⟩)
  rcases k with ⟨rfl | rfl, rfl, rfl⟩
  · exact Or.inl ⟨rfl, rfl, rfl⟩
  · exact Or.inr ⟨rfl, rfl, rfl⟩
/-- repeat: the step, what is done again, up to the value, the jump back -/
theorem fs_repeat {N : NX} (hN : NXm N) {l p x e : Int} {S T : Sh} {d : Int} (hlp : l < p) (hxe : x < e) (h1 : N l S d (xe p S (d + 1))) (h2 : FS N p x S T (d + 1)) (h3 : N x T (d + 1) (fun j T' e' => (j = l ∨ j = e) ∧ T' = S ∧ e' = d)) : FS N l e S S d := by
  have g2 : GS N p e S (d + 1) (fun j T' e' => (j = l ∨ j = e) ∧ T' = S ∧ e' = d) := gs_seq hN h2 (gs_one hN hxe h3)
  refine gs_glue hN (gs_one hN hlp h1) g2 (Or.inl hlp) (fun j T' e' k => Or.inl k) (fun j T' e' k => ?_)
  rcases k with ⟨rfl | rfl, rfl, rfl⟩
  · exact Or.inl ⟨by omega, rfl, rfl, rfl⟩
  · exact Or.inr (Or.inr ⟨rfl, rfl, rfl⟩)
/-- for, as the model has it: the test, the loop's head up to its step, what is done again, the next one, the end -/
theorem fs_for {N : NX} (hN : NXm N) {t l o p x y e : Int} {S T U : Sh} {d : Int} (htl : t < l) (hop : o < p) (hxy : x < y) (hye : y < e) (h1 : N t T d (fun j T' e' => (j = l ∧ T' = U ∧ e' = d) ∨ (j = y ∧ T' = T ∧ e' = d))) (h2 : FS N l o U U d) (h3 : N o U d (xe p U (d + 1))) (h4 : FS N p x U U (d + 1)) (h5 : N x U (d + 1) (fun j T' e' => (j = l ∧ T' = U ∧ e' = d) ∨ (j = y ∧ T' = T ∧ e' = d))) (h6 : N y T d (xe e S d)) : FS N t e T S d := by
  have g1 : GS N l p U d (xe p U (d + 1)) := gs_seq hN h2 (gs_one hN hop h3)
  have g2 : GS N p y U (d + 1) (fun j T' e' => (j = l ∧ T' = U ∧ e' = d) ∨ (j = y ∧ T' = T ∧ e' = d)) := gs_seq hN h4 (gs_one hN hxy h5)
  have hl := fs_le h2
  have hl2 := fs_le h4
  have g3 : GS N l y U d (xe y T d) := by
    refine gs_glue hN g1 g2 (Or.inl (by omega)) (fun j T' e' k => Or.inl k) (fun j T' e' k => ?_)
    rcases k with k | k
    · exact Or.inl ⟨by omega, k⟩
    · exact Or.inr (Or.inr k)
  have g4 : GS N t y T d (xe y T d) := by
    refine gs_glue hN (gs_one hN htl h1) g3 (Or.inl htl) (fun j T' e' k => ?_) (fun j T' e' k => Or.inr (Or.inr k))
    rcases k with k | k
    · exact Or.inl k
    · exact Or.inr k
  exact gs_seq hN g4 (gs_one hN hye h6)
/-- what holds of a place as long as the machine runs on from there -/
def TY (N : NX) (i : Int) (S : Sh) (d : Int) : Prop := ∃ H : HT, H i = some (S, d) ∧ ∀ i S e, H i = some (S, e) → N i S e (fun j T e' => H j = some (T, e'))
theorem ty_step {N : NX} (hN : NXm N) {i : Int} {S : Sh} {d : Int} (h : TY N i S d) : N i S d (TY N) := by
  obtain ⟨H, h1, h2⟩ := h
  exact hN _ _ _ _ _ (fun j T e k => ⟨H, k, h2⟩) (h2 i S d h1)
theorem ty_of {N : NX} (hN : NXm N) {a b : Int} {S : Sh} {d : Int} (hab : a < b) (h : GS N a b S d (fun _ _ _ => False)) : TY N a S d := by
  obtain ⟨h1, h2, H, h3, h4⟩ := h
  refine ⟨fun i => if a ≤ i ∧ i < b then H i else none, ?_, fun i S' e k => ?_⟩
  · simp only [if_pos (⟨Int.le_refl a, hab⟩ : a ≤ a ∧ a < b)]
    exact h3 hab
  · by_cases hi : a ≤ i ∧ i < b
    · simp only [if_pos hi] at k
      refine hN _ _ _ _ _ (fun j T e' k2 => ?_) (h4 i S' e hi.1 hi.2 k)
      rcases k2 with ⟨k3, k4, k5⟩ | k2
      · simp only [if_pos (⟨k3, k4⟩ : a ≤ j ∧ j < b)]
        exact k5
      · exact k2.elim
    · simp only [if_neg hi] at k
      cases k
/-- another rule that holds where the first does -/
theorem gs_rule {N M : NX} {a b : Int} {S : Sh} {d : Int} {X : PO} (h : ∀ i S e P, a ≤ i → i < b → N i S e P → M i S e P) (h1 : GS N a b S d X) : GS M a b S d X := by
  obtain ⟨h2, h3, H, h4, h5⟩ := h1
  exact ⟨h2, h3, H, h4, fun i S' e k1 k2 k3 => h i S' e _ k1 k2 (h5 i S' e k1 k2 k3)⟩
