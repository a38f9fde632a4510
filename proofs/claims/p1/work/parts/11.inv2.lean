theorem rx_nx_of {k9 : List RRow → RLoc → List Value → RHeap → Option RRes} {rest : List RRow} {pc2 : Nat} {la : RLoc} {st : List Value} {h : RHeap} {x : RRes} (hh : rx_nx k9 rest pc2 la st h = some x) : ∃ r z, rest = r :: z ∧ r.1 = pc2 ∧ k9 (r :: z) la st h = some x := by
  cases rest with
  | nil => cases hh
  | cons r z =>
    simp only [rx_nx] at hh
    cases hq : Nat.beq r.1 pc2 with
    | false => simp [hq] at hh
    | true =>
      simp only [hq] at hh
      exact ⟨r, z, rfl, Nat.eq_of_beq_eq_true hq, hh⟩
theorem rx_ald_of {O : ROld} {q : Nat → Bool} {st : List Value} {h : RHeap} {k : List Value → Option RRes} {x : RRes} (hh : rx_ald O q st h k = some x) : ∃ (i : Int32) (a : Nat) (r : List Value), st = .int i :: .ref a :: r ∧ ¬ i < 0 ∧ ((∃ t l v, (a - 1000000, t, l) ∈ O.2 ∧ 1000000 ≤ a ∧ q t = true ∧ l[i.toNatClampNeg]? = some v ∧ k (v :: r) = some x) ∨ (∃ t n u, a < 1000000 ∧ h[a]? = some (.inl (t, n, u)) ∧ q t = true ∧ i.toNatClampNeg < n ∧ k (rx_elt t u i.toNatClampNeg :: r) = some x)) := by
  unfold rx_ald at hh
  split at hh
  · rename_i i a r
    refine ⟨i, a, r, rfl, ?_⟩
    cases ho : rx_old a with
    | true =>
      simp only [ho] at hh
      cases hA : rx_oldA O.2 (a - 1000000) with
      | none => simp [hA] at hh
      | some tl =>
        obtain ⟨t, l⟩ := tl
        simp only [hA] at hh
        cases hq : q t with
        | false => simp [hq] at hh
        | true =>
          cases hi : decide (i < 0) with
          | true => simp [hq, hi] at hh
          | false =>
            simp only [hq, hi] at hh
            cases hn : rx_nth l i.toNatClampNeg with
            | none => simp [hn] at hh
            | some v =>
              simp only [hn] at hh
              rw [rx_nth_eq] at hn
              exact ⟨of_decide_eq_false hi, Or.inl ⟨t, l, v, rx_oldA_of hA, Nat.le_of_ble_eq_true ho, hq, hn, hh⟩⟩
    | false =>
      simp only [ho] at hh
      cases hA : rx_nth h a with
      | none => simp [hA] at hh
      | some cl =>
        cases cl with
        | inr y => simp [hA] at hh
        | inl y =>
          obtain ⟨t, n, u⟩ := y
          simp only [hA] at hh
          rw [rx_nth_eq] at hA
          cases hq : q t with
          | false => simp [hq] at hh
          | true =>
            cases hi : decide (i < 0) with
            | true => simp [hq, hi] at hh
            | false =>
              cases hn : Nat.blt i.toNatClampNeg n with
              | false => simp [hq, hi, hn] at hh
              | true =>
                simp only [hq, hi, hn] at hh
                exact ⟨of_decide_eq_false hi, Or.inr ⟨t, n, u, rx_old_of ho, hA, hq, Nat.le_of_ble_eq_true hn, hh⟩⟩
  · cases hh
theorem rx_ast_of {q : Nat → Bool} {f : Nat → Value → Option Value} {st : List Value} {h : RHeap} {k : List Value → RHeap → Option RRes} {x : RRes} (hh : rx_ast q f st h k = some x) : ∃ (v : Value) (i : Int32) (a : Nat) (r : List Value) (t n : Nat) (u : List (Nat × Value)) (w : Value), st = v :: .int i :: .ref a :: r ∧ ¬ i < 0 ∧ a < 1000000 ∧ h[a]? = some (.inl (t, n, u)) ∧ q t = true ∧ i.toNatClampNeg < n ∧ f t v = some w ∧ k r (h.set a (.inl (t, n, (i.toNatClampNeg, w) :: u))) = some x := by
  unfold rx_ast at hh
  split at hh
  · rename_i v i a r
    cases hA : rx_nth h a with
    | none => simp [hA] at hh
    | some cl =>
      cases cl with
      | inr y => simp [hA] at hh
      | inl y =>
        obtain ⟨t, n, u⟩ := y
        simp only [hA] at hh
        rw [rx_nth_eq] at hA
        cases hq : (q t && Nat.blt a 1000000) with
        | false => simp only [hq] at hh; cases hh
        | true =>
          cases hi : decide (i < 0) with
          | true => simp only [hq, hi] at hh; cases hh
          | false =>
            cases hn : Nat.blt i.toNatClampNeg n with
            | false => simp only [hq, hi, hn] at hh; cases hh
            | true =>
              cases hf : f t v with
              | none => simp only [hq, hi, hn, hf] at hh; cases hh
              | some w =>
                simp only [hq, hi, hn, hf, rx_lit_eq] at hh
                rw [Bool.and_eq_true] at hq
                exact ⟨v, i, a, r, t, n, u, w, rfl, of_decide_eq_false hi, Nat.le_of_ble_eq_true hq.2, hA, hq.1, Nat.le_of_ble_eq_true hn, hf, hh⟩
  · cases hh
theorem rx_gf_of {O : ROld} {ci f : Nat} {st : List Value} {h : RHeap} {k : List Value → Option RRes} {x : RRes} (hh : rx_gf O ci f st h k = some x) : ∃ (a : Nat) (r : List Value) (v : Value), st = .ref a :: r ∧ k (v :: r) = some x ∧ ((1000000 ≤ a ∧ (a - 1000000, ci, f, v) ∈ O.1) ∨ (a < 1000000 ∧ ∃ fs, h[a]? = some (.inr (ci, fs)) ∧ fs[f]? = some v)) := by
  unfold rx_gf at hh
  split at hh
  · rename_i a r
    cases ho : rx_old a with
    | true =>
      simp only [ho] at hh
      cases hA : rx_oldF O.1 (a - 1000000) ci f with
      | none => simp [hA] at hh
      | some v =>
        simp only [hA] at hh
        exact ⟨a, r, v, rfl, hh, Or.inl ⟨Nat.le_of_ble_eq_true ho, rx_oldF_of hA⟩⟩
    | false =>
      simp only [ho] at hh
      cases hA : rx_nth h a with
      | none => simp [hA] at hh
      | some cl =>
        cases cl with
        | inl y => simp [hA] at hh
        | inr y =>
          obtain ⟨c0, fs⟩ := y
          simp only [hA] at hh
          rw [rx_nth_eq] at hA
          cases hc : Nat.beq c0 ci with
          | false => simp [hc] at hh
          | true =>
            have hc2 := Nat.eq_of_beq_eq_true hc
            subst hc2
            cases hv : rx_nth fs f with
            | none => simp [hc, hv] at hh
            | some v =>
              simp only [hc, hv] at hh
              rw [rx_nth_eq] at hv
              exact ⟨a, r, v, rfl, hh, Or.inr ⟨rx_old_of ho, fs, hA, hv⟩⟩
  · cases hh
theorem rx_pf_of {ty : Option FieldType} {ci f : Nat} {st : List Value} {h : RHeap} {k : List Value → RHeap → Option RRes} {x : RRes} (hh : rx_pf ty ci f st h k = some x) : ∃ (v : Value) (a : Nat) (r : List Value) (fs : List Value) (ty2 : FieldType), st = v :: .ref a :: r ∧ ty = some ty2 ∧ a < 1000000 ∧ h[a]? = some (.inr (ci, fs)) ∧ rx_fit ty2 v = true ∧ f < fs.length ∧ k r (h.set a (.inr (ci, fs.set f v))) = some x := by
  unfold rx_pf at hh
  split at hh
  · rename_i v a r
    cases hA : rx_nth h a with
    | none => simp [hA] at hh
    | some cl =>
      cases cl with
      | inl y => simp [hA] at hh
      | inr y =>
        obtain ⟨c0, fs⟩ := y
        cases ty with
        | none => simp [hA] at hh
        | some ty2 =>
          simp only [hA] at hh
          rw [rx_nth_eq] at hA
          cases hc : Nat.beq c0 ci with
          | false => simp [hc] at hh
          | true =>
            have hc2 := Nat.eq_of_beq_eq_true hc
            subst hc2
            cases hv : rx_fit ty2 v with
            | false => simp [hc, hv] at hh
            | true =>
              cases hl : (Nat.blt f fs.length && Nat.blt a 1000000) with
              | false => simp only [hc, hv, hl] at hh; cases hh
              | true =>
                simp only [hc, hv, hl] at hh
                rw [Bool.and_eq_true] at hl
                exact ⟨v, a, r, fs, ty2, rfl, rfl, Nat.le_of_ble_eq_true hl.2, hA, hv, Nat.le_of_ble_eq_true hl.1, hh⟩
  · cases hh
