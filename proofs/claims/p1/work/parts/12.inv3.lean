theorem rx_len_of {O : ROld} {st : List Value} {h : RHeap} {k : List Value → Option RRes} {x : RRes} (hh : rx_len O st h k = some x) : ∃ (a : Nat) (r : List Value), st = .ref a :: r ∧ ((∃ t l, (a - 1000000, t, l) ∈ O.2 ∧ 1000000 ≤ a ∧ k (.int (Int32.ofNat l.length) :: r) = some x) ∨ (∃ t n u, a < 1000000 ∧ h[a]? = some (.inl (t, n, u)) ∧ k (.int (Int32.ofNat n) :: r) = some x)) := by
  unfold rx_len at hh
  split at hh
  · rename_i a r
    refine ⟨a, r, rfl, ?_⟩
    cases ho : rx_old a with
    | true =>
      simp only [ho] at hh
      cases hA : rx_oldA O.2 (a - 1000000) with
      | none => simp [hA] at hh
      | some tl =>
        obtain ⟨t, l⟩ := tl
        simp only [hA] at hh
        exact Or.inl ⟨t, l, rx_oldA_of hA, Nat.le_of_ble_eq_true ho, hh⟩
    | false =>
      simp only [ho] at hh
      cases hA : rx_nth h a with
      | none => simp [hA] at hh
      | some cl =>
        cases cl with
        | inr y => simp [hA] at hh
        | inl y =>
          obtain ⟨t, n, u⟩ := y
          simp only [hA] at hh
          rw [rx_nth_eq] at hA
          exact Or.inr ⟨t, n, u, rx_old_of ho, hA, hh⟩
  · cases hh
theorem rx_aast_of {st : List Value} {h : RHeap} {k : List Value → RHeap → Option RRes} {x : RRes} (hh : rx_aast st h k = some x) : ∃ (v : Value) (i : Int32) (a : Nat) (r : List Value) (t n : Nat) (u : List (Nat × Value)), st = v :: .int i :: .ref a :: r ∧ ¬ i < 0 ∧ a < 1000000 ∧ h[a]? = some (.inl (t, n, u)) ∧ 4 ≤ t ∧ i.toNatClampNeg < n ∧ k r (h.set a (.inl (t, n, (i.toNatClampNeg, v) :: u))) = some x ∧ (v = .null ∨ ∃ b ci vs, v = .ref b ∧ b < 1000000 ∧ h[b]? = some (.inr (ci, vs)) ∧ rc_arc[t]? = some ci) := by
  unfold rx_aast at hh
  split at hh
  · rename_i v i a r
    cases hA : rx_nth h a with
    | none => simp [hA] at hh
    | some cl =>
      cases cl with
      | inr y => simp [hA] at hh
      | inl y =>
        obtain ⟨t, n, u⟩ := y
        simp only [hA] at hh
        rw [rx_nth_eq] at hA
        cases hi : decide (i < 0) with
        | true => simp [hi] at hh
        | false =>
          cases hn : Nat.blt i.toNatClampNeg n with
          | false => simp [hi, hn] at hh
          | true =>
            cases v with
            | null =>
              simp only [hi, hn] at hh
              cases ht : (Nat.ble 4 t && Nat.blt a 1000000) with
              | false => simp only [ht] at hh; cases hh
              | true =>
                simp only [ht, rx_lit_eq] at hh
                rw [Bool.and_eq_true] at ht
                exact ⟨_, i, a, r, t, n, u, rfl, of_decide_eq_false hi, Nat.le_of_ble_eq_true ht.2, hA, Nat.le_of_ble_eq_true ht.1, Nat.le_of_ble_eq_true hn, hh, Or.inl rfl⟩
            | ref b =>
              simp only [hi, hn] at hh
              cases hB : rx_nth h b with
              | none => simp [hB] at hh
              | some cb =>
                cases cb with
                | inl y => simp [hB] at hh
                | inr y =>
                  obtain ⟨ci, vs⟩ := y
                  cases hc : rx_nth rc_arc t with
                  | none => simp [hB, hc] at hh
                  | some c0 =>
                    simp only [hB, hc] at hh
                    cases he : Nat.beq ci c0 with
                    | false => simp [he] at hh
                    | true =>
                      cases ht : (Nat.ble 4 t && Nat.blt a 1000000 && Nat.blt b 1000000) with
                      | false => simp only [he, ht] at hh; cases hh
                      | true =>
                        simp only [he, ht, rx_lit_eq] at hh
                        rw [Bool.and_eq_true, Bool.and_eq_true] at ht
                        rw [rx_nth_eq] at hB hc
                        have he2 := Nat.eq_of_beq_eq_true he
                        subst he2
                        exact ⟨_, i, a, r, t, n, u, rfl, of_decide_eq_false hi, Nat.le_of_ble_eq_true ht.1.2, hA, Nat.le_of_ble_eq_true ht.1.1, Nat.le_of_ble_eq_true hn, hh, Or.inr ⟨b, ci, vs, rfl, Nat.le_of_ble_eq_true ht.2, hB, hc⟩⟩
            | _ => simp [hi, hn] at hh
  · cases hh
theorem rx_cp0_of {st : List Value} {h : RHeap} {k : List Value → Option RRes} {x : RRes} (hh : rx_cp0 st h k = some x) : ∃ (a b n0 n1 : Nat) (u0 u1 : List (Nat × Value)) (r : List Value), st = .int 0 :: .int 0 :: .ref a :: .int 0 :: .ref b :: r ∧ a < 1000000 ∧ b < 1000000 ∧ h[a]? = some (.inl (2, n1, u1)) ∧ h[b]? = some (.inl (2, n0, u0)) ∧ rx_cats r ≤ 8 ∧ k r = some x := by
  unfold rx_cp0 at hh
  split at hh
  · rename_i n dp a sp b r
    cases g1 : decide (n = 0) <;> cases g2 : decide (dp = 0) <;> cases g3 : decide (sp = 0) <;> cases g4 : (Nat.blt a 1000000 && Nat.blt b 1000000 && Nat.ble (rx_cats r) 8) <;> simp only [g1, g2, g3, g4] at hh <;> first | (cases hh; done) | skip
    split at hh
    · rename_i g5 g6
      have e1 := of_decide_eq_true g1
      have e2 := of_decide_eq_true g2
      have e3 := of_decide_eq_true g3
      subst e1 e2 e3
      rw [Bool.and_eq_true, Bool.and_eq_true] at g4
      rw [rx_nth_eq] at g5 g6
      exact ⟨a, b, _, _, _, _, r, rfl, Nat.le_of_ble_eq_true g4.1.1, Nat.le_of_ble_eq_true g4.1.2, g5, g6, Nat.le_of_ble_eq_true g4.2, hh⟩
    · cases hh
  · cases hh
theorem rx_new_of {ci : Nat} {st : List Value} {h : RHeap} {k : List Value → RHeap → Option RRes} {x : RRes} (hh : rx_new ci st h k = some x) : ∃ fs, rc_dfl[ci]? = some fs ∧ h.length < 1000000 ∧ rx_more 1 fs.length (k (.ref h.length :: st) (h ++ [.inr (ci, fs)])) = some x := by
  unfold rx_new at hh
  split at hh
  · rename_i fs hfs
    rw [rx_nth_eq] at hfs
    cases hl : Nat.blt h.length 1000000 with
    | false => simp [hl] at hh
    | true =>
      simp only [hl] at hh
      exact ⟨fs, hfs, Nat.le_of_ble_eq_true hl, hh⟩
  · cases hh
theorem rx_newa_of {t : Nat} {st : List Value} {h : RHeap} {k : List Value → RHeap → Option RRes} {x : RRes} (hh : rx_newa t st h k = some x) : ∃ (n : Int32) (r : List Value), st = .int n :: r ∧ ¬ n < 0 ∧ n.toNatClampNeg < 60000000 ∧ h.length < 1000000 ∧ rx_more 1 n.toNatClampNeg (k (.ref h.length :: r) (h ++ [.inl (t, n.toNatClampNeg, [])])) = some x := by
  unfold rx_newa at hh
  split at hh
  · rename_i n r
    cases hi : decide (n < 0) with
    | true => simp [hi] at hh
    | false =>
      cases hn : Nat.blt n.toNatClampNeg 60000000 with
      | false => simp [hi, hn] at hh
      | true =>
        cases hl : (Nat.blt t rc_arr.length && Nat.blt h.length 1000000) with
        | false => simp only [hi, hn, hl] at hh; cases hh
        | true =>
          simp only [hi, hn, hl, rx_lit_eq] at hh
          rw [Bool.and_eq_true] at hl
          exact ⟨n, r, rfl, of_decide_eq_false hi, Nat.le_of_ble_eq_true hn, Nat.le_of_ble_eq_true hl.2, hh⟩
  · cases hh
theorem rx_inv1_of {O : ROld} {C9 : Nat → List Value → RHeap → Option RRes} {st : List Value} {h : RHeap} {mi n ci : Nat} {k : List Value → Option RRes → Option RRes} {x : RRes} (hh : rx_inv O C9 st h mi n ci 1 k = some x) : ∃ (as r : List Value) (a : Nat), rx_take n [] st = some (as, .ref a :: r) ∧ rx_cats r ≤ 8 ∧ rx_recv O ci h (.ref a) = true ∧ k r (C9 mi (.ref a :: as) h) = some x := by
  unfold rx_inv at hh
  split at hh
  · rename_i as r ht
    cases r with
    | nil => cases hh
    | cons b r =>
      simp only at hh
      cases hc : Nat.ble (rx_cats r) 8 with
      | false => simp [hc] at hh
      | true =>
        cases hr : rx_recv O ci h b with
        | false => simp [hc, hr] at hh
        | true =>
          simp only [hc, hr] at hh
          cases b with
          | ref a => exact ⟨as, r, a, ht, Nat.le_of_ble_eq_true hc, hr, hh⟩
          | _ => cases hr
  · cases hh
theorem rx_inv0_of {O : ROld} {C9 : Nat → List Value → RHeap → Option RRes} {st : List Value} {h : RHeap} {mi n ci : Nat} {k : List Value → Option RRes → Option RRes} {x : RRes} (hh : rx_inv O C9 st h mi n ci 0 k = some x) : ∃ (as r : List Value), rx_take n [] st = some (as, r) ∧ rx_cats r ≤ 8 ∧ k r (C9 mi as h) = some x := by
  unfold rx_inv at hh
  split at hh
  · rename_i as r ht
    simp only at hh
    cases hc : Nat.ble (rx_cats r) 8 with
    | false => simp [hc] at hh
    | true =>
      simp only [hc] at hh
      exact ⟨as, r, ht, Nat.le_of_ble_eq_true hc, hh⟩
  · cases hh
theorem rx_backN_of {r : List Value} {o : Option RRes} {k : List Value → RHeap → Option RRes} {x : RRes} (hh : rx_backN r o k = some x) : ∃ v h2 mc2 ms2, o = some (.inl v, h2, mc2, ms2) ∧ rx_more mc2 ms2 (k (v.toList ++ r) h2) = some x := by
  unfold rx_backN at hh
  split at hh
  · exact ⟨none, _, _, _, rfl, hh⟩
  · exact ⟨some _, _, _, _, rfl, hh⟩
  · cases hh
theorem rx_back_of {hh9 : List (Nat × Nat × Nat × Nat)} {pc : Nat} {r : List Value} {o : Option RRes} {k : List Value → RHeap → Option RRes} {kx : Nat → RHeap → Option RRes} {x : RRes} (hh : rx_back hh9 pc r o k kx = some x) : (∃ v h2 mc2 ms2, o = some (.inl v, h2, mc2, ms2) ∧ rx_more mc2 ms2 (k (v.toList ++ r) h2) = some x) ∨ (∃ E h2 mc2 ms2 t, o = some (.inr E, h2, mc2, ms2) ∧ rx_hand pc E hh9 = some t ∧ rx_more mc2 ms2 (kx t h2) = some x) ∨ (∃ E h2 mc2 ms2, o = some (.inr E, h2, mc2, ms2) ∧ rx_hand pc E hh9 = none ∧ x = (.inr E, h2, mc2, ms2)) := by
  unfold rx_back at hh
  split at hh
  · exact Or.inl ⟨none, _, _, _, rfl, hh⟩
  · exact Or.inl ⟨some _, _, _, _, rfl, hh⟩
  · rename_i E h2 mc2 ms2
    cases hn : rx_hand pc E hh9 with
    | some t =>
      simp only [hn] at hh
      exact Or.inr (Or.inl ⟨E, h2, mc2, ms2, t, rfl, hn, hh⟩)
    | none =>
      simp only [hn] at hh
      exact Or.inr (Or.inr ⟨E, h2, mc2, ms2, rfl, hn, (Option.some.inj hh).symm⟩)
  · cases hh
theorem rx_chk_of {ini : Bool} {own : String} {cc : ByteArray} {sigs : List RSig} {pc : Nat} {i : Instr} {len : Nat} {aux : List Nat} (h : rx_chk ini own cc sigs (pc, i, len, aux) = true) : decode cc pc = .ok (i, len) ∧ (len = rx_ilen i ∨ rx_isT i = true) ∧ rx_aok ini own sigs i aux = true := by
  unfold rx_chk at h
  rw [Bool.and_eq_true, Bool.and_eq_true, Bool.or_eq_true] at h
  obtain ⟨⟨h1, h2⟩, h3⟩ := h
  exact ⟨of_decide_eq_true h1, h2.elim (fun z => Or.inl (Nat.eq_of_beq_eq_true z)) Or.inr, h3⟩
/-! facts of the tables of kinds -/
def rx_plainV : Value → Bool
  | .int _ => true
  | .long _ => true
  | .null => true
  | _ => false
theorem rx_RL_plain {old : Nat → Nat} {rho : UInt32 → Int32} {ads : List Nat} : ∀ {fs : List Value}, fs.all rx_plainV = true → rx_RL old rho ads fs fs
  | [], _ => trivial
  | v :: fs, h => by
    rw [List.all_cons, Bool.and_eq_true] at h
    refine ⟨?_, rx_RL_plain h.2⟩
    cases v with
    | int x => rfl
    | long x => rfl
    | null => rfl
    | _ => cases h.1
theorem rc_dfl_plain : ∀ fs ∈ rc_dfl, fs.all rx_plainV = true := by decide +kernel
theorem rc_has {ci : Nat} {C : String} {T : u_T} {N : Nat} (h : rc_cls[ci]? = some (C, T, N)) : ∃ (ty : Nat → FieldType) (fs : List Value), (∀ k, k < N → parseFieldDescriptor (T k).2.2.1 = some (ty k)) ∧ (∀ a, a < N → ∀ b, b < N → a ≠ b → (T a).2.1 ≠ (T b).2.1) ∧ rc_dfl[ci]? = some fs ∧ fs.length = N ∧ (∀ j, j < N → defaultValue (ty j) = vp_V fs j) ∧ (∀ k, k < N → rc_fty ci k = some (ty k)) := by
  match ci, h with
  | 0, h =>
    cases h
    exact ⟨tyX0, _, tyX0_ok, nmX0, rfl, rfl, by decide +kernel, by decide +kernel⟩
  | 1, h =>
    cases h
    exact ⟨tyX1, _, tyX1_ok, nmX1, rfl, rfl, by decide +kernel, by decide +kernel⟩
  | 2, h =>
    cases h
    exact ⟨tyX2, _, tyX2_ok, nmX2, rfl, rfl, by decide +kernel, by decide +kernel⟩
  | 3, h =>
    cases h
    exact ⟨tyX3, _, tyX3_ok, nmX3, rfl, rfl, by decide +kernel, by decide +kernel⟩
  | 4, h =>
    cases h
    exact ⟨tyX4, _, tyX4_ok, nmX4, rfl, rfl, by decide +kernel, by decide +kernel⟩
  | 5, h =>
    cases h
    exact ⟨tyX5, _, tyX5_ok, nmX5, rfl, rfl, by decide +kernel, by decide +kernel⟩
  | 6, h =>
    cases h
    exact ⟨tyX6, _, tyX6_ok, nmX6, rfl, rfl, by decide +kernel, by decide +kernel⟩
  | 7, h =>
    cases h
    exact ⟨tyX7, _, tyX7_ok, nmX7, rfl, rfl, by decide +kernel, by decide +kernel⟩
  | 8, h =>
    cases h
    exact ⟨tyX8, _, tyX8_ok, nmX8, rfl, rfl, by decide +kernel, by decide +kernel⟩
  | 9, h =>
    cases h
    exact ⟨tyX9, _, tyX9_ok, nmX9, rfl, rfl, by decide +kernel, by decide +kernel⟩
  | 10, h =>
    cases h
    exact ⟨tyX10, _, tyX10_ok, nmX10, rfl, rfl, by decide +kernel, by decide +kernel⟩
  | 11, h =>
    cases h
    exact ⟨tyX11, _, tyX11_ok, nmX11, rfl, rfl, by decide +kernel, by decide +kernel⟩
  | 12, h =>
    cases h
    exact ⟨tyX12, _, tyX12_ok, nmX12, rfl, rfl, by decide +kernel, by decide +kernel⟩
  | 13, h =>
    cases h
    exact ⟨tyJ0, _, tyJ0_ok, nmJ0, rfl, rfl, by decide +kernel, by decide +kernel⟩
  | k + 14, h => cases h
def rc_wpos : List (Nat × Nat) := [(361, 188), (330, 187), (530, 193), (590, 195), (452, 192), (367, 189), (405, 191), (549, 194), (218, 181), (373, 190), (232, 182), (210, 180), (1780, 199), (1511, 183)]
def rc_wok (ci : Nat) : Bool := match rx_nth rc_cls ci, rx_nth rc_wpos ci with
  | some q, some w => rx_wd w.1 (.instantiable q.1 q.2.2) && rx_wd w.2 (.initialized q.1)
  | _, _ => false
theorem rx_lay_in {C : String} {T : u_T} {N : Nat} (ps : List Nat) (h : (List.range N).all (fun k => match rx_nth ps k with | some w => rx_wd w (u_lay C T k) | none => false) = true) : ∀ w ∈ u_ws C T N, w ∈ rc_good := by
  intro w hw
  obtain ⟨k, hk, rfl⟩ := List.mem_map.mp hw
  have h1 := List.all_eq_true.mp h k hk
  split at h1
  · exact rx_wd_mem h1
  · cases h1
theorem rc_ws_in {ci : Nat} {C : String} {T : u_T} {N : Nat} (h : rc_cls[ci]? = some (C, T, N)) : ∀ w ∈ u_ws C T N, w ∈ rc_good := by
  match ci, h with
  | 0, h =>
    cases h
    exact fun w hw => rx_lay_in [578, 580, 582, 584, 586] (by decide +kernel) w hw
  | 1, h =>
    cases h
    exact fun w hw => rx_lay_in [347, 349, 351, 353, 355, 357] (by decide +kernel) w hw
  | 2, h =>
    cases h
    exact fun w hw => rx_lay_in [539, 541, 543, 545] (by decide +kernel) w hw
  | 3, h =>
    cases h
    exact fun w hw => rx_lay_in [616, 618, 620, 622, 624, 626, 628, 630, 632, 634, 636, 638, 640, 642, 644, 646, 648, 650, 652] (by decide +kernel) w hw
  | 4, h =>
    cases h
    exact fun w hw => rx_lay_in [478, 480, 482, 484, 486, 488, 490] (by decide +kernel) w hw
  | 5, h =>
    cases h
    exact fun w hw => rx_lay_in [510, 512, 514, 516, 518, 520, 522, 524, 526] (by decide +kernel) w hw
  | 6, h =>
    cases h
    exact fun w hw => rx_lay_in [433, 435, 437, 439, 441, 443, 445, 447] (by decide +kernel) w hw
  | 7, h =>
    cases h
    exact fun w hw => rx_lay_in [560, 562, 564, 566, 568, 570] (by decide +kernel) w hw
  | 8, h =>
    cases h
    exact fun w hw => rx_lay_in [225, 227] (by decide +kernel) w hw
  | 9, h =>
    cases h
    exact fun w hw => rx_lay_in [393, 395, 397, 399, 401] (by decide +kernel) w hw
  | 10, h =>
    cases h
    exact fun w hw => rx_lay_in [306, 308, 310, 312, 314, 316, 318, 320, 322, 324] (by decide +kernel) w hw
  | 11, h =>
    cases h
    exact fun w hw => rx_lay_in [682, 684, 686, 688, 690, 692, 694] (by decide +kernel) w hw
  | 12, h =>
    cases h
    exact fun w hw => rx_lay_in [1913, 1915, 1917, 1919, 1921, 1923, 1925, 1927, 1929, 1931, 1933, 1935, 1937, 1939, 1941, 1943, 1945, 1947, 1949, 1951, 1953, 1955, 1957, 1959, 1961, 1963, 1965, 1967, 1969, 1971, 1973, 1975, 1977, 1979, 1981, 1983, 1985, 1987, 1989, 1991, 1993, 1995, 1997, 1999, 2001, 2003, 2005, 2007, 2009, 2011, 2013, 2015, 2017, 2019, 2021, 2023, 2025, 2027, 2029, 2031, 2033, 2035, 2037, 2039, 2041, 2043, 2045, 2047, 2049, 2051, 2053, 2055, 2057, 2059, 2061, 2063, 2065, 2067, 2069, 2071, 2073, 2075, 2077, 2079, 2081, 2083, 2085, 2087, 2089, 2091, 2093, 2095, 2097, 2099, 2101, 2103, 2105, 2107, 2109, 2111, 2113, 2115, 2117] (by decide +kernel) w hw
  | 13, h =>
    cases h
    exact fun w hw => rx_lay_in [1556, 1558, 1560, 1562] (by decide +kernel) w hw
  | k + 14, h => cases h
