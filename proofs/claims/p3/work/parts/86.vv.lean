/-! the model's machine: values -/
theorem InI_32 (x : Int32) : InI x.toInt := ⟨Int32.le_toInt x, by have := Int32.toInt_lt x; omega⟩
theorem okv_i {x : Int} : okv 0 (i32 x) := ⟨fun _ => InI_i32 x, fun h => absurd h (by decide)⟩
theorem okv_0 {x : Int} (h : InI x) : okv 0 x := ⟨fun _ => h, fun h => absurd h (by decide)⟩
theorem okv_3 {x : Int} : okv 3 x := ⟨fun h => absurd rfl h, fun h => absurd h (by decide)⟩
theorem okv_2 {x : Int} (h : x = 0 ∨ x = 1) : okv 2 x := ⟨fun _ => InI_z h, fun _ => h⟩
theorem land1 (a : Int) : l_and a 1 = 0 ∨ l_and a 1 = 1 := by
  unfold l_and
  have h : (Int64.ofInt a &&& Int64.ofInt 1).toBitVec.toNat = (Int64.ofInt a).toBitVec.toNat % 2 := by
    show ((Int64.ofInt a).toBitVec &&& (Int64.ofInt 1).toBitVec).toNat = _
    rw [BitVec.toNat_and]
    exact Nat.and_one_is_mod _
  have h2 : (Int64.ofInt a &&& Int64.ofInt 1).toInt = ((Int64.ofInt a).toBitVec.toNat % 2 : Nat) := by
    show (Int64.ofInt a &&& Int64.ofInt 1).toBitVec.toInt = _
    rw [BitVec.toInt_eq_toNat_of_lt (by rw [h]; omega), h]
  rw [h2]
  omega
theorem truth_ok {s : Int} {m : MS} : ∃ v, (v = 0 ∨ v = 1) ∧ m_truth s m = some (v, m) := by
  simp only [m_truth, m_truth_9]
  split
  · exact ⟨0, Or.inl rfl, rfl⟩
  · exact ⟨1, Or.inr rfl, rfl⟩
theorem compared_ok {x a b : Int} {m : MS} : ∃ v, (v = 0 ∨ v = 1) ∧ m_compared x a b m = some (v, m) := by
  have h : ∀ s : Int, ∃ v, (v = 0 ∨ v = 1) ∧ (vb (m_truth s m) (fun v m => some (v, m))) = some (v, m) := fun s => by
    obtain ⟨v, h1, h2⟩ := truth_ok (s := s) (m := m)
    exact ⟨v, h1, vb_ok h2⟩
  simp only [m_compared, m_compared_83, m_compared_113, m_compared_143, m_compared_98, m_compared_128, m_compared_147, m_compared_158]
  repeat' split
  all_goals exact h _
theorem compares_ok {x : Int} {m : MS} : (cmp x ∧ m_compares x m = some (1, m)) ∨ (¬ cmp x ∧ m_compares x m = some (0, m)) := by
  simp only [m_compares, m_compares_42, m_compares_47]
  by_cases h : cmp x
  · refine Or.inl ⟨h, ?_⟩
    rcases h with rfl | rfl | rfl | rfl | rfl | rfl | rfl <;> rfl
  · refine Or.inr ⟨h, ?_⟩
    unfold cmp at h
    rw [if_neg (by omega), if_neg (by omega), if_neg (by omega), if_neg (by omega), if_neg (by omega), if_neg (by omega), if_neg (by omega)]
theorem join_ok {m2 : MS} {x y k1 k2 q a b : Int} {P : MS → Prop} (h1 : 1 ≤ m2 89 0) (h2 : m2 89 0 ≤ 200) (hj : jok x y k1 k2 q) (hb : okv k2 b) (ha : okv k1 a) (hp : ∀ {v : Int}, okv q v → ∃ m', m_push v m2 = some m' ∧ P m') (hw : ∀ v, P (mset (mset m2 101 0 2) 102 0 v)) : ∃ m', (if x = 51 then m_join_24 x y b a m2 else if x = 52 then m_join_24 x y b a m2 else m_join_34 x y b a m2) = some m' ∧ P m' := by
  have h35 : (x = 51 ∨ x = 52 → b ≠ 0) → ∃ m', m_join_35 x y b a 0 m2 = some m' ∧ P m' := fun hne => by
    simp only [m_join_35, m_join_76, m_join_77, m_join_109, m_join_112, nb_id]
    rw [vb_ok wrong_0, if_pos rfl]
    by_cases h56 : x = 56
    · rw [if_pos h56]
      have hq : q = 2 := by
        unfold jok cmp at hj
        omega
      subst hq
      split
      · exact hp (okv_2 (Or.inl rfl))
      · split
        · exact hp (okv_2 (land1 _))
        · exact hp (okv_2 (Or.inl rfl))
    · rw [if_neg h56]
      rcases compares_ok (x := x) (m := m2) with ⟨c1, c2⟩ | ⟨c1, c2⟩
      · have hq : q = 2 := by
          unfold jok at hj
          unfold cmp at c1 hj
          omega
        subst hq
        rw [vb_ok c2, if_neg (by decide)]
        obtain ⟨v, v1, v2⟩ := compared_ok (x := x) (a := a) (b := b) (m := m2)
        rw [vb_ok v2]
        exact hp (okv_2 v1)
      · rw [vb_ok c2, if_pos rfl]
        have hjo : ∃ v, okv q v ∧ m_joined x y a b m2 = some (v, m2) := by
          rcases hj with hj | ⟨hx, hk, rfl⟩ | ⟨hx, hy⟩ | ⟨hx, rfl, rfl, rfl⟩
          · exact absurd hj.1 c1
          · have hbI := hb.1 hk
            have e1 : i32 b = b := i32_of hbI
            simp only [m_joined, m_joined_19, e1]
            rcases hx with rfl | rfl <;> simp only [Int.reduceEq, if_true, if_false, cz, if_neg (hne (by omega)), ite_self]
            · exact ⟨_, okv_0 (InI_32 _), rfl⟩
            · exact ⟨_, okv_0 (InI_32 _), rfl⟩
          · simp only [m_joined, m_joined_19, m_joined_98, m_joined_121, m_joined_140]
            rcases hy with ⟨rfl, rfl⟩ | ⟨hy, rfl⟩
            · rcases hx with rfl | rfl | rfl <;> simp only [Int.reduceEq, if_true, if_false] <;> exact ⟨_, okv_3, rfl⟩
            · rw [if_neg hy]
              rcases hx with rfl | rfl | rfl <;> simp only [Int.reduceEq, if_true, if_false] <;> exact ⟨_, okv_i, rfl⟩
          · have hb2 := hb.2 rfl
            have ha2 := ha.2 rfl
            simp only [m_joined, m_joined_19, m_joined_160]
            rcases hx with rfl | rfl <;> simp only [Int.reduceEq, if_true, if_false, ite_self]
            · refine ⟨_, okv_2 ?_, rfl⟩
              rcases hb2 with rfl | rfl <;> rcases ha2 with rfl | rfl <;> decide
            · refine ⟨_, okv_2 ?_, rfl⟩
              rcases hb2 with rfl | rfl <;> rcases ha2 with rfl | rfl <;> decide
        obtain ⟨v, v1, v2⟩ := hjo
        rw [vb_ok v2]
        exact hp v1
  have h24 : ∃ m', m_join_24 x y b a m2 = some m' ∧ P m' := by
    simp only [m_join_24, m_join_34]
    by_cases hb0 : b = 0
    · rw [if_pos hb0]
      obtain ⟨v, hv⟩ := wrong_1 (m := m2) (x := 1) (l := 2) (by decide) h1 h2
      unfold m_join_35
      rw [vb_ok hv, if_neg (by decide)]
      exact ⟨_, rfl, hw v⟩
    · rw [if_neg hb0]
      exact h35 (fun _ => hb0)
  split
  · exact h24
  · split
    · exact h24
    · exact h35 (fun h => by omega)
theorem apply_ok {m1 : MS} {x y k q a : Int} {P : MS → Prop} (hj : apk x y k q) (ha : okv k a) (hp : ∀ {v : Int}, okv q v → ∃ m', m_push v m1 = some m' ∧ P m') (hw : ∀ {v : Int}, ∃ m', (vb (m_isWrong 1 3 m1) (fun _ m41 => m_apply_170 v m41)) = some m' ∧ P m') : ∃ m', (if x = 1 then vb (m_isOut a 0 255 m1) (fun v39 m35 => vb (m_isWrong v39 3 m35) (fun v45 m41 => m_apply_170 a m41)) else if x = 2 then m_apply_42 x y a (i32 a) m1 else if x = 3 then m_apply_42 x y a (i32 a) m1 else if x = 4 then m_apply_170 (l_and a 1) m1 else if x = 5 then if (i32 a) < 0 then m_apply_153 (i32 (-(i32 a))) m1 else m_apply_153 (i32 a) m1 else if x = 6 then m_apply_170 (i32 ((i32 a) * (i32 a))) m1 else m_apply_170 a m1) = some m' ∧ P m' := by
  have hp2 : ∀ {v : Int}, okv q v → ∃ m', m_apply_170 v m1 = some m' ∧ P m' := fun h => by
    simp only [m_apply_170, nb_id]
    exact hp h
  rcases hj with ⟨rfl, hk, rfl⟩ | ⟨rfl, hk, rfl⟩ | ⟨hx, rfl, hk, rfl⟩ | ⟨rfl, rfl⟩ | ⟨hx, rfl⟩
  · simp only [Int.reduceEq, if_false]
    exact hp2 (okv_0 (ha.1 hk))
  · simp only [if_true]
    rcases out_ok (m := m1) (v := a) (l := 0) (h := 255) with ⟨o1, o2, o3⟩ | o3
    · rw [vb_ok o3, vb_ok wrong_0]
      exact hp2 ⟨fun _ => ha.1 hk, fun h => absurd h (by decide)⟩
    · rw [vb_ok o3]
      exact hw
  · have h42 : ∃ m', m_apply_42 x q a (i32 a) m1 = some m' ∧ P m' := by
      simp only [m_apply_42, m_apply_81, m_apply_101, m_apply_111, m_apply_112]
      have h0 : ∀ {v : Int}, okv q v → ∃ m', (vb (m_isWrong 0 3 m1) (fun v77 m73 => m_apply_170 v m73)) = some m' ∧ P m' := fun h => by
        rw [vb_ok wrong_0]
        exact hp2 h
      have hr : ∀ {v h : Int}, (∀ z, 0 ≤ z → z ≤ h → okv q z) → ∃ m', (vb (m_isOut v 0 h m1) (fun v70 m66 => if v70 = 0 then vb (m_isWrong 0 3 m66) (fun v77 m73 => m_apply_170 v m73) else vb (m_isWrong 1 3 m66) (fun v77 m73 => m_apply_170 v m73))) = some m' ∧ P m' := fun {v h} hz => by
        rcases out_ok (m := m1) (v := v) (l := 0) (h := h) with ⟨o1, o2, o3⟩ | o3
        · rw [vb_ok o3, if_pos rfl]
          exact h0 (hz _ o1 o2)
        · rw [vb_ok o3, if_neg (by decide)]
          exact hw
      rcases hk with rfl | rfl | rfl
      · simp only [if_true]
        split <;> exact h0 okv_i
      · simp only [Int.reduceEq, if_true, if_false]
        have : ∀ z : Int, 0 ≤ z → z ≤ 255 → okv 1 z := fun z z1 z2 => ⟨fun _ => ⟨by omega, by omega⟩, fun h => absurd h (by decide)⟩
        split <;> exact hr this
      · simp only [Int.reduceEq, if_true, if_false]
        have : ∀ z : Int, 0 ≤ z → z ≤ 1 → okv 2 z := fun z z1 z2 => okv_2 (by omega)
        split <;> exact hr this
    rcases hx with rfl | rfl
    · simp only [Int.reduceEq, if_true, if_false]
      exact h42
    · simp only [Int.reduceEq, if_true, if_false]
      exact h42
  · simp only [Int.reduceEq, if_true, if_false]
    exact hp2 (okv_2 (land1 _))
  · rcases hx with rfl | rfl
    · simp only [Int.reduceEq, if_true, if_false, m_apply_153]
      split <;> exact hp2 okv_i
    · simp only [Int.reduceEq, if_true, if_false]
      exact hp2 okv_i
section Vv
variable {m : MS} {W : EV} {ly : LY} {A : Int} {Th : Int → Sl} {SS : Int → Sh} {HB EE : Int → Int} {n : Int} {g : Nat}
theorem st_9 (hR : RI m W ly A Th SS HB EE n) (h101 : m 101 0 < 0) (hop : m 70 (m 98 0) = 9) : ∃ m', m_step g m = some m' ∧ Pst m W ly A EE n m' := by
  obtain ⟨L, hro, hL, p0, p1, pS⟩ := ru_of hR
  obtain ⟨mm, _, hq, e98, e97, e70, e71, e72, e73, hst⟩ := step_in (g := g) hR
  have h89 := q89 hR hq
  have hM := ms_of hR
  rw [hst, hop]
  rw [hop] at hro
  simp only [Ro, if_true, Int.reduceEq, if_false] at hro
  simp only [Int.reduceEq, Int.reduceLT, if_false, if_true, m_step_119, m_step_211, m_step_185, m_step_248, m_step_278, nb_id]
  simp only [m_otherStep, m_otherStep_363, m_otherStep_247, m_otherStep_282, m_otherStep_287, m_otherStep_358, e70, e71, e72, hop, Int.reduceEq, if_false, if_true, ck_ok p0 p1, nb_id]
  obtain ⟨k, S', eS, rfl⟩ := hro
  rw [eS] at hM pS
  obtain ⟨m1, q1, q2, q3, q4, q5, q6⟩ := pop_q hR hq e97 ne_V hM pS
  rw [vb_ok q1]
  exact fin_push hR h101 q2 q3 (Or.inl rfl) q6 (sok_v okv_i) (by rw [q4, e98]; exact hL _ m1_mem) (by rw [q4, e98]; exact r1 (by omega))
theorem st_10 (hR : RI m W ly A Th SS HB EE n) (h101 : m 101 0 < 0) (hop : m 70 (m 98 0) = 10) : ∃ m', m_step g m = some m' ∧ Pst m W ly A EE n m' := by
  obtain ⟨L, hro, hL, p0, p1, pS⟩ := ru_of hR
  obtain ⟨mm, _, hq, e98, e97, e70, e71, e72, e73, hst⟩ := step_in (g := g) hR
  have h89 := q89 hR hq
  have hM := ms_of hR
  rw [hst, hop]
  rw [hop] at hro
  simp only [Ro, if_true, Int.reduceEq, if_false] at hro
  simp only [Int.reduceEq, Int.reduceLT, if_false, if_true, m_step_119, m_step_211, m_step_185, m_step_248, m_step_278, nb_id]
  simp only [m_otherStep, m_otherStep_363, m_otherStep_247, m_otherStep_282, m_otherStep_287, m_otherStep_358, e70, e71, e72, hop, Int.reduceEq, if_false, if_true, ck_ok p0 p1, nb_id]
  obtain ⟨k1, k2, q, S', eS, hj, rfl⟩ := hro
  rw [eS] at hM pS
  obtain ⟨m1, q1, q2, q3, q4, q5, q6⟩ := pop_q hR hq e97 ne_V hM pS
  rw [hs_V] at pS
  obtain ⟨m2, t1, t2, t3, t4, t5, t6⟩ := pop_q hR q2 q3 ne_V q6 (by omega)
  have hT := hL _ m1_mem
  have hpp : ∀ {v : Int}, okv q v → ∃ m', m_push v m2 = some m' ∧ Pst m W ly A EE n m' := fun hv => fin_push hR h101 t2 t3 (Or.inl rfl) t6 (sok_v hv) (by rw [t4, q4, e98]; exact hT) (by rw [t4, q4, e98]; exact r1 (by omega))
  have h892 := q89 hR t2
  have v1 := sokv q5
  have v2 := sokv t5
  unfold m_join
  rw [vb_ok q1, vb_ok t1]
  exact join_ok (h892.1) (h892.2) hj v1 v2 hpp (fun v => fin_end t2 (by decide))
theorem st_11 (hR : RI m W ly A Th SS HB EE n) (h101 : m 101 0 < 0) (hop : m 70 (m 98 0) = 11) : ∃ m', m_step g m = some m' ∧ Pst m W ly A EE n m' := by
  obtain ⟨L, hro, hL, p0, p1, pS⟩ := ru_of hR
  obtain ⟨mm, _, hq, e98, e97, e70, e71, e72, e73, hst⟩ := step_in (g := g) hR
  have h89 := q89 hR hq
  have hM := ms_of hR
  rw [hst, hop]
  rw [hop] at hro
  simp only [Ro, if_true, Int.reduceEq, if_false] at hro
  simp only [Int.reduceEq, Int.reduceLT, if_false, if_true, m_step_119, m_step_211, m_step_185, m_step_248, m_step_278, nb_id]
  simp only [m_otherStep, m_otherStep_363, m_otherStep_247, m_otherStep_282, m_otherStep_287, m_otherStep_358, e70, e71, e72, hop, Int.reduceEq, if_false, if_true, ck_ok p0 p1, nb_id]
  obtain ⟨S', eS, rfl⟩ := hro
  rw [eS] at hM pS hL
  obtain ⟨m1, q1, q2, q3, q4, q5, q6⟩ := pop_q hR hq e97 ne_V hM pS
  rw [vb_ok q1]
  have hv := (sokv q5).2 rfl
  refine fin_push hR h101 q2 q3 (Or.inl rfl) q6 (sok_v (k := 2) ?_) (by rw [q4, e98]; exact hL _ m1_mem) (by rw [q4, e98]; exact r1 (by omega))
  rcases hv with hv | hv <;> rw [hv]
  · exact okv_2 (Or.inr rfl)
  · exact okv_2 (Or.inl rfl)
theorem st_12 (hR : RI m W ly A Th SS HB EE n) (h101 : m 101 0 < 0) (hop : m 70 (m 98 0) = 12) : ∃ m', m_step g m = some m' ∧ Pst m W ly A EE n m' := by
  obtain ⟨L, hro, hL, p0, p1, pS⟩ := ru_of hR
  obtain ⟨mm, _, hq, e98, e97, e70, e71, e72, e73, hst⟩ := step_in (g := g) hR
  have h89 := q89 hR hq
  have hM := ms_of hR
  rw [hst, hop]
  rw [hop] at hro
  simp only [Ro, if_true, Int.reduceEq, if_false] at hro
  simp only [Int.reduceEq, Int.reduceLT, if_false, if_true, m_step_119, m_step_211, m_step_185, m_step_248, m_step_278, nb_id]
  simp only [m_otherStep, m_otherStep_363, m_otherStep_247, m_otherStep_282, m_otherStep_287, m_otherStep_358, e70, e71, e72, hop, Int.reduceEq, if_false, if_true, ck_ok p0 p1, nb_id]
  subst hro
  exact fin_push hR h101 hq e97 (Or.inl rfl) hM (sok_v okv_3) (by rw [e98]; exact hL _ m1_mem) (by rw [e98]; exact r1 (by omega))
theorem st_13 (hR : RI m W ly A Th SS HB EE n) (h101 : m 101 0 < 0) (hop : m 70 (m 98 0) = 13) : ∃ m', m_step g m = some m' ∧ Pst m W ly A EE n m' := by
  obtain ⟨L, hro, hL, p0, p1, pS⟩ := ru_of hR
  obtain ⟨mm, _, hq, e98, e97, e70, e71, e72, e73, hst⟩ := step_in (g := g) hR
  have h89 := q89 hR hq
  have hM := ms_of hR
  rw [hst, hop]
  rw [hop] at hro
  simp only [Ro, if_true, Int.reduceEq, if_false] at hro
  simp only [Int.reduceEq, Int.reduceLT, if_false, if_true, m_step_119, m_step_211, m_step_185, m_step_248, m_step_278, nb_id]
  simp only [m_otherStep, m_otherStep_363, m_otherStep_247, m_otherStep_282, m_otherStep_287, m_otherStep_358, e70, e71, e72, hop, Int.reduceEq, if_false, if_true, ck_ok p0 p1, nb_id]
  obtain ⟨k, S', eS, rfl⟩ := hro
  rw [eS] at hM pS
  obtain ⟨m1, q1, q2, q3, q4, q5, q6⟩ := pop_q hR hq e97 ne_V hM pS
  rw [hs_V] at pS
  obtain ⟨m2, t1, t2, t3, t4, t5, t6⟩ := pop_q hR q2 q3 ne_V q6 (by omega)
  have h891 := q89 hR q2
  rw [vb_ok q1]
  rcases out_ok (m := m1) (v := m 96 (m 97 0 - 1)) (l := 0) (h := 63) with ⟨o1, o2, o3⟩ | o3
  · rw [vb_ok o3, vb_ok wrong_0, if_pos rfl, vb_ok t1]
    exact fin_push hR h101 t2 t3 (Or.inl rfl) t6 (sok_v okv_3) (by rw [t4, q4, e98]; exact hL _ m1_mem) (by rw [t4, q4, e98]; exact r1 (by omega))
  · obtain ⟨x, hx⟩ := wrong_1 (m := m1) (x := 1) (l := 3) (by decide) h891.1 h891.2
    rw [vb_ok o3, vb_ok hx, if_neg (by decide)]
    exact ⟨_, rfl, fin_end q2 (by decide)⟩
theorem st_14 (hg : 10000 ≤ g) (hR : RI m W ly A Th SS HB EE n) (h101 : m 101 0 < 0) (hop : m 70 (m 98 0) = 14) : ∃ m', m_step g m = some m' ∧ Pst m W ly A EE n m' := by
  obtain ⟨L, hro, hL, p0, p1, pS⟩ := ru_of hR
  obtain ⟨mm, _, hq, e98, e97, e70, e71, e72, e73, hst⟩ := step_in (g := g) hR
  have h89 := q89 hR hq
  have hM := ms_of hR
  rw [hst, hop]
  rw [hop] at hro
  simp only [Ro, if_true, Int.reduceEq, if_false] at hro
  simp only [Int.reduceEq, Int.reduceLT, if_false, if_true, m_step_119, m_step_211, m_step_185, m_step_248, m_step_278, nb_id]
  simp only [m_otherStep, m_otherStep_363, m_otherStep_247, m_otherStep_282, m_otherStep_287, m_otherStep_358, e70, e71, e72, hop, Int.reduceEq, if_false, if_true, ck_ok p0 p1, nb_id]
  obtain ⟨k, k', S', eS, rfl⟩ := hro
  rw [eS] at hM pS
  obtain ⟨m1, q1, q2, q3, q4, q5, q6⟩ := pop_q hR hq e97 ne_V hM pS
  rw [hs_V, hs_V] at pS
  obtain ⟨m2, t1, t2, t3, t4, t5, t6⟩ := pop_q hR q2 q3 ne_V q6 (by rw [hs_V]; omega)
  obtain ⟨m3, s1, s2, s3, s4, s5, s6⟩ := pop_q hR t2 t3 ne_V t6 (by omega)
  have h893 := q89 hR s2
  have hT := hL _ m1_mem
  have hpp : ∀ {v : Int}, ∃ m', m_push v m3 = some m' ∧ Pst m W ly A EE n m' := fun {v} => fin_push hR h101 s2 s3 (Or.inl rfl) s6 (sok_v okv_3) (by rw [s4, t4, q4, e98]; exact hT) (by rw [s4, t4, q4, e98]; exact r1 (by omega))
  have hw : ∀ {a b c : Int}, ∃ m', m_addRow_42 g a b c 1 m3 = some m' ∧ Pst m W ly A EE n m' := fun {a b c} => by
    obtain ⟨x, hx⟩ := wrong_1 (m := m3) (x := 1) (l := 3) (by decide) h893.1 h893.2
    unfold m_addRow_42
    rw [vb_ok hx, if_neg (by decide)]
    exact ⟨_, rfl, fin_end s2 (by decide)⟩
  have hrow : ∀ (c f : Nat) (b s a : Int), (a + 1 - b).toNat ≤ c → c < f → -10 ≤ a → a ≤ 9223372036854775800 → -100 ≤ b → ∃ m', m_addRow_53 g f a s b m3 = some m' ∧ Pst m W ly A EE n m' := by
    intro c
    induction c with
    | zero =>
      intro f b s a h1 h2 h3 h4 h5
      obtain ⟨f, rfl⟩ : ∃ f', f = f' + 1 := ⟨f - 1, by omega⟩
      simp only [m_addRow_53, nb_id]
      rw [if_pos (by omega)]
      exact hpp
    | succ c ih =>
      intro f b s a h1 h2 h3 h4 h5
      obtain ⟨f, rfl⟩ : ∃ f', f = f' + 1 := ⟨f - 1, by omega⟩
      simp only [m_addRow_53, nb_id]
      split
      · exact hpp
      · rw [i64_r (by omega) (by omega)]
        exact ih f (b + 1) _ a (by omega) (by omega) h3 h4 (by omega)
  simp only [m_addRow]
  rw [vb_ok q1, vb_ok t1, vb_ok s1]
  simp only [m_addRow_41, m_addRow_37]
  split
  · rename_i hlt
    unfold m_addRow_42
    rw [vb_ok wrong_0, if_pos rfl]
    obtain ⟨f, hf⟩ : ∃ f', g = f' + 1 := ⟨g - 1, by omega⟩
    have : ∀ s : Int, ∃ m', m_addRow_53 g g (m 96 (m 97 0 - 1)) s (m 96 (m 97 0 - 1 - 1)) m3 = some m' ∧ Pst m W ly A EE n m' := by
      intro s
      rw [show m_addRow_53 g g = m_addRow_53 g (f + 1) by rw [← hf]]
      simp only [m_addRow_53, nb_id]
      rw [if_pos hlt]
      exact hpp
    exact this _
  · split
    · exact hw
    · split
      · exact hw
      · unfold m_addRow_42
        rw [vb_ok wrong_0, if_pos rfl]
        exact hrow 64 g _ _ _ (by omega) (by omega) (by omega) (by omega) (by omega)
theorem st_15 (hR : RI m W ly A Th SS HB EE n) (h101 : m 101 0 < 0) (hop : m 70 (m 98 0) = 15) : ∃ m', m_step g m = some m' ∧ Pst m W ly A EE n m' := by
  obtain ⟨L, hro, hL, p0, p1, pS⟩ := ru_of hR
  obtain ⟨mm, _, hq, e98, e97, e70, e71, e72, e73, hst⟩ := step_in (g := g) hR
  have h89 := q89 hR hq
  have hM := ms_of hR
  rw [hst, hop]
  rw [hop] at hro
  simp only [Ro, if_true, Int.reduceEq, if_false] at hro
  simp only [Int.reduceEq, Int.reduceLT, if_false, if_true, m_step_119, m_step_211, m_step_185, m_step_248, m_step_278, nb_id]
  simp only [m_otherStep, m_otherStep_363, m_otherStep_247, m_otherStep_282, m_otherStep_287, m_otherStep_358, e70, e71, e72, hop, Int.reduceEq, if_false, if_true, ck_ok p0 p1, nb_id]
  obtain ⟨k, q, S', eS, ha, rfl⟩ := hro
  rw [eS] at hM pS
  obtain ⟨m1, q1, q2, q3, q4, q5, q6⟩ := pop_q hR hq e97 ne_V hM pS
  have hT := hL _ m1_mem
  have hpp : ∀ {v : Int}, okv q v → ∃ m', m_push v m1 = some m' ∧ Pst m W ly A EE n m' := fun hv => fin_push hR h101 q2 q3 (Or.inl rfl) q6 (sok_v hv) (by rw [q4, e98]; exact hT) (by rw [q4, e98]; exact r1 (by omega))
  have h891 := q89 hR q2
  have hh := ms_h q6
  have hS := hs_nn S'
  have hb := (hR.2.1.2.2.2.1 (n - 1) (by have := hR.2.2.1; omega) (by omega)).2.2.2
  have hn2 := hR.2.2.2.1
  rw [hs_V] at pS
  have hwr : ∀ {v : Int}, ∃ m', (vb (m_isWrong 1 3 m1) (fun _ m41 => m_apply_170 v m41)) = some m' ∧ Pst m W ly A EE n m' := fun {v} => by
    obtain ⟨x, hx⟩ := wrong_1 (m := m1) (x := 1) (l := 3) (by decide) h891.1 h891.2
    rw [vb_ok hx]
    simp only [m_apply_170, nb_id]
    have e9 : mset (mset m1 101 0 3) 102 0 x 97 0 = m 97 0 - 1 := by rw [mset_f (by decide), mset_f (by decide), q3]
    refine ⟨_, push_ok (by omega) (by omega), Or.inl ⟨?_, ?_, ?_⟩⟩
    · rw [mset_f (by decide), mset_f (by decide), mset_f (by decide), mset_eq]
      decide
    · exact (((q2.1.set (by decide)).set (by decide)).set (by decide)).set (by decide)
    · rw [msf (by decide), msf (by decide), msf (by decide), msf (by decide)]
      exact q2.2.2.2.2
  unfold m_apply
  rw [vb_ok q1]
  exact apply_ok ha (sokv q5) hpp hwr
theorem st_16 (hR : RI m W ly A Th SS HB EE n) (h101 : m 101 0 < 0) (hop : m 70 (m 98 0) = 16) : ∃ m', m_step g m = some m' ∧ Pst m W ly A EE n m' := by
  obtain ⟨L, hro, hL, p0, p1, pS⟩ := ru_of hR
  obtain ⟨mm, _, hq, e98, e97, e70, e71, e72, e73, hst⟩ := step_in (g := g) hR
  have h89 := q89 hR hq
  have hM := ms_of hR
  rw [hst, hop]
  rw [hop] at hro
  simp only [Ro, if_true, Int.reduceEq, if_false] at hro
  simp only [Int.reduceEq, Int.reduceLT, if_false, if_true, m_step_119, m_step_211, m_step_185, m_step_248, m_step_278, nb_id]
  simp only [m_otherStep, m_otherStep_363, m_otherStep_247, m_otherStep_282, m_otherStep_287, m_otherStep_358, e70, e71, e72, hop, Int.reduceEq, if_false, if_true, ck_ok p0 p1, nb_id]
  subst hro
  have hT := hL _ m1_mem
  split <;> simp only [m_truth, m_truth_9, Int.reduceEq, if_true, if_false, vb_ok rfl, nb_id]
  · exact fin_push hR h101 hq e97 (Or.inl rfl) hM (sok_v (okv_2 (Or.inr rfl))) (by rw [e98]; exact hT) (by rw [e98]; exact r1 (by omega))
  · exact fin_push hR h101 hq e97 (Or.inl rfl) hM (sok_v (okv_2 (Or.inl rfl))) (by rw [e98]; exact hT) (by rw [e98]; exact r1 (by omega))
theorem st_17 (hR : RI m W ly A Th SS HB EE n) (h101 : m 101 0 < 0) (hop : m 70 (m 98 0) = 17) : ∃ m', m_step g m = some m' ∧ Pst m W ly A EE n m' := by
  obtain ⟨L, hro, hL, p0, p1, pS⟩ := ru_of hR
  obtain ⟨mm, _, hq, e98, e97, e70, e71, e72, e73, hst⟩ := step_in (g := g) hR
  have h89 := q89 hR hq
  have hM := ms_of hR
  rw [hst, hop]
  rw [hop] at hro
  simp only [Ro, if_true, Int.reduceEq, if_false] at hro
  simp only [Int.reduceEq, Int.reduceLT, if_false, if_true, m_step_119, m_step_211, m_step_185, m_step_248, m_step_278, nb_id]
  simp only [m_otherStep, m_otherStep_363, m_otherStep_247, m_otherStep_282, m_otherStep_287, m_otherStep_358, e70, e71, e72, hop, Int.reduceEq, if_false, if_true, ck_ok p0 p1, nb_id]
  subst hro
  have hT := hL _ m1_mem
  have h1 : ∃ m', m_push 1 mm = some m' ∧ Pst m W ly A EE n m' := fin_push hR h101 hq e97 (Or.inl rfl) hM (sok_v (okv_2 (Or.inr rfl))) (by rw [e98]; exact hT) (by rw [e98]; exact r1 (by omega))
  have h0 : ∃ m', m_push 0 mm = some m' ∧ Pst m W ly A EE n m' := fin_push hR h101 hq e97 (Or.inl rfl) hM (sok_v (okv_2 (Or.inl rfl))) (by rw [e98]; exact hT) (by rw [e98]; exact r1 (by omega))
  have hi := hq.2.2
  have hi2 := hR.2.2.2.2.2.2.2.2.2.2.1
  have hi3 := hq.1 81 (by decide) (by decide)
  simp only [m_truth, m_truth_9, Int.reduceEq, if_true, if_false, vb_ok rfl, nb_id]
  split
  · exact h1
  · rename_i hne
    rw [hi3] at hne
    rw [ck_ok (by omega) (by omega)]
    split
    · exact h1
    · exact h0
theorem st_20 (hR : RI m W ly A Th SS HB EE n) (h101 : m 101 0 < 0) (hop : m 70 (m 98 0) = 20) : ∃ m', m_step g m = some m' ∧ Pst m W ly A EE n m' := by
  obtain ⟨L, hro, hL, p0, p1, pS⟩ := ru_of hR
  obtain ⟨mm, _, hq, e98, e97, e70, e71, e72, e73, hst⟩ := step_in (g := g) hR
  have h89 := q89 hR hq
  have hM := ms_of hR
  rw [hst, hop]
  rw [hop] at hro
  simp only [Ro, if_true, Int.reduceEq, if_false] at hro
  simp only [Int.reduceEq, Int.reduceLT, if_false, if_true, m_step_119, m_step_211, m_step_185, m_step_248, m_step_278, nb_id]
  obtain ⟨e, hr, rfl⟩ := hro
  refine ⟨_, rfl, fin_pop hR h101 (hq.set (by decide)) (h := m 97 0) (S' := SS (n - 1)) (e' := e) ?_ hM ?_ ?_⟩
  · rw [mset_f (by decide)]
    exact e97
  · rw [mset_eq]
    exact hL _ m1_mem
  · rw [mset_eq]
    exact hr
theorem st_21 (hR : RI m W ly A Th SS HB EE n) (h101 : m 101 0 < 0) (hop : m 70 (m 98 0) = 21) : ∃ m', m_step g m = some m' ∧ Pst m W ly A EE n m' := by
  obtain ⟨L, hro, hL, p0, p1, pS⟩ := ru_of hR
  obtain ⟨mm, _, hq, e98, e97, e70, e71, e72, e73, hst⟩ := step_in (g := g) hR
  have h89 := q89 hR hq
  have hM := ms_of hR
  rw [hst, hop]
  rw [hop] at hro
  simp only [Ro, if_true, Int.reduceEq, if_false] at hro
  simp only [Int.reduceEq, Int.reduceLT, if_false, if_true, m_step_119, m_step_211, m_step_185, m_step_248, m_step_278, nb_id]
  obtain ⟨k, S', e, e', eS, hr, hr', rfl⟩ := hro
  rw [eS] at hM pS
  obtain ⟨m1, q1, q2, q3, q4, q5, q6⟩ := pop_q hR hq e97 ne_V hM pS
  rw [vb_ok q1]
  split
  · refine ⟨_, rfl, fin_pop (e' := e) hR h101 (q2.set (by decide)) (by rw [mset_f (by decide)]; exact q3) q6 ?_ ?_⟩
    · rw [mset_eq]
      exact hL _ m2_mem.1
    · rw [mset_eq]
      exact hr
  · refine ⟨_, rfl, fin_pop (e' := e') hR h101 (q2.set (by decide)) (by rw [mset_f (by decide)]; exact q3) q6 ?_ ?_⟩
    · rw [mset_eq, q4, e98]
      exact hL _ m2_mem.2
    · rw [mset_eq, q4, e98]
      exact hr'
theorem st_26 (hR : RI m W ly A Th SS HB EE n) (h101 : m 101 0 < 0) (hop : m 70 (m 98 0) = 26) : ∃ m', m_step g m = some m' ∧ Pst m W ly A EE n m' := by
  obtain ⟨L, hro, hL, p0, p1, pS⟩ := ru_of hR
  obtain ⟨mm, _, hq, e98, e97, e70, e71, e72, e73, hst⟩ := step_in (g := g) hR
  have h89 := q89 hR hq
  have hM := ms_of hR
  rw [hst, hop]
  rw [hop] at hro
  simp only [Ro, if_true, Int.reduceEq, if_false] at hro
  simp only [Int.reduceEq, Int.reduceLT, if_false, if_true, m_step_119, m_step_211, m_step_185, m_step_248, m_step_278, nb_id]
  obtain ⟨k, S', e, eS, hr, rfl⟩ := hro
  have hM2 := hM
  rw [eS] at hM pS
  obtain ⟨m1, q1, q2, q3, q4, q5, q6⟩ := pop_q hR hq e97 ne_V hM pS
  have hh := ms_h q6
  have hS := hs_nn S'
  have hb := (hR.2.1.2.2.2.1 (n - 1) (by have := hR.2.2.1; omega) (by omega)).2.2.2
  have hn2 := hR.2.2.2.1
  rw [hs_V] at pS
  rw [e97, i32_r (by omega) (by omega), ck_ok (by omega) (by omega)]
  split
  · rw [ck_ok p0 p1, e72]
    refine ⟨_, rfl, fin_pop (e' := e) hR h101 (hq.set (by decide)) (by rw [mset_f (by decide)]; exact e97) hM2 ?_ ?_⟩
    · rw [mset_eq]
      exact hL _ m2_mem.1
    · rw [mset_eq]
      exact hr
  · refine ⟨_, rfl, fin_pop (e' := EE (n - 1)) hR h101 (hq.set (by decide)) (by rw [mset_f (by decide)]; exact e97) hM2 ?_ ?_⟩
    · rw [mset_eq, e98]
      exact hL _ m2_mem.2
    · rw [mset_eq, e98]
      exact r1 (by omega)
theorem st_27 (hR : RI m W ly A Th SS HB EE n) (h101 : m 101 0 < 0) (hop : m 70 (m 98 0) = 27) : ∃ m', m_step g m = some m' ∧ Pst m W ly A EE n m' := by
  obtain ⟨L, hro, hL, p0, p1, pS⟩ := ru_of hR
  obtain ⟨mm, _, hq, e98, e97, e70, e71, e72, e73, hst⟩ := step_in (g := g) hR
  have h89 := q89 hR hq
  have hM := ms_of hR
  rw [hst, hop]
  rw [hop] at hro
  simp only [Ro, if_true, Int.reduceEq, if_false] at hro
  simp only [Int.reduceEq, Int.reduceLT, if_false, if_true, m_step_119, m_step_211, m_step_185, m_step_248, m_step_278, nb_id]
  obtain ⟨k, S', eS, rfl⟩ := hro
  rw [eS] at hM pS
  obtain ⟨m1, q1, q2, q3, q4, q5, q6⟩ := pop_q hR hq e97 ne_V hM pS
  have hh := ms_h q6
  have hS := hs_nn S'
  have hb := (hR.2.1.2.2.2.1 (n - 1) (by have := hR.2.2.1; omega) (by omega)).2.2.2
  have hn2 := hR.2.2.2.1
  rw [hs_V] at pS
  simp only [wlet]
  rw [e97, i32_r (by omega) (by omega)]
  refine ⟨_, rfl, fin_pop (e' := EE (n - 1)) hR h101 (hq.set (by decide)) mset_eq q6 ?_ ?_⟩
  · rw [mset_f (by decide), e98]
    exact hL _ m1_mem
  · rw [mset_f (by decide), e98]
    exact r1 (by omega)
theorem st_28 (hR : RI m W ly A Th SS HB EE n) (h101 : m 101 0 < 0) (hop : m 70 (m 98 0) = 28) : ∃ m', m_step g m = some m' ∧ Pst m W ly A EE n m' := by
  obtain ⟨L, hro, hL, p0, p1, pS⟩ := ru_of hR
  obtain ⟨mm, _, hq, e98, e97, e70, e71, e72, e73, hst⟩ := step_in (g := g) hR
  have h89 := q89 hR hq
  have hM := ms_of hR
  rw [hst, hop]
  rw [hop] at hro
  simp only [Ro, if_true, Int.reduceEq, if_false] at hro
  simp only [Int.reduceEq, Int.reduceLT, if_false, if_true, m_step_119, m_step_211, m_step_185, m_step_248, m_step_278, nb_id]
  simp only [m_otherStep, m_otherStep_363, m_otherStep_247, m_otherStep_282, m_otherStep_287, m_otherStep_358, e70, e71, e72, hop, Int.reduceEq, if_false, if_true, ck_ok p0 p1, nb_id]
  obtain ⟨v, hv⟩ := stop_ok (m := mm) (l := 4) h89.1 h89.2
  exact ⟨_, hv, fin_end hq (by decide)⟩
end Vv
