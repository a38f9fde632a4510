/-! the model's machine: for -/
section Vw
variable {m : MS} {W : EV} {ly : LY} {A : Int} {Th : Int → Sl} {SS : Int → Sh} {HB EE : Int → Int} {n : Int} {g : Nat}
theorem st_22 (hR : RI m W ly A Th SS HB EE n) (h101 : m 101 0 < 0) (hop : m 70 (m 98 0) = 22) : ∃ m', m_step g m = some m' ∧ Pst m W ly A EE n m' := by
  obtain ⟨L, hro, hL, p0, p1, pS⟩ := ru_of hR
  obtain ⟨mm, _, hq, e98, e97, e70, e71, e72, e73, hst⟩ := step_in (g := g) hR
  have h89 := q89 hR hq
  have hM := ms_of hR
  rw [hst, hop]
  rw [hop] at hro
  simp only [Ro, if_true, Int.reduceEq, if_false] at hro
  simp only [Int.reduceEq, Int.reduceLT, if_false, if_true, m_step_119, m_step_211, m_step_185, m_step_248, m_step_278, nb_id]
  obtain ⟨k, S', e, k3, eS, hr, rfl⟩ := hro
  have hM2 := hM
  rw [eS] at hM pS
  have hh := ms_h hM
  have hS := hs_nn S'
  have hb := (hR.2.1.2.2.2.1 (n - 1) (by have := hR.2.2.1; omega) (by omega)).2.2.2
  have hn2 := hR.2.2.2.1
  have hu := hR.2.2.2.2.2.2.1
  have e96 := hq.2.1.2.2.2.2.2.2.2.2.1
  rw [hs_V, hs_V, hs_A] at pS hh
  simp only [m_forStep, m_forStep_201, m_forStep_113, m_forStep_109, m_forStep_100, m_forStep_169, m_forStep_183, wlet, e70, e71, e72, hop, Int.reduceEq, if_false, if_true, ck_ok p0 p1, nb_id]
  rw [e97, i32_r (x := m 97 0 - 1) (by omega) (by omega), i32_r (x := m 97 0 - 2) (by omega) (by omega), i32_r (x := m 97 0 - 3) (by omega) (by omega), ck_ok (by omega) (by omega), ck_ok (by omega) (by omega), ck_ok (by omega) (by omega)]
  rw [e96]
  rw [ms_v, ms_v, ms_a] at hM
  obtain ⟨v1, v2, v3, v4⟩ := hM
  have e2 : m 97 0 - 1 - 1 = m 97 0 - 2 := by omega
  have e3 : m 97 0 - 1 - 1 - 1 = m 97 0 - 3 := by omega
  rw [e3] at v3 v4
  rw [e2] at v2
  have hjmp : Pst m W ly A EE n (mset mm 98 0 (m 71 (m 98 0))) := by
    refine fin_pop (e' := e) hR h101 (hq.set (by decide)) (by rw [mset_f (by decide)]; exact e97) hM2 ?_ ?_
    · rw [mset_eq]
      exact hL _ m2_mem.1
    · rw [mset_eq]
      exact hr
  have hgo : (if m 72 (m 98 0) = 1 then m 96 (m 97 0 - 1) ≤ m 96 (m 97 0 - 2) else m 96 (m 97 0 - 2) ≤ m 96 (m 97 0 - 1)) → Pst m W ly A EE n (mset mm 98 0 (mm 98 0)) := fun hc => by
    refine fin_pop (h := m 97 0) (e' := EE (n - 1)) (S' := sF k (m 72 (m 98 0)) :: S') hR h101 (hq.set (by decide)) (by rw [mset_f (by decide)]; exact e97) ?_ ?_ ?_
    · rw [ms_f]
      exact ⟨⟨v1, v2, v3, hc⟩, v4⟩
    · rw [mset_eq, e98]
      exact hL _ m2_mem.2
    · rw [mset_eq, e98]
      exact r1 (by omega)
  split
  · rename_i h1
    split
    · exact ⟨_, rfl, hjmp⟩
    · refine ⟨_, rfl, hgo ?_⟩
      rw [if_pos h1]
      omega
  · rename_i h1
    split
    · exact ⟨_, rfl, hjmp⟩
    · refine ⟨_, rfl, hgo ?_⟩
      rw [if_neg h1]
      omega
theorem st_23 (hR : RI m W ly A Th SS HB EE n) (h101 : m 101 0 < 0) (hop : m 70 (m 98 0) = 23) : ∃ m', m_step g m = some m' ∧ Pst m W ly A EE n m' := by
  obtain ⟨L, hro, hL, p0, p1, pS⟩ := ru_of hR
  obtain ⟨mm, _, hq, e98, e97, e70, e71, e72, e73, hst⟩ := step_in (g := g) hR
  have h89 := q89 hR hq
  have hM := ms_of hR
  rw [hst, hop]
  rw [hop] at hro
  simp only [Ro, if_true, Int.reduceEq, if_false] at hro
  simp only [Int.reduceEq, Int.reduceLT, if_false, if_true, m_step_119, m_step_211, m_step_185, m_step_248, m_step_278, nb_id]
  obtain ⟨k, q, S', eS, rfl⟩ := hro
  have hM2 := hM
  rw [eS] at hM pS
  have hh := ms_h hM
  have hS := hs_nn S'
  have hb := (hR.2.1.2.2.2.1 (n - 1) (by have := hR.2.2.1; omega) (by omega)).2.2.2
  have hn2 := hR.2.2.2.1
  have hu := hR.2.2.2.2.2.2.1
  have e96 := hq.2.1.2.2.2.2.2.2.2.2.1
  rw [hs_F] at pS hh
  simp only [m_forStep, m_forStep_201, m_forStep_113, m_forStep_109, m_forStep_100, m_forStep_169, m_forStep_183, wlet, e70, e71, e72, hop, Int.reduceEq, if_false, if_true, ck_ok p0 p1, nb_id]
  rw [e97, i32_r (x := m 97 0 - 1) (by omega) (by omega), i32_r (x := m 97 0 - 2) (by omega) (by omega), i32_r (x := m 97 0 - 3) (by omega) (by omega), ck_ok (by omega) (by omega), ck_ok (by omega) (by omega), ck_ok (by omega) (by omega)]
  rw [e96]
  rw [ms_f] at hM
  obtain ⟨⟨v1, v2, v3, v5⟩, v4⟩ := hM
  obtain ⟨w1, w2, w3, w4⟩ := aok_1 v3 (by decide)
  rw [i32_r (by omega) (by omega)]
  rcases put_ok (v := m 96 (m 97 0 - 2)) (c := m 96 (m 97 0 - 3)) hR hq p0 p1 w1 (by omega) with ⟨x, hx⟩ | hx
  · exact ⟨_, hx, fin_end hq (by decide)⟩
  · exact ⟨_, hx, fin_put hR h101 hq e97 hM2 (by rw [e98]; exact hL _ m1_mem) (by rw [e98]; exact r1 (by omega)) w4 v2⟩
theorem st_24 (hR : RI m W ly A Th SS HB EE n) (h101 : m 101 0 < 0) (hop : m 70 (m 98 0) = 24) : ∃ m', m_step g m = some m' ∧ Pst m W ly A EE n m' := by
  obtain ⟨L, hro, hL, p0, p1, pS⟩ := ru_of hR
  obtain ⟨mm, _, hq, e98, e97, e70, e71, e72, e73, hst⟩ := step_in (g := g) hR
  have h89 := q89 hR hq
  have hM := ms_of hR
  rw [hst, hop]
  rw [hop] at hro
  simp only [Ro, if_true, Int.reduceEq, if_false] at hro
  simp only [Int.reduceEq, Int.reduceLT, if_false, if_true, m_step_119, m_step_211, m_step_185, m_step_248, m_step_278, nb_id]
  obtain ⟨k, S', e, e', k3, eS, hr, hr', rfl⟩ := hro
  have hM2 := hM
  rw [eS] at hM pS
  have hh := ms_h hM
  have hS := hs_nn S'
  have hb := (hR.2.1.2.2.2.1 (n - 1) (by have := hR.2.2.1; omega) (by omega)).2.2.2
  have hn2 := hR.2.2.2.1
  have hu := hR.2.2.2.2.2.2.1
  have e96 := hq.2.1.2.2.2.2.2.2.2.2.1
  rw [hs_F] at pS hh
  simp only [m_forStep, m_forStep_201, m_forStep_113, m_forStep_109, m_forStep_100, m_forStep_169, m_forStep_183, wlet, e70, e71, e72, hop, Int.reduceEq, if_false, if_true, ck_ok p0 p1, nb_id]
  rw [e97, i32_r (x := m 97 0 - 1) (by omega) (by omega), i32_r (x := m 97 0 - 2) (by omega) (by omega), i32_r (x := m 97 0 - 3) (by omega) (by omega), ck_ok (by omega) (by omega), ck_ok (by omega) (by omega), ck_ok (by omega) (by omega)]
  rw [e96]
  rw [ms_f] at hM
  obtain ⟨⟨v1, v2, v3, v5⟩, v4⟩ := hM
  have i1 := v1.1 k3
  have i2 := v2.1 k3
  unfold InI at i1 i2
  have hset : ∀ v, okv k v → (if m 72 (m 98 0) = 1 then m 96 (m 97 0 - 1) ≤ v else v ≤ m 96 (m 97 0 - 1)) → Pst m W ly A EE n (mset (mset mm 96 (m 97 0 - 2) v) 98 0 (m 71 (m 98 0))) := fun v hv hc => by
    obtain ⟨h1, ⟨a1, a2, a3, a4, a5, a6, a7, a8, a9, a10, a11, a12⟩, h3⟩ := hq
    have hR' := ri_top (m' := mset (mset mm 96 (m 97 0 - 2) v) 98 0 (m 71 (m 98 0))) (S' := sF k (m 72 (m 98 0)) :: S') (e' := e) hR ((h1.set (by decide)).set (by decide)) (fun f hf => by rcases hf with rfl | rfl | rfl | rfl | rfl | rfl <;> (rw [msf (by decide), msf (by decide)]; assumption)) (by unfold CL; rw [msf (by decide), msf (by decide), msf (by decide), msf (by decide), a1, a2]; exact hR.2.2.2.2.2.2.2.1) (fun i hi => by rw [msf (by decide), mset_i (by omega), a9]) (by
      rw [msf (by decide : (97 : Nat) ≠ 98), msf (by decide : (97 : Nat) ≠ 96), msf (by decide : (96 : Nat) ≠ 98), e97, ms_f, mset_i (by omega), mset_eq, mset_i (by omega), a9]
      refine ⟨⟨v1, hv, v3, hc⟩, ms_c (Int.le_refl _) (fun _ _ => rfl) (fun i hi => by rw [mset_i (by omega), a9]) v4⟩) (by rw [mset_eq, ← eS]; exact hL _ m2_mem.1) (by rw [mset_f (by decide), mset_f (by decide), mset_f (by decide), mset_f (by decide)]; exact h3) (by rw [mset_f (by decide), mset_f (by decide), mset_f (by decide), mset_f (by decide), a10, a11]; exact ⟨hR.2.2.2.2.2.2.2.2.2.2.2.1, hR.2.2.2.2.2.2.2.2.2.2.2.2.1, rfl⟩)
    exact Or.inr ⟨by rw [mset_f (by decide), mset_f (by decide), a12]; exact h101, _, _, _, _, _, hR', mu_top hR hR' (by rw [msf (by decide), msf (by decide)]; exact a8) (by rw [mset_f (by decide), mset_f (by decide), a10]) (Or.inl ⟨by rw [mset_f (by decide), mset_f (by decide), a11], by rw [mset_eq]; exact hr⟩)⟩
  split
  · refine ⟨_, rfl, fin_pop (e' := e') (S' := sV k :: sV k :: sA k 1 :: S') hR h101 hq e97 ?_ (by rw [e98]; exact hL _ m2_mem.2) (by rw [e98]; exact hr')⟩
    rw [ms_v, ms_v, ms_a]
    have e2 : m 97 0 - 1 - 1 = m 97 0 - 2 := by omega
    have e3 : m 97 0 - 1 - 1 - 1 = m 97 0 - 3 := by omega
    rw [e3, e2]
    exact ⟨v1, v2, v3, v4⟩
  · rename_i hne
    split
    · rename_i h1
      rw [if_pos h1] at v5
      rw [i64_r (by omega) (by omega), ck_ok (by omega) (by omega), msf (by decide : (71 : Nat) ≠ 96), e71]
      refine ⟨_, rfl, hset _ ⟨fun _ => ⟨by omega, by omega⟩, fun h => ?_⟩ (by rw [if_pos h1]; omega)⟩
      have := v1.2 h
      have := v2.2 h
      omega
    · rename_i h1
      rw [if_neg h1] at v5
      rw [i64_r (by omega) (by omega), ck_ok (by omega) (by omega), msf (by decide : (71 : Nat) ≠ 96), e71]
      refine ⟨_, rfl, hset _ ⟨fun _ => ⟨by omega, by omega⟩, fun h => ?_⟩ (by rw [if_neg h1]; omega)⟩
      have := v1.2 h
      have := v2.2 h
      omega
theorem st_25 (hR : RI m W ly A Th SS HB EE n) (h101 : m 101 0 < 0) (hop : m 70 (m 98 0) = 25) : ∃ m', m_step g m = some m' ∧ Pst m W ly A EE n m' := by
  obtain ⟨L, hro, hL, p0, p1, pS⟩ := ru_of hR
  obtain ⟨mm, _, hq, e98, e97, e70, e71, e72, e73, hst⟩ := step_in (g := g) hR
  have h89 := q89 hR hq
  have hM := ms_of hR
  rw [hst, hop]
  rw [hop] at hro
  simp only [Ro, if_true, Int.reduceEq, if_false] at hro
  simp only [Int.reduceEq, Int.reduceLT, if_false, if_true, m_step_119, m_step_211, m_step_185, m_step_248, m_step_278, nb_id]
  obtain ⟨k, S', eS, rfl⟩ := hro
  rw [eS] at hM pS
  have hh := ms_h hM
  have hS := hs_nn S'
  have hb := (hR.2.1.2.2.2.1 (n - 1) (by have := hR.2.2.1; omega) (by omega)).2.2.2
  have hn2 := hR.2.2.2.1
  have hu := hR.2.2.2.2.2.2.1
  have e96 := hq.2.1.2.2.2.2.2.2.2.2.1
  rw [hs_V, hs_V, hs_A] at pS hh
  simp only [m_forStep, m_forStep_201, m_forStep_113, m_forStep_109, m_forStep_100, m_forStep_169, m_forStep_183, wlet, e70, e71, e72, hop, Int.reduceEq, if_false, if_true, ck_ok p0 p1, nb_id]
  rw [e97, i32_r (x := m 97 0 - 1) (by omega) (by omega), i32_r (x := m 97 0 - 2) (by omega) (by omega), i32_r (x := m 97 0 - 3) (by omega) (by omega), ck_ok (by omega) (by omega), ck_ok (by omega) (by omega), ck_ok (by omega) (by omega)]
  rw [e96]
  rw [ms_v, ms_v, ms_a] at hM
  obtain ⟨v1, v2, v3, v4⟩ := hM
  have e3 : m 97 0 - 1 - 1 - 1 = m 97 0 - 3 := by omega
  have e2 : m 97 0 - 1 - 1 = m 97 0 - 2 := by omega
  rw [e3] at v3 v4
  obtain ⟨w1, w2, w3, w4⟩ := aok_1 v3 (by decide)
  rw [i32_r (by omega) (by omega), ck_ok w1 (by omega), msf (by decide : (97 : Nat) ≠ 86), e97, i32_r (by omega) (by omega)]
  exact ⟨_, rfl, fin_unput (e' := EE (n - 1)) hR h101 hq v4 (by rw [e98]; exact hL _ m1_mem) (by rw [e98]; exact r1 (by omega)) w4⟩
end Vw
