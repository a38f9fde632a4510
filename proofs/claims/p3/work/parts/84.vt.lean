/-! the model's machine: its instructions, one by one -/
theorem nb_id (o : Option MS) : nb o (fun m => some m) = o := by cases o <;> rfl
section Vt
variable {m : MS} {W : EV} {ly : LY} {A : Int} {Th : Int → Sl} {SS : Int → Sh} {HB EE : Int → Int} {n : Int} {g : Nat}
theorem ru_of (hR : RI m W ly A Th SS HB EE n) : ∃ L, Ro W ly A (m 93 (n - 1)) (m 70 (m 98 0)) (m 71 (m 98 0)) (m 72 (m 98 0)) (m 98 0) (SS (n - 1)) (EE (n - 1)) L ∧ (∀ t, t ∈ L → TY (Nm (rcd m) W ly A (m 93 (n - 1))) t.1 t.2.1 t.2.2) ∧ 0 ≤ m 98 0 ∧ m 98 0 < 6000 ∧ hs (SS (n - 1)) ≤ 345 := by
  obtain ⟨L, h1, h2⟩ := ty_step nxo_m hR.2.2.2.2.2.2.2.2.2.1
  exact ⟨L, h1.2.2.2.2.2, h2, h1.1, h1.2.1, h1.2.2.1⟩
theorem step_in (hR : RI m W ly A Th SS HB EE n) : ∃ mm, mm = mset m 98 0 (m 98 0 + 1) ∧ Qt m mm ∧ mm 98 0 = m 98 0 + 1 ∧ mm 97 0 = m 97 0 ∧ mm 70 = m 70 ∧ mm 71 = m 71 ∧ mm 72 = m 72 ∧ mm 73 = m 73 ∧
    m_step g m = (if m 70 (m 98 0) = 0 then ck (i32 (mm 89 0 - 1)) 200 (some (mset mm 95 (i32 (mm 89 0 - 1)) (m 71 (m 98 0)))) else if m 70 (m 98 0) = 1 then if mm 100 0 = mm 99 0 then m_stop 7 mm else some (mset mm 100 0 (i32 (mm 100 0 + 1))) else if m 70 (m 98 0) = 2 then m_push (m 71 (m 98 0)) mm else if m 70 (m 98 0) < 3 then m_step_119 g (m 98 0) (m 70 (m 98 0)) (m 71 (m 98 0)) mm else if 8 < m 70 (m 98 0) then m_step_119 g (m 98 0) (m 70 (m 98 0)) (m 71 (m 98 0)) mm else m_cellStep g (m 98 0) mm) := by
  obtain ⟨L, _, _, p0, p1, pS⟩ := ru_of hR
  refine ⟨_, rfl, (qt_0 hR).set (by decide), mset_eq, mset_f (by decide), msf (by decide), msf (by decide), msf (by decide), msf (by decide), ?_⟩
  dsimp only [m_step, wlet, m_step_278]
  rw [i32_r (by omega) (by omega), ck_ok p0 p1, ck_ok p0 p1]
  simp only [nb_id, msf (show (70 : Nat) ≠ 98 by decide), msf (show (71 : Nat) ≠ 98 by decide)]
theorem ms_of (hR : RI m W ly A Th SS HB EE n) : Ms (m 96) Th (m 87 0) (SS (n - 1)) (m 97 0) (HB (n - 1)) := hR.2.2.2.2.2.2.2.2.1
theorem r1 {i d j : Int} (h : i < j) : rnk i d j d := Or.inr ⟨rfl, h⟩
theorem q89 {mm : MS} (hR : RI m W ly A Th SS HB EE n) (hq : Qt m mm) : 1 ≤ mm 89 0 ∧ mm 89 0 ≤ 200 := by
  rw [hq.2.1.2.2.2.1, hR.2.2.2.2.1]
  exact ⟨hR.2.2.1, hR.2.2.2.1⟩
theorem m1_mem {α : Type} {a : α} : a ∈ [a] := List.mem_singleton.mpr rfl
theorem m2_mem {α : Type} {a b : α} : a ∈ [a, b] ∧ b ∈ [a, b] := ⟨List.mem_cons_self .., List.mem_cons_of_mem _ m1_mem⟩
/-- 0: where it is -/
theorem st_0 (hR : RI m W ly A Th SS HB EE n) (h101 : m 101 0 < 0) (hop : m 70 (m 98 0) = 0) : ∃ m', m_step g m = some m' ∧ Pst m W ly A EE n m' := by
  obtain ⟨L, hro, hL, p0, p1, pS⟩ := ru_of hR
  obtain ⟨mm, _, hq, e98, e97, e70, e71, e72, e73, hst⟩ := step_in (g := g) hR
  have h89 := q89 hR hq
  rw [hst, hop, if_pos rfl, i32_r (by omega) (by omega), ck_ok (by omega) (by omega)]
  rw [hop] at hro
  simp only [Ro, if_true] at hro
  subst hro
  refine ⟨_, rfl, fin_pop hR h101 (hq.set (by decide)) (h := m 97 0) (S' := SS (n - 1)) (e' := EE (n - 1)) ?_ (ms_of hR) ?_ ?_⟩
  · rw [mset_f (by decide)]
    exact e97
  · rw [mset_f (by decide), e98]
    exact hL _ m1_mem
  · rw [mset_f (by decide), e98]
    exact r1 (by omega)
/-- 1: a step -/
theorem st_1 (hR : RI m W ly A Th SS HB EE n) (h101 : m 101 0 < 0) (hop : m 70 (m 98 0) = 1) : ∃ m', m_step g m = some m' ∧ Pst m W ly A EE n m' := by
  obtain ⟨L, hro, hL, p0, p1, pS⟩ := ru_of hR
  obtain ⟨mm, _, hq, e98, e97, e70, e71, e72, e73, hst⟩ := step_in (g := g) hR
  have h89 := q89 hR hq
  rw [hst, hop, if_neg (by decide), if_pos rfl]
  rw [hop] at hro
  simp only [Ro, if_true, show ¬ ((1 : Int) = 0) by decide, if_false] at hro
  obtain ⟨e, rfl⟩ := hro
  have hsc := hR.2.2.2.2.2.2.2.2.2.2.2
  obtain ⟨h1, ⟨a1, a2, a3, a4, a5, a6, a7, a8, a9, a10, a11, a12⟩, h3⟩ := hq
  split
  · obtain ⟨v, hv⟩ := stop_ok (m := mm) (l := 7) h89.1 h89.2
    exact ⟨_, hv, fin_end ⟨h1, ⟨a1, a2, a3, a4, a5, a6, a7, a8, a9, a10, a11, a12⟩, h3⟩ (by decide)⟩
  · rename_i hne
    rw [a10, a11] at hne
    rw [a11, i32_r (by omega) (by omega)]
    have hR' := ri_top (m' := mset mm 100 0 (m 100 0 + 1)) (S' := SS (n - 1)) (e' := e) hR (h1.set (by decide)) (fun f hf => by rcases hf with rfl | rfl | rfl | rfl | rfl | rfl <;> (rw [msf (by decide)]; assumption)) (by unfold CL; rw [msf (by decide), msf (by decide), a1, a2]; exact hR.2.2.2.2.2.2.2.1) (fun i hi => by rw [msf (by decide), a9]) (by
      rw [msf (by decide), msf (by decide), a9, e97]
      exact ms_of hR) (by rw [msf (by decide), e98]; exact hL _ m1_mem) (by rw [msf (by decide), msf (by decide)]; exact h3) (by rw [msf (by decide : (99 : Nat) ≠ 100), mset_eq, a10]; exact ⟨by omega, by omega, rfl⟩)
    exact ⟨_, rfl, Or.inr ⟨by rw [msf (by decide), a12]; exact h101, _, _, _, _, _, hR', mu_top hR hR' (by rw [msf (by decide)]; exact a8) (by rw [msf (by decide), a10]) (Or.inr mset_eq)⟩⟩
/-- 2: a number -/
theorem st_2 (hR : RI m W ly A Th SS HB EE n) (h101 : m 101 0 < 0) (hop : m 70 (m 98 0) = 2) : ∃ m', m_step g m = some m' ∧ Pst m W ly A EE n m' := by
  obtain ⟨L, hro, hL, p0, p1, pS⟩ := ru_of hR
  obtain ⟨mm, _, hq, e98, e97, e70, e71, e72, e73, hst⟩ := step_in (g := g) hR
  rw [hst, hop, if_neg (by decide), if_neg (by decide), if_pos rfl]
  rw [hop] at hro
  simp only [Ro, if_true, Int.reduceEq, if_false] at hro
  obtain ⟨k, hk, rfl⟩ := hro
  exact fin_push hR h101 hq e97 (Or.inl rfl) (ms_of hR) (sok_v hk) (by rw [e98]; exact hL _ m1_mem) (by rw [e98]; exact r1 (by omega))
end Vt
