/-! the model's machine: frames and cells -/
section Vu
variable {m : MS} {W : EV} {ly : LY} {A : Int} {Th : Int → Sl} {SS : Int → Sh} {HB EE : Int → Int} {n : Int} {g : Nat}
theorem frame_7 (hR : RI m W ly A Th SS HB EE n) {mm : MS} (hq : Qt m mm) {l : Int} (hl : 1 ≤ l) : ∀ (d k : Nat) (j : Int), 0 ≤ j → j < n → W 0 (m 93 j) - l = d → d < k → ∃ f, 0 ≤ f ∧ f < n ∧ m_frameOf_7 g k l j mm = some (f, mm) ∧ m 93 f = anc W d (m 93 j) := by
  have hn := hR.2.2.2.1
  have h92 := hq.2.1.2.2.2.2.2.1
  have h93 := hq.2.1.2.2.2.2.2.2.1
  have h75 := hq.1 75 (by decide) (by decide)
  intro d
  induction d with
  | zero =>
    intro k j j1 j2 hd hk
    obtain ⟨k, rfl⟩ : ∃ k', k = k' + 1 := ⟨k - 1, by omega⟩
    have hb := hR.2.1.2.2.2.1 j j1 j2
    have ha := hR.1.1.2.1
    refine ⟨j, j1, j2, ?_, rfl⟩
    simp only [m_frameOf_7]
    rw [h93, h75, ck_ok j1 (by omega), ck_ok hb.1 (by omega), (hR.1.2.2 _ hb.1 hb.2.1).2.1, if_neg (by omega)]
  | succ d ih =>
    intro k j j1 j2 hd hk
    obtain ⟨k, rfl⟩ : ∃ k', k = k' + 1 := ⟨k - 1, by omega⟩
    have hb := hR.2.1.2.2.2.1 j j1 j2
    have ha := hR.1.1.2.1
    have hj : 1 ≤ j := by
      by_cases hj : j = 0
      · rw [hj, hR.2.1.2.1, hR.1.1.2.2.1] at hd
        omega
      · omega
    obtain ⟨c1, c2, c3, c4⟩ := hb.2.2.2.2.2.2 hj
    have hp := (hR.1.1.2.2.2 _ hb.1 hb.2.1).2.2.2.2.2.2.2.2.2 c1
    obtain ⟨f, f1, f2, f3, f4⟩ := ih k (m 92 j) c2 (by omega) (by rw [c4, hp.2.2.2.2]; omega) (by omega)
    refine ⟨f, f1, f2, ?_, ?_⟩
    · simp only [m_frameOf_7]
      rw [h93, h75, ck_ok j1 (by omega), ck_ok hb.1 (by omega), (hR.1.2.2 _ hb.1 hb.2.1).2.1, if_pos (by omega), ck_ok j1 (by omega), h92]
      exact f3
    · rw [f4, c4]
      rfl
theorem lv_rng (hR : RI m W ly A Th SS HB EE n) {a : Int} (h1 : 0 ≤ a) (h2 : a ≤ A) : 1 ≤ W 0 a ∧ W 0 a ≤ 7 := by
  by_cases ha : a = 0
  · rw [ha, hR.1.1.2.2.1]
    decide
  · have := (hR.1.1.2.2.2 a h1 h2).2.2.2.2.2.2.2.2.2 (by omega)
    omega
theorem frame_ok (hR : RI m W ly A Th SS HB EE n) {mm : MS} (hq : Qt m mm) (hg : 10 ≤ g) {l : Int} (hl : 1 ≤ l) (hl2 : l ≤ W 0 (m 93 (n - 1))) : ∃ f, 0 ≤ f ∧ f < n ∧ m_frameOf g l mm = some (f, mm) ∧ m 93 f = ancl W (m 93 (n - 1)) l := by
  have hn := hR.2.2.1
  have hn2 := hR.2.2.2.1
  have hb := hR.2.1.2.2.2.1 (n - 1) (by omega) (by omega)
  have hlv := lv_rng hR hb.1 hb.2.1
  have h89 : mm 89 0 = n := by rw [hq.2.1.2.2.2.1]; exact hR.2.2.2.2.1
  obtain ⟨f, f1, f2, f3, f4⟩ := frame_7 hR hq hl (g := g) (W 0 (m 93 (n - 1)) - l).toNat g (n - 1) (by omega) (by omega) (by omega) (by omega)
  refine ⟨f, f1, f2, ?_, f4⟩
  unfold m_frameOf
  rw [h89, i32_r (by omega) (by omega)]
  exact f3
theorem base_le (hR : RI m W ly A Th SS HB EE n) {f : Int} (f1 : 0 ≤ f) (f2 : f < n) : m 91 f + W 2 (m 93 f) ≤ m 87 0 := by
  have key : ∀ k : Nat, f + k ≤ n - 1 → m 91 f + W 2 (m 93 f) ≤ m 91 (f + k) + W 2 (m 93 (f + k)) := by
    intro k
    induction k with
    | zero => intro _; rw [Int.ofNat_zero, Int.add_zero]; exact Int.le_refl _
    | succ k ih =>
      intro hk
      have q := ih (by omega)
      have q1 := (hR.2.1.2.2.2.2 (f + k) (by omega) (by omega)).1
      have hb := hR.2.1.2.2.2.1 (f + k + 1) (by omega) (by omega)
      have q2 := (hR.1.1.2.2.2 _ hb.1 hb.2.1).1
      have e1 : f + ((k + 1 : Nat) : Int) = f + k + 1 := by omega
      rw [e1]
      omega
  have := key (n - 1 - f).toNat (by omega)
  have e1 : f + ((n - 1 - f).toNat : Int) = n - 1 := by omega
  rw [e1, ← hR.2.2.2.2.2.1] at this
  exact this
/-- a cell that is put -/
theorem fin_put {mm : MS} {S' : Sh} {h e' c k v : Int} (hR : RI m W ly A Th SS HB EE n) (h101 : m 101 0 < 0) (hq : Qt m mm) (h97 : mm 97 0 = h) (hM : Ms (m 96) Th (m 87 0) S' h (HB (n - 1))) (hT : TY (Nm (rcd m) W ly A (m 93 (n - 1))) (mm 98 0) S' e') (hr : rnk (m 98 0) (EE (n - 1)) (mm 98 0) e') (hc : aok Th (m 87 0) k 1 c) (hv : okv k v) : Pst m W ly A EE n (mset (mset mm 85 c v) 86 c 1) := by
  obtain ⟨h1, ⟨a1, a2, a3, a4, a5, a6, a7, a8, a9, a10, a11, a12⟩, h3⟩ := hq
  have hc1 := (hc 0 (by decide) (by decide)).2.2
  rw [Int.add_zero] at hc1
  have hR' := ri_top (m' := mset (mset mm 85 c v) 86 c 1) (S' := S') (e' := e') hR ((h1.set (by decide)).set (by decide)) (fun f hf => by rcases hf with rfl | rfl | rfl | rfl | rfl | rfl <;> (rw [msf (by decide), msf (by decide)]; assumption)) (by
      intro z z1 z2
      obtain ⟨k1, k2⟩ := hR.2.2.2.2.2.2.2.1 z z1 z2
      rw [msf (by decide : (85 : Nat) ≠ 86)]
      by_cases hz : z = c
      · subst hz
        rw [mset_eq, mset_eq]
        refine ⟨fun k' hk' _ => ?_, fun k' hk' => ?_⟩
        · rw [hc1] at hk'
          cases hk'
          exact hv
        · rw [hc1] at hk'
          cases hk'
      · rw [mset_i hz, mset_i hz, mset_i hz, a1, a2]
        exact ⟨k1, k2⟩) (fun i _ => by rw [msf (by decide), msf (by decide), a9]) (by rw [msf (by decide), msf (by decide), msf (by decide), msf (by decide), a9, h97]; exact hM) (by rw [msf (by decide), msf (by decide)]; exact hT) (by rw [msf (by decide), msf (by decide), msf (by decide), msf (by decide)]; exact h3) (by rw [msf (by decide), msf (by decide), msf (by decide), msf (by decide), a10, a11]; exact ⟨hR.2.2.2.2.2.2.2.2.2.2.2.1, hR.2.2.2.2.2.2.2.2.2.2.2.2.1, rfl⟩)
  refine Or.inr ⟨by rw [msf (by decide), msf (by decide), a12]; exact h101, _, _, _, _, _, hR', mu_top hR hR' (by rw [msf (by decide), msf (by decide)]; exact a8) (by rw [msf (by decide), msf (by decide), a10]) (Or.inl ⟨by rw [msf (by decide), msf (by decide), a11], by rw [msf (by decide), msf (by decide)]; exact hr⟩)⟩
/-- a cell that is made undefined -/
theorem fin_unput {mm : MS} {S' : Sh} {h e' c k : Int} (hR : RI m W ly A Th SS HB EE n) (h101 : m 101 0 < 0) (hq : Qt m mm) (hM : Ms (m 96) Th (m 87 0) S' h (HB (n - 1))) (hT : TY (Nm (rcd m) W ly A (m 93 (n - 1))) (mm 98 0) S' e') (hr : rnk (m 98 0) (EE (n - 1)) (mm 98 0) e') (hc : aok Th (m 87 0) k 1 c) : Pst m W ly A EE n (mset (mset mm 86 c 0) 97 0 h) := by
  obtain ⟨h1, ⟨a1, a2, a3, a4, a5, a6, a7, a8, a9, a10, a11, a12⟩, h3⟩ := hq
  have hR' := ri_top (m' := mset (mset mm 86 c 0) 97 0 h) (S' := S') (e' := e') hR ((h1.set (by decide)).set (by decide)) (fun f hf => by rcases hf with rfl | rfl | rfl | rfl | rfl | rfl <;> (rw [msf (by decide), msf (by decide)]; assumption)) (by
      intro z z1 z2
      obtain ⟨k1, k2⟩ := hR.2.2.2.2.2.2.2.1 z z1 z2
      rw [msf (by decide : (85 : Nat) ≠ 97), msf (by decide : (85 : Nat) ≠ 86), msf (by decide : (86 : Nat) ≠ 97), a1]
      refine ⟨fun k' hk' hm => ?_, k2⟩
      by_cases hz : z = c
      · rw [hz, mset_eq] at hm
        exact absurd rfl hm
      · rw [mset_i hz, a2] at hm
        exact k1 k' hk' hm) (fun i _ => by rw [msf (by decide), msf (by decide), a9]) (by rw [msf (by decide : (96 : Nat) ≠ 97), msf (by decide), mset_eq, a9]; exact hM) (by rw [msf (by decide), msf (by decide)]; exact hT) (by rw [msf (by decide), msf (by decide), msf (by decide), msf (by decide)]; exact h3) (by rw [msf (by decide), msf (by decide), msf (by decide), msf (by decide), a10, a11]; exact ⟨hR.2.2.2.2.2.2.2.2.2.2.2.1, hR.2.2.2.2.2.2.2.2.2.2.2.2.1, rfl⟩)
  refine Or.inr ⟨by rw [msf (by decide), msf (by decide), a12]; exact h101, _, _, _, _, _, hR', mu_top hR hR' (by rw [msf (by decide), msf (by decide)]; exact a8) (by rw [msf (by decide), msf (by decide), a10]) (Or.inl ⟨by rw [msf (by decide), msf (by decide), a11], by rw [msf (by decide), msf (by decide)]; exact hr⟩)⟩
theorem put_ok {mm : MS} {c v p : Int} (hR : RI m W ly A Th SS HB EE n) (hq : Qt m mm) (p0 : 0 ≤ p) (p1 : p < 6000) (c0 : 0 ≤ c) (c1 : c < 3000) : (∃ x, m_putThere c v p mm = some (mset (mset mm 101 0 3) 102 0 x)) ∨ m_putThere c v p mm = some (mset (mset mm 85 c v) 86 c 1) := by
  have h89 := q89 hR hq
  have hz : m_putThere_38 c v 0 mm = some (mset (mset mm 85 c v) 86 c 1) := by
    dsimp only [m_putThere_38, m_putThere_59, wlet]
    rw [vb_ok wrong_0, if_pos rfl, ck_ok c0 c1, ck_ok c0 c1]
  dsimp only [m_putThere, m_putThere_37]
  rw [ck_ok p0 p1, ck_ok p0 p1, ck_ok p0 p1]
  split
  · rcases out_ok (m := mm) (v := v) (l := mm 72 p) (h := mm 73 p) with ⟨_, _, k⟩ | k
    · rw [vb_ok k, if_pos rfl]
      exact Or.inr hz
    · rw [vb_ok k, if_neg (by decide)]
      obtain ⟨x, hx⟩ := wrong_1 (m := mm) (x := 1) (l := 3) (by decide) h89.1 h89.2
      refine Or.inl ⟨x, ?_⟩
      dsimp only [m_putThere_38, m_putThere_59]
      rw [vb_ok hx, if_neg (by decide)]
  · exact Or.inr hz
theorem aok_le {U U' k c v : Int} (h : aok Th U k c v) (hU : U ≤ U') : aok Th U' k c v := fun y y1 y2 => ⟨(h y y1 y2).1, Int.lt_of_lt_of_le (h y y1 y2).2.1 hU, (h y y1 y2).2.2⟩
theorem aok_1 {U k c v : Int} (h : aok Th U k c v) (hc : 1 ≤ c) : 0 ≤ v ∧ v < U ∧ Th v = sV k ∧ aok Th U k 1 v := by
  have h1 := h 0 (by decide) (by omega)
  rw [Int.add_zero] at h1
  exact ⟨h1.1, h1.2.1, h1.2.2, fun y y1 y2 => h y y1 (by omega)⟩
theorem sokv {k h U : Int} {st : Int → Int} (hk : sok st Th U (sV k) h) : okv k (st (h - 1)) := by
  unfold sok at hk
  rw [if_pos rfl] at hk
  exact hk
theorem soka {k c h U : Int} {st : Int → Int} (hk : sok st Th U (sA k c) h) : aok Th U k c (st (h - 1)) := by
  unfold sok at hk
  rw [if_neg (show ¬ ((1 : Int) = 0) by decide), if_pos rfl] at hk
  exact hk
theorem ne_V {k : Int} : (sV k).1 ≠ 2 := show (0 : Int) ≠ 2 by decide
theorem ne_A {k c : Int} : (sA k c).1 ≠ 2 := show (1 : Int) ≠ 2 by decide
theorem hs_V {k : Int} {S : Sh} : hs (sV k :: S) = 1 + hs S := rfl
theorem hs_A {k c : Int} {S : Sh} : hs (sA k c :: S) = 1 + hs S := rfl
theorem hs_F {k c : Int} {S : Sh} : hs (sF k c :: S) = 3 + hs S := rfl
/-- 3: where a variable lies -/
theorem st_3 (hg : 10000 ≤ g) (hR : RI m W ly A Th SS HB EE n) (h101 : m 101 0 < 0) (hop : m 70 (m 98 0) = 3) : ∃ m', m_step g m = some m' ∧ Pst m W ly A EE n m' := by
  obtain ⟨L, hro, hL, p0, p1, pS⟩ := ru_of hR
  obtain ⟨mm, _, hq, e98, e97, e70, e71, e72, e73, hst⟩ := step_in (g := g) hR
  rw [hst, hop, if_neg (by decide), if_neg (by decide), if_neg (by decide), if_neg (by decide), if_neg (by decide)]
  rw [hop] at hro
  simp only [Ro, if_true, Int.reduceEq, if_false] at hro
  obtain ⟨k, c, c1, c2, c3, c4, c5, c6, rfl⟩ := hro
  obtain ⟨f, f1, f2, f3, f4⟩ := frame_ok hR hq (by omega : 10 ≤ g) c1 c2
  have hn2 := hR.2.2.2.1
  have hb := base_le hR f1 f2
  have hf := hR.2.1.2.2.2.1 f f1 f2
  have hu := hR.2.2.2.2.2.2.1
  rw [← f4] at c5 c6
  dsimp only [m_cellStep, m_cellStep_229]
  rw [ck_ok p0 p1, ck_ok p0 p1, ck_ok p0 p1, e70, hop, if_pos rfl, e71, e72, vb_ok f3, ck_ok f1 (by omega), nb_id, hq.2.1.2.2.2.2.1, i32_r (by omega) (by omega)]
  refine fin_push hR h101 hq e97 (Or.inr rfl) (ms_of hR) (sok_a (k := k) (c := c) (fun y y1 y2 => ⟨by omega, by omega, ?_⟩)) (by rw [e98]; exact hL _ m1_mem) (by rw [e98]; exact r1 (by omega))
  rw [Int.add_assoc, hf.2.2.2.2.2.1 _ (by omega) (by omega)]
  exact c6 y y1 y2
/-- 4: where a parameter's variable lies -/
theorem st_4 (hg : 10000 ≤ g) (hR : RI m W ly A Th SS HB EE n) (h101 : m 101 0 < 0) (hop : m 70 (m 98 0) = 4) : ∃ m', m_step g m = some m' ∧ Pst m W ly A EE n m' := by
  obtain ⟨L, hro, hL, p0, p1, pS⟩ := ru_of hR
  obtain ⟨mm, _, hq, e98, e97, e70, e71, e72, e73, hst⟩ := step_in (g := g) hR
  rw [hst, hop, if_neg (by decide), if_neg (by decide), if_neg (by decide), if_neg (by decide), if_neg (by decide)]
  rw [hop] at hro
  simp only [Ro, if_true, Int.reduceEq, if_false] at hro
  obtain ⟨k, c1, c2, c3, c4, c5, rfl⟩ := hro
  obtain ⟨f, f1, f2, f3, f4⟩ := frame_ok hR hq (by omega : 10 ≤ g) c1 c2
  have hn2 := hR.2.2.2.1
  have hb := base_le hR f1 f2
  have hf := hR.2.1.2.2.2.1 f f1 f2
  have hu := hR.2.2.2.2.2.2.1
  rw [← f4] at c4 c5
  have hcl := (hR.2.2.2.2.2.2.2.1 (m 91 f + m 72 (m 98 0)) (by omega) (by omega)).2 k (by rw [hf.2.2.2.2.2.1 _ c3 c4]; exact c5)
  dsimp only [m_cellStep, m_cellStep_229]
  rw [ck_ok p0 p1, ck_ok p0 p1, ck_ok p0 p1, e70, hop, if_neg (by decide), if_pos rfl, e71, e72, vb_ok f3, ck_ok f1 (by omega), nb_id, hq.2.1.2.2.2.2.1, i32_r (by omega) (by omega), ck_ok (by omega) (by omega), hq.2.1.1]
  exact fin_push hR h101 hq e97 (Or.inr rfl) (ms_of hR) (sok_a (aok_le hcl (by omega))) (by rw [e98]; exact hL _ m1_mem) (by rw [e98]; exact r1 (by omega))
/-- 5: an element -/
theorem st_5 (hR : RI m W ly A Th SS HB EE n) (h101 : m 101 0 < 0) (hop : m 70 (m 98 0) = 5) : ∃ m', m_step g m = some m' ∧ Pst m W ly A EE n m' := by
  obtain ⟨L, hro, hL, p0, p1, pS⟩ := ru_of hR
  obtain ⟨mm, _, hq, e98, e97, e70, e71, e72, e73, hst⟩ := step_in (g := g) hR
  rw [hst, hop, if_neg (by decide), if_neg (by decide), if_neg (by decide), if_neg (by decide), if_neg (by decide)]
  rw [hop] at hro
  simp only [Ro, if_true, Int.reduceEq, if_false] at hro
  obtain ⟨k, k', c, S', eS, c1, rfl⟩ := hro
  have hM := ms_of hR
  have hx := hR.1.2.1 _ p0 p1
  have hu := hR.2.2.2.2.2.2.1
  rw [eS] at hM pS
  have hS := hs_nn S'
  obtain ⟨m1, q1, q2, q3, q4, q5, q6⟩ := pop_q hR hq e97 ne_V hM pS
  rw [hs_V] at pS
  obtain ⟨m2, t1, t2, t3, t4, t5, t6⟩ := pop_q hR q2 q3 ne_A q6 (by omega)
  have h89 := q89 hR q2
  dsimp only [m_cellStep, m_cellStep_229]
  rw [ck_ok p0 p1, ck_ok p0 p1, ck_ok p0 p1, e70, hop, if_neg (by decide), if_neg (by decide), if_pos rfl, e71, e72, vb_ok q1]
  rcases out_ok (m := m1) (v := m 96 (m 97 0 - 1)) (l := m 71 (m 98 0)) (h := m 72 (m 98 0)) with ⟨o1, o2, o3⟩ | o3
  · have ht5 := soka t5
    have w1 := ht5 (m 96 (m 97 0 - 1) - m 71 (m 98 0)) (by omega) (by omega)
    have w2 := ht5 0 (by decide) (by omega)
    unfold InI at hx
    rw [vb_ok o3, vb_ok wrong_0, if_pos rfl, vb_ok t1, nb_id, i64_r (x := m 96 (m 97 0 - 1 - 1) + m 96 (m 97 0 - 1)) (by omega) (by omega), i64_r (by omega) (by omega)]
    refine fin_push hR h101 t2 t3 (Or.inr rfl) t6 (sok_a (k := k) (c := 1) (fun y y1 y2 => ?_)) (by rw [t4, q4, e98]; exact hL _ m1_mem) (by rw [t4, q4, e98]; exact r1 (by omega))
    have e1 : m 96 (m 97 0 - 1 - 1) + m 96 (m 97 0 - 1) - m 71 (m 98 0) + y = m 96 (m 97 0 - 1 - 1) + (m 96 (m 97 0 - 1) - m 71 (m 98 0)) := by omega
    rw [e1]
    exact w1
  · obtain ⟨x, hx⟩ := wrong_1 (m := m1) (x := 1) (l := 3) (by decide) h89.1 h89.2
    rw [vb_ok o3, vb_ok hx, if_neg (by decide)]
    exact ⟨_, rfl, fin_end q2 (by decide)⟩
/-- 6: what lies there -/
theorem st_6 (hR : RI m W ly A Th SS HB EE n) (h101 : m 101 0 < 0) (hop : m 70 (m 98 0) = 6) : ∃ m', m_step g m = some m' ∧ Pst m W ly A EE n m' := by
  obtain ⟨L, hro, hL, p0, p1, pS⟩ := ru_of hR
  obtain ⟨mm, _, hq, e98, e97, e70, e71, e72, e73, hst⟩ := step_in (g := g) hR
  rw [hst, hop, if_neg (by decide), if_neg (by decide), if_neg (by decide), if_neg (by decide), if_neg (by decide)]
  rw [hop] at hro
  simp only [Ro, if_true, Int.reduceEq, if_false] at hro
  obtain ⟨k, c, S', eS, c1, rfl⟩ := hro
  have hM := ms_of hR
  have hu := hR.2.2.2.2.2.2.1
  rw [eS] at hM pS
  obtain ⟨m1, q1, q2, q3, q4, q5, q6⟩ := pop_q hR hq e97 ne_A hM pS
  have h89 := q89 hR q2
  obtain ⟨w1, w2, w3, w4⟩ := aok_1 (soka q5) c1
  dsimp only [m_cellStep, m_cellStep_229, m_cellStep_161]
  rw [ck_ok p0 p1, ck_ok p0 p1, ck_ok p0 p1, e70, hop, if_neg (by decide), if_neg (by decide), if_neg (by decide), if_pos rfl, vb_ok q1, i32_r (by omega) (by omega), ck_ok w1 (by omega)]
  split
  · obtain ⟨x, hx⟩ := wrong_1 (m := m1) (x := 1) (l := 1) (by decide) h89.1 h89.2
    rw [vb_ok hx, if_neg (by decide)]
    exact ⟨_, rfl, fin_end q2 (by decide)⟩
  · rename_i hne
    rw [vb_ok wrong_0, if_pos rfl, ck_ok w1 (by omega), nb_id, q2.2.1.1]
    rw [q2.2.1.2.1] at hne
    exact fin_push hR h101 q2 q3 (Or.inl rfl) q6 (sok_v ((hR.2.2.2.2.2.2.2.1 _ w1 w2).1 k w3 hne)) (by rw [q4, e98]; exact hL _ m1_mem) (by rw [q4, e98]; exact r1 (by omega))
/-- 7: something is put there -/
theorem st_7 (hR : RI m W ly A Th SS HB EE n) (h101 : m 101 0 < 0) (hop : m 70 (m 98 0) = 7) : ∃ m', m_step g m = some m' ∧ Pst m W ly A EE n m' := by
  obtain ⟨L, hro, hL, p0, p1, pS⟩ := ru_of hR
  obtain ⟨mm, _, hq, e98, e97, e70, e71, e72, e73, hst⟩ := step_in (g := g) hR
  rw [hst, hop, if_neg (by decide), if_neg (by decide), if_neg (by decide), if_neg (by decide), if_neg (by decide)]
  rw [hop] at hro
  simp only [Ro, if_true, Int.reduceEq, if_false] at hro
  obtain ⟨k, c, S', eS, c1, rfl⟩ := hro
  have hM := ms_of hR
  have hu := hR.2.2.2.2.2.2.1
  rw [eS] at hM pS
  obtain ⟨m1, q1, q2, q3, q4, q5, q6⟩ := pop_q hR hq e97 ne_V hM pS
  rw [hs_V] at pS
  obtain ⟨m2, t1, t2, t3, t4, t5, t6⟩ := pop_q hR q2 q3 ne_A q6 (by omega)
  obtain ⟨w1, w2, w3, w4⟩ := aok_1 (soka t5) c1
  dsimp only [m_cellStep, m_cellStep_229]
  rw [ck_ok p0 p1, ck_ok p0 p1, ck_ok p0 p1, e70, hop, if_neg (by decide), if_neg (by decide), if_neg (by decide), if_neg (by decide), if_pos rfl, vb_ok q1, vb_ok t1, nb_id, i32_r (by omega) (by omega)]
  rcases put_ok (v := m 96 (m 97 0 - 1)) (c := m 96 (m 97 0 - 1 - 1)) hR t2 p0 p1 w1 (by omega) with ⟨x, hx⟩ | hx
  · exact ⟨_, hx, fin_end t2 (by decide)⟩
  · exact ⟨_, hx, fin_put hR h101 t2 t3 t6 (by rw [t4, q4, e98]; exact hL _ m1_mem) (by rw [t4, q4, e98]; exact r1 (by omega)) w4 (sokv q5)⟩
/-- 8: is it in the range -/
theorem st_8 (hR : RI m W ly A Th SS HB EE n) (h101 : m 101 0 < 0) (hop : m 70 (m 98 0) = 8) : ∃ m', m_step g m = some m' ∧ Pst m W ly A EE n m' := by
  obtain ⟨L, hro, hL, p0, p1, pS⟩ := ru_of hR
  obtain ⟨mm, _, hq, e98, e97, e70, e71, e72, e73, hst⟩ := step_in (g := g) hR
  rw [hst, hop, if_neg (by decide), if_neg (by decide), if_neg (by decide), if_neg (by decide), if_neg (by decide)]
  rw [hop] at hro
  simp only [Ro, if_true, Int.reduceEq, if_false] at hro
  obtain ⟨k, S', eS, rfl⟩ := hro
  have hM := ms_of hR
  have hM2 := hM
  rw [eS] at hM pS
  obtain ⟨m1, q1, q2, q3, q4, q5, q6⟩ := pop_q hR hq e97 ne_V hM pS
  have hh := ms_h q6
  have hS := hs_nn S'
  have hb := (hR.2.1.2.2.2.1 (n - 1) (by have := hR.2.2.1; omega) (by omega)).2.2.2
  have hn2 := hR.2.2.2.1
  have h89 := q89 hR hq
  rw [hs_V] at pS
  dsimp only [m_cellStep, m_cellStep_229, m_cellStep_203]
  rw [ck_ok p0 p1, ck_ok p0 p1, ck_ok p0 p1, e70, hop, if_neg (by decide), if_neg (by decide), if_neg (by decide), if_neg (by decide), if_neg (by decide), e71, e72, e97, i32_r (by omega) (by omega), ck_ok (by omega) (by omega)]
  rcases out_ok (m := mm) (v := mm 96 (m 97 0 - 1)) (l := m 71 (m 98 0)) (h := m 72 (m 98 0)) with ⟨o1, o2, o3⟩ | o3
  · rw [vb_ok o3, vb_ok wrong_0]
    exact ⟨_, rfl, fin_pop hR h101 hq e97 hM2 (by rw [e98]; exact hL _ m1_mem) (by rw [e98]; exact r1 (by omega))⟩
  · obtain ⟨x, hx⟩ := wrong_1 (m := mm) (x := 1) (l := 3) (by decide) h89.1 h89.2
    rw [vb_ok o3, vb_ok hx]
    exact ⟨_, rfl, fin_end hq (by decide)⟩
end Vu
