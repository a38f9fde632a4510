/-! the model's machine: what is read and written -/
section Vx
variable {m : MS} {W : EV} {ly : LY} {A : Int} {Th : Int → Sl} {SS : Int → Sh} {HB EE : Int → Int} {n : Int} {g : Nat}
/-- either it goes on, stack and place as they were, or it has ended -/
def QE (m mm m' : MS) : Prop := (Qt m m' ∧ m' 97 = mm 97 ∧ m' 98 = mm 98) ∨ Dn m m'
theorem qe_pf {mm m' : MS} (h : QE m mm m') : PF m m' := h.elim (fun h => h.1.1) (fun h => h.2.1)
theorem byte_ok {mm m1 : MS} {c : Int} (hR : RI m W ly A Th SS HB EE n) (h101 : m 101 0 < 0) (h : QE m mm m1) : ∃ m', m_putByte c m1 = some m' ∧ QE m mm m' := by
  rcases h with ⟨hq, e1, e2⟩ | h
  · have h89 := q89 hR hq
    simp only [m_putByte, m_putByte_23, m_putByte_51, wlet]
    rw [if_pos (by rw [hq.2.1.2.2.2.2.2.2.2.2.2.2.2]; exact h101)]
    split
    · obtain ⟨v, hv⟩ := wrong_1 (m := m1) (x := 1) (l := 6) (by decide) h89.1 h89.2
      rw [vb_ok hv, if_neg (by decide)]
      refine ⟨_, rfl, Or.inr ⟨?_, (hq.1.set (by decide)).set (by decide), ?_⟩⟩
      · rw [mset_f (by decide), mset_eq]
        decide
      · rw [msf (by decide), msf (by decide)]
        exact hq.2.2.2.2
    · rename_i hne
      have h84 := hq.2.2.2.2
      rw [vb_ok wrong_0, if_pos rfl, ck_ok (by omega) (by omega), msf (by decide : (84 : Nat) ≠ 83), i32_r (by omega) (by omega)]
      refine ⟨_, rfl, Or.inl ⟨?_, by rw [msf (by decide), msf (by decide)]; exact e1, by rw [msf (by decide), msf (by decide)]; exact e2⟩⟩
      obtain ⟨h1, ⟨a1, a2, a3, a4, a5, a6, a7, a8, a9, a10, a11, a12⟩, h3⟩ := hq
      refine ⟨(h1.set (by decide)).set (by decide), ⟨by rw [msf (by decide), msf (by decide)]; exact a1, by rw [msf (by decide), msf (by decide)]; exact a2, by rw [msf (by decide), msf (by decide)]; exact a3, by rw [msf (by decide), msf (by decide)]; exact a4, by rw [msf (by decide), msf (by decide)]; exact a5, by rw [msf (by decide), msf (by decide)]; exact a6, by rw [msf (by decide), msf (by decide)]; exact a7, by rw [msf (by decide), msf (by decide)]; exact a8, by rw [msf (by decide), msf (by decide)]; exact a9, by rw [msf (by decide), msf (by decide)]; exact a10, by rw [msf (by decide), msf (by decide)]; exact a11, by rw [msf (by decide), msf (by decide)]; exact a12⟩, ?_⟩
      rw [msf (by decide : (82 : Nat) ≠ 84), msf (by decide : (82 : Nat) ≠ 83), mset_eq]
      omega
  · refine ⟨m1, ?_, Or.inr h⟩
    simp only [m_putByte, m_putByte_51]
    rw [if_neg (by have := h.1; omega)]
theorem qe_fin {mm m' : MS} {S' : Sh} {h e' : Int} (hR : RI m W ly A Th SS HB EE n) (h101 : m 101 0 < 0) (hq : QE m mm m') (h97 : mm 97 0 = h) (hM : Ms (m 96) Th (m 87 0) S' h (HB (n - 1))) (hT : TY (Nm (rcd m) W ly A (m 93 (n - 1))) (mm 98 0) S' e') (hr : rnk (m 98 0) (EE (n - 1)) (mm 98 0) e') : Pst m W ly A EE n m' := by
  rcases hq with ⟨hq, e1, e2⟩ | hq
  · exact fin_pop hR h101 hq (by rw [e1]; exact h97) hM (by rw [e2]; exact hT) (by rw [e2]; exact hr)
  · exact Or.inl hq
/-- the figures of a number -/
def PN (m mm : MS) (g : Nat) (r : Int) (c : Nat) (u : Int) : Prop := ∀ (f : Nat) (m1 : MS), c ≤ f → QE m mm m1 → ∃ m', m_putNumber_42 g f r u m1 = some m' ∧ QE m mm m'
theorem pn_0 {mm : MS} {r : Int} : PN m mm g r 1 0 := fun f m1 h1 h2 => by
  obtain ⟨f, rfl⟩ : ∃ f', f = f' + 1 := ⟨f - 1, by omega⟩
  simp only [m_putNumber_42]
  rw [if_neg (by decide)]
  exact ⟨_, rfl, h2⟩
theorem pn_s {mm : MS} {r : Int} {c : Nat} {u u' : Int} (hR : RI m W ly A Th SS HB EE n) (h101 : m 101 0 < 0) (hu : 0 < u) (hd : l_div u 10 = u') (ih : PN m mm g r c u') : PN m mm g r (c + 1) u := fun f m1 h1 h2 => by
  obtain ⟨f, rfl⟩ : ∃ f', f = f' + 1 := ⟨f - 1, by omega⟩
  simp only [m_putNumber_42]
  obtain ⟨m2, q1, q2⟩ := byte_ok (c := i32 (48 + (i32 (l_rem (l_div r u) 10)))) hR h101 h2
  rw [if_pos hu]
  unfold cz
  rw [if_neg (by omega), if_neg (by decide), nb_ok q1, if_neg (by decide), hd]
  exact ih f m2 (by omega) q2
theorem pn_all {mm : MS} {r : Int} (hR : RI m W ly A Th SS HB EE n) (h101 : m 101 0 < 0) : PN m mm g r 12 1 ∧ PN m mm g r 12 10 ∧ PN m mm g r 12 100 ∧ PN m mm g r 12 1000 ∧ PN m mm g r 12 10000 ∧ PN m mm g r 12 100000 ∧ PN m mm g r 12 1000000 ∧ PN m mm g r 12 10000000 ∧ PN m mm g r 12 100000000 ∧ PN m mm g r 12 1000000000 ∧ PN m mm g r 12 10000000000 := by
  have h1 : PN m mm g r 2 1 := pn_s hR h101 (by decide) (by decide) pn_0
  have h2 : PN m mm g r 3 10 := pn_s hR h101 (by decide) (by decide) h1
  have h3 : PN m mm g r 4 100 := pn_s hR h101 (by decide) (by decide) h2
  have h4 : PN m mm g r 5 1000 := pn_s hR h101 (by decide) (by decide) h3
  have h5 : PN m mm g r 6 10000 := pn_s hR h101 (by decide) (by decide) h4
  have h6 : PN m mm g r 7 100000 := pn_s hR h101 (by decide) (by decide) h5
  have h7 : PN m mm g r 8 1000000 := pn_s hR h101 (by decide) (by decide) h6
  have h8 : PN m mm g r 9 10000000 := pn_s hR h101 (by decide) (by decide) h7
  have h9 : PN m mm g r 10 100000000 := pn_s hR h101 (by decide) (by decide) h8
  have h10 : PN m mm g r 11 1000000000 := pn_s hR h101 (by decide) (by decide) h9
  have h11 : PN m mm g r 12 10000000000 := pn_s hR h101 (by decide) (by decide) h10
  have w : ∀ {c : Nat} {u : Int}, c ≤ 12 → PN m mm g r c u → PN m mm g r 12 u := fun hc h f m1 k1 k2 => h f m1 (by omega) k2
  exact ⟨w (by decide) h1, w (by decide) h2, w (by decide) h3, w (by decide) h4, w (by decide) h5, w (by decide) h6, w (by decide) h7, w (by decide) h8, w (by decide) h9, w (by decide) h10, h11⟩
def PN2 (m mm : MS) (g : Nat) (r : Int) (c : Nat) (u : Int) : Prop := ∀ (f : Nat) (m1 : MS), c ≤ f → QE m mm m1 → ∃ m', m_putNumber_20 g f r u m1 = some m' ∧ QE m mm m'
theorem pn2_s {mm : MS} {r : Int} {c : Nat} {u u' : Int} (hg : 10000 ≤ g) (hd : i64 (u * 10) = u') (h42 : PN m mm g r 12 u) (ih : u' ≤ r → PN2 m mm g r c u') : PN2 m mm g r (c + 1) u := fun f m1 h1 h2 => by
  obtain ⟨f, rfl⟩ : ∃ f', f = f' + 1 := ⟨f - 1, by omega⟩
  simp only [m_putNumber_20]
  rw [hd]
  split
  · exact h42 g m1 (by omega) h2
  · exact ih (by omega) f m1 (by omega) h2
theorem number_ok {mm m1 : MS} {v : Int} (hg : 10000 ≤ g) (hR : RI m W ly A Th SS HB EE n) (h101 : m 101 0 < 0) (hv : InI v) (h : QE m mm m1) : ∃ m', m_putNumber g v m1 = some m' ∧ QE m mm m' := by
  have key : ∀ (r : Int) (m2 : MS), r < 10000000000 → QE m mm m2 → ∃ m', m_putNumber_17 g r m2 = some m' ∧ QE m mm m' := fun r m2 hr h2 => by
    obtain ⟨k1, k2, k3, k4, k5, k6, k7, k8, k9, k10, k11⟩ := pn_all (g := g) (mm := mm) (r := r) hR h101
    have c10 : PN2 m mm g r 2 1000000000 := pn2_s (u' := 10000000000) hg (by decide) k10 (fun h => absurd h (by omega))
    have c9 : PN2 m mm g r 3 100000000 := pn2_s hg (by decide) k9 (fun _ => c10)
    have c8 : PN2 m mm g r 4 10000000 := pn2_s hg (by decide) k8 (fun _ => c9)
    have c7 : PN2 m mm g r 5 1000000 := pn2_s hg (by decide) k7 (fun _ => c8)
    have c6 : PN2 m mm g r 6 100000 := pn2_s hg (by decide) k6 (fun _ => c7)
    have c5 : PN2 m mm g r 7 10000 := pn2_s hg (by decide) k5 (fun _ => c6)
    have c4 : PN2 m mm g r 8 1000 := pn2_s hg (by decide) k4 (fun _ => c5)
    have c3 : PN2 m mm g r 9 100 := pn2_s hg (by decide) k3 (fun _ => c4)
    have c2 : PN2 m mm g r 10 10 := pn2_s hg (by decide) k2 (fun _ => c3)
    have c1 : PN2 m mm g r 11 1 := pn2_s hg (by decide) k1 (fun _ => c2)
    exact c1 g m2 (by omega) h2
  unfold InI at hv
  unfold m_putNumber
  split
  · obtain ⟨m2, q1, q2⟩ := byte_ok (c := 45) hR h101 h
    rw [nb_ok q1, i64_r (by omega) (by omega)]
    exact key _ _ (by omega) q2
  · exact key _ _ (by omega) h
theorem word_2 {mm : MS} {l : Int} (hR : RI m W ly A Th SS HB EE n) (h101 : m 101 0 < 0) (hl : 0 ≤ l) (hl2 : l + m 1 l < 71) (hl3 : l < 71) : ∀ (c f : Nat) (i : Int) (m1 : MS), (m 1 l + 1 - i).toNat ≤ c → c < f → 0 ≤ i → QE m mm m1 → ∃ m', m_putWord_2 g f l i m1 = some m' ∧ QE m mm m' := by
  intro c
  induction c with
  | zero =>
    intro f i m1 h1 h2 h3 h4
    obtain ⟨f, rfl⟩ : ∃ f', f = f' + 1 := ⟨f - 1, by omega⟩
    simp only [m_putWord_2]
    rw [ck_ok hl hl3, qe_pf h4 1 (by decide) (by decide), if_pos (by omega)]
    exact ⟨_, rfl, h4⟩
  | succ c ih =>
    intro f i m1 h1 h2 h3 h4
    obtain ⟨f, rfl⟩ : ∃ f', f = f' + 1 := ⟨f - 1, by omega⟩
    simp only [m_putWord_2]
    rw [ck_ok hl hl3, qe_pf h4 1 (by decide) (by decide)]
    split
    · exact ⟨_, rfl, h4⟩
    · rw [i32_r (x := l + i) (by omega) (by omega), ck_ok (by omega) (by omega)]
      obtain ⟨m2, q1, q2⟩ := byte_ok (c := i32 (96 + m 1 (l + i))) hR h101 h4
      rw [nb_ok q1, i32_r (by omega) (by omega)]
      exact ih f (i + 1) m2 (by omega) (by omega) (by omega) q2
def OutOK (m : MS) : Prop := m 1 0 = 7 ∧ m 1 8 = 4 ∧ m 1 13 = 7 ∧ m 1 21 = 5 ∧ m 1 27 = 4
theorem oa_s {m1 : MS} {G f : Nat} {l1 l2 l3 l2' l3' w : Int} (h1 : l3 < l1) (h2 : 0 ≤ l2) (h3 : l2 < 71) (h4 : m1 1 l2 = w) (h5 : i32 (i32 (l2 + w) + 1) = l2') (h6 : i32 (l3 + 1) = l3') : m_outsideAt_4 G (f + 1) l1 l2 l3 m1 = m_outsideAt_4 G f l1 l2' l3' m1 := by
  simp only [m_outsideAt_4]
  rw [if_pos h1, ck_ok h2 h3, h4, h5, h6]
theorem oa_e {m1 : MS} {G f : Nat} {l1 l2 l3 : Int} (h1 : ¬ l3 < l1) : m_outsideAt_4 G (f + 1) l1 l2 l3 m1 = some (l2, m1) := by
  simp only [m_outsideAt_4]
  rw [if_neg h1]
theorem outsideAt_ok {m1 : MS} (hg : 10000 ≤ g) (hO : OutOK m) (hf : m1 1 = m 1) : m_outsideAt g 3 m1 = some (21, m1) ∧ m_outsideAt g 4 m1 = some (27, m1) := by
  obtain ⟨f, hf5⟩ : ∃ f', g = f' + 5 := ⟨g - 5, by omega⟩
  obtain ⟨o1, o2, o3, o4, o5⟩ := hO
  rw [← hf] at o1 o2 o3 o4 o5
  have k3 : ∀ G : Nat, m_outsideAt_4 G (f + 5) 3 0 0 m1 = some (21, m1) := fun G => by
    rw [show f + 5 = f + 4 + 1 from rfl, oa_s (l2' := 8) (l3' := 1) (by decide) (by decide) (by decide) o1 (by decide) (by decide)]
    rw [show f + 4 = f + 3 + 1 from rfl, oa_s (l2' := 13) (l3' := 2) (by decide) (by decide) (by decide) o2 (by decide) (by decide)]
    rw [show f + 3 = f + 2 + 1 from rfl, oa_s (l2' := 21) (l3' := 3) (by decide) (by decide) (by decide) o3 (by decide) (by decide)]
    exact oa_e (by decide)
  have k4 : ∀ G : Nat, m_outsideAt_4 G (f + 5) 4 0 0 m1 = some (27, m1) := fun G => by
    rw [show f + 5 = f + 4 + 1 from rfl, oa_s (l2' := 8) (l3' := 1) (by decide) (by decide) (by decide) o1 (by decide) (by decide)]
    rw [show f + 4 = f + 3 + 1 from rfl, oa_s (l2' := 13) (l3' := 2) (by decide) (by decide) (by decide) o2 (by decide) (by decide)]
    rw [show f + 3 = f + 2 + 1 from rfl, oa_s (l2' := 21) (l3' := 3) (by decide) (by decide) (by decide) o3 (by decide) (by decide)]
    rw [show f + 2 = f + 1 + 1 from rfl, oa_s (l2' := 27) (l3' := 4) (by decide) (by decide) (by decide) o4 (by decide) (by decide)]
    exact oa_e (by decide)
  unfold m_outsideAt
  have e3 := k3 g
  have e4 := k4 g
  rw [← hf5] at e3 e4
  exact ⟨e3, e4⟩
theorem out_put {mm m1 : MS} {k v : Int} (hg : 10000 ≤ g) (hR : RI m W ly A Th SS HB EE n) (h101 : m 101 0 < 0) (hO : OutOK m) (hk : k = 0 → InI v) (h : QE m mm m1) : ∃ m', m_putOut g k v m1 = some m' ∧ QE m mm m' := by
  have h1 := qe_pf h 1 (by decide) (by decide)
  obtain ⟨w1, w2⟩ := outsideAt_ok hg hO h1
  obtain ⟨o1, o2, o3, o4, o5⟩ := hO
  simp only [m_putOut, m_putOut_39, m_putOut_45, nb_id]
  split
  · rename_i hk0
    exact number_ok hg hR h101 (hk hk0) h
  · split
    · exact byte_ok hR h101 h
    · split
      · rw [vb_ok w1]
        exact word_2 hR h101 (by decide) (by omega) (by decide) 6 g 1 m1 (by omega) (by omega) (by decide) h
      · rw [vb_ok w2]
        exact word_2 hR h101 (by decide) (by omega) (by decide) 6 g 1 m1 (by omega) (by omega) (by decide) h
theorem text_318 {mm : MS} {p x : Int} (hR : RI m W ly A Th SS HB EE n) (h101 : m 101 0 < 0) (p0 : 0 ≤ p) (p1 : p < 6000) (hx : 0 ≤ x) (hy : x + m 72 p ≤ 1500) : ∀ (c f : Nat) (i : Int) (m1 : MS), (m 72 p - i).toNat ≤ c → c < f → 0 ≤ i → QE m mm m1 → ∃ m', m_otherStep_318 g f p x i m1 = some m' ∧ QE m mm m' := by
  intro c
  induction c with
  | zero =>
    intro f i m1 h1 h2 h3 h4
    obtain ⟨f, rfl⟩ : ∃ f', f = f' + 1 := ⟨f - 1, by omega⟩
    simp only [m_otherStep_318, m_otherStep_363]
    rw [ck_ok p0 p1, qe_pf h4 72 (by decide) (by decide), if_neg (by omega)]
    exact ⟨_, rfl, h4⟩
  | succ c ih =>
    intro f i m1 h1 h2 h3 h4
    obtain ⟨f, rfl⟩ : ∃ f', f = f' + 1 := ⟨f - 1, by omega⟩
    simp only [m_otherStep_318, m_otherStep_363]
    rw [ck_ok p0 p1, qe_pf h4 72 (by decide) (by decide)]
    split
    · rw [i32_r (x := x + i) (by omega) (by omega), ck_ok (by omega) (by omega)]
      obtain ⟨m2, q1, q2⟩ := byte_ok (c := m1 79 (x + i)) hR h101 h4
      rw [nb_ok q1, i32_r (by omega) (by omega)]
      exact ih f (i + 1) m2 (by omega) (by omega) (by omega) q2
    · exact ⟨_, rfl, h4⟩
theorem st_30 (hg : 10000 ≤ g) (hR : RI m W ly A Th SS HB EE n) (h101 : m 101 0 < 0) (hO : OutOK m) (hop : m 70 (m 98 0) = 30) : ∃ m', m_step g m = some m' ∧ Pst m W ly A EE n m' := by
  obtain ⟨L, hro, hL, p0, p1, pS⟩ := ru_of hR
  obtain ⟨mm, _, hq, e98, e97, e70, e71, e72, e73, hst⟩ := step_in (g := g) hR
  have h89 := q89 hR hq
  have hM := ms_of hR
  rw [hst, hop]
  rw [hop] at hro
  simp only [Ro, if_true, Int.reduceEq, if_false] at hro
  simp only [Int.reduceEq, Int.reduceLT, if_false, if_true, m_step_119, m_step_211, m_step_185, m_step_248, m_step_278, nb_id]
  simp only [m_otherStep, m_otherStep_363, m_otherStep_247, m_otherStep_282, m_otherStep_287, m_otherStep_358, e70, e71, e72, hop, Int.reduceEq, if_false, if_true, ck_ok p0 p1, nb_id]
  obtain ⟨S', eS, rfl⟩ := hro
  rw [eS] at hM pS
  obtain ⟨m1, q1, q2, q3, q4, q5, q6⟩ := pop_q hR hq e97 ne_V hM pS
  rw [vb_ok q1]
  have hv := sokv q5
  obtain ⟨m2, t1, t2⟩ := out_put (k := m 71 (m 98 0)) (v := m 96 (m 97 0 - 1)) (mm := m1) hg hR h101 hO (fun h => hv.1 (by omega)) (Or.inl ⟨q2, rfl, rfl⟩)
  exact ⟨m2, t1, qe_fin hR h101 t2 q3 q6 (by rw [q4, e98]; exact hL _ m1_mem) (by rw [q4, e98]; exact r1 (by omega))⟩
theorem st_31 (hg : 10000 ≤ g) (hR : RI m W ly A Th SS HB EE n) (h101 : m 101 0 < 0) (hop : m 70 (m 98 0) = 31) : ∃ m', m_step g m = some m' ∧ Pst m W ly A EE n m' := by
  obtain ⟨L, hro, hL, p0, p1, pS⟩ := ru_of hR
  obtain ⟨mm, _, hq, e98, e97, e70, e71, e72, e73, hst⟩ := step_in (g := g) hR
  have h89 := q89 hR hq
  have hM := ms_of hR
  rw [hst, hop]
  rw [hop] at hro
  simp only [Ro, if_true, Int.reduceEq, if_false] at hro
  simp only [Int.reduceEq, Int.reduceLT, if_false, if_true, m_step_119, m_step_211, m_step_185, m_step_248, m_step_278, nb_id]
  simp only [m_otherStep, m_otherStep_363, m_otherStep_247, m_otherStep_282, m_otherStep_287, m_otherStep_358, e70, e71, e72, hop, Int.reduceEq, if_false, if_true, ck_ok p0 p1, nb_id]
  obtain ⟨x0, y0, xy, rfl⟩ := hro
  obtain ⟨m2, t1, t2⟩ := text_318 (g := g) (mm := mm) hR h101 p0 p1 x0 xy (m 72 (m 98 0)).toNat g 0 mm (by omega) (by omega) (by decide) (Or.inl ⟨hq, rfl, rfl⟩)
  exact ⟨m2, t1, qe_fin hR h101 t2 e97 hM (by rw [e98]; exact hL _ m1_mem) (by rw [e98]; exact r1 (by omega))⟩
theorem st_32 (hR : RI m W ly A Th SS HB EE n) (h101 : m 101 0 < 0) (hop : m 70 (m 98 0) = 32) : ∃ m', m_step g m = some m' ∧ Pst m W ly A EE n m' := by
  obtain ⟨L, hro, hL, p0, p1, pS⟩ := ru_of hR
  obtain ⟨mm, _, hq, e98, e97, e70, e71, e72, e73, hst⟩ := step_in (g := g) hR
  have h89 := q89 hR hq
  have hM := ms_of hR
  rw [hst, hop]
  rw [hop] at hro
  simp only [Ro, if_true, Int.reduceEq, if_false] at hro
  simp only [Int.reduceEq, Int.reduceLT, if_false, if_true, m_step_119, m_step_211, m_step_185, m_step_248, m_step_278, nb_id]
  simp only [m_otherStep, m_otherStep_363, m_otherStep_247, m_otherStep_282, m_otherStep_287, m_otherStep_358, e70, e71, e72, hop, Int.reduceEq, if_false, if_true, ck_ok p0 p1, nb_id]
  subst hro
  obtain ⟨m2, t1, t2⟩ := byte_ok (c := 10) (mm := mm) hR h101 (Or.inl ⟨hq, rfl, rfl⟩)
  exact ⟨m2, t1, qe_fin hR h101 t2 e97 hM (by rw [e98]; exact hL _ m1_mem) (by rw [e98]; exact r1 (by omega))⟩
/-- what is read -/
def QR (m mm m' : MS) : Prop := Qt m m' ∧ m' 97 = mm 97 ∧ m' 98 = mm 98
theorem qr_at {mm m' : MS} (h : QR m mm m') (h2 : m' 82 0 < m 81 0) : QR m mm (mset m' 82 0 (m' 82 0 + 1)) := by
  obtain ⟨⟨h1, ⟨a1, a2, a3, a4, a5, a6, a7, a8, a9, a10, a11, a12⟩, h3⟩, e1, e2⟩ := h
  refine ⟨⟨h1.set (by decide), ⟨by rw [msf (by decide)]; exact a1, by rw [msf (by decide)]; exact a2, by rw [msf (by decide)]; exact a3, by rw [msf (by decide)]; exact a4, by rw [msf (by decide)]; exact a5, by rw [msf (by decide)]; exact a6, by rw [msf (by decide)]; exact a7, by rw [msf (by decide)]; exact a8, by rw [msf (by decide)]; exact a9, by rw [msf (by decide)]; exact a10, by rw [msf (by decide)]; exact a11, by rw [msf (by decide)]; exact a12⟩, ?_⟩, by rw [msf (by decide)]; exact e1, by rw [msf (by decide)]; exact e2⟩
  rw [mset_eq, msf (by decide : (84 : Nat) ≠ 82)]
  omega
theorem fig_ok {c : Int} {m1 : MS} : (48 ≤ c ∧ c ≤ 57 ∧ m_isFigure c m1 = some (1, m1)) ∨ m_isFigure c m1 = some (0, m1) := by
  simp only [m_isFigure, m_isFigure_16, m_isFigure_17]
  by_cases h1 : c < 48
  · rw [if_pos h1]
    exact Or.inr rfl
  · by_cases h2 : 57 < c
    · rw [if_neg h1, if_pos h2]
      exact Or.inr rfl
    · rw [if_neg h1, if_neg h2]
      exact Or.inl ⟨by omega, by omega, rfl⟩
theorem take_end {mm m1 : MS} {b s v : Int} {P : MS → Prop} (hR : RI m W ly A Th SS HB EE n) (h : QR m mm m1) (hv : 0 ≤ v) (hp : ∀ (m1 : MS) (v : Int), QR m mm m1 → InI v → ∃ m', m_push v m1 = some m' ∧ P m') (hw : ∀ (m1 : MS) (v : Int), QR m mm m1 → P (mset (mset m1 101 0 5) 102 0 v)) : ∃ m', m_takeIn_260 g b s v m1 = some m' ∧ P m' := by
  have h89 := q89 hR h.1
  simp only [m_takeIn_260, m_takeIn_274, m_takeIn_279, m_takeIn_299, m_takeIn_302, nb_id]
  have hbad : ∃ m', (vb (m_isWrong 1 5 m1) (fun v128 m124 => if v128 = 0 then if b = 0 then m_push v m124 else m_push (i64 (-v)) m124 else some m124)) = some m' ∧ P m' := by
    obtain ⟨x, hx⟩ := wrong_1 (m := m1) (x := 1) (l := 5) (by decide) h89.1 h89.2
    rw [vb_ok hx, if_neg (by decide)]
    exact ⟨_, rfl, hw m1 x h⟩
  split
  · exact hbad
  · split
    · exact hbad
    · rw [vb_ok wrong_0, if_pos rfl]
      split
      · exact hp m1 v h ⟨by omega, by omega⟩
      · rw [i64_r (by omega) (by omega)]
        exact hp m1 (-v) h ⟨by omega, by omega⟩
theorem take_177 {mm : MS} {P : MS → Prop} (hR : RI m W ly A Th SS HB EE n) (hp : ∀ (m1 : MS) (v : Int), QR m mm m1 → InI v → ∃ m', m_push v m1 = some m' ∧ P m') (hw : ∀ (m1 : MS) (v : Int), QR m mm m1 → P (mset (mset m1 101 0 5) 102 0 v)) : ∀ (c f : Nat) (b s v : Int) (m1 : MS), (m 81 0 - m1 82 0).toNat ≤ c → c < f → 0 ≤ v → v ≤ 9999999999 → QR m mm m1 → ∃ m', m_takeIn_177 g f b s v m1 = some m' ∧ P m' := by
  have h81 := hR.2.2.2.2.2.2.2.2.2.2.1
  intro c
  induction c with
  | zero =>
    intro f b s v m1 h1 h2 h3 h4 h5
    obtain ⟨f, rfl⟩ : ∃ f', f = f' + 1 := ⟨f - 1, by omega⟩
    simp only [m_takeIn_177]
    rw [h5.1.1 81 (by decide) (by decide), if_neg (by omega)]
    exact take_end hR h5 h3 hp hw
  | succ c ih =>
    intro f b s v m1 h1 h2 h3 h4 h5
    obtain ⟨f, rfl⟩ : ∃ f', f = f' + 1 := ⟨f - 1, by omega⟩
    simp only [m_takeIn_177]
    have h82 := h5.1.2.2
    rw [h5.1.1 81 (by decide) (by decide)]
    split
    · rename_i hlt
      rw [ck_ok (by omega) (by omega)]
      rcases fig_ok (c := m1 80 (m1 82 0)) (m1 := m1) with ⟨k1, k2, k3⟩ | k3
      · rw [vb_ok k3, if_neg (by decide), ck_ok (by omega) (by omega)]
        simp only [wlet, m_takeIn_243]
        rw [i64_r (x := v * 10) (by omega) (by omega), i64_r (x := v * 10 + m1 80 (m1 82 0)) (by omega) (by omega), i64_r (by omega) (by omega), i32_r (by omega) (by omega)]
        have hq := qr_at h5 hlt
        have h6 : (m 81 0 - (mset m1 82 0 (m1 82 0 + 1)) 82 0).toNat ≤ c := by
          rw [mset_eq]
          omega
        split
        · exact ih f b 1 _ _ h6 (by omega) (by decide) (by decide) hq
        · exact ih f b 1 _ _ h6 (by omega) (by omega) (by omega) hq
      · rw [vb_ok k3, if_pos rfl]
        exact take_end hR h5 h3 hp hw
    · exact take_end hR h5 h3 hp hw
theorem take_92 {mm m1 : MS} {P : MS → Prop} (hg : 10000 ≤ g) (hR : RI m W ly A Th SS HB EE n) (hp : ∀ (m1 : MS) (v : Int), QR m mm m1 → InI v → ∃ m', m_push v m1 = some m' ∧ P m') (hw : ∀ (m1 : MS) (v : Int), QR m mm m1 → P (mset (mset m1 101 0 5) 102 0 v)) (h : QR m mm m1) : ∃ m', m_takeIn_92 g m1 = some m' ∧ P m' := by
  have h81 := hR.2.2.2.2.2.2.2.2.2.2.1
  have h82 := h.1.2.2
  have e81 := h.1.1 81 (by decide) (by decide)
  have k1 : ∀ (b : Int) (m2 : MS), QR m mm m2 → ∃ m', m_takeIn_177 g g b 0 0 m2 = some m' ∧ P m' := fun b m2 h2 => take_177 hR hp hw 1500 g b 0 0 m2 (by have := h2.1.2.2; omega) (by omega) (by decide) (by decide) h2
  have k2 : ∀ (b : Int), ∃ m', m_takeIn_122 g b m1 = some m' ∧ P m' := fun b => by
    simp only [m_takeIn_122, m_takeIn_162, m_takeIn_172, wlet]
    rw [e81]
    split
    · rename_i hlt
      rw [ck_ok (by omega) (by omega), ck_ok (by omega) (by omega), i32_r (by omega) (by omega)]
      split
      · exact k1 b _ (qr_at h hlt)
      · split
        · exact k1 b _ (qr_at h hlt)
        · exact k1 b _ h
    · exact k1 b _ h
  simp only [m_takeIn_92, m_takeIn_121]
  rw [e81]
  split
  · rw [ck_ok (by omega) (by omega)]
    split
    · exact k2 1
    · exact k2 0
  · exact k2 0
theorem take_54 {mm : MS} {P : MS → Prop} (hg : 10000 ≤ g) (hR : RI m W ly A Th SS HB EE n) (hp : ∀ (m1 : MS) (v : Int), QR m mm m1 → InI v → ∃ m', m_push v m1 = some m' ∧ P m') (hw : ∀ (m1 : MS) (v : Int), QR m mm m1 → P (mset (mset m1 101 0 5) 102 0 v)) : ∀ (c f : Nat) (m1 : MS), (m 81 0 - m1 82 0).toNat ≤ c → c < f → QR m mm m1 → ∃ m', m_takeIn_54 g f m1 = some m' ∧ P m' := by
  have h81 := hR.2.2.2.2.2.2.2.2.2.2.1
  intro c
  induction c with
  | zero =>
    intro f m1 h1 h2 h5
    obtain ⟨f, rfl⟩ : ∃ f', f = f' + 1 := ⟨f - 1, by omega⟩
    simp only [m_takeIn_54]
    rw [h5.1.1 81 (by decide) (by decide), if_neg (by omega)]
    exact take_92 hg hR hp hw h5
  | succ c ih =>
    intro f m1 h1 h2 h5
    obtain ⟨f, rfl⟩ : ∃ f', f = f' + 1 := ⟨f - 1, by omega⟩
    simp only [m_takeIn_54]
    have h82 := h5.1.2.2
    rw [h5.1.1 81 (by decide) (by decide)]
    split
    · rename_i hlt
      rw [ck_ok (by omega) (by omega)]
      split
      · exact take_92 hg hR hp hw h5
      · simp only [wlet]
        rw [i32_r (by omega) (by omega)]
        exact ih f _ (by rw [mset_eq]; omega) (by omega) (qr_at h5 hlt)
    · exact take_92 hg hR hp hw h5
theorem st_29 (hg : 10000 ≤ g) (hR : RI m W ly A Th SS HB EE n) (h101 : m 101 0 < 0) (hin : ∀ i, 0 ≤ i → i < 1500 → InI (m 80 i)) (hop : m 70 (m 98 0) = 29) : ∃ m', m_step g m = some m' ∧ Pst m W ly A EE n m' := by
  obtain ⟨L, hro, hL, p0, p1, pS⟩ := ru_of hR
  obtain ⟨mm, _, hq, e98, e97, e70, e71, e72, e73, hst⟩ := step_in (g := g) hR
  have h89 := q89 hR hq
  have hM := ms_of hR
  rw [hst, hop]
  rw [hop] at hro
  simp only [Ro, if_true, Int.reduceEq, if_false] at hro
  simp only [Int.reduceEq, Int.reduceLT, if_false, if_true, m_step_119, m_step_211, m_step_185, m_step_248, m_step_278, nb_id]
  simp only [m_otherStep, m_otherStep_363, m_otherStep_247, m_otherStep_282, m_otherStep_287, m_otherStep_358, e70, e71, e72, hop, Int.reduceEq, if_false, if_true, ck_ok p0 p1, nb_id]
  obtain ⟨hx, rfl⟩ := hro
  have hT := hL _ m1_mem
  have h81 := hR.2.2.2.2.2.2.2.2.2.2.1
  have hp : ∀ (m1 : MS) (v : Int), QR m mm m1 → okv (m 71 (m 98 0)) v → ∃ m', m_push v m1 = some m' ∧ Pst m W ly A EE n m' := fun m1 v h hv => fin_push hR h101 h.1 (by rw [h.2.1]; exact e97) (Or.inl rfl) hM (sok_v hv) (by rw [h.2.2, e98]; exact hT) (by rw [h.2.2, e98]; exact r1 (by omega))
  have hv : ∀ {v : Int}, InI v → okv (m 71 (m 98 0)) v := fun {v} h => ⟨fun _ => h, fun h => absurd h (by omega)⟩
  have q0 : QR m mm mm := ⟨hq, rfl, rfl⟩
  simp only [m_takeIn, m_takeIn_22, m_takeIn_53, wlet]
  split
  · split
    · obtain ⟨x, hx⟩ := wrong_1 (m := mm) (x := 1) (l := 5) (by decide) h89.1 h89.2
      rw [vb_ok hx, if_neg (by decide)]
      exact ⟨_, rfl, fin_end hq (by decide)⟩
    · rename_i hne
      have h82 := hq.2.2
      rw [hq.1 81 (by decide) (by decide)] at hne
      rw [vb_ok wrong_0, if_pos rfl, ck_ok (by omega) (by omega)]
      have hb := (hR.2.1.2.2.2.1 (n - 1) (by have := hR.2.2.1; omega) (by omega)).2.2.2
      have hh := ms_h hM
      have hn2 := hR.2.2.2.1
      have hS := hs_nn (SS (n - 1))
      have e80 := hq.1 80 (by decide) (by decide)
      obtain ⟨m3, z1, z2⟩ := hp (mset mm 82 0 (mm 82 0 + 1)) (mm 80 (mm 82 0)) (qr_at q0 (by omega)) (hv (by rw [e80]; exact hin _ (by omega) (by omega)))
      rw [nb_ok (push_ok (by omega) (by omega)), msf (by decide : (82 : Nat) ≠ 97), msf (by decide : (82 : Nat) ≠ 96), i32_r (by omega) (by omega)]
      rw [push_ok (by rw [msf (by decide)]; omega) (by rw [msf (by decide)]; omega), msf (by decide : (97 : Nat) ≠ 82)] at z1
      refine ⟨_, rfl, ?_⟩
      cases z1
      have e1 : mset (mset (mset mm 96 (mm 97 0) (mm 80 (mm 82 0))) 97 0 (mm 97 0 + 1)) 82 0 (mm 82 0 + 1) = mset (mset (mset mm 82 0 (mm 82 0 + 1)) 96 (mm 97 0) (mm 80 (mm 82 0))) 97 0 (mm 97 0 + 1) := by
        funext f i
        unfold mset
        by_cases h1 : f = 82
        · subst h1
          simp
        · simp [h1]
      rw [e1]
      exact z2
  · exact take_54 hg hR (fun m1 v h1 h2 => hp m1 v h1 (hv h2)) (fun m1 v h => fin_end h.1 (by decide)) 1500 g mm (by have := hq.2.2; omega) (by omega) q0
end Vx
