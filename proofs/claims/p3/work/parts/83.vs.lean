/-! the model's machine: what each instruction does -/
def Pst (m : MS) (W : EV) (ly : LY) (A : Int) (EE : Int → Int) (n : Int) (m' : MS) : Prop := Dn m m' ∨ (m' 101 0 < 0 ∧ ∃ Th SS HB EE' n', RI m' W ly A Th SS HB EE' n' ∧ MU m' EE' n' < MU m EE n)
theorem msf {m : MS} {f g : Nat} {i x : Int} (h : g ≠ f) : mset m f i x g = m g := funext fun _ => mset_f h
def Qt (m m' : MS) : Prop := PF m m' ∧ (m' 85 = m 85 ∧ m' 86 = m 86 ∧ m' 87 = m 87 ∧ m' 89 = m 89 ∧ m' 91 = m 91 ∧ m' 92 = m 92 ∧ m' 93 = m 93 ∧ m' 94 = m 94 ∧ m' 96 = m 96 ∧ m' 99 = m 99 ∧ m' 100 = m 100 ∧ m' 101 = m 101) ∧ 0 ≤ m' 82 0 ∧ m' 82 0 ≤ m 81 0 ∧ 0 ≤ m' 84 0 ∧ m' 84 0 ≤ 1500
theorem Qt.set {m m' : MS} {f : Nat} {i x : Int} (h : Qt m m') (hf : f = 97 ∨ f = 98 ∨ f = 95) : Qt m (mset m' f i x) := by
  obtain ⟨h1, ⟨a1, a2, a3, a4, a5, a6, a7, a8, a9, a10, a11, a12⟩, h3⟩ := h
  refine ⟨h1.set (by omega), ?_, ?_⟩
  · rcases hf with rfl | rfl | rfl <;> exact ⟨by rw [msf (by decide)]; exact a1, by rw [msf (by decide)]; exact a2, by rw [msf (by decide)]; exact a3, by rw [msf (by decide)]; exact a4, by rw [msf (by decide)]; exact a5, by rw [msf (by decide)]; exact a6, by rw [msf (by decide)]; exact a7, by rw [msf (by decide)]; exact a8, by rw [msf (by decide)]; exact a9, by rw [msf (by decide)]; exact a10, by rw [msf (by decide)]; exact a11, by rw [msf (by decide)]; exact a12⟩
  · rcases hf with rfl | rfl | rfl <;> (rw [msf (by decide : (82 : Nat) ≠ _), msf (by decide : (84 : Nat) ≠ _)]; exact h3)
section Vs
variable {m : MS} {W : EV} {ly : LY} {A : Int} {Th : Int → Sl} {SS : Int → Sh} {HB EE : Int → Int} {n : Int}
theorem qt_0 (hR : RI m W ly A Th SS HB EE n) : Qt m m := ⟨PF.refl m, ⟨rfl, rfl, rfl, rfl, rfl, rfl, rfl, rfl, rfl, rfl, rfl, rfl⟩, hR.2.2.2.2.2.2.2.2.2.2.1.1, hR.2.2.2.2.2.2.2.2.2.2.1.2.1, hR.2.2.2.2.2.2.2.2.2.2.1.2.2.2⟩
/-- it ends -/
theorem fin_end {mm : MS} {l v : Int} (hq : Qt m mm) (hl : 0 ≤ l) : Pst m W ly A EE n (mset (mset mm 101 0 l) 102 0 v) := by
  refine Or.inl ⟨?_, (hq.1.set (by decide)).set (by decide), ?_⟩
  · rw [mset_f (by decide), mset_eq]
    exact hl
  · rw [msf (by decide), msf (by decide)]
    exact hq.2.2.2.2
/-- nothing is put upon the stack -/
theorem fin_pop {mm : MS} {S' : Sh} {h e' : Int} (hR : RI m W ly A Th SS HB EE n) (h101 : m 101 0 < 0) (hq : Qt m mm) (h97 : mm 97 0 = h) (hM : Ms (m 96) Th (m 87 0) S' h (HB (n - 1))) (hT : TY (Nm (rcd m) W ly A (m 93 (n - 1))) (mm 98 0) S' e') (hr : rnk (m 98 0) (EE (n - 1)) (mm 98 0) e') : Pst m W ly A EE n mm := by
  obtain ⟨h1, ⟨a1, a2, a3, a4, a5, a6, a7, a8, a9, a10, a11, a12⟩, h3⟩ := hq
  have hR' := ri_top (m' := mm) (S' := S') (e' := e') hR h1 (fun f hf => by rcases hf with rfl | rfl | rfl | rfl | rfl | rfl <;> assumption) (by unfold CL; rw [a1, a2]; exact hR.2.2.2.2.2.2.2.1) (fun i _ => by rw [a9]) (by rw [a9, h97]; exact hM) hT h3 (by rw [a10, a11]; exact ⟨hR.2.2.2.2.2.2.2.2.2.2.2.1, hR.2.2.2.2.2.2.2.2.2.2.2.2.1, rfl⟩)
  refine Or.inr ⟨by rw [a12]; exact h101, _, _, _, _, _, hR', mu_top hR hR' a8 (by rw [a10]) (Or.inl ⟨by rw [a11], hr⟩)⟩
/-- one thing is put upon the stack -/
theorem fin_push {mm : MS} {S' : Sh} {s : Sl} {h v e' : Int} (hR : RI m W ly A Th SS HB EE n) (h101 : m 101 0 < 0) (hq : Qt m mm) (h97 : mm 97 0 = h) (hs1 : s.1 = 0 ∨ s.1 = 1) (hM : Ms (m 96) Th (m 87 0) S' h (HB (n - 1))) (hk : sok (fun _ => v) Th (m 87 0) s 0) (hT : TY (Nm (rcd m) W ly A (m 93 (n - 1))) (mm 98 0) (s :: S') e') (hr : rnk (m 98 0) (EE (n - 1)) (mm 98 0) e') : ∃ m', m_push v mm = some m' ∧ Pst m W ly A EE n m' := by
  have hh := ms_h hM
  have hb := (hR.2.1.2.2.2.1 (n - 1) (by have := hR.2.2.1; omega) (by omega)).2.2.2
  have hS := hs_nn S'
  have hS2 := (ty_rng hT).2.2.1
  have hn := hR.2.2.2.1
  have hw : (if s.1 = 2 then 3 else 1 : Int) = 1 := if_neg (by omega)
  simp only [hs, hw] at hS2
  refine ⟨_, push_ok (by rw [h97]; omega) (by rw [h97]; omega), ?_⟩
  rw [h97]
  obtain ⟨h1, ⟨a1, a2, a3, a4, a5, a6, a7, a8, a9, a10, a11, a12⟩, h3⟩ := hq
  have hR' := ri_top (m' := mset (mset mm 96 h v) 97 0 (h + 1)) (S' := s :: S') (e' := e') hR ((h1.set (by decide)).set (by decide)) (fun f hf => by rcases hf with rfl | rfl | rfl | rfl | rfl | rfl <;> (rw [msf (by decide), msf (by decide)]; assumption)) (by unfold CL; rw [msf (by decide), msf (by decide), msf (by decide), msf (by decide), a1, a2]; exact hR.2.2.2.2.2.2.2.1) (fun i hi => by rw [msf (by decide), mset_i (by omega), a9]) (by
      rw [msf (by decide), mset_eq, ms_cons, hw, Int.add_sub_cancel]
      constructor
      · unfold sok at hk ⊢
        rw [Int.add_sub_cancel, mset_eq]
        rcases hs1 with hs1 | hs1
        · rw [if_pos hs1] at hk ⊢
          exact hk
        · rw [if_neg (by omega), if_pos hs1] at hk ⊢
          exact hk
      · exact ms_c (Int.le_refl _) (fun _ _ => rfl) (fun i hi => by rw [mset_i (by omega), a9]) hM) (by rw [mset_f (by decide), mset_f (by decide)]; exact hT) (by rw [mset_f (by decide), mset_f (by decide), mset_f (by decide), mset_f (by decide)]; exact h3) (by rw [mset_f (by decide), mset_f (by decide), mset_f (by decide), mset_f (by decide), a10, a11]; exact ⟨hR.2.2.2.2.2.2.2.2.2.2.2.1, hR.2.2.2.2.2.2.2.2.2.2.2.2.1, rfl⟩)
  refine Or.inr ⟨by rw [mset_f (by decide), mset_f (by decide), a12]; exact h101, _, _, _, _, _, hR', mu_top hR hR' (by rw [msf (by decide), msf (by decide)]; exact a8) (by rw [mset_f (by decide), mset_f (by decide), a10]) (Or.inl ⟨by rw [mset_f (by decide), mset_f (by decide), a11], by rw [mset_f (by decide), mset_f (by decide)]; exact hr⟩)⟩
theorem sok_v {k v U : Int} (h : okv k v) : sok (fun _ => v) Th U (sV k) 0 := by
  unfold sok
  rw [if_pos rfl]
  exact h
theorem sok_a {k c v U : Int} (h : aok Th U k c v) : sok (fun _ => v) Th U (sA k c) 0 := by
  unfold sok
  rw [if_neg (show ¬ ((1 : Int) = 0) by decide), if_pos rfl]
  exact h
/-- a thing is taken from the stack -/
theorem pop_q {mm : MS} {s : Sl} {S' : Sh} {h : Int} (hR : RI m W ly A Th SS HB EE n) (hq : Qt m mm) (h97 : mm 97 0 = h) (ht : s.1 ≠ 2) (hM : Ms (m 96) Th (m 87 0) (s :: S') h (HB (n - 1))) (hb : hs (s :: S') ≤ 345) : ∃ m', m_pop mm = some (m 96 (h - 1), m') ∧ Qt m m' ∧ m' 97 0 = h - 1 ∧ m' 98 0 = mm 98 0 ∧ sok (m 96) Th (m 87 0) s h ∧ Ms (m 96) Th (m 87 0) S' (h - 1) (HB (n - 1)) := by
  have hh := ms_h hM
  have hc := (hR.2.1.2.2.2.1 (n - 1) (by have := hR.2.2.1; omega) (by omega)).2.2.2
  have hS := hs_nn S'
  have hn := hR.2.2.2.1
  rw [ms_cons, if_neg ht] at hM
  have hw : (if s.1 = 2 then 3 else 1 : Int) = 1 := if_neg ht
  simp only [hs, hw] at hb hh
  refine ⟨_, ?_, hq.set (i := 0) (x := h - 1) (by decide), mset_eq, mset_f (by decide), hM.1, hM.2⟩
  rw [pop_ok (by omega) (by omega), h97, hq.2.1.2.2.2.2.2.2.2.2.1]
end Vs
