/-! the model's machine: calls and returns -/
section Vy
variable {m : MS} {W : EV} {ly : LY} {A : Int} {Th : Int → Sl} {SS : Int → Sh} {HB EE : Int → Int} {n : Int} {g : Nat}
theorem ri_ret {m' : MS} {S' : Sh} (hR : RI m W ly A Th SS HB EE n) (hn : 2 ≤ n) (hp : PF m m') (hf : ∀ f, f = 85 ∨ f = 86 ∨ f = 91 ∨ f = 92 ∨ f = 93 ∨ f = 94 → m' f = m f) (h89 : m' 89 0 = n - 1) (h87 : m' 87 0 = m 91 (n - 1)) (hst : ∀ i, i < HB (n - 1) → m' 96 i = m 96 i) (hM : Ms (m' 96) Th (m 91 (n - 1)) S' (m' 97 0) (HB (n - 2))) (h98 : m' 98 0 = m 94 (n - 1)) (hT : TY (Nm (rcd m) W ly A (m 93 (n - 2))) (m 94 (n - 1)) S' (EE (n - 2)))
    (hio : m' 82 = m 82 ∧ 0 ≤ m' 84 0 ∧ m' 84 0 ≤ 1500) (hsc : m' 100 = m 100 ∧ m' 99 = m 99) : RI m' W ly A Th (iup SS (n - 2) S') HB EE (n - 1) ∧ MU m' EE (n - 1) < MU m EE n := by
  obtain ⟨h1, ⟨b1, b2, b3, b4, b5⟩, h3, h4, h5, h6, h7, h8, h9, h10, h11, h12⟩ := hR
  have f85 := hf 85 (by decide)
  have f86 := hf 86 (by decide)
  have f91 := hf 91 (by decide)
  have f92 := hf 92 (by decide)
  have f93 := hf 93 (by decide)
  have f94 := hf 94 (by decide)
  have hl := (b5 (n - 2) (by omega) (by omega)).1
  have e1 : n - 2 + 1 = n - 1 := by omega
  have e2 : n - 1 - 1 = n - 2 := by omega
  rw [e1] at hl
  have hW := (h1.1.2.2.2 _ (b4 (n - 1) (by omega) (by omega)).1 (b4 (n - 1) (by omega) (by omega)).2.1).1
  constructor
  · refine ⟨hp.pg h1, ⟨by rw [f91]; exact b1, by rw [f93]; exact b2, b3, fun j j1 j2 => by rw [f91, f92, f93]; exact b4 j j1 (by omega), fun j j1 j2 => ?_⟩, by omega, by omega, h89, by rw [h87, f91, f93, e2]; exact hl, by omega, ?_, ?_, ?_, ?_, ?_⟩
    · rw [hp.rc, f91, f93, f94]
      obtain ⟨k1, k2, k3⟩ := b5 j j1 (by omega)
      rw [iup_ne (by omega)]
      refine ⟨k1, k2, ms_c (Int.le_refl _) (fun _ _ => rfl) (fun i hi => hst i ?_) k3⟩
      have q1 : ∀ k : Nat, j + 1 + k ≤ n - 1 → HB (j + 1) ≤ HB (j + 1 + k) := by
        intro k
        induction k with
        | zero => intro _; rw [Int.ofNat_zero, Int.add_zero]; exact Int.le_refl _
        | succ k ih =>
          intro hk
          have q := ms_h (b5 (j + 1 + k) (by omega) (by omega)).2.2
          have q2 := hs_nn (SS (j + 1 + k))
          have q3 := ih (by omega)
          have q4 : j + 1 + ((k + 1 : Nat) : Int) = j + 1 + k + 1 := by omega
          rw [q4]
          omega
      have := q1 (n - 1 - (j + 1)).toNat (by omega)
      have e1 : j + 1 + ((n - 1 - (j + 1)).toNat : Int) = n - 1 := by omega
      rw [e1] at this
      omega
    · rw [h87]
      unfold CL
      rw [f85, f86]
      exact fun z z1 z2 => h8 z z1 (by omega)
    · rw [h87, e2, iup_eq]
      exact hM
    · rw [hp.rc, f93, e2, iup_eq, h98]
      exact hT
    · rw [hp 81 (by decide) (by decide), hio.1]
      exact ⟨h11.1, h11.2.1, h11.2.2.1, hio.2⟩
    · rw [hsc.1, hsc.2]
      exact h12
  · unfold MU
    rw [hsc.1, hsc.2]
    obtain ⟨k, hk⟩ : ∃ k : Nat, n.toNat = k + 1 := ⟨n.toNat - 1, by omega⟩
    have hk2 : (n - 1).toNat = k := by omega
    rw [hk, hk2]
    refine Nat.add_lt_add_left (mu_ret (fun j hj => ?_)) _
    unfold rr
    rw [if_neg (by omega : ¬ (j : Int) = n - 1), f94]
    by_cases hj2 : (j : Int) = n - 1 - 1
    · rw [if_pos hj2, h98]
      have : (j : Int) + 1 = n - 1 := by omega
      rw [this]
    · rw [if_neg hj2]
theorem st_19 (hR : RI m W ly A Th SS HB EE n) (h101 : m 101 0 < 0) (hop : m 70 (m 98 0) = 19) : ∃ m', m_step g m = some m' ∧ Pst m W ly A EE n m' := by
  obtain ⟨L, hro, hL, p0, p1, pS⟩ := ru_of hR
  obtain ⟨mm, hmm, hq, e98, e97, e70, e71, e72, e73, hst⟩ := step_in (g := g) hR
  have h89 := q89 hR hq
  have hM := ms_of hR
  rw [hst, hop]
  rw [hop] at hro
  simp only [Ro, if_true, Int.reduceEq, if_false] at hro
  simp only [Int.reduceEq, Int.reduceLT, if_false, if_true, m_step_119, m_step_211, m_step_185, m_step_248, m_step_278, nb_id]
  obtain ⟨hx, eS, _⟩ := hro
  rw [eS] at hM
  simp only [Ms] at hM
  have e89 : mm 89 0 = n := by rw [hq.2.1.2.2.2.1]; exact hR.2.2.2.2.1
  have e82 : mm 82 = m 82 := by rw [hmm, msf (by decide)]
  have hn1 := hR.2.2.1
  have hn2 := hR.2.2.2.1
  have hb := hR.2.1.2.2.2.1 (n - 1) (by omega) (by omega)
  have hA := hR.1.1.2.1
  obtain ⟨q1, ⟨a1, a2, a3, a4, a5, a6, a7, a8, a9, a10, a11, a12⟩, q3⟩ := hq
  simp only [m_leave, m_leave_91, m_leave_74, wlet, nb_id]
  rw [e89, i32_r (by omega) (by omega), mset_eq, ck_ok (by omega) (by omega), msf (by decide : (91 : Nat) ≠ 89), a5]
  have e1 : mset (mset mm 89 0 (n - 1)) 87 0 (m 91 (n - 1)) 89 0 = n - 1 := by rw [mset_f (by decide), mset_eq]
  have e2 : mset (mset mm 89 0 (n - 1)) 87 0 (m 91 (n - 1)) 94 = m 94 := by rw [msf (by decide), msf (by decide), a8]
  rw [e1, e2, ck_ok (by omega) (by omega)]
  have P : PF m (mset (mset (mset mm 89 0 (n - 1)) 87 0 (m 91 (n - 1))) 98 0 (m 94 (n - 1))) := ((q1.set (by decide)).set (by decide)).set (by decide)
  have e78 : mset (mset (mset mm 89 0 (n - 1)) 87 0 (m 91 (n - 1))) 98 0 (m 94 (n - 1)) 78 = m 78 := P 78 (by decide) (by decide)
  have e86 : mset (mset (mset mm 89 0 (n - 1)) 87 0 (m 91 (n - 1))) 98 0 (m 94 (n - 1)) 86 = m 86 := by rw [msf (by decide), msf (by decide), msf (by decide), a2]
  by_cases hx0 : m 71 (m 98 0) = 0
  · rw [if_pos hx0]
    refine ⟨_, rfl, Or.inl ⟨?_, P.set (by decide), ?_⟩⟩
    · rw [mset_eq]
      decide
    · rw [msf (by decide), msf (by decide), msf (by decide), msf (by decide)]
      exact q3.2.2
  · rw [if_neg hx0, ck_ok (by omega) (by omega), e78, e86]
    have hn3 : 2 ≤ n := by
      by_cases hh : n = 1
      · rw [hx, hh] at hx0
        exact absurd hR.2.1.2.1 hx0
      · omega
    obtain ⟨l1, l2, l3⟩ := hR.2.1.2.2.2.2 (n - 2) (by omega) (by omega)
    have e3 : n - 2 + 1 = n - 1 := by omega
    rw [e3] at l1 l2 l3
    rw [← l1] at l3
    have hWx := hR.1.2.2 _ hb.1 hb.2.1
    rw [← hx] at hWx l2
    have hE := hR.1.1.2.2.2 _ hb.1 hb.2.1
    have hu := hR.2.2.2.2.2.2.1
    have hu2 := hR.2.2.2.2.2.1
    rw [hWx.2.2.2.2.1]
    unfold res at l2
    have i87 : mset (mset (mset mm 89 0 (n - 1)) 87 0 (m 91 (n - 1))) 98 0 (m 94 (n - 1)) 87 0 = m 91 (n - 1) := by rw [mset_f (by decide), mset_eq]
    have i89 : mset (mset (mset mm 89 0 (n - 1)) 87 0 (m 91 (n - 1))) 98 0 (m 94 (n - 1)) 89 0 = n - 1 := by rw [mset_f (by decide), e1]
    have i97 : mset (mset (mset mm 89 0 (n - 1)) 87 0 (m 91 (n - 1))) 98 0 (m 94 (n - 1)) 97 0 = HB (n - 1) := by rw [mset_f (by decide), mset_f (by decide), mset_f (by decide), e97, hM]
    by_cases hf : W 4 (m 71 (m 98 0)) = 0
    · rw [if_pos hf]
      rw [if_pos hf] at l2
      have hr := ri_ret (m' := mset (mset (mset mm 89 0 (n - 1)) 87 0 (m 91 (n - 1))) 98 0 (m 94 (n - 1))) hR hn3 P (fun f hf => by rcases hf with rfl | rfl | rfl | rfl | rfl | rfl <;> (rw [msf (by decide), msf (by decide), msf (by decide)]; assumption)) i89 i87 (fun i _ => by rw [msf (by decide), msf (by decide), msf (by decide), a9]) (by rw [i97, msf (by decide), msf (by decide), msf (by decide), a9]; exact l3) mset_eq l2 (by rw [msf (by decide), msf (by decide), msf (by decide), msf (by decide), msf (by decide), msf (by decide)]; exact ⟨by assumption, q3.2.2⟩) ⟨by rw [msf (by decide), msf (by decide), msf (by decide)]; exact a11, by rw [msf (by decide), msf (by decide), msf (by decide)]; exact a10⟩
      exact ⟨_, rfl, Or.inr ⟨by rw [msf (by decide), msf (by decide), msf (by decide), a12]; exact h101, _, _, _, _, _, hr.1, hr.2⟩⟩
    · rw [if_neg hf, ck_ok hb.2.2.1 (by omega)]
      rw [if_neg hf] at l2
      split
      · obtain ⟨v, hv⟩ := wrong_1 (m := mset (mset (mset mm 89 0 (n - 1)) 87 0 (m 91 (n - 1))) 98 0 (m 94 (n - 1))) (x := 1) (l := 1) (by decide) (by rw [i89]; omega) (by rw [i89]; omega)
        rw [vb_ok hv, if_neg (by decide)]
        refine ⟨_, rfl, Or.inl ⟨?_, (P.set (by decide)).set (by decide), ?_⟩⟩
        · rw [mset_f (by decide), mset_eq]
          decide
        · rw [msf (by decide), msf (by decide), msf (by decide), msf (by decide), msf (by decide)]
          exact q3.2.2
      · rename_i hne
        have e85 : mset (mset (mset mm 89 0 (n - 1)) 87 0 (m 91 (n - 1))) 98 0 (m 94 (n - 1)) 85 = m 85 := by rw [msf (by decide), msf (by decide), msf (by decide), a1]
        rw [vb_ok wrong_0, if_pos rfl, ck_ok hb.2.2.1 (by omega), e85, push_ok (by rw [i97]; omega) (by rw [i97]; omega), i97]
        have hth : Th (m 91 (n - 1)) = sV (W 5 (m 71 (m 98 0))) := by
          have := hb.2.2.2.2.2.1 0 (by decide) (by omega)
          rw [Int.add_zero] at this
          rw [this, hx]
          exact hE.2.2.2.2.2.2.1 (by rcases hE.2.2.2.2.2.1 with h | h; exact absurd (by rw [hx]; exact h) hf; exact h)
        have hval := (hR.2.2.2.2.2.2.2.1 (m 91 (n - 1)) hb.2.2.1 (by omega)).1 _ hth hne
        have hr := ri_ret (S' := sV (W 5 (m 71 (m 98 0))) :: SS (n - 2)) (m' := mset (mset (mset (mset (mset mm 89 0 (n - 1)) 87 0 (m 91 (n - 1))) 98 0 (m 94 (n - 1))) 96 (HB (n - 1)) (m 85 (m 91 (n - 1)))) 97 0 (HB (n - 1) + 1)) hR hn3 ((P.set (by decide)).set (by decide)) (fun f hf => by rcases hf with rfl | rfl | rfl | rfl | rfl | rfl <;> (rw [msf (by decide), msf (by decide), msf (by decide), msf (by decide), msf (by decide)]; assumption)) (by rw [mset_f (by decide), mset_f (by decide)]; exact i89) (by rw [mset_f (by decide), mset_f (by decide)]; exact i87) (fun i hi => by rw [msf (by decide), mset_i (by omega), msf (by decide), msf (by decide), msf (by decide), a9]) (by
          rw [mset_eq, msf (by decide : (96 : Nat) ≠ 97), ms_v, Int.add_sub_cancel, mset_eq]
          exact ⟨hval, ms_c (Int.le_refl _) (fun _ _ => rfl) (fun i hi => by rw [mset_i (by omega), msf (by decide), msf (by decide), msf (by decide), a9]) l3⟩) (by rw [mset_f (by decide), mset_f (by decide), mset_eq]) l2 (by rw [msf (by decide), msf (by decide), msf (by decide), msf (by decide), msf (by decide), msf (by decide), msf (by decide), msf (by decide), msf (by decide), msf (by decide)]; exact ⟨by assumption, q3.2.2⟩) ⟨by rw [msf (by decide), msf (by decide), msf (by decide), msf (by decide), msf (by decide)]; exact a11, by rw [msf (by decide), msf (by decide), msf (by decide), msf (by decide), msf (by decide)]; exact a10⟩
        exact ⟨_, rfl, Or.inr ⟨by rw [msf (by decide), msf (by decide), msf (by decide), msf (by decide), msf (by decide), a12]; exact h101, _, _, _, _, _, hr.1, hr.2⟩⟩
end Vy
