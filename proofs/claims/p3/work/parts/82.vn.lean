/-! the model's machine: how far it is from its end; the stack -/
def BB : Nat := 186002
def BG : Nat := 201 * BB ^ 201 + 1
def mu (r : Nat → Nat) : Nat → Nat
  | 0 => 0
  | n + 1 => mu r n + (r n + 1) * BB ^ (200 - n)
theorem BB_pos (k : Nat) : 0 < BB ^ k := Nat.pow_pos (by decide)
theorem mu_c {r r' : Nat → Nat} : ∀ {n : Nat}, (∀ j, j < n → r' j = r j) → mu r' n = mu r n
  | 0, _ => rfl
  | n + 1, h => by
    simp only [mu]
    rw [h n (Nat.lt_succ_self n), mu_c (fun j hj => h j (Nat.lt_succ_of_lt hj))]
theorem mu_le {r : Nat → Nat} : ∀ {n : Nat}, (∀ j, j < n → r j + 1 ≤ BB) → mu r n ≤ n * BB ^ 201
  | 0, _ => Nat.zero_le _
  | n + 1, h => by
    simp only [mu]
    have h1 := mu_le (fun j hj => h j (Nat.lt_succ_of_lt hj))
    have h2 : (r n + 1) * BB ^ (200 - n) ≤ BB ^ 201 := by
      have h3 : (r n + 1) * BB ^ (200 - n) ≤ BB * BB ^ (200 - n) := Nat.mul_le_mul_right _ (h n (Nat.lt_succ_self n))
      have h4 : BB * BB ^ (200 - n) = BB ^ (200 - n + 1) := by rw [Nat.pow_succ, Nat.mul_comm]
      have h5 : BB ^ (200 - n + 1) ≤ BB ^ 201 := Nat.pow_le_pow_right (by decide) (by omega)
      omega
    have h6 : (n + 1) * BB ^ 201 = n * BB ^ 201 + BB ^ 201 := Nat.succ_mul _ _
    omega
theorem mu_bg {r : Nat → Nat} {n : Nat} (hn : n ≤ 200) (h : ∀ j, j < n → r j + 1 ≤ BB) : mu r n < BG := by
  have h1 := mu_le h
  have h2 : n * BB ^ 201 ≤ 201 * BB ^ 201 := Nat.mul_le_mul_right _ (by omega)
  unfold BG
  omega
theorem mu_dec {r r' : Nat → Nat} {n : Nat} (h1 : ∀ j, j < n → r' j = r j) (h2 : r' n < r n) : mu r' (n + 1) < mu r (n + 1) := by
  simp only [mu]
  rw [mu_c h1]
  have := Nat.mul_lt_mul_of_pos_right (by omega : r' n + 1 < r n + 1) (BB_pos (200 - n))
  omega
theorem mu_ret {r r' : Nat → Nat} {n : Nat} (h1 : ∀ j, j < n → r' j = r j) : mu r' n < mu r (n + 1) := by
  simp only [mu]
  rw [mu_c h1]
  have := Nat.mul_pos (by omega : 0 < r n + 1) (BB_pos (200 - n))
  omega
theorem mu_call {r r' : Nat → Nat} {n : Nat} (hn : n + 1 ≤ 200) (h1 : ∀ j, j < n → r' j = r j) (h2 : r' n < r n) (h3 : r' (n + 1) + 1 < BB) : mu r' (n + 2) < mu r (n + 1) := by
  simp only [mu]
  rw [mu_c h1]
  have h4 : (r' (n + 1) + 1) * BB ^ (200 - (n + 1)) < BB ^ (200 - n) := by
    have h5 : BB ^ (200 - n) = BB * BB ^ (200 - (n + 1)) := by
      have : 200 - n = 200 - (n + 1) + 1 := by omega
      rw [this, Nat.pow_succ, Nat.mul_comm]
    rw [h5]
    exact Nat.mul_lt_mul_of_pos_right h3 (BB_pos _)
  have h6 : (r' n + 1) * BB ^ (200 - n) + BB ^ (200 - n) ≤ (r n + 1) * BB ^ (200 - n) := by
    have := Nat.mul_le_mul_right (BB ^ (200 - n)) (by omega : r' n + 1 + 1 ≤ r n + 1)
    rw [Nat.succ_mul] at this
    exact this
  omega
def rr (m : MS) (EE : Int → Int) (n : Int) (j : Nat) : Nat := (EE j * 6000 + 5999 - (if (j : Int) = n - 1 then m 98 0 else m 94 (j + 1))).toNat
def MU (m : MS) (EE : Int → Int) (n : Int) : Nat := (m 99 0 - m 100 0).toNat * BG + mu (rr m EE n) n.toNat
theorem ty_rng {c : IC} {W : EV} {ly : LY} {A r i d : Int} {S : Sh} (h : TY (Nm c W ly A r) i S d) : 0 ≤ i ∧ i < 6000 ∧ hs S ≤ 345 ∧ 0 ≤ d ∧ d ≤ 30 := by
  obtain ⟨L, h1, h2⟩ := ty_step nxo_m h
  exact ⟨h1.1, h1.2.1, h1.2.2.1, h1.2.2.2.1, h1.2.2.2.2.1⟩
theorem ini_of {x : Int} (h1 : -2147483648 ≤ x) (h2 : x ≤ 2147483647) : InI x := ⟨h1, h2⟩
theorem i32_r {x : Int} (h1 : -2147483648 ≤ x) (h2 : x ≤ 2147483647) : i32 x = x := i32_of ⟨h1, h2⟩
theorem i64_r {x : Int} (h1 : -9223372036854775808 ≤ x) (h2 : x ≤ 9223372036854775807) : i64 x = x := i64_of ⟨h1, h2⟩
theorem ck_ok {α : Type} {i n : Int} {o : Option α} (h1 : 0 ≤ i) (h2 : i < n) : ck i n o = o := if_pos ⟨h1, h2⟩
theorem nb_ok {α : Type} {o : Option MS} {m : MS} {k : MS → Option α} (h : o = some m) : nb o k = k m := by rw [h]; rfl
theorem vb_ok {α : Type} {o : Option (Int × MS)} {v : Int} {m : MS} {k : Int → MS → Option α} (h : o = some (v, m)) : vb o k = k v m := by rw [h]; rfl
theorem pop_ok {m : MS} (h1 : 1 ≤ m 97 0) (h2 : m 97 0 ≤ 70000) : m_pop m = some (m 96 (m 97 0 - 1), mset m 97 0 (m 97 0 - 1)) := by
  dsimp only [m_pop, wlet]
  rw [i32_r (by omega) (by omega), mset_eq, ck_ok (by omega) (by omega), mset_f (by decide)]
theorem push_ok {m : MS} {v : Int} (h1 : 0 ≤ m 97 0) (h2 : m 97 0 < 70000) : m_push v m = some (mset (mset m 96 (m 97 0) v) 97 0 (m 97 0 + 1)) := by
  dsimp only [m_push, wlet]
  rw [ck_ok h1 h2, mset_f (by decide), i32_r (by omega) (by omega)]
def Dn (m m' : MS) : Prop := 0 ≤ m' 101 0 ∧ PF m m' ∧ 0 ≤ m' 84 0 ∧ m' 84 0 ≤ 1500
theorem stop_ok {m : MS} {l : Int} (h1 : 1 ≤ m 89 0) (h2 : m 89 0 ≤ 200) : ∃ v, m_stop l m = some (mset (mset m 101 0 l) 102 0 v) := by
  dsimp only [m_stop, wlet, m_stop_37, m_stop_38]
  rw [mset_f (by decide), i32_r (by omega) (by omega)]
  split
  · split
    · split
      · rw [ck_ok (by omega) (by omega)]
        exact ⟨_, rfl⟩
      · exact ⟨_, rfl⟩
    · exact ⟨_, rfl⟩
  · exact ⟨_, rfl⟩
theorem wrong_0 {m : MS} {l : Int} : m_isWrong 0 l m = some (0, m) := rfl
theorem wrong_1 {m : MS} {x l : Int} (hx : x ≠ 0) (h1 : 1 ≤ m 89 0) (h2 : m 89 0 ≤ 200) : ∃ v, m_isWrong x l m = some (x, mset (mset m 101 0 l) 102 0 v) := by
  obtain ⟨v, hv⟩ := stop_ok (l := l) h1 h2
  refine ⟨v, ?_⟩
  dsimp only [m_isWrong, m_isWrong_9]
  rw [if_neg hx, nb_ok hv]
theorem out_ok {m : MS} {v l h : Int} : (l ≤ v ∧ v ≤ h ∧ m_isOut v l h m = some (0, m)) ∨ m_isOut v l h m = some (1, m) := by
  dsimp only [m_isOut, m_isOut_14, m_isOut_19]
  by_cases h1 : v < l
  · rw [if_pos h1]
    exact Or.inr rfl
  · by_cases h2 : h < v
    · rw [if_neg h1, if_pos h2]
      exact Or.inr rfl
    · rw [if_neg h1, if_neg h2]
      exact Or.inl ⟨by omega, by omega, rfl⟩
def iup {α : Type} (F : Int → α) (n : Int) (v : α) : Int → α := fun j => if j = n then v else F j
theorem iup_eq {α : Type} {F : Int → α} {n : Int} {v : α} : iup F n v n = v := if_pos rfl
theorem iup_ne {α : Type} {F : Int → α} {n j : Int} {v : α} (h : j ≠ n) : iup F n v j = F j := if_neg h
/-- the state behind an instruction that leaves the frames as they are -/
theorem ri_top {m m' : MS} {W : EV} {ly : LY} {A : Int} {Th : Int → Sl} {SS : Int → Sh} {HB EE : Int → Int} {n : Int} {S' : Sh} {e' : Int} (hR : RI m W ly A Th SS HB EE n) (hp : PF m m')
    (hf : ∀ f, f = 87 ∨ f = 89 ∨ f = 91 ∨ f = 92 ∨ f = 93 ∨ f = 94 → m' f = m f) (hC : CL m' Th (m 87 0)) (hst : ∀ i, i < HB (n - 1) → m' 96 i = m 96 i)
    (hM : Ms (m' 96) Th (m 87 0) S' (m' 97 0) (HB (n - 1))) (hT : TY (Nm (rcd m) W ly A (m 93 (n - 1))) (m' 98 0) S' e')
    (hio : 0 ≤ m' 82 0 ∧ m' 82 0 ≤ m 81 0 ∧ 0 ≤ m' 84 0 ∧ m' 84 0 ≤ 1500) (hsc : 0 ≤ m' 100 0 ∧ m' 100 0 ≤ m 99 0 ∧ m' 99 0 = m 99 0) : RI m' W ly A Th (iup SS (n - 1) S') HB (iup EE (n - 1) e') n := by
  obtain ⟨h1, ⟨b1, b2, b3, b4, b5⟩, h3, h4, h5, h6, h7, h8, h9, h10, h11, h12⟩ := hR
  have f87 := hf 87 (by decide)
  have f89 := hf 89 (by decide)
  have f91 := hf 91 (by decide)
  have f92 := hf 92 (by decide)
  have f93 := hf 93 (by decide)
  have f94 := hf 94 (by decide)
  refine ⟨hp.pg h1, ⟨by rw [f91]; exact b1, by rw [f93]; exact b2, b3, by rw [f91, f92, f93]; exact b4, fun j j1 j2 => ?_⟩, h3, h4, by rw [f89]; exact h5, by rw [f87, f91, f93]; exact h6, by rw [f87]; exact h7, by rw [f87]; exact hC, ?_, ?_, ?_, ?_⟩
  · rw [hp.rc, f91, f93, f94]
    obtain ⟨k1, k2, k3⟩ := b5 j j1 j2
    rw [iup_ne (by omega), iup_ne (by omega)]
    refine ⟨k1, k2, ms_c (Int.le_refl _) (fun _ _ => rfl) (fun i hi => hst i ?_) k3⟩
    have : HB (j + 1) ≤ HB (n - 1) := by
      have key : ∀ k : Nat, j + 1 + k ≤ n - 1 → HB (j + 1) ≤ HB (j + 1 + k) := by
        intro k
        induction k with
        | zero => intro _; rw [Int.ofNat_zero, Int.add_zero]; exact Int.le_refl _
        | succ k ih =>
          intro hk
          have q := ms_h (b5 (j + 1 + k) (by omega) (by omega)).2.2
          have q2 := hs_nn (SS (j + 1 + k))
          have q3 := ih (by omega)
          have q4 : j + 1 + ((k + 1 : Nat) : Int) = j + 1 + k + 1 := by omega
          rw [q4]
          omega
      have := key (n - 1 - (j + 1)).toNat (by omega)
      have e1 : j + 1 + ((n - 1 - (j + 1)).toNat : Int) = n - 1 := by omega
      rw [e1] at this
      exact this
    omega
  · rw [f87, iup_eq]
    exact hM
  · rw [hp.rc, f93, iup_eq, iup_eq]
    exact hT
  · rw [hp 81 (by decide) (by decide)]
    exact ⟨hio.1, hio.2.1, h11.2.2.1, hio.2.2⟩
  · rw [hsc.2.2]
    exact ⟨hsc.1, hsc.2.1, h12.2.2⟩
theorem rr_b {m : MS} {W : EV} {ly : LY} {A : Int} {Th : Int → Sl} {SS : Int → Sh} {HB EE : Int → Int} {n : Int} (hR : RI m W ly A Th SS HB EE n) (j : Nat) (hj : j < n.toNat) : rr m EE n j + 1 < BB := by
  obtain ⟨h1, ⟨b1, b2, b3, b4, b5⟩, h3, h4, h5, h6, h7, h8, h9, h10, h11, h12⟩ := hR
  unfold rr BB
  by_cases hh : (j : Int) = n - 1
  · rw [if_pos hh, hh]
    have := ty_rng h10
    omega
  · rw [if_neg hh]
    have := ty_rng (b5 j (by omega) (by omega)).2.1
    omega
/-- nearer to the end: the frames as they were, and either a step, or further on -/
theorem mu_top {m m' : MS} {W : EV} {ly : LY} {A : Int} {Th Th' : Int → Sl} {SS SS' : Int → Sh} {HB HB' EE : Int → Int} {n : Int} {e' : Int} (hR : RI m W ly A Th SS HB EE n) (hR' : RI m' W ly A Th' SS' HB' (iup EE (n - 1) e') n) (h94 : m' 94 = m 94) (h99 : m' 99 0 = m 99 0)
    (hd : (m' 100 0 = m 100 0 ∧ rnk (m 98 0) (EE (n - 1)) (m' 98 0) e') ∨ m' 100 0 = m 100 0 + 1) : MU m' (iup EE (n - 1) e') n < MU m EE n := by
  have hn : 1 ≤ n ∧ n ≤ 200 := ⟨hR.2.2.1, hR.2.2.2.1⟩
  have hT := ty_rng hR.2.2.2.2.2.2.2.2.2.1
  have hT' := ty_rng hR'.2.2.2.2.2.2.2.2.2.1
  rw [iup_eq] at hT'
  have hs := hR.2.2.2.2.2.2.2.2.2.2.2
  have hs' := hR'.2.2.2.2.2.2.2.2.2.2.2
  unfold MU
  rw [h99]
  rcases hd with ⟨h1, h2⟩ | h1
  · rw [h1]
    obtain ⟨k, hk⟩ : ∃ k : Nat, n.toNat = k + 1 := ⟨n.toNat - 1, by omega⟩
    rw [hk]
    refine Nat.add_lt_add_left (mu_dec (fun j hj => ?_) ?_) _
    · unfold rr
      rw [if_neg (by omega), if_neg (by omega), h94, iup_ne (by omega)]
    · unfold rr
      rw [if_pos (by omega), if_pos (by omega)]
      have e1 : (k : Int) = n - 1 := by omega
      rw [e1, iup_eq]
      unfold rnk at h2
      omega
  · have h2 : mu (rr m' (iup EE (n - 1) e') n) n.toNat < BG := mu_bg (by omega) (fun j hj => Nat.le_of_lt (rr_b hR' j hj))
    have h3 : (m 99 0 - m 100 0).toNat = (m 99 0 - m' 100 0).toNat + 1 := by omega
    rw [h3, Nat.succ_mul]
    omega
