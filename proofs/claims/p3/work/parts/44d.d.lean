section Dec
variable {O : ROld} {F : RFacts}
def m_types_35 (g : Nat) (rec0 : MS → Option MS) (m : MS) : Option MS := nb (m_want g 21 m) (fun m27 => if (m27 10 0) = 1 then rec0 m27 else some m27)
theorem c_m_types_35_b {dd : Nat} (hd : 7 ≤ dd) {g : Nat} {h0 : RHeap} {mF : MS} {rec0 : MS → Option MS} (hrec0 : ∀ {la : RLoc} {h : RHeap} {m : MS}, rx_look la 0 = some (.ref 170) → RM h0 h m → rec0 m = some mF → Wq O F (Cd O F rp_P dd) (2, 0, rw_X12_types, []) (rx_at rw_X12_types 0) la [] h (QN h0 mF)) {la : RLoc} {h : RHeap} {m : MS} (k0 : rx_look la 0 = some (.ref 170)) (hr : RM h0 h m) (hD : m_types_35 g rec0 m = some mF) : Wq O F (Cd O F rp_P dd) (2, 0, rw_X12_types, []) (rx_at rw_X12_types 35) la [] h (QN h0 mF) := by
  unfold m_types_35 at hD
  refine wq_aload_n k0 rfl ?_
  refine wq_bipush (by decide) rfl ?_
  obtain ⟨m27, q30, hD⟩ := nb_of hD
  refine wm_cvN hr (c_want (by omega) hr ⟨by decide, by decide⟩ q30) rfl rfl rfl (fun h28 hr29 => ?_)
  refine wq_aload_n k0 rfl ?_
  refine wm_gfi hr29 rfl rfl (fun pp31 => ?_)
  refine wq_iconst rfl ?_
  refine wq_icmp_eq pp31 ⟨by decide, by decide⟩ rfl rfl rfl (fun c32 => ?_) (fun c32 => ?_)
  · rw [if_pos c32] at hD
    refine wq_goto rfl rfl ?_
    exact hrec0 k0 hr29 hD
  · rw [if_neg c32] at hD
    cases hD
    exact wq_return rfl ⟨_, rfl, hr29⟩
def m_types_0 (g : Nat) : Nat → MS → Option MS
  | 0, _ => none
  | n + 1, m => if (m 6 0) = 0 then vb (m_declare g 1 m) (fun v7 m3 => nb (m_want g 13 m3) (fun m13 => nb (m_type g m13) (fun m17 => if (m17 6 0) = 0 then nb (m_become v7 m17) (fun m23 => m_types_35 g (m_types_0 g n) m23) else m_types_35 g (m_types_0 g n) m17))) else some m
theorem c_m_types_0 {dd : Nat} (hd : 7 ≤ dd) {g : Nat} {h0 : RHeap} {mF : MS} : ∀ (n : Nat) {la : RLoc} {h : RHeap} {m : MS}, rx_look la 0 = some (.ref 170) → RM h0 h m → m_types_0 g n m = some mF → Wq O F (Cd O F rp_P dd) (2, 0, rw_X12_types, []) (rx_at rw_X12_types 0) la [] h (QN h0 mF) := by
  intro n
  induction n with
  | zero =>
    intro la h m k0 hr hD
    unfold m_types_0 at hD
    cases hD
  | succ n ih =>
    intro la h m k0 hr hD
    unfold m_types_0 at hD
    refine wq_aload_n k0 rfl ?_
    refine wm_gfi hr rfl rfl (fun pp1 => ?_)
    refine wq_if_ne pp1 rfl rfl rfl (fun c2 => ?_) (fun c2 => ?_)
    · rw [if_neg c2] at hD
      cases hD
      exact wq_return rfl ⟨_, rfl, hr⟩
    · rw [if_pos c2] at hD
      refine wq_aload_n k0 rfl ?_
      refine wq_iconst rfl ?_
      obtain ⟨v7, m3, q6, hD⟩ := vb_of hD
      refine wm_cvI hr (c_declare (by omega) hr ⟨by decide, by decide⟩ q6) rfl rfl rfl (fun h4 hr5 pp8 => ?_)
      refine wl_istore_n rfl rfl (fun la9 kk10 t11 => ?_)
      have kk12 := t11 0 _ (by decide) (Or.inr rfl) k0
      refine wq_aload_n kk12 rfl ?_
      refine wq_bipush (by decide) rfl ?_
      obtain ⟨m13, q16, hD⟩ := nb_of hD
      refine wm_cvN hr5 (c_want (by omega) hr5 ⟨by decide, by decide⟩ q16) rfl rfl rfl (fun h14 hr15 => ?_)
      refine wq_aload_n kk12 rfl ?_
      obtain ⟨m17, q20, hD⟩ := nb_of hD
      refine wm_cvN hr15 (c_type (by omega) hr15 q20) rfl rfl rfl (fun h18 hr19 => ?_)
      refine wq_aload_n kk12 rfl ?_
      refine wm_gfi hr19 rfl rfl (fun pp21 => ?_)
      refine wq_if_ne pp21 rfl rfl rfl (fun c22 => ?_) (fun c22 => ?_)
      · rw [if_neg c22] at hD
        exact c_m_types_35_b hd ih kk12 hr19 hD
      · rw [if_pos c22] at hD
        refine wq_aload_n kk12 rfl ?_
        refine wq_iload_n kk10 rfl ?_
        obtain ⟨m23, q26, hD⟩ := nb_of hD
        refine wm_cvN hr19 (c_become (by omega) hr19 pp8 q26) rfl rfl rfl (fun h24 hr25 => ?_)
        exact c_m_types_35_b hd ih kk12 hr25 hD
def m_types (g : Nat) (m : MS) : Option MS := m_types_0 g g m
theorem c_types {d : Nat} (hd : 8 ≤ d) {g : Nat} {h0 h : RHeap} {m : MS} {mF : MS} (hr : RM h0 h m) (hD : m_types g m = some mF) : Cq (Cd O F rp_P d) 292 [.ref 170] h (QN h0 mF) := by
  refine cq_of (I := (2, 0, rw_X12_types, [])) rfl rfl (by omega) ?_
  exact c_m_types_0 (by omega) g rfl hr hD
def m_nameRow_35 (g : Nat) (l1 : Int) (m : MS) : Option (Int × MS) := some (l1, m)
theorem c_m_nameRow_35_b {dd : Nat} (hd : 4 ≤ dd) {g : Nat} {h0 : RHeap} {vF : Int} {mF : MS} {la : RLoc} {h : RHeap} {m : MS} {l1 : Int} (k1 : rx_look la 1 = some (wvi l1)) (hr : RM h0 h m) (pl1 : InI l1) (hD : m_nameRow_35 g l1 m = some (vF, mF)) : Wq O F (Cd O F rp_P dd) (3, 1, rw_X12_nameRow, []) (rx_at rw_X12_nameRow 35) la [] h (QV 0 h0 vF mF) := by
  unfold m_nameRow_35 at hD
  refine wq_iload_n k1 rfl ?_
  cases hD
  exact wq_ireturn rfl ⟨_, rfl, hr, pl1⟩
def m_nameRow_6 (g : Nat) : Nat → Int → MS → Option (Int × MS)
  | 0, _, _ => none
  | n + 1, l1, m => if (m 6 0) = 0 then if (m 10 0) = 20 then nb (m_take g m) (fun m15 => vb (m_declare g 2 m15) (fun v23 m19 => m_nameRow_6 g n l1 m19)) else m_nameRow_35 g l1 m else m_nameRow_35 g l1 m
theorem c_m_nameRow_6 {dd : Nat} (hd : 4 ≤ dd) {g : Nat} {h0 : RHeap} {vF : Int} {mF : MS} : ∀ (n : Nat) {la : RLoc} {h : RHeap} {m : MS} {l1 : Int}, rx_look la 0 = some (.ref 170) → rx_look la 1 = some (wvi l1) → RM h0 h m → InI l1 → m_nameRow_6 g n l1 m = some (vF, mF) → Wq O F (Cd O F rp_P dd) (3, 1, rw_X12_nameRow, []) (rx_at rw_X12_nameRow 6) la [] h (QV 0 h0 vF mF) := by
  intro n
  induction n with
  | zero =>
    intro la h m l1 k0 k1 hr pl1 hD
    unfold m_nameRow_6 at hD
    cases hD
  | succ n ih =>
    intro la h m l1 k0 k1 hr pl1 hD
    unfold m_nameRow_6 at hD
    refine wq_aload_n k0 rfl ?_
    refine wm_gfi hr rfl rfl (fun pp11 => ?_)
    refine wq_if_ne pp11 rfl rfl rfl (fun c12 => ?_) (fun c12 => ?_)
    · rw [if_neg c12] at hD
      exact c_m_nameRow_35_b hd k1 hr pl1 hD
    · rw [if_pos c12] at hD
      refine wq_aload_n k0 rfl ?_
      refine wm_gfi hr rfl rfl (fun pp13 => ?_)
      refine wq_bipush (by decide) rfl ?_
      refine wq_icmp_ne pp13 ⟨by decide, by decide⟩ rfl rfl rfl (fun c14 => ?_) (fun c14 => ?_)
      · rw [if_neg c14] at hD
        exact c_m_nameRow_35_b hd k1 hr pl1 hD
      · rw [if_pos c14] at hD
        refine wq_aload_n k0 rfl ?_
        obtain ⟨m15, q18, hD⟩ := nb_of hD
        refine wm_cvN hr (c_take (by omega) hr q18) rfl rfl rfl (fun h16 hr17 => ?_)
        refine wq_aload_n k0 rfl ?_
        refine wq_iconst rfl ?_
        obtain ⟨v23, m19, q22, hD⟩ := vb_of hD
        refine wm_cvI hr17 (c_declare (by omega) hr17 ⟨by decide, by decide⟩ q22) rfl rfl rfl (fun h20 hr21 pp24 => ?_)
        refine wl_istore_n rfl rfl (fun la25 kk26 t27 => ?_)
        have kk28 := t27 0 _ (by decide) (Or.inr rfl) k0
        have kk29 := t27 1 _ (by decide) (Or.inr rfl) k1
        refine wq_goto rfl rfl ?_
        exact ih kk28 kk29 hr21 pl1 hD
def m_nameRow (g : Nat) (m : MS) : Option (Int × MS) := vb (m_declare g 2 m) (fun v5 m1 => m_nameRow_6 g g v5 m1)
theorem c_m_nameRow_b {dd : Nat} (hd : 4 ≤ dd) {g : Nat} {h0 : RHeap} {vF : Int} {mF : MS} {la : RLoc} {h : RHeap} {m : MS} (k0 : rx_look la 0 = some (.ref 170)) (hr : RM h0 h m) (hD : m_nameRow g m = some (vF, mF)) : Wq O F (Cd O F rp_P dd) (3, 1, rw_X12_nameRow, []) (rx_at rw_X12_nameRow 0) la [] h (QV 0 h0 vF mF) := by
  unfold m_nameRow at hD
  refine wq_aload_n k0 rfl ?_
  refine wq_iconst rfl ?_
  obtain ⟨v5, m1, q4, hD⟩ := vb_of hD
  refine wm_cvI hr (c_declare (by omega) hr ⟨by decide, by decide⟩ q4) rfl rfl rfl (fun h2 hr3 pp6 => ?_)
  refine wl_istore_n rfl rfl (fun la7 kk8 t9 => ?_)
  have kk10 := t9 0 _ (by decide) (Or.inr rfl) k0
  exact c_m_nameRow_6 hd g kk10 kk8 hr3 pp6 hD
theorem c_nameRow {d : Nat} (hd : 5 ≤ d) {g : Nat} {h0 h : RHeap} {m : MS} {vF : Int} {mF : MS} (hr : RM h0 h m) (hD : m_nameRow g m = some (vF, mF)) : Cq (Cd O F rp_P d) 250 [.ref 170] h (QV 0 h0 vF mF) := by
  refine cq_of (I := (3, 1, rw_X12_nameRow, [])) rfl rfl (by omega) ?_
  exact c_m_nameRow_b (by omega) rfl hr hD
def m_variables_55 (g : Nat) (rec0 : MS → Option MS) (m : MS) : Option MS := nb (m_want g 21 m) (fun m41 => if (m41 10 0) = 1 then rec0 m41 else some m41)
theorem c_m_variables_55_b {dd : Nat} (hd : 7 ≤ dd) {g : Nat} {h0 : RHeap} {mF : MS} {rec0 : MS → Option MS} (hrec0 : ∀ {la : RLoc} {h : RHeap} {m : MS}, rx_look la 0 = some (.ref 170) → RM h0 h m → rec0 m = some mF → Wq O F (Cd O F rp_P dd) (3, 0, rw_X12_variables, []) (rx_at rw_X12_variables 0) la [] h (QN h0 mF)) {la : RLoc} {h : RHeap} {m : MS} (k0 : rx_look la 0 = some (.ref 170)) (hr : RM h0 h m) (hD : m_variables_55 g rec0 m = some mF) : Wq O F (Cd O F rp_P dd) (3, 0, rw_X12_variables, []) (rx_at rw_X12_variables 55) la [] h (QN h0 mF) := by
  unfold m_variables_55 at hD
  refine wq_aload_n k0 rfl ?_
  refine wq_bipush (by decide) rfl ?_
  obtain ⟨m41, q44, hD⟩ := nb_of hD
  refine wm_cvN hr (c_want (by omega) hr ⟨by decide, by decide⟩ q44) rfl rfl rfl (fun h42 hr43 => ?_)
  refine wq_aload_n k0 rfl ?_
  refine wm_gfi hr43 rfl rfl (fun pp45 => ?_)
  refine wq_iconst rfl ?_
  refine wq_icmp_eq pp45 ⟨by decide, by decide⟩ rfl rfl rfl (fun c46 => ?_) (fun c46 => ?_)
  · rw [if_pos c46] at hD
    refine wq_goto rfl rfl ?_
    exact hrec0 k0 hr43 hD
  · rw [if_neg c46] at hD
    cases hD
    exact wq_return rfl ⟨_, rfl, hr43⟩
def m_variables_24 (g : Nat) (rec0 : MS → Option MS) : Nat → Int → MS → Option MS
  | 0, _, _ => none
  | n + 1, l2, m => if l2 < (m 15 0) then if (m 6 0) = 0 then nb (m_become l2 m) (fun m29 => nb (m_seat l2 m29) (fun m33 => m_variables_24 g rec0 n (i32 (l2 + 1)) m33)) else m_variables_55 g rec0 m else m_variables_55 g rec0 m
theorem c_m_variables_24 {dd : Nat} (hd : 7 ≤ dd) {g : Nat} {h0 : RHeap} {mF : MS} {rec0 : MS → Option MS} (hrec0 : ∀ {la : RLoc} {h : RHeap} {m : MS}, rx_look la 0 = some (.ref 170) → RM h0 h m → rec0 m = some mF → Wq O F (Cd O F rp_P dd) (3, 0, rw_X12_variables, []) (rx_at rw_X12_variables 0) la [] h (QN h0 mF)) : ∀ (n : Nat) {la : RLoc} {h : RHeap} {m : MS} {l2 : Int}, rx_look la 0 = some (.ref 170) → rx_look la 2 = some (wvi l2) → RM h0 h m → InI l2 → m_variables_24 g rec0 n l2 m = some mF → Wq O F (Cd O F rp_P dd) (3, 0, rw_X12_variables, []) (rx_at rw_X12_variables 24) la [] h (QN h0 mF) := by
  intro n
  induction n with
  | zero =>
    intro la h m l2 k0 k2 hr pl2 hD
    unfold m_variables_24 at hD
    cases hD
  | succ n ih =>
    intro la h m l2 k0 k2 hr pl2 hD
    unfold m_variables_24 at hD
    refine wq_iload_n k2 rfl ?_
    refine wq_aload_n k0 rfl ?_
    refine wm_gfi hr rfl rfl (fun pp25 => ?_)
    refine wq_icmp_ge pl2 pp25 rfl rfl rfl (fun c26 => ?_) (fun c26 => ?_)
    · rw [if_neg (Int.not_lt.mpr c26)] at hD
      exact c_m_variables_55_b hd hrec0 k0 hr hD
    · rw [if_pos c26] at hD
      refine wq_aload_n k0 rfl ?_
      refine wm_gfi hr rfl rfl (fun pp27 => ?_)
      refine wq_if_ne pp27 rfl rfl rfl (fun c28 => ?_) (fun c28 => ?_)
      · rw [if_neg c28] at hD
        exact c_m_variables_55_b hd hrec0 k0 hr hD
      · rw [if_pos c28] at hD
        refine wq_aload_n k0 rfl ?_
        refine wq_iload_n k2 rfl ?_
        obtain ⟨m29, q32, hD⟩ := nb_of hD
        refine wm_cvN hr (c_become (by omega) hr pl2 q32) rfl rfl rfl (fun h30 hr31 => ?_)
        refine wq_aload_n k0 rfl ?_
        refine wq_iload_n k2 rfl ?_
        obtain ⟨m33, q36, hD⟩ := nb_of hD
        refine wm_cvN hr31 (c_seat (by omega) hr31 pl2 q36) rfl rfl rfl (fun h34 hr35 => ?_)
        refine wl_iinc k2 rfl rfl (fun la37 kk38 t39 => ?_)
        have kk40 := t39 0 _ (by decide) (Or.inr rfl) k0
        refine wq_goto rfl rfl ?_
        exact ih kk40 kk38 hr35 (InI_i32 _) hD
def m_variables_0 (g : Nat) : Nat → MS → Option MS
  | 0, _ => none
  | n + 1, m => if (m 6 0) = 0 then vb (m_nameRow g m) (fun v7 m3 => nb (m_want g 22 m3) (fun m13 => nb (m_type g m13) (fun m17 => m_variables_24 g (m_variables_0 g n) g v7 m17))) else some m
theorem c_m_variables_0 {dd : Nat} (hd : 7 ≤ dd) {g : Nat} {h0 : RHeap} {mF : MS} : ∀ (n : Nat) {la : RLoc} {h : RHeap} {m : MS}, rx_look la 0 = some (.ref 170) → RM h0 h m → m_variables_0 g n m = some mF → Wq O F (Cd O F rp_P dd) (3, 0, rw_X12_variables, []) (rx_at rw_X12_variables 0) la [] h (QN h0 mF) := by
  intro n
  induction n with
  | zero =>
    intro la h m k0 hr hD
    unfold m_variables_0 at hD
    cases hD
  | succ n ih =>
    intro la h m k0 hr hD
    unfold m_variables_0 at hD
    refine wq_aload_n k0 rfl ?_
    refine wm_gfi hr rfl rfl (fun pp1 => ?_)
    refine wq_if_ne pp1 rfl rfl rfl (fun c2 => ?_) (fun c2 => ?_)
    · rw [if_neg c2] at hD
      cases hD
      exact wq_return rfl ⟨_, rfl, hr⟩
    · rw [if_pos c2] at hD
      refine wq_aload_n k0 rfl ?_
      obtain ⟨v7, m3, q6, hD⟩ := vb_of hD
      refine wm_cvI hr (c_nameRow (by omega) hr q6) rfl rfl rfl (fun h4 hr5 pp8 => ?_)
      refine wl_istore_n rfl rfl (fun la9 kk10 t11 => ?_)
      have kk12 := t11 0 _ (by decide) (Or.inr rfl) k0
      refine wq_aload_n kk12 rfl ?_
      refine wq_bipush (by decide) rfl ?_
      obtain ⟨m13, q16, hD⟩ := nb_of hD
      refine wm_cvN hr5 (c_want (by omega) hr5 ⟨by decide, by decide⟩ q16) rfl rfl rfl (fun h14 hr15 => ?_)
      refine wq_aload_n kk12 rfl ?_
      obtain ⟨m17, q20, hD⟩ := nb_of hD
      refine wm_cvN hr15 (c_type (by omega) hr15 q20) rfl rfl rfl (fun h18 hr19 => ?_)
      refine wq_iload_n kk10 rfl ?_
      refine wl_istore_n rfl rfl (fun la21 kk22 t23 => ?_)
      have kk24 := t23 0 _ (by decide) (Or.inr rfl) kk12
      exact c_m_variables_24 hd ih g kk24 kk22 hr19 pp8 hD
def m_variables (g : Nat) (m : MS) : Option MS := m_variables_0 g g m
theorem c_variables {d : Nat} (hd : 8 ≤ d) {g : Nat} {h0 h : RHeap} {m : MS} {mF : MS} (hr : RM h0 h m) (hD : m_variables g m = some mF) : Cq (Cd O F rp_P d) 294 [.ref 170] h (QN h0 mF) := by
  refine cq_of (I := (3, 0, rw_X12_variables, [])) rfl rfl (by omega) ?_
  exact c_m_variables_0 (by omega) g rfl hr hD
def m_block_65 (g : Nat) (m : MS) : Option MS := nb (m_later 2 m) (fun m35 => some m35)
theorem c_m_block_65_b {dd : Nat} (hd : 8 ≤ dd) {g : Nat} {h0 : RHeap} {mF : MS} {la : RLoc} {h : RHeap} {m : MS} (k0 : rx_look la 0 = some (.ref 170)) (hr : RM h0 h m) (hD : m_block_65 g m = some mF) : Wq O F (Cd O F rp_P dd) (1, 0, rw_X12_block, []) (rx_at rw_X12_block 65) la [] h (QN h0 mF) := by
  unfold m_block_65 at hD
  refine wq_aload_n k0 rfl ?_
  refine wq_iconst rfl ?_
  obtain ⟨m35, q38, hD⟩ := nb_of hD
  refine wm_cvN hr (c_later (by omega) hr ⟨by decide, by decide⟩ q38) rfl rfl rfl (fun h36 hr37 => ?_)
  cases hD
  exact wq_return rfl ⟨_, rfl, hr37⟩
def m_block_41 (g : Nat) (m : MS) : Option MS := if (m 6 0) = 0 then if (m 10 0) = 32 then nb (m_take g m) (fun m27 => nb (m_variables g m27) (fun m31 => m_block_65 g m31)) else m_block_65 g m else m_block_65 g m
theorem c_m_block_41_b {dd : Nat} (hd : 8 ≤ dd) {g : Nat} {h0 : RHeap} {mF : MS} {la : RLoc} {h : RHeap} {m : MS} (k0 : rx_look la 0 = some (.ref 170)) (hr : RM h0 h m) (hD : m_block_41 g m = some mF) : Wq O F (Cd O F rp_P dd) (1, 0, rw_X12_block, []) (rx_at rw_X12_block 41) la [] h (QN h0 mF) := by
  unfold m_block_41 at hD
  refine wq_aload_n k0 rfl ?_
  refine wm_gfi hr rfl rfl (fun pp23 => ?_)
  refine wq_if_ne pp23 rfl rfl rfl (fun c24 => ?_) (fun c24 => ?_)
  · rw [if_neg c24] at hD
    exact c_m_block_65_b hd k0 hr hD
  · rw [if_pos c24] at hD
    refine wq_aload_n k0 rfl ?_
    refine wm_gfi hr rfl rfl (fun pp25 => ?_)
    refine wq_bipush (by decide) rfl ?_
    refine wq_icmp_ne pp25 ⟨by decide, by decide⟩ rfl rfl rfl (fun c26 => ?_) (fun c26 => ?_)
    · rw [if_neg c26] at hD
      exact c_m_block_65_b hd k0 hr hD
    · rw [if_pos c26] at hD
      refine wq_aload_n k0 rfl ?_
      obtain ⟨m27, q30, hD⟩ := nb_of hD
      refine wm_cvN hr (c_take (by omega) hr q30) rfl rfl rfl (fun h28 hr29 => ?_)
      refine wq_aload_n k0 rfl ?_
      obtain ⟨m31, q34, hD⟩ := nb_of hD
      refine wm_cvN hr29 (c_variables (by omega) hr29 q34) rfl rfl rfl (fun h32 hr33 => ?_)
      exact c_m_block_65_b hd k0 hr33 hD
def m_block_17 (g : Nat) (m : MS) : Option MS := if (m 6 0) = 0 then if (m 10 0) = 31 then nb (m_take g m) (fun m15 => nb (m_types g m15) (fun m19 => m_block_41 g m19)) else m_block_41 g m else m_block_41 g m
theorem c_m_block_17_b {dd : Nat} (hd : 8 ≤ dd) {g : Nat} {h0 : RHeap} {mF : MS} {la : RLoc} {h : RHeap} {m : MS} (k0 : rx_look la 0 = some (.ref 170)) (hr : RM h0 h m) (hD : m_block_17 g m = some mF) : Wq O F (Cd O F rp_P dd) (1, 0, rw_X12_block, []) (rx_at rw_X12_block 17) la [] h (QN h0 mF) := by
  unfold m_block_17 at hD
  refine wq_aload_n k0 rfl ?_
  refine wm_gfi hr rfl rfl (fun pp11 => ?_)
  refine wq_if_ne pp11 rfl rfl rfl (fun c12 => ?_) (fun c12 => ?_)
  · rw [if_neg c12] at hD
    exact c_m_block_41_b hd k0 hr hD
  · rw [if_pos c12] at hD
    refine wq_aload_n k0 rfl ?_
    refine wm_gfi hr rfl rfl (fun pp13 => ?_)
    refine wq_bipush (by decide) rfl ?_
    refine wq_icmp_ne pp13 ⟨by decide, by decide⟩ rfl rfl rfl (fun c14 => ?_) (fun c14 => ?_)
    · rw [if_neg c14] at hD
      exact c_m_block_41_b hd k0 hr hD
    · rw [if_pos c14] at hD
      refine wq_aload_n k0 rfl ?_
      obtain ⟨m15, q18, hD⟩ := nb_of hD
      refine wm_cvN hr (c_take (by omega) hr q18) rfl rfl rfl (fun h16 hr17 => ?_)
      refine wq_aload_n k0 rfl ?_
      obtain ⟨m19, q22, hD⟩ := nb_of hD
      refine wm_cvN hr17 (c_types (by omega) hr17 q22) rfl rfl rfl (fun h20 hr21 => ?_)
      exact c_m_block_41_b hd k0 hr21 hD
def m_block (g : Nat) (m : MS) : Option MS := if (m 10 0) = 30 then nb (m_take g m) (fun m3 => nb (m_constants g m3) (fun m7 => m_block_17 g m7)) else m_block_17 g m
theorem c_m_block_b {dd : Nat} (hd : 8 ≤ dd) {g : Nat} {h0 : RHeap} {mF : MS} {la : RLoc} {h : RHeap} {m : MS} (k0 : rx_look la 0 = some (.ref 170)) (hr : RM h0 h m) (hD : m_block g m = some mF) : Wq O F (Cd O F rp_P dd) (1, 0, rw_X12_block, []) (rx_at rw_X12_block 0) la [] h (QN h0 mF) := by
  unfold m_block at hD
  refine wq_aload_n k0 rfl ?_
  refine wm_gfi hr rfl rfl (fun pp1 => ?_)
  refine wq_bipush (by decide) rfl ?_
  refine wq_icmp_ne pp1 ⟨by decide, by decide⟩ rfl rfl rfl (fun c2 => ?_) (fun c2 => ?_)
  · rw [if_neg c2] at hD
    exact c_m_block_17_b hd k0 hr hD
  · rw [if_pos c2] at hD
    refine wq_aload_n k0 rfl ?_
    obtain ⟨m3, q6, hD⟩ := nb_of hD
    refine wm_cvN hr (c_take (by omega) hr q6) rfl rfl rfl (fun h4 hr5 => ?_)
    refine wq_aload_n k0 rfl ?_
    obtain ⟨m7, q10, hD⟩ := nb_of hD
    refine wm_cvN hr5 (c_constants (by omega) hr5 q10) rfl rfl rfl (fun h8 hr9 => ?_)
    exact c_m_block_17_b hd k0 hr9 hD
theorem c_block {d : Nat} (hd : 9 ≤ d) {g : Nat} {h0 h : RHeap} {m : MS} {mF : MS} (hr : RM h0 h m) (hD : m_block g m = some mF) : Cq (Cd O F rp_P d) 209 [.ref 170] h (QN h0 mF) := by
  refine cq_of (I := (1, 0, rw_X12_block, [])) rfl rfl (by omega) ?_
  exact c_m_block_b (by omega) rfl hr hD
def m_call (g : Nat) (l1 : Int) (m : MS) : Option MS := nb (m_take g m) (fun m1 => ck l1 240 (if (m1 49 l1) = 0 then nb (m_write1 18 l1 m1) (fun m25 => some m25) else nb (m_want g 16 m1) (fun m9 => nb (m_keep l1 m9) (fun m13 => nb (m_keep 0 m13) (fun m17 => nb (m_later 48 m17) (fun m21 => some m21))))))
theorem c_m_call_b {dd : Nat} (hd : 4 ≤ dd) {g : Nat} {h0 : RHeap} {mF : MS} {la : RLoc} {h : RHeap} {m : MS} {l1 : Int} (k0 : rx_look la 0 = some (.ref 170)) (k1 : rx_look la 1 = some (wvi l1)) (hr : RM h0 h m) (pl1 : InI l1) (hD : m_call g l1 m = some mF) : Wq O F (Cd O F rp_P dd) (2, 0, rw_X12_call, []) (rx_at rw_X12_call 0) la [] h (QN h0 mF) := by
  unfold m_call at hD
  refine wq_aload_n k0 rfl ?_
  obtain ⟨m1, q4, hD⟩ := nb_of hD
  refine wm_cvN hr (c_take (by omega) hr q4) rfl rfl rfl (fun h2 hr3 => ?_)
  refine wq_aload_n k0 rfl ?_
  refine wm_gfa (c := 0) hr3 rfl rfl ?_
  refine wq_iload_n k1 rfl ?_
  obtain ⟨g5, g6, hD⟩ := ck_of hD
  refine wm_ali (f := 49) hr3 rfl pl1 g5 g6 rfl (fun pp7 => ?_)
  refine wq_if_ne pp7 rfl rfl rfl (fun c8 => ?_) (fun c8 => ?_)
  · rw [if_neg c8] at hD
    refine wq_aload_n k0 rfl ?_
    refine wq_bipush (by decide) rfl ?_
    obtain ⟨m9, q12, hD⟩ := nb_of hD
    refine wm_cvN hr3 (c_want (by omega) hr3 ⟨by decide, by decide⟩ q12) rfl rfl rfl (fun h10 hr11 => ?_)
    refine wq_aload_n k0 rfl ?_
    refine wq_iload_n k1 rfl ?_
    obtain ⟨m13, q16, hD⟩ := nb_of hD
    refine wm_cvN hr11 (c_keep (by omega) hr11 pl1 q16) rfl rfl rfl (fun h14 hr15 => ?_)
    refine wq_aload_n k0 rfl ?_
    refine wq_iconst rfl ?_
    obtain ⟨m17, q20, hD⟩ := nb_of hD
    refine wm_cvN hr15 (c_keep (by omega) hr15 ⟨by decide, by decide⟩ q20) rfl rfl rfl (fun h18 hr19 => ?_)
    refine wq_aload_n k0 rfl ?_
    refine wq_bipush (by decide) rfl ?_
    obtain ⟨m21, q24, hD⟩ := nb_of hD
    refine wm_cvN hr19 (c_later (by omega) hr19 ⟨by decide, by decide⟩ q24) rfl rfl rfl (fun h22 hr23 => ?_)
    cases hD
    exact wq_return rfl ⟨_, rfl, hr23⟩
  · rw [if_pos c8] at hD
    refine wq_aload_n k0 rfl ?_
    refine wq_bipush (by decide) rfl ?_
    refine wq_iload_n k1 rfl ?_
    obtain ⟨m25, q28, hD⟩ := nb_of hD
    refine wm_cvN hr3 (c_write1 (by omega) hr3 ⟨by decide, by decide⟩ pl1 q28) rfl rfl rfl (fun h26 hr27 => ?_)
    cases hD
    exact wq_return rfl ⟨_, rfl, hr27⟩
theorem c_call {d : Nat} (hd : 5 ≤ d) {g : Nat} {h0 h : RHeap} {m : MS} {l1 : Int} {mF : MS} (hr : RM h0 h m) (pl1 : InI l1) (hD : m_call g l1 m = some mF) : Cq (Cd O F rp_P d) 211 [.ref 170, wvi l1] h (QN h0 mF) := by
  refine cq_of (I := (2, 0, rw_X12_call, [])) rfl rfl (by omega) ?_
  exact c_m_call_b (by omega) rfl rfl hr pl1 hD
def m_frameOf_7 (g : Nat) : Nat → Int → Int → MS → Option (Int × MS)
  | 0, _, _, _ => none
  | n + 1, l1, l2, m => ck l2 200 (ck (m 93 l2) 240 (if l1 < (m 75 (m 93 l2)) then ck l2 200 (m_frameOf_7 g n l1 (m 92 l2) m) else some (l2, m)))
theorem c_m_frameOf_7 {dd : Nat} (hd : 0 ≤ dd) {g : Nat} {h0 : RHeap} {vF : Int} {mF : MS} : ∀ (n : Nat) {la : RLoc} {h : RHeap} {m : MS} {l1 l2 : Int}, rx_look la 0 = some (.ref 170) → rx_look la 1 = some (wvi l1) → rx_look la 2 = some (wvi l2) → RM h0 h m → InI l1 → InI l2 → m_frameOf_7 g n l1 l2 m = some (vF, mF) → Wq O F (Cd O F rp_P dd) (3, 1, rw_X12_frameOf, []) (rx_at rw_X12_frameOf 7) la [] h (QV 0 h0 vF mF) := by
  intro n
  induction n with
  | zero =>
    intro la h m l1 l2 k0 k1 k2 hr pl1 pl2 hD
    unfold m_frameOf_7 at hD
    cases hD
  | succ n ih =>
    intro la h m l1 l2 k0 k1 k2 hr pl1 pl2 hD
    unfold m_frameOf_7 at hD
    refine wq_aload_n k0 rfl ?_
    refine wm_gfa (c := 0) hr rfl rfl ?_
    refine wq_aload_n k0 rfl ?_
    refine wm_gfa (c := 0) hr rfl rfl ?_
    refine wq_iload_n k2 rfl ?_
    obtain ⟨g7, g8, hD⟩ := ck_of hD
    refine wm_ali (f := 93) hr rfl pl2 g7 g8 rfl (fun pp9 => ?_)
    obtain ⟨g10, g11, hD⟩ := ck_of hD
    refine wm_ali (f := 75) hr rfl pp9 g10 g11 rfl (fun pp12 => ?_)
    refine wq_iload_n k1 rfl ?_
    refine wq_icmp_le pp12 pl1 rfl rfl rfl (fun c13 => ?_) (fun c13 => ?_)
    · rw [if_neg (Int.not_lt.mpr c13)] at hD
      refine wq_iload_n k2 rfl ?_
      cases hD
      exact wq_ireturn rfl ⟨_, rfl, hr, pl2⟩
    · rw [if_pos c13] at hD
      refine wq_aload_n k0 rfl ?_
      refine wm_gfa (c := 0) hr rfl rfl ?_
      refine wq_iload_n k2 rfl ?_
      obtain ⟨g14, g15, hD⟩ := ck_of hD
      refine wm_ali (f := 92) hr rfl pl2 g14 g15 rfl (fun pp16 => ?_)
      refine wl_istore_n rfl rfl (fun la17 kk18 t19 => ?_)
      have kk20 := t19 0 _ (by decide) (Or.inr rfl) k0
      have kk21 := t19 1 _ (by decide) (Or.inr rfl) k1
      refine wq_goto rfl rfl ?_
      exact ih kk20 kk21 kk18 hr pl1 pp16 hD
def m_frameOf (g : Nat) (l1 : Int) (m : MS) : Option (Int × MS) := m_frameOf_7 g g l1 (i32 ((m 89 0) - 1)) m
theorem c_m_frameOf_b {dd : Nat} (hd : 0 ≤ dd) {g : Nat} {h0 : RHeap} {vF : Int} {mF : MS} {la : RLoc} {h : RHeap} {m : MS} {l1 : Int} (k0 : rx_look la 0 = some (.ref 170)) (k1 : rx_look la 1 = some (wvi l1)) (hr : RM h0 h m) (pl1 : InI l1) (hD : m_frameOf g l1 m = some (vF, mF)) : Wq O F (Cd O F rp_P dd) (3, 1, rw_X12_frameOf, []) (rx_at rw_X12_frameOf 0) la [] h (QV 0 h0 vF mF) := by
  unfold m_frameOf at hD
  refine wq_aload_n k0 rfl ?_
  refine wm_gfi hr rfl rfl (fun pp1 => ?_)
  refine wq_iconst rfl ?_
  refine wq_isub rfl ?_
  refine wl_istore_n rfl rfl (fun la2 kk3 t4 => ?_)
  have kk5 := t4 0 _ (by decide) (Or.inr rfl) k0
  have kk6 := t4 1 _ (by decide) (Or.inr rfl) k1
  exact c_m_frameOf_7 hd g kk5 kk6 kk3 hr pl1 (InI_i32 _) hD
theorem c_frameOf {d : Nat} (hd : 1 ≤ d) {g : Nat} {h0 h : RHeap} {m : MS} {l1 : Int} {vF : Int} {mF : MS} (hr : RM h0 h m) (pl1 : InI l1) (hD : m_frameOf g l1 m = some (vF, mF)) : Cq (Cd O F rp_P d) 232 [.ref 170, wvi l1] h (QV 0 h0 vF mF) := by
  refine cq_of (I := (3, 1, rw_X12_frameOf, [])) rfl rfl (by omega) ?_
  exact c_m_frameOf_b (by omega) rfl rfl hr pl1 hD
def m_open_202 (g : Nat) (s1 : Int) (m : MS) : Option (Int × MS) := wlet (mset m 90 0 s1) (fun m101 => some (1, m101))
theorem c_m_open_202_b {dd : Nat} (hd : 2 ≤ dd) {g : Nat} {h0 : RHeap} {vF : Int} {mF : MS} {la : RLoc} {h : RHeap} {m : MS} {s1 : Int} (hr : RM h0 h m) (ps1 : InI s1) (hD : m_open_202 g s1 m = some (vF, mF)) : Wq O F (Cd O F rp_P dd) (6, 2, rw_X12_open, []) (rx_at rw_X12_open 202) la [wvi s1, .ref 170] h (QV 3 h0 vF mF) := by
  unfold m_open_202 at hD
  obtain ⟨m101, e102, hD⟩ := wlet_of hD
  refine wm_pfi hr rfl rfl ps1 rfl (fun h103 hr104 => ?_)
  rw [← e102] at hr104
  refine wq_iconst rfl ?_
  cases hD
  exact wq_zreturn rfl (Or.inr rfl) ⟨_, rfl, hr104, (Or.inr rfl)⟩
def m_open_176 (g : Nat) (s1 : Int) (m : MS) : Option (Int × MS) := wlet (mset m 88 0 s1) (fun m92 => if (m92 90 0) < (m92 89 0) then m_open_202 g (m92 89 0) m92 else m_open_202 g (m92 90 0) m92)
theorem c_m_open_176_b {dd : Nat} (hd : 2 ≤ dd) {g : Nat} {h0 : RHeap} {vF : Int} {mF : MS} {la : RLoc} {h : RHeap} {m : MS} {s1 : Int} (k0 : rx_look la 0 = some (.ref 170)) (hr : RM h0 h m) (ps1 : InI s1) (hD : m_open_176 g s1 m = some (vF, mF)) : Wq O F (Cd O F rp_P dd) (6, 2, rw_X12_open, []) (rx_at rw_X12_open 176) la [wvi s1, .ref 170] h (QV 3 h0 vF mF) := by
  unfold m_open_176 at hD
  obtain ⟨m92, e93, hD⟩ := wlet_of hD
  refine wm_pfi hr rfl rfl ps1 rfl (fun h94 hr95 => ?_)
  rw [← e93] at hr95
  refine wq_aload_n k0 rfl ?_
  refine wq_aload_n k0 rfl ?_
  refine wm_gfi hr95 rfl rfl (fun pp96 => ?_)
  refine wq_aload_n k0 rfl ?_
  refine wm_gfi hr95 rfl rfl (fun pp97 => ?_)
  refine wq_icmp_le pp96 pp97 rfl rfl rfl (fun c98 => ?_) (fun c98 => ?_)
  · rw [if_neg (Int.not_lt.mpr c98)] at hD
    refine wq_aload_n k0 rfl ?_
    refine wm_gfi hr95 rfl rfl (fun pp99 => ?_)
    exact c_m_open_202_b hd hr95 pp99 hD
  · rw [if_pos c98] at hD
    refine wq_aload_n k0 rfl ?_
    refine wm_gfi hr95 rfl rfl (fun pp100 => ?_)
    refine wq_goto rfl rfl ?_
    exact c_m_open_202_b hd hr95 pp100 hD
def m_open_106 (g : Nat) : Nat → Int → Int → MS → Option (Int × MS)
  | 0, _, _, _ => none
  | n + 1, l4, l5, m => if l5 < (i32 ((m 87 0) + l4)) then ck l5 3000 (wlet (mset m 86 l5 0) (fun m83 => m_open_106 g n l4 (i32 (l5 + 1)) m83)) else wlet (mset m 87 0 (i32 ((m 87 0) + l4))) (fun m67 => wlet (mset m67 89 0 (i32 ((m67 89 0) + 1))) (fun m72 => if (m72 88 0) < (m72 87 0) then m_open_176 g (m72 87 0) m72 else m_open_176 g (m72 88 0) m72))
theorem c_m_open_106 {dd : Nat} (hd : 2 ≤ dd) {g : Nat} {h0 : RHeap} {vF : Int} {mF : MS} : ∀ (n : Nat) {la : RLoc} {h : RHeap} {m : MS} {l4 l5 : Int}, rx_look la 0 = some (.ref 170) → rx_look la 4 = some (wvi l4) → rx_look la 5 = some (wvi l5) → RM h0 h m → InI l4 → InI l5 → m_open_106 g n l4 l5 m = some (vF, mF) → Wq O F (Cd O F rp_P dd) (6, 2, rw_X12_open, []) (rx_at rw_X12_open 106) la [] h (QV 3 h0 vF mF) := by
  intro n
  induction n with
  | zero =>
    intro la h m l4 l5 k0 k4 k5 hr pl4 pl5 hD
    unfold m_open_106 at hD
    cases hD
  | succ n ih =>
    intro la h m l4 l5 k0 k4 k5 hr pl4 pl5 hD
    unfold m_open_106 at hD
    refine wq_iload k5 rfl ?_
    refine wq_aload_n k0 rfl ?_
    refine wm_gfi hr rfl rfl (fun pp64 => ?_)
    refine wq_iload k4 rfl ?_
    refine wq_iadd rfl ?_
    refine wq_icmp_ge pl5 (InI_i32 _) rfl rfl rfl (fun c65 => ?_) (fun c65 => ?_)
    · rw [if_neg (Int.not_lt.mpr c65)] at hD
      refine wq_aload_n k0 rfl ?_
      refine wq_aload_n k0 rfl ?_
      refine wm_gfi hr rfl rfl (fun pp66 => ?_)
      refine wq_iload k4 rfl ?_
      refine wq_iadd rfl ?_
      obtain ⟨m67, e68, hD⟩ := wlet_of hD
      refine wm_pfi hr rfl rfl (InI_i32 _) rfl (fun h69 hr70 => ?_)
      rw [← e68] at hr70
      refine wq_aload_n k0 rfl ?_
      refine wq_dup rfl rfl ?_
      refine wm_gfi hr70 rfl rfl (fun pp71 => ?_)
      refine wq_iconst rfl ?_
      refine wq_iadd rfl ?_
      obtain ⟨m72, e73, hD⟩ := wlet_of hD
      refine wm_pfi hr70 rfl rfl (InI_i32 _) rfl (fun h74 hr75 => ?_)
      rw [← e73] at hr75
      refine wq_aload_n k0 rfl ?_
      refine wq_aload_n k0 rfl ?_
      refine wm_gfi hr75 rfl rfl (fun pp76 => ?_)
      refine wq_aload_n k0 rfl ?_
      refine wm_gfi hr75 rfl rfl (fun pp77 => ?_)
      refine wq_icmp_le pp76 pp77 rfl rfl rfl (fun c78 => ?_) (fun c78 => ?_)
      · rw [if_neg (Int.not_lt.mpr c78)] at hD
        refine wq_aload_n k0 rfl ?_
        refine wm_gfi hr75 rfl rfl (fun pp79 => ?_)
        exact c_m_open_176_b hd k0 hr75 pp79 hD
      · rw [if_pos c78] at hD
        refine wq_aload_n k0 rfl ?_
        refine wm_gfi hr75 rfl rfl (fun pp80 => ?_)
        refine wq_goto rfl rfl ?_
        exact c_m_open_176_b hd k0 hr75 pp80 hD
    · rw [if_pos c65] at hD
      refine wq_aload_n k0 rfl ?_
      refine wm_gfa (c := 3) hr rfl rfl ?_
      refine wq_iload k5 rfl ?_
      refine wq_iconst rfl ?_
      obtain ⟨g81, g82, hD⟩ := ck_of hD
      obtain ⟨m83, e84, hD⟩ := wlet_of hD
      refine wm_asz (f := 86) hr rfl pl5 g81 g82 (Or.inl rfl) rfl (fun h85 hr86 => ?_)
      rw [← e84] at hr86
      refine wl_iinc k5 rfl rfl (fun la87 kk88 t89 => ?_)
      have kk90 := t89 0 _ (by decide) (Or.inr rfl) k0
      have kk91 := t89 4 _ (by decide) (Or.inr rfl) k4
      refine wq_goto rfl rfl ?_
      exact ih kk90 kk91 kk88 hr86 pl4 (InI_i32 _) hD
def m_open_37 (g : Nat) (l1 : Int) (l2 : Int) (l3 : Int) (l4 : Int) (s1 : Int) (m : MS) : Option (Int × MS) := vb (m_isWrong s1 6 m) (fun v19 m15 => if v19 = 0 then ck (m15 89 0) 200 (wlet (mset m15 91 (m15 89 0) (m15 87 0)) (fun m26 => ck (m26 89 0) 200 (wlet (mset m26 92 (m26 89 0) l2) (fun m33 => ck (m33 89 0) 200 (wlet (mset m33 93 (m33 89 0) l1) (fun m40 => ck (m40 89 0) 200 (wlet (mset m40 94 (m40 89 0) l3) (fun m47 => ck (m47 89 0) 200 (wlet (mset m47 95 (m47 89 0) (-1)) (fun m54 => m_open_106 g g l4 (m54 87 0) m54)))))))))) else some (0, m15))
theorem c_m_open_37_b {dd : Nat} (hd : 2 ≤ dd) {g : Nat} {h0 : RHeap} {vF : Int} {mF : MS} {la : RLoc} {h : RHeap} {m : MS} {l1 l2 l3 l4 s1 : Int} (k0 : rx_look la 0 = some (.ref 170)) (k1 : rx_look la 1 = some (wvi l1)) (k2 : rx_look la 2 = some (wvi l2)) (k3 : rx_look la 3 = some (wvi l3)) (k4 : rx_look la 4 = some (wvi l4)) (hr : RM h0 h m) (pl1 : InI l1) (pl2 : InI l2) (pl3 : InI l3) (pl4 : InI l4) (ps1 : (s1 = 0 ∨ s1 = 1)) (hD : m_open_37 g l1 l2 l3 l4 s1 m = some (vF, mF)) : Wq O F (Cd O F rp_P dd) (6, 2, rw_X12_open, []) (rx_at rw_X12_open 37) la [wvi s1, .ref 170] h (QV 3 h0 vF mF) := by
  unfold m_open_37 at hD
  refine wq_bipush (by decide) rfl ?_
  obtain ⟨v19, m15, q18, hD⟩ := vb_of hD
  refine wm_cvZ hr (c_isWrong (by omega) hr ps1 ⟨by decide, by decide⟩ q18) rfl rfl rfl (fun h16 hr17 pp20 => ?_)
  refine wq_if_eq (InI_z pp20) rfl rfl rfl (fun c21 => ?_) (fun c21 => ?_)
  · rw [if_pos c21] at hD
    refine wq_aload_n k0 rfl ?_
    refine wm_gfa (c := 0) hr17 rfl rfl ?_
    refine wq_aload_n k0 rfl ?_
    refine wm_gfi hr17 rfl rfl (fun pp22 => ?_)
    refine wq_aload_n k0 rfl ?_
    refine wm_gfi hr17 rfl rfl (fun pp23 => ?_)
    obtain ⟨g24, g25, hD⟩ := ck_of hD
    obtain ⟨m26, e27, hD⟩ := wlet_of hD
    refine wm_asi (f := 91) hr17 rfl pp22 g24 g25 pp23 rfl (fun h28 hr29 => ?_)
    rw [← e27] at hr29
    refine wq_aload_n k0 rfl ?_
    refine wm_gfa (c := 0) hr29 rfl rfl ?_
    refine wq_aload_n k0 rfl ?_
    refine wm_gfi hr29 rfl rfl (fun pp30 => ?_)
    refine wq_iload_n k2 rfl ?_
    obtain ⟨g31, g32, hD⟩ := ck_of hD
    obtain ⟨m33, e34, hD⟩ := wlet_of hD
    refine wm_asi (f := 92) hr29 rfl pp30 g31 g32 pl2 rfl (fun h35 hr36 => ?_)
    rw [← e34] at hr36
    refine wq_aload_n k0 rfl ?_
    refine wm_gfa (c := 0) hr36 rfl rfl ?_
    refine wq_aload_n k0 rfl ?_
    refine wm_gfi hr36 rfl rfl (fun pp37 => ?_)
    refine wq_iload_n k1 rfl ?_
    obtain ⟨g38, g39, hD⟩ := ck_of hD
    obtain ⟨m40, e41, hD⟩ := wlet_of hD
    refine wm_asi (f := 93) hr36 rfl pp37 g38 g39 pl1 rfl (fun h42 hr43 => ?_)
    rw [← e41] at hr43
    refine wq_aload_n k0 rfl ?_
    refine wm_gfa (c := 0) hr43 rfl rfl ?_
    refine wq_aload_n k0 rfl ?_
    refine wm_gfi hr43 rfl rfl (fun pp44 => ?_)
    refine wq_iload_n k3 rfl ?_
    obtain ⟨g45, g46, hD⟩ := ck_of hD
    obtain ⟨m47, e48, hD⟩ := wlet_of hD
    refine wm_asi (f := 94) hr43 rfl pp44 g45 g46 pl3 rfl (fun h49 hr50 => ?_)
    rw [← e48] at hr50
    refine wq_aload_n k0 rfl ?_
    refine wm_gfa (c := 0) hr50 rfl rfl ?_
    refine wq_aload_n k0 rfl ?_
    refine wm_gfi hr50 rfl rfl (fun pp51 => ?_)
    refine wq_iconst rfl ?_
    obtain ⟨g52, g53, hD⟩ := ck_of hD
    obtain ⟨m54, e55, hD⟩ := wlet_of hD
    refine wm_asi (f := 95) hr50 rfl pp51 g52 g53 ⟨by decide, by decide⟩ rfl (fun h56 hr57 => ?_)
    rw [← e55] at hr57
    refine wq_aload_n k0 rfl ?_
    refine wm_gfi hr57 rfl rfl (fun pp58 => ?_)
    refine wl_istore rfl rfl (fun la59 kk60 t61 => ?_)
    have kk62 := t61 0 _ (by decide) (Or.inr rfl) k0
    have kk63 := t61 4 _ (by decide) (Or.inr rfl) k4
    exact c_m_open_106 hd g kk62 kk63 kk60 hr57 pl4 pp58 hD
  · rw [if_neg c21] at hD
    refine wq_iconst rfl ?_
    cases hD
    exact wq_zreturn rfl (Or.inl rfl) ⟨_, rfl, hr17, (Or.inl rfl)⟩
def m_open_32 (g : Nat) (l1 : Int) (l2 : Int) (l3 : Int) (l4 : Int) (m : MS) : Option (Int × MS) := m_open_37 g l1 l2 l3 l4 1 m
theorem c_m_open_32_b {dd : Nat} (hd : 2 ≤ dd) {g : Nat} {h0 : RHeap} {vF : Int} {mF : MS} {la : RLoc} {h : RHeap} {m : MS} {l1 l2 l3 l4 : Int} (k0 : rx_look la 0 = some (.ref 170)) (k1 : rx_look la 1 = some (wvi l1)) (k2 : rx_look la 2 = some (wvi l2)) (k3 : rx_look la 3 = some (wvi l3)) (k4 : rx_look la 4 = some (wvi l4)) (hr : RM h0 h m) (pl1 : InI l1) (pl2 : InI l2) (pl3 : InI l3) (pl4 : InI l4) (hD : m_open_32 g l1 l2 l3 l4 m = some (vF, mF)) : Wq O F (Cd O F rp_P dd) (6, 2, rw_X12_open, []) (rx_at rw_X12_open 32) la [.ref 170] h (QV 3 h0 vF mF) := by
  unfold m_open_32 at hD
  refine wq_iconst rfl ?_
  refine wq_goto rfl rfl ?_
  exact c_m_open_37_b hd k0 k1 k2 k3 k4 hr pl1 pl2 pl3 pl4 (Or.inr rfl) hD
def m_open (g : Nat) (l1 : Int) (l2 : Int) (l3 : Int) (m : MS) : Option (Int × MS) := ck l1 240 (if (m 89 0) = 200 then m_open_32 g l1 l2 l3 (m 76 l1) m else if 3000 < (i32 ((m 87 0) + (m 76 l1))) then m_open_32 g l1 l2 l3 (m 76 l1) m else m_open_37 g l1 l2 l3 (m 76 l1) 0 m)
theorem c_m_open_b {dd : Nat} (hd : 2 ≤ dd) {g : Nat} {h0 : RHeap} {vF : Int} {mF : MS} {la : RLoc} {h : RHeap} {m : MS} {l1 l2 l3 : Int} (k0 : rx_look la 0 = some (.ref 170)) (k1 : rx_look la 1 = some (wvi l1)) (k2 : rx_look la 2 = some (wvi l2)) (k3 : rx_look la 3 = some (wvi l3)) (hr : RM h0 h m) (pl1 : InI l1) (pl2 : InI l2) (pl3 : InI l3) (hD : m_open g l1 l2 l3 m = some (vF, mF)) : Wq O F (Cd O F rp_P dd) (6, 2, rw_X12_open, []) (rx_at rw_X12_open 0) la [] h (QV 3 h0 vF mF) := by
  unfold m_open at hD
  refine wq_aload_n k0 rfl ?_
  refine wm_gfa (c := 0) hr rfl rfl ?_
  refine wq_iload_n k1 rfl ?_
  obtain ⟨g1, g2, hD⟩ := ck_of hD
  refine wm_ali (f := 76) hr rfl pl1 g1 g2 rfl (fun pp3 => ?_)
  refine wl_istore rfl rfl (fun la4 kk5 t6 => ?_)
  have kk7 := t6 0 _ (by decide) (Or.inr rfl) k0
  have kk8 := t6 1 _ (by decide) (Or.inr rfl) k1
  have kk9 := t6 2 _ (by decide) (Or.inr rfl) k2
  have kk10 := t6 3 _ (by decide) (Or.inr rfl) k3
  refine wq_aload_n kk7 rfl ?_
  refine wq_aload_n kk7 rfl ?_
  refine wm_gfi hr rfl rfl (fun pp11 => ?_)
  refine wq_sipush (by decide) rfl ?_
  refine wq_icmp_eq pp11 ⟨by decide, by decide⟩ rfl rfl rfl (fun c12 => ?_) (fun c12 => ?_)
  · rw [if_pos c12] at hD
    exact c_m_open_32_b hd kk7 kk8 kk9 kk10 kk5 hr pl1 pl2 pl3 pp3 hD
  · rw [if_neg c12] at hD
    refine wq_aload_n kk7 rfl ?_
    refine wm_gfi hr rfl rfl (fun pp13 => ?_)
    refine wq_iload kk5 rfl ?_
    refine wq_iadd rfl ?_
    refine wq_sipush (by decide) rfl ?_
    refine wq_icmp_le (InI_i32 _) ⟨by decide, by decide⟩ rfl rfl rfl (fun c14 => ?_) (fun c14 => ?_)
    · rw [if_neg (Int.not_lt.mpr c14)] at hD
      refine wq_iconst rfl ?_
      exact c_m_open_37_b hd kk7 kk8 kk9 kk10 kk5 hr pl1 pl2 pl3 pp3 (Or.inl rfl) hD
    · rw [if_pos c14] at hD
      exact c_m_open_32_b hd kk7 kk8 kk9 kk10 kk5 hr pl1 pl2 pl3 pp3 hD
theorem c_open {d : Nat} (hd : 3 ≤ d) {g : Nat} {h0 h : RHeap} {m : MS} {l1 l2 l3 : Int} {vF : Int} {mF : MS} (hr : RM h0 h m) (pl1 : InI l1) (pl2 : InI l2) (pl3 : InI l3) (hD : m_open g l1 l2 l3 m = some (vF, mF)) : Cq (Cd O F rp_P d) 256 [.ref 170, wvi l1, wvi l2, wvi l3] h (QV 3 h0 vF mF) := by
  refine cq_of (I := (6, 2, rw_X12_open, [])) rfl rfl (by omega) ?_
  exact c_m_open_b (by omega) rfl rfl rfl rfl hr pl1 pl2 pl3 hD
def m_callAction_91 (g : Nat) (m : MS) : Option MS := some m
theorem c_m_callAction_91_b {dd : Nat} (hd : 3 ≤ dd) {g : Nat} {h0 : RHeap} {mF : MS} {la : RLoc} {h : RHeap} {m : MS} (hr : RM h0 h m) (hD : m_callAction_91 g m = some mF) : Wq O F (Cd O F rp_P dd) (5, 0, rw_X12_callAction, []) (rx_at rw_X12_callAction 91) la [] h (QN h0 mF) := by
  unfold m_callAction_91 at hD
  cases hD
  exact wq_return rfl ⟨_, rfl, hr⟩
def m_callAction_35 (g : Nat) : Nat → Int → Int → MS → Option MS
  | 0, _, _, _ => none
  | n + 1, l1, l3, m => if l3 < 0 then ck l1 240 (wlet (mset m 98 0 (m 74 l1)) (fun m35 => m_callAction_91 g m35)) else ck (i32 ((m 89 0) - 1)) 200 (vb (m_pop m) (fun v53 m49 => ck (i32 ((i32 ((m 91 (i32 ((m 89 0) - 1))) + 4)) + l3)) 3000 (wlet (mset m49 85 (i32 ((i32 ((m 91 (i32 ((m 89 0) - 1))) + 4)) + l3)) v53) (fun m57 => ck (i32 ((i32 ((m 91 (i32 ((m 89 0) - 1))) + 4)) + l3)) 3000 (wlet (mset m57 86 (i32 ((i32 ((m 91 (i32 ((m 89 0) - 1))) + 4)) + l3)) 1) (fun m63 => m_callAction_35 g n l1 (i32 (l3 + (-1))) m63))))))
theorem c_m_callAction_35 {dd : Nat} (hd : 3 ≤ dd) {g : Nat} {h0 : RHeap} {mF : MS} : ∀ (n : Nat) {la : RLoc} {h : RHeap} {m : MS} {l1 l3 : Int}, rx_look la 0 = some (.ref 170) → rx_look la 1 = some (wvi l1) → rx_look la 3 = some (wvi l3) → RM h0 h m → InI l1 → InI l3 → m_callAction_35 g n l1 l3 m = some mF → Wq O F (Cd O F rp_P dd) (5, 0, rw_X12_callAction, []) (rx_at rw_X12_callAction 35) la [] h (QN h0 mF) := by
  intro n
  induction n with
  | zero =>
    intro la h m l1 l3 k0 k1 k3 hr pl1 pl3 hD
    unfold m_callAction_35 at hD
    cases hD
  | succ n ih =>
    intro la h m l1 l3 k0 k1 k3 hr pl1 pl3 hD
    unfold m_callAction_35 at hD
    refine wq_iload_n k3 rfl ?_
    refine wq_if_lt pl3 rfl rfl rfl (fun c31 => ?_) (fun c31 => ?_)
    · rw [if_pos c31] at hD
      refine wq_aload_n k0 rfl ?_
      refine wq_aload_n k0 rfl ?_
      refine wm_gfa (c := 0) hr rfl rfl ?_
      refine wq_iload_n k1 rfl ?_
      obtain ⟨g32, g33, hD⟩ := ck_of hD
      refine wm_ali (f := 74) hr rfl pl1 g32 g33 rfl (fun pp34 => ?_)
      obtain ⟨m35, e36, hD⟩ := wlet_of hD
      refine wm_pfi hr rfl rfl pp34 rfl (fun h37 hr38 => ?_)
      rw [← e36] at hr38
      exact c_m_callAction_91_b hd hr38 hD
    · rw [if_neg (Int.not_lt.mpr c31)] at hD
      refine wq_aload_n k0 rfl ?_
      refine wm_gfa (c := 0) hr rfl rfl ?_
      refine wq_aload_n k0 rfl ?_
      refine wm_gfi hr rfl rfl (fun pp39 => ?_)
      refine wq_iconst rfl ?_
      refine wq_isub rfl ?_
      obtain ⟨g40, g41, hD⟩ := ck_of hD
      refine wm_ali (f := 91) hr rfl (InI_i32 _) g40 g41 rfl (fun pp42 => ?_)
      refine wq_iconst rfl ?_
      refine wq_iadd rfl ?_
      refine wq_iload_n k3 rfl ?_
      refine wq_iadd rfl ?_
      refine wl_istore rfl rfl (fun la43 kk44 t45 => ?_)
      have kk46 := t45 0 _ (by decide) (Or.inr rfl) k0
      have kk47 := t45 1 _ (by decide) (Or.inr rfl) k1
      have kk48 := t45 3 _ (by decide) (Or.inr rfl) k3
      refine wq_aload_n kk46 rfl ?_
      refine wm_gfa (c := 1) hr rfl rfl ?_
      refine wq_iload kk44 rfl ?_
      refine wq_aload_n kk46 rfl ?_
      obtain ⟨v53, m49, q52, hD⟩ := vb_of hD
      refine wm_cvL hr (c_pop (by omega) hr q52) rfl rfl rfl (fun h50 hr51 pp54 => ?_)
      obtain ⟨g55, g56, hD⟩ := ck_of hD
      obtain ⟨m57, e58, hD⟩ := wlet_of hD
      refine wm_asl (f := 85) hr51 rfl (InI_i32 _) g55 g56 pp54 rfl (fun h59 hr60 => ?_)
      rw [← e58] at hr60
      refine wq_aload_n kk46 rfl ?_
      refine wm_gfa (c := 3) hr60 rfl rfl ?_
      refine wq_iload kk44 rfl ?_
      refine wq_iconst rfl ?_
      obtain ⟨g61, g62, hD⟩ := ck_of hD
      obtain ⟨m63, e64, hD⟩ := wlet_of hD
      refine wm_asz (f := 86) hr60 rfl (InI_i32 _) g61 g62 (Or.inr rfl) rfl (fun h65 hr66 => ?_)
      rw [← e64] at hr66
      refine wl_iinc kk48 rfl rfl (fun la67 kk68 t69 => ?_)
      have kk70 := t69 0 _ (by decide) (Or.inr rfl) kk46
      have kk71 := t69 1 _ (by decide) (Or.inr rfl) kk47
      refine wq_goto rfl rfl ?_
      exact ih kk70 kk71 kk68 hr66 pl1 (InI_i32 _) hD
def m_callAction (g : Nat) (l1 : Int) (m : MS) : Option MS := ck l1 240 (ck l1 240 (vb (m_frameOf g (i32 ((m 75 l1) - 1)) m) (fun v16 m12 => vb (m_open g l1 v16 (m12 98 0) m12) (fun v23 m19 => if v23 = 0 then m_callAction_91 g m19 else m_callAction_35 g g l1 (i32 ((m 77 l1) - 1)) m19))))
theorem c_m_callAction_b {dd : Nat} (hd : 3 ≤ dd) {g : Nat} {h0 : RHeap} {mF : MS} {la : RLoc} {h : RHeap} {m : MS} {l1 : Int} (k0 : rx_look la 0 = some (.ref 170)) (k1 : rx_look la 1 = some (wvi l1)) (hr : RM h0 h m) (pl1 : InI l1) (hD : m_callAction g l1 m = some mF) : Wq O F (Cd O F rp_P dd) (5, 0, rw_X12_callAction, []) (rx_at rw_X12_callAction 0) la [] h (QN h0 mF) := by
  unfold m_callAction at hD
  refine wq_aload_n k0 rfl ?_
  refine wm_gfa (c := 0) hr rfl rfl ?_
  refine wq_iload_n k1 rfl ?_
  obtain ⟨g1, g2, hD⟩ := ck_of hD
  refine wm_ali (f := 77) hr rfl pl1 g1 g2 rfl (fun pp3 => ?_)
  refine wl_istore_n rfl rfl (fun la4 kk5 t6 => ?_)
  have kk7 := t6 0 _ (by decide) (Or.inr rfl) k0
  have kk8 := t6 1 _ (by decide) (Or.inr rfl) k1
  refine wq_aload_n kk7 rfl ?_
  refine wq_iload_n kk8 rfl ?_
  refine wq_aload_n kk7 rfl ?_
  refine wq_aload_n kk7 rfl ?_
  refine wm_gfa (c := 0) hr rfl rfl ?_
  refine wq_iload_n kk8 rfl ?_
  obtain ⟨g9, g10, hD⟩ := ck_of hD
  refine wm_ali (f := 75) hr rfl pl1 g9 g10 rfl (fun pp11 => ?_)
  refine wq_iconst rfl ?_
  refine wq_isub rfl ?_
  obtain ⟨v16, m12, q15, hD⟩ := vb_of hD
  refine wm_cvI hr (c_frameOf (by omega) hr (InI_i32 _) q15) rfl rfl rfl (fun h13 hr14 pp17 => ?_)
  refine wq_aload_n kk7 rfl ?_
  refine wm_gfi hr14 rfl rfl (fun pp18 => ?_)
  obtain ⟨v23, m19, q22, hD⟩ := vb_of hD
  refine wm_cvZ hr14 (c_open (by omega) hr14 pl1 pp17 pp18 q22) rfl rfl rfl (fun h20 hr21 pp24 => ?_)
  refine wq_if_eq (InI_z pp24) rfl rfl rfl (fun c25 => ?_) (fun c25 => ?_)
  · rw [if_pos c25] at hD
    exact c_m_callAction_91_b hd hr21 hD
  · rw [if_neg c25] at hD
    refine wq_iload_n kk5 rfl ?_
    refine wq_iconst rfl ?_
    refine wq_isub rfl ?_
    refine wl_istore_n rfl rfl (fun la26 kk27 t28 => ?_)
    have kk29 := t28 0 _ (by decide) (Or.inr rfl) kk7
    have kk30 := t28 1 _ (by decide) (Or.inr rfl) kk8
    exact c_m_callAction_35 hd g kk29 kk30 kk27 hr21 pl1 (InI_i32 _) hD
theorem c_callAction {d : Nat} (hd : 4 ≤ d) {g : Nat} {h0 h : RHeap} {m : MS} {l1 : Int} {mF : MS} (hr : RM h0 h m) (pl1 : InI l1) (hD : m_callAction g l1 m = some mF) : Cq (Cd O F rp_P d) 212 [.ref 170, wvi l1] h (QN h0 mF) := by
  refine cq_of (I := (5, 0, rw_X12_callAction, [])) rfl rfl (by omega) ?_
  exact c_m_callAction_b (by omega) rfl rfl hr pl1 hD
def m_putThere_59 (m : MS) : Option MS := some m
theorem c_m_putThere_59_b {dd : Nat} (hd : 2 ≤ dd) {h0 : RHeap} {mF : MS} {la : RLoc} {h : RHeap} {m : MS} (hr : RM h0 h m) (hD : m_putThere_59 m = some mF) : Wq O F (Cd O F rp_P dd) (5, 0, rw_X12_putThere, []) (rx_at rw_X12_putThere 59) la [] h (QN h0 mF) := by
  unfold m_putThere_59 at hD
  cases hD
  exact wq_return rfl ⟨_, rfl, hr⟩
def m_putThere_38 (l1 : Int) (l2 : Int) (s1 : Int) (m : MS) : Option MS := vb (m_isWrong s1 3 m) (fun v22 m18 => if v22 = 0 then ck l1 3000 (wlet (mset m18 85 l1 l2) (fun m27 => ck l1 3000 (wlet (mset m27 86 l1 1) (fun m33 => m_putThere_59 m33)))) else m_putThere_59 m18)
theorem c_m_putThere_38_b {dd : Nat} (hd : 2 ≤ dd) {h0 : RHeap} {mF : MS} {la : RLoc} {h : RHeap} {m : MS} {l1 l2 s1 : Int} (k0 : rx_look la 0 = some (.ref 170)) (k1 : rx_look la 1 = some (wvi l1)) (k2 : rx_look la 2 = some (wvl l2)) (hr : RM h0 h m) (pl1 : InI l1) (pl2 : InL l2) (ps1 : (s1 = 0 ∨ s1 = 1)) (hD : m_putThere_38 l1 l2 s1 m = some mF) : Wq O F (Cd O F rp_P dd) (5, 0, rw_X12_putThere, []) (rx_at rw_X12_putThere 38) la [wvi s1, .ref 170] h (QN h0 mF) := by
  unfold m_putThere_38 at hD
  refine wq_iconst rfl ?_
  obtain ⟨v22, m18, q21, hD⟩ := vb_of hD
  refine wm_cvZ hr (c_isWrong (by omega) hr ps1 ⟨by decide, by decide⟩ q21) rfl rfl rfl (fun h19 hr20 pp23 => ?_)
  refine wq_if_ne (InI_z pp23) rfl rfl rfl (fun c24 => ?_) (fun c24 => ?_)
  · rw [if_neg c24] at hD
    exact c_m_putThere_59_b hd hr20 hD
  · rw [if_pos c24] at hD
    refine wq_aload_n k0 rfl ?_
    refine wm_gfa (c := 1) hr20 rfl rfl ?_
    refine wq_iload_n k1 rfl ?_
    refine wq_lload_n k2 rfl ?_
    obtain ⟨g25, g26, hD⟩ := ck_of hD
    obtain ⟨m27, e28, hD⟩ := wlet_of hD
    refine wm_asl (f := 85) hr20 rfl pl1 g25 g26 pl2 rfl (fun h29 hr30 => ?_)
    rw [← e28] at hr30
    refine wq_aload_n k0 rfl ?_
    refine wm_gfa (c := 3) hr30 rfl rfl ?_
    refine wq_iload_n k1 rfl ?_
    refine wq_iconst rfl ?_
    obtain ⟨g31, g32, hD⟩ := ck_of hD
    obtain ⟨m33, e34, hD⟩ := wlet_of hD
    refine wm_asz (f := 86) hr30 rfl pl1 g31 g32 (Or.inr rfl) rfl (fun h35 hr36 => ?_)
    rw [← e34] at hr36
    exact c_m_putThere_59_b hd hr36 hD
def m_putThere_37 (l1 : Int) (l2 : Int) (m : MS) : Option MS := m_putThere_38 l1 l2 0 m
theorem c_m_putThere_37_b {dd : Nat} (hd : 2 ≤ dd) {h0 : RHeap} {mF : MS} {la : RLoc} {h : RHeap} {m : MS} {l1 l2 : Int} (k0 : rx_look la 0 = some (.ref 170)) (k1 : rx_look la 1 = some (wvi l1)) (k2 : rx_look la 2 = some (wvl l2)) (hr : RM h0 h m) (pl1 : InI l1) (pl2 : InL l2) (hD : m_putThere_37 l1 l2 m = some mF) : Wq O F (Cd O F rp_P dd) (5, 0, rw_X12_putThere, []) (rx_at rw_X12_putThere 37) la [.ref 170] h (QN h0 mF) := by
  unfold m_putThere_37 at hD
  refine wq_iconst rfl ?_
  exact c_m_putThere_38_b hd k0 k1 k2 hr pl1 pl2 (Or.inl rfl) hD
def m_putThere (l1 : Int) (l2 : Int) (l4 : Int) (m : MS) : Option MS := ck l4 6000 (if (m 71 l4) = 1 then ck l4 6000 (ck l4 6000 (vb (m_isOut l2 (m 72 l4) (m 73 l4) m) (fun v15 m11 => if v15 = 0 then m_putThere_37 l1 l2 m11 else m_putThere_38 l1 l2 1 m11))) else m_putThere_37 l1 l2 m)
theorem c_m_putThere_b {dd : Nat} (hd : 2 ≤ dd) {h0 : RHeap} {mF : MS} {la : RLoc} {h : RHeap} {m : MS} {l1 l2 l4 : Int} (k0 : rx_look la 0 = some (.ref 170)) (k1 : rx_look la 1 = some (wvi l1)) (k2 : rx_look la 2 = some (wvl l2)) (k4 : rx_look la 4 = some (wvi l4)) (hr : RM h0 h m) (pl1 : InI l1) (pl2 : InL l2) (pl4 : InI l4) (hD : m_putThere l1 l2 l4 m = some mF) : Wq O F (Cd O F rp_P dd) (5, 0, rw_X12_putThere, []) (rx_at rw_X12_putThere 0) la [] h (QN h0 mF) := by
  unfold m_putThere at hD
  refine wq_aload_n k0 rfl ?_
  refine wq_aload_n k0 rfl ?_
  refine wm_gfa (c := 0) hr rfl rfl ?_
  refine wq_iload k4 rfl ?_
  obtain ⟨g1, g2, hD⟩ := ck_of hD
  refine wm_ali (f := 71) hr rfl pl4 g1 g2 rfl (fun pp3 => ?_)
  refine wq_iconst rfl ?_
  refine wq_icmp_ne pp3 ⟨by decide, by decide⟩ rfl rfl rfl (fun c4 => ?_) (fun c4 => ?_)
  · rw [if_neg c4] at hD
    exact c_m_putThere_37_b hd k0 k1 k2 hr pl1 pl2 hD
  · rw [if_pos c4] at hD
    refine wq_lload_n k2 rfl ?_
    refine wq_aload_n k0 rfl ?_
    refine wm_gfa (c := 0) hr rfl rfl ?_
    refine wq_iload k4 rfl ?_
    obtain ⟨g5, g6, hD⟩ := ck_of hD
    refine wm_ali (f := 72) hr rfl pl4 g5 g6 rfl (fun pp7 => ?_)
    refine wq_aload_n k0 rfl ?_
    refine wm_gfa (c := 0) hr rfl rfl ?_
    refine wq_iload k4 rfl ?_
    obtain ⟨g8, g9, hD⟩ := ck_of hD
    refine wm_ali (f := 73) hr rfl pl4 g8 g9 rfl (fun pp10 => ?_)
    obtain ⟨v15, m11, q14, hD⟩ := vb_of hD
    refine wm_csZ (fun _ _ => rfl) (c_isOut (by omega) hr pl2 pp7 pp10 q14) rfl rfl rfl (fun h12 hr13 pp16 => ?_)
    refine wq_if_eq (InI_z pp16) rfl rfl rfl (fun c17 => ?_) (fun c17 => ?_)
    · rw [if_pos c17] at hD
      exact c_m_putThere_37_b hd k0 k1 k2 hr13 pl1 pl2 hD
    · rw [if_neg c17] at hD
      refine wq_iconst rfl ?_
      refine wq_goto rfl rfl ?_
      exact c_m_putThere_38_b hd k0 k1 k2 hr13 pl1 pl2 (Or.inr rfl) hD
theorem c_putThere {d : Nat} (hd : 3 ≤ d) {h0 h : RHeap} {m : MS} {l1 l2 l4 : Int} {mF : MS} (hr : RM h0 h m) (pl1 : InI l1) (pl2 : InL l2) (pl4 : InI l4) (hD : m_putThere l1 l2 l4 m = some mF) : Cq (Cd O F rp_P d) 267 [.ref 170, wvi l1, wvl l2, wvi l4] h (QN h0 mF) := by
  refine cq_of (I := (5, 0, rw_X12_putThere, [])) rfl rfl (by omega) ?_
  exact c_m_putThere_b (by omega) rfl rfl rfl rfl hr pl1 pl2 pl4 hD
def m_cellStep_229 (g : Nat) (m : MS) : Option MS := some m
theorem c_m_cellStep_229_b {dd : Nat} (hd : 3 ≤ dd) {g : Nat} {h0 : RHeap} {mF : MS} {la : RLoc} {h : RHeap} {m : MS} (hr : RM h0 h m) (hD : m_cellStep_229 g m = some mF) : Wq O F (Cd O F rp_P dd) (6, 0, rw_X12_cellStep, []) (rx_at rw_X12_cellStep 229) la [] h (QN h0 mF) := by
  unfold m_cellStep_229 at hD
  cases hD
  exact wq_return rfl ⟨_, rfl, hr⟩
def m_cellStep_161 (g : Nat) (l4 : Int) (s1 : Int) (m : MS) : Option MS := vb (m_isWrong s1 1 m) (fun v150 m146 => if v150 = 0 then ck l4 3000 (nb (m_push (m146 85 l4) m146) (fun m156 => m_cellStep_229 g m156)) else m_cellStep_229 g m146)
theorem c_m_cellStep_161_b {dd : Nat} (hd : 3 ≤ dd) {g : Nat} {h0 : RHeap} {mF : MS} {la : RLoc} {h : RHeap} {m : MS} {l4 s1 : Int} (k0 : rx_look la 0 = some (.ref 170)) (k4 : rx_look la 4 = some (wvi l4)) (hr : RM h0 h m) (pl4 : InI l4) (ps1 : (s1 = 0 ∨ s1 = 1)) (hD : m_cellStep_161 g l4 s1 m = some mF) : Wq O F (Cd O F rp_P dd) (6, 0, rw_X12_cellStep, []) (rx_at rw_X12_cellStep 161) la [wvi s1, .ref 170] h (QN h0 mF) := by
  unfold m_cellStep_161 at hD
  refine wq_iconst rfl ?_
  obtain ⟨v150, m146, q149, hD⟩ := vb_of hD
  refine wm_cvZ hr (c_isWrong (by omega) hr ps1 ⟨by decide, by decide⟩ q149) rfl rfl rfl (fun h147 hr148 pp151 => ?_)
  refine wq_if_ne (InI_z pp151) rfl rfl rfl (fun c152 => ?_) (fun c152 => ?_)
  · rw [if_neg c152] at hD
    exact c_m_cellStep_229_b hd hr148 hD
  · rw [if_pos c152] at hD
    refine wq_aload_n k0 rfl ?_
    refine wq_aload_n k0 rfl ?_
    refine wm_gfa (c := 1) hr148 rfl rfl ?_
    refine wq_iload k4 rfl ?_
    obtain ⟨g153, g154, hD⟩ := ck_of hD
    refine wm_all (f := 85) hr148 rfl pl4 g153 g154 rfl (fun pp155 => ?_)
    obtain ⟨m156, q159, hD⟩ := nb_of hD
    refine wm_cvN hr148 (c_push (by omega) hr148 pp155 q159) rfl rfl rfl (fun h157 hr158 => ?_)
    refine wq_goto rfl rfl ?_
    exact c_m_cellStep_229_b hd hr158 hD
def m_cellStep_203 (g : Nat) (l2 : Int) (l3 : Int) (m : MS) : Option MS := ck (i32 ((m 97 0) - 1)) 70000 (vb (m_isOut (m 96 (i32 ((m 97 0) - 1))) l2 l3 m) (fun v135 m131 => vb (m_isWrong v135 3 m131) (fun v141 m137 => m_cellStep_229 g m137)))
theorem c_m_cellStep_203_b {dd : Nat} (hd : 3 ≤ dd) {g : Nat} {h0 : RHeap} {mF : MS} {la : RLoc} {h : RHeap} {m : MS} {l2 l3 : Int} (k0 : rx_look la 0 = some (.ref 170)) (k2 : rx_look la 2 = some (wvi l2)) (k3 : rx_look la 3 = some (wvi l3)) (hr : RM h0 h m) (pl2 : InI l2) (pl3 : InI l3) (hD : m_cellStep_203 g l2 l3 m = some mF) : Wq O F (Cd O F rp_P dd) (6, 0, rw_X12_cellStep, []) (rx_at rw_X12_cellStep 203) la [] h (QN h0 mF) := by
  unfold m_cellStep_203 at hD
  refine wq_aload_n k0 rfl ?_
  refine wq_aload_n k0 rfl ?_
  refine wm_gfa (c := 1) hr rfl rfl ?_
  refine wq_aload_n k0 rfl ?_
  refine wm_gfi hr rfl rfl (fun pp127 => ?_)
  refine wq_iconst rfl ?_
  refine wq_isub rfl ?_
  obtain ⟨g128, g129, hD⟩ := ck_of hD
  refine wm_all (f := 96) hr rfl (InI_i32 _) g128 g129 rfl (fun pp130 => ?_)
  refine wq_iload_n k2 rfl ?_
  refine wq_iload_n k3 rfl ?_
  obtain ⟨v135, m131, q134, hD⟩ := vb_of hD
  refine wm_csZ (fun _ _ => rfl) (c_isOut (by omega) hr pp130 pl2 pl3 q134) rfl rfl rfl (fun h132 hr133 pp136 => ?_)
  refine wq_iconst rfl ?_
  obtain ⟨v141, m137, q140, hD⟩ := vb_of hD
  refine wm_cvZ hr133 (c_isWrong (by omega) hr133 pp136 ⟨by decide, by decide⟩ q140) rfl rfl rfl (fun h138 hr139 pp142 => ?_)
  refine wl_istore rfl rfl (fun la143 kk144 t145 => ?_)
  refine wq_goto rfl rfl ?_
  exact c_m_cellStep_229_b hd hr139 hD
def m_cellStep (g : Nat) (l1 : Int) (m : MS) : Option MS := ck l1 6000 (ck l1 6000 (ck l1 6000 (if (m 70 l1) = 3 then vb (m_frameOf g (m 71 l1) m) (fun v26 m22 => ck v26 200 (nb (m_push (i32 ((m22 91 v26) + (m 72 l1))) m22) (fun m31 => m_cellStep_229 g m31))) else if (m 70 l1) = 4 then vb (m_frameOf g (m 71 l1) m) (fun v40 m36 => ck v40 200 (ck (i32 ((m36 91 v40) + (m 72 l1))) 3000 (nb (m_push (m36 85 (i32 ((m36 91 v40) + (m 72 l1)))) m36) (fun m48 => m_cellStep_229 g m48)))) else if (m 70 l1) = 5 then vb (m_pop m) (fun v57 m53 => vb (m_isOut v57 (m 71 l1) (m 72 l1) m53) (fun v69 m65 => vb (m_isWrong v69 3 m65) (fun v75 m71 => if v75 = 0 then vb (m_pop m71) (fun v82 m78 => nb (m_push (i64 ((i64 (v82 + v57)) - (m 71 l1))) m78) (fun m84 => m_cellStep_229 g m84)) else m_cellStep_229 g m71))) else if (m 70 l1) = 6 then vb (m_pop m) (fun v93 m89 => ck (i32 v93) 3000 (if (m89 86 (i32 v93)) = 0 then m_cellStep_161 g (i32 v93) 1 m89 else m_cellStep_161 g (i32 v93) 0 m89)) else if (m 70 l1) = 7 then vb (m_pop m) (fun v108 m104 => vb (m_pop m104) (fun v119 m115 => nb (m_putThere (i32 v119) v108 l1 m115) (fun m121 => m_cellStep_229 g m121))) else m_cellStep_203 g (m 71 l1) (m 72 l1) m)))
theorem c_m_cellStep_b {dd : Nat} (hd : 3 ≤ dd) {g : Nat} {h0 : RHeap} {mF : MS} {la : RLoc} {h : RHeap} {m : MS} {l1 : Int} (k0 : rx_look la 0 = some (.ref 170)) (k1 : rx_look la 1 = some (wvi l1)) (hr : RM h0 h m) (pl1 : InI l1) (hD : m_cellStep g l1 m = some mF) : Wq O F (Cd O F rp_P dd) (6, 0, rw_X12_cellStep, []) (rx_at rw_X12_cellStep 0) la [] h (QN h0 mF) := by
  unfold m_cellStep at hD
  refine wq_aload_n k0 rfl ?_
  refine wm_gfa (c := 0) hr rfl rfl ?_
  refine wq_iload_n k1 rfl ?_
  obtain ⟨g1, g2, hD⟩ := ck_of hD
  refine wm_ali (f := 71) hr rfl pl1 g1 g2 rfl (fun pp3 => ?_)
  refine wl_istore_n rfl rfl (fun la4 kk5 t6 => ?_)
  have kk7 := t6 0 _ (by decide) (Or.inr rfl) k0
  have kk8 := t6 1 _ (by decide) (Or.inr rfl) k1
  refine wq_aload_n kk7 rfl ?_
  refine wm_gfa (c := 0) hr rfl rfl ?_
  refine wq_iload_n kk8 rfl ?_
  obtain ⟨g9, g10, hD⟩ := ck_of hD
  refine wm_ali (f := 72) hr rfl pl1 g9 g10 rfl (fun pp11 => ?_)
  refine wl_istore_n rfl rfl (fun la12 kk13 t14 => ?_)
  have kk15 := t14 0 _ (by decide) (Or.inr rfl) kk7
  have kk16 := t14 1 _ (by decide) (Or.inr rfl) kk8
  have kk17 := t14 2 _ (by decide) (Or.inr rfl) kk5
  refine wq_aload_n kk15 rfl ?_
  refine wm_gfa (c := 0) hr rfl rfl ?_
  refine wq_iload_n kk16 rfl ?_
  obtain ⟨g18, g19, hD⟩ := ck_of hD
  refine wm_ali (f := 70) hr rfl pl1 g18 g19 rfl (fun pp20 => ?_)
  by_cases c21 : (m 70 l1) = 3
  · rw [if_pos c21] at hD
    refine wq_tsw_in (j := 0) pp20 (by omega) (by omega) (by omega) rfl rfl rfl ?_
    refine wq_aload_n kk15 rfl ?_
    refine wq_aload_n kk15 rfl ?_
    refine wm_gfa (c := 0) hr rfl rfl ?_
    refine wq_aload_n kk15 rfl ?_
    refine wq_iload_n kk17 rfl ?_
    obtain ⟨v26, m22, q25, hD⟩ := vb_of hD
    refine wm_cvI hr (c_frameOf (by omega) hr pp3 q25) rfl rfl rfl (fun h23 hr24 pp27 => ?_)
    obtain ⟨g28, g29, hD⟩ := ck_of hD
    refine wm_ali (f := 91) hr24 rfl pp27 g28 g29 rfl (fun pp30 => ?_)
    refine wq_iload_n kk13 rfl ?_
    refine wq_iadd rfl ?_
    refine wq_i2l (InI_i32 _) rfl ?_
    obtain ⟨m31, q34, hD⟩ := nb_of hD
    refine wm_cvN hr24 (c_push (by omega) hr24 (InI.toL (InI_i32 _)) q34) rfl rfl rfl (fun h32 hr33 => ?_)
    refine wq_goto rfl rfl ?_
    exact c_m_cellStep_229_b hd hr33 hD
  rw [if_neg c21] at hD
  by_cases c35 : (m 70 l1) = 4
  · rw [if_pos c35] at hD
    refine wq_tsw_in (j := 1) pp20 (by omega) (by omega) (by omega) rfl rfl rfl ?_
    refine wq_aload_n kk15 rfl ?_
    refine wq_aload_n kk15 rfl ?_
    refine wm_gfa (c := 1) hr rfl rfl ?_
    refine wq_aload_n kk15 rfl ?_
    refine wm_gfa (c := 0) hr rfl rfl ?_
    refine wq_aload_n kk15 rfl ?_
    refine wq_iload_n kk17 rfl ?_
    obtain ⟨v40, m36, q39, hD⟩ := vb_of hD
    refine wm_cvI hr (c_frameOf (by omega) hr pp3 q39) rfl rfl rfl (fun h37 hr38 pp41 => ?_)
    obtain ⟨g42, g43, hD⟩ := ck_of hD
    refine wm_ali (f := 91) hr38 rfl pp41 g42 g43 rfl (fun pp44 => ?_)
    refine wq_iload_n kk13 rfl ?_
    refine wq_iadd rfl ?_
    obtain ⟨g45, g46, hD⟩ := ck_of hD
    refine wm_all (f := 85) hr38 rfl (InI_i32 _) g45 g46 rfl (fun pp47 => ?_)
    obtain ⟨m48, q51, hD⟩ := nb_of hD
    refine wm_cvN hr38 (c_push (by omega) hr38 pp47 q51) rfl rfl rfl (fun h49 hr50 => ?_)
    refine wq_goto rfl rfl ?_
    exact c_m_cellStep_229_b hd hr50 hD
  rw [if_neg c35] at hD
  by_cases c52 : (m 70 l1) = 5
  · rw [if_pos c52] at hD
    refine wq_tsw_in (j := 2) pp20 (by omega) (by omega) (by omega) rfl rfl rfl ?_
    refine wq_aload_n kk15 rfl ?_
    obtain ⟨v57, m53, q56, hD⟩ := vb_of hD
    refine wm_cvL hr (c_pop (by omega) hr q56) rfl rfl rfl (fun h54 hr55 pp58 => ?_)
    refine wl_lstore rfl rfl (fun la59 kk60 t61 => ?_)
    have kk62 := t61 0 _ ⟨by decide, by decide⟩ (Or.inr rfl) kk15
    have kk63 := t61 2 _ ⟨by decide, by decide⟩ (Or.inr rfl) kk17
    have kk64 := t61 3 _ ⟨by decide, by decide⟩ (Or.inr rfl) kk13
    refine wq_aload_n kk62 rfl ?_
    refine wq_lload kk60 rfl ?_
    refine wq_iload_n kk63 rfl ?_
    refine wq_iload_n kk64 rfl ?_
    obtain ⟨v69, m65, q68, hD⟩ := vb_of hD
    refine wm_csZ (fun _ _ => rfl) (c_isOut (by omega) hr55 pp58 pp3 pp11 q68) rfl rfl rfl (fun h66 hr67 pp70 => ?_)
    refine wq_iconst rfl ?_
    obtain ⟨v75, m71, q74, hD⟩ := vb_of hD
    refine wm_cvZ hr67 (c_isWrong (by omega) hr67 pp70 ⟨by decide, by decide⟩ q74) rfl rfl rfl (fun h72 hr73 pp76 => ?_)
    refine wq_if_ne (InI_z pp76) rfl rfl rfl (fun c77 => ?_) (fun c77 => ?_)
    · rw [if_neg c77] at hD
      exact c_m_cellStep_229_b hd hr73 hD
    · rw [if_pos c77] at hD
      refine wq_aload_n kk62 rfl ?_
      refine wq_aload_n kk62 rfl ?_
      obtain ⟨v82, m78, q81, hD⟩ := vb_of hD
      refine wm_cvL hr73 (c_pop (by omega) hr73 q81) rfl rfl rfl (fun h79 hr80 pp83 => ?_)
      refine wq_lload kk60 rfl ?_
      refine wq_ladd rfl ?_
      refine wq_iload_n kk63 rfl ?_
      refine wq_i2l pp3 rfl ?_
      refine wq_lsub rfl ?_
      obtain ⟨m84, q87, hD⟩ := nb_of hD
      refine wm_cvN hr80 (c_push (by omega) hr80 (InL_i64 _) q87) rfl rfl rfl (fun h85 hr86 => ?_)
      refine wq_goto rfl rfl ?_
      exact c_m_cellStep_229_b hd hr86 hD
  rw [if_neg c52] at hD
  by_cases c88 : (m 70 l1) = 6
  · rw [if_pos c88] at hD
    refine wq_tsw_in (j := 3) pp20 (by omega) (by omega) (by omega) rfl rfl rfl ?_
    refine wq_aload_n kk15 rfl ?_
    obtain ⟨v93, m89, q92, hD⟩ := vb_of hD
    refine wm_cvL hr (c_pop (by omega) hr q92) rfl rfl rfl (fun h90 hr91 pp94 => ?_)
    refine wq_l2i rfl ?_
    refine wl_istore rfl rfl (fun la95 kk96 t97 => ?_)
    have kk98 := t97 0 _ (by decide) (Or.inr rfl) kk15
    refine wq_aload_n kk98 rfl ?_
    refine wq_aload_n kk98 rfl ?_
    refine wm_gfa (c := 3) hr91 rfl rfl ?_
    refine wq_iload kk96 rfl ?_
    obtain ⟨g99, g100, hD⟩ := ck_of hD
    refine wm_alz (f := 86) hr91 rfl (InI_i32 _) g99 g100 rfl (fun pp101 => ?_)
    refine wq_if_ne (InI_z pp101) rfl rfl rfl (fun c102 => ?_) (fun c102 => ?_)
    · rw [if_neg c102] at hD
      refine wq_iconst rfl ?_
      exact c_m_cellStep_161_b hd kk98 kk96 hr91 (InI_i32 _) (Or.inl rfl) hD
    · rw [if_pos c102] at hD
      refine wq_iconst rfl ?_
      refine wq_goto rfl rfl ?_
      exact c_m_cellStep_161_b hd kk98 kk96 hr91 (InI_i32 _) (Or.inr rfl) hD
  rw [if_neg c88] at hD
  by_cases c103 : (m 70 l1) = 7
  · rw [if_pos c103] at hD
    refine wq_tsw_in (j := 4) pp20 (by omega) (by omega) (by omega) rfl rfl rfl ?_
    refine wq_aload_n kk15 rfl ?_
    obtain ⟨v108, m104, q107, hD⟩ := vb_of hD
    refine wm_cvL hr (c_pop (by omega) hr q107) rfl rfl rfl (fun h105 hr106 pp109 => ?_)
    refine wl_lstore rfl rfl (fun la110 kk111 t112 => ?_)
    have kk113 := t112 0 _ ⟨by decide, by decide⟩ (Or.inr rfl) kk15
    have kk114 := t112 1 _ ⟨by decide, by decide⟩ (Or.inr rfl) kk16
    refine wq_aload_n kk113 rfl ?_
    refine wq_aload_n kk113 rfl ?_
    obtain ⟨v119, m115, q118, hD⟩ := vb_of hD
    refine wm_cvL hr106 (c_pop (by omega) hr106 q118) rfl rfl rfl (fun h116 hr117 pp120 => ?_)
    refine wq_l2i rfl ?_
    refine wq_lload kk111 rfl ?_
    refine wq_iload_n kk114 rfl ?_
    obtain ⟨m121, q124, hD⟩ := nb_of hD
    refine wm_cvN hr117 (c_putThere (by omega) hr117 (InI_i32 _) pp109 pl1 q124) rfl rfl rfl (fun h122 hr123 => ?_)
    refine wq_goto rfl rfl ?_
    exact c_m_cellStep_229_b hd hr123 hD
  rw [if_neg c103] at hD
  refine wq_tsw_out pp20 (by omega) rfl rfl ?_
  exact c_m_cellStep_203_b hd kk15 kk17 kk13 hr pp3 pp11 hD
theorem c_cellStep {d : Nat} (hd : 4 ≤ d) {g : Nat} {h0 h : RHeap} {m : MS} {l1 : Int} {mF : MS} (hr : RM h0 h m) (pl1 : InI l1) (hD : m_cellStep g l1 m = some mF) : Cq (Cd O F rp_P d) 213 [.ref 170, wvi l1] h (QN h0 mF) := by
  refine cq_of (I := (6, 0, rw_X12_cellStep, [])) rfl rfl (by omega) ?_
  exact c_m_cellStep_b (by omega) rfl rfl hr pl1 hD
def m_choice_234 (g : Nat) : Nat → Int → Int → MS → Option MS
  | 0, _, _, _ => none
  | n + 1, l6, l7, m => if l7 < l6 then ck l7 6000 (wlet (mset m 60 l7 (m 57 0)) (fun m174 => m_choice_234 g n l6 (i32 (l7 + 1)) m174)) else nb (m_write0 27 m) (fun m155 => nb (m_keep l6 m155) (fun m159 => nb (m_later 23 m159) (fun m163 => nb (m_later 6 m163) (fun m167 => some m167))))
theorem c_m_choice_234 {dd : Nat} (hd : 4 ≤ dd) {g : Nat} {h0 : RHeap} {mF : MS} : ∀ (n : Nat) {la : RLoc} {h : RHeap} {m : MS} {l6 l7 : Int}, rx_look la 0 = some (.ref 170) → rx_look la 6 = some (wvi l6) → rx_look la 7 = some (wvi l7) → RM h0 h m → InI l6 → InI l7 → m_choice_234 g n l6 l7 m = some mF → Wq O F (Cd O F rp_P dd) (8, 0, rw_X12_choice, []) (rx_at rw_X12_choice 234) la [] h (QN h0 mF) := by
  intro n
  induction n with
  | zero =>
    intro la h m l6 l7 k0 k6 k7 hr pl6 pl7 hD
    unfold m_choice_234 at hD
    cases hD
  | succ n ih =>
    intro la h m l6 l7 k0 k6 k7 hr pl6 pl7 hD
    unfold m_choice_234 at hD
    refine wq_iload k7 rfl ?_
    refine wq_iload k6 rfl ?_
    refine wq_icmp_ge pl7 pl6 rfl rfl rfl (fun c154 => ?_) (fun c154 => ?_)
    · rw [if_neg (Int.not_lt.mpr c154)] at hD
      refine wq_aload_n k0 rfl ?_
      refine wq_bipush (by decide) rfl ?_
      obtain ⟨m155, q158, hD⟩ := nb_of hD
      refine wm_cvN hr (c_write0 (by omega) hr ⟨by decide, by decide⟩ q158) rfl rfl rfl (fun h156 hr157 => ?_)
      refine wq_aload_n k0 rfl ?_
      refine wq_iload k6 rfl ?_
      obtain ⟨m159, q162, hD⟩ := nb_of hD
      refine wm_cvN hr157 (c_keep (by omega) hr157 pl6 q162) rfl rfl rfl (fun h160 hr161 => ?_)
      refine wq_aload_n k0 rfl ?_
      refine wq_bipush (by decide) rfl ?_
      obtain ⟨m163, q166, hD⟩ := nb_of hD
      refine wm_cvN hr161 (c_later (by omega) hr161 ⟨by decide, by decide⟩ q166) rfl rfl rfl (fun h164 hr165 => ?_)
      refine wq_aload_n k0 rfl ?_
      refine wq_bipush (by decide) rfl ?_
      obtain ⟨m167, q170, hD⟩ := nb_of hD
      refine wm_cvN hr165 (c_later (by omega) hr165 ⟨by decide, by decide⟩ q170) rfl rfl rfl (fun h168 hr169 => ?_)
      cases hD
      exact wq_return rfl ⟨_, rfl, hr169⟩
    · rw [if_pos c154] at hD
      refine wq_aload_n k0 rfl ?_
      refine wm_gfa (c := 0) hr rfl rfl ?_
      refine wq_iload k7 rfl ?_
      refine wq_aload_n k0 rfl ?_
      refine wm_gfi hr rfl rfl (fun pp171 => ?_)
      obtain ⟨g172, g173, hD⟩ := ck_of hD
      obtain ⟨m174, e175, hD⟩ := wlet_of hD
      refine wm_asi (f := 60) hr rfl pl7 g172 g173 pp171 rfl (fun h176 hr177 => ?_)
      rw [← e175] at hr177
      refine wl_iinc k7 rfl rfl (fun la178 kk179 t180 => ?_)
      have kk181 := t180 0 _ (by decide) (Or.inr rfl) k0
      have kk182 := t180 6 _ (by decide) (Or.inr rfl) k6
      refine wq_goto rfl rfl ?_
      exact ih kk181 kk182 kk179 hr177 pl6 (InI_i32 _) hD
def m_choice_213 (g : Nat) (l4 : Int) (m : MS) : Option MS := nb (m_want g 22 m) (fun m134 => vb (m_emit 20 0 0 0 m134) (fun v142 m138 => m_choice_234 g g v142 l4 m138))
theorem c_m_choice_213_b {dd : Nat} (hd : 4 ≤ dd) {g : Nat} {h0 : RHeap} {mF : MS} {la : RLoc} {h : RHeap} {m : MS} {l4 : Int} (k0 : rx_look la 0 = some (.ref 170)) (k4 : rx_look la 4 = some (wvi l4)) (hr : RM h0 h m) (pl4 : InI l4) (hD : m_choice_213 g l4 m = some mF) : Wq O F (Cd O F rp_P dd) (8, 0, rw_X12_choice, []) (rx_at rw_X12_choice 213) la [] h (QN h0 mF) := by
  unfold m_choice_213 at hD
  refine wq_aload_n k0 rfl ?_
  refine wq_bipush (by decide) rfl ?_
  obtain ⟨m134, q137, hD⟩ := nb_of hD
  refine wm_cvN hr (c_want (by omega) hr ⟨by decide, by decide⟩ q137) rfl rfl rfl (fun h135 hr136 => ?_)
  refine wq_aload_n k0 rfl ?_
  refine wq_bipush (by decide) rfl ?_
  refine wq_iconst rfl ?_
  refine wq_iconst rfl ?_
  refine wq_iconst rfl ?_
  obtain ⟨v142, m138, q141, hD⟩ := vb_of hD
  refine wm_cvI hr136 (c_emit (by omega) hr136 ⟨by decide, by decide⟩ ⟨by decide, by decide⟩ ⟨by decide, by decide⟩ ⟨by decide, by decide⟩ q141) rfl rfl rfl (fun h139 hr140 pp143 => ?_)
  refine wl_istore rfl rfl (fun la144 kk145 t146 => ?_)
  have kk147 := t146 0 _ (by decide) (Or.inr rfl) k0
  have kk148 := t146 4 _ (by decide) (Or.inr rfl) k4
  refine wq_iload kk148 rfl ?_
  refine wl_istore rfl rfl (fun la149 kk150 t151 => ?_)
  have kk152 := t151 0 _ (by decide) (Or.inr rfl) kk147
  have kk153 := t151 6 _ (by decide) (Or.inr rfl) kk145
  exact c_m_choice_234 hd g kk152 kk153 kk150 hr140 pp143 pl4 hD
def m_choice_210 (g : Nat) (rec67 : Int → Int → Int → Int → MS → Option MS) (l2 : Int) (l3 : Int) (l4 : Int) (l5 : Int) (m : MS) : Option MS := rec67 l2 l3 l4 l5 m
theorem c_m_choice_210_b {dd : Nat} (hd : 4 ≤ dd) {g : Nat} {h0 : RHeap} {mF : MS} {rec67 : Int → Int → Int → Int → MS → Option MS} (hrec67 : ∀ {la : RLoc} {h : RHeap} {m : MS} {l2 l3 l4 l5 : Int}, rx_look la 0 = some (.ref 170) → rx_look la 2 = some (wvi l2) → rx_look la 3 = some (wvi l3) → rx_look la 4 = some (wvi l4) → rx_look la 5 = some (wvi l5) → RM h0 h m → InI l2 → InI l3 → InI l4 → (l5 = 0 ∨ l5 = 1) → rec67 l2 l3 l4 l5 m = some mF → Wq O F (Cd O F rp_P dd) (8, 0, rw_X12_choice, []) (rx_at rw_X12_choice 67) la [] h (QN h0 mF)) {la : RLoc} {h : RHeap} {m : MS} {l2 l3 l4 l5 : Int} (k0 : rx_look la 0 = some (.ref 170)) (k2 : rx_look la 2 = some (wvi l2)) (k3 : rx_look la 3 = some (wvi l3)) (k4 : rx_look la 4 = some (wvi l4)) (k5 : rx_look la 5 = some (wvi l5)) (hr : RM h0 h m) (pl2 : InI l2) (pl3 : InI l3) (pl4 : InI l4) (pl5 : (l5 = 0 ∨ l5 = 1)) (hD : m_choice_210 g rec67 l2 l3 l4 l5 m = some mF) : Wq O F (Cd O F rp_P dd) (8, 0, rw_X12_choice, []) (rx_at rw_X12_choice 210) la [] h (QN h0 mF) := by
  unfold m_choice_210 at hD
  refine wq_goto rfl rfl ?_
  exact hrec67 k0 k2 k3 k4 k5 hr pl2 pl3 pl4 pl5 hD
def m_choice_199 (g : Nat) (rec67 : Int → Int → Int → Int → MS → Option MS) (l2 : Int) (l3 : Int) (l4 : Int) (s0 : Int) (m : MS) : Option MS := if s0 = 0 then m_choice_210 g rec67 l2 l3 l4 s0 m else nb (m_take g m) (fun m130 => m_choice_210 g rec67 l2 l3 l4 s0 m130)
theorem c_m_choice_199_b {dd : Nat} (hd : 4 ≤ dd) {g : Nat} {h0 : RHeap} {mF : MS} {rec67 : Int → Int → Int → Int → MS → Option MS} (hrec67 : ∀ {la : RLoc} {h : RHeap} {m : MS} {l2 l3 l4 l5 : Int}, rx_look la 0 = some (.ref 170) → rx_look la 2 = some (wvi l2) → rx_look la 3 = some (wvi l3) → rx_look la 4 = some (wvi l4) → rx_look la 5 = some (wvi l5) → RM h0 h m → InI l2 → InI l3 → InI l4 → (l5 = 0 ∨ l5 = 1) → rec67 l2 l3 l4 l5 m = some mF → Wq O F (Cd O F rp_P dd) (8, 0, rw_X12_choice, []) (rx_at rw_X12_choice 67) la [] h (QN h0 mF)) {la : RLoc} {h : RHeap} {m : MS} {l2 l3 l4 s0 : Int} (k0 : rx_look la 0 = some (.ref 170)) (k2 : rx_look la 2 = some (wvi l2)) (k3 : rx_look la 3 = some (wvi l3)) (k4 : rx_look la 4 = some (wvi l4)) (hr : RM h0 h m) (pl2 : InI l2) (pl3 : InI l3) (pl4 : InI l4) (ps0 : (s0 = 0 ∨ s0 = 1)) (hD : m_choice_199 g rec67 l2 l3 l4 s0 m = some mF) : Wq O F (Cd O F rp_P dd) (8, 0, rw_X12_choice, []) (rx_at rw_X12_choice 199) la [wvi s0] h (QN h0 mF) := by
  unfold m_choice_199 at hD
  refine wl_istore rfl rfl (fun la122 kk123 t124 => ?_)
  have kk125 := t124 0 _ (by decide) (Or.inr rfl) k0
  have kk126 := t124 2 _ (by decide) (Or.inr rfl) k2
  have kk127 := t124 3 _ (by decide) (Or.inr rfl) k3
  have kk128 := t124 4 _ (by decide) (Or.inr rfl) k4
  refine wq_iload kk123 rfl ?_
  refine wq_if_eq (InI_z ps0) rfl rfl rfl (fun c129 => ?_) (fun c129 => ?_)
  · rw [if_pos c129] at hD
    exact c_m_choice_210_b hd hrec67 kk125 kk126 kk127 kk128 kk123 hr pl2 pl3 pl4 ps0 hD
  · rw [if_neg c129] at hD
    refine wq_aload_n kk125 rfl ?_
    obtain ⟨m130, q133, hD⟩ := nb_of hD
    refine wm_cvN hr (c_take (by omega) hr q133) rfl rfl rfl (fun h131 hr132 => ?_)
    exact c_m_choice_210_b hd hrec67 kk125 kk126 kk127 kk128 kk123 hr132 pl2 pl3 pl4 ps0 hD
def m_choice_198 (g : Nat) (rec67 : Int → Int → Int → Int → MS → Option MS) (l2 : Int) (l3 : Int) (l4 : Int) (m : MS) : Option MS := m_choice_199 g rec67 l2 l3 l4 0 m
theorem c_m_choice_198_b {dd : Nat} (hd : 4 ≤ dd) {g : Nat} {h0 : RHeap} {mF : MS} {rec67 : Int → Int → Int → Int → MS → Option MS} (hrec67 : ∀ {la : RLoc} {h : RHeap} {m : MS} {l2 l3 l4 l5 : Int}, rx_look la 0 = some (.ref 170) → rx_look la 2 = some (wvi l2) → rx_look la 3 = some (wvi l3) → rx_look la 4 = some (wvi l4) → rx_look la 5 = some (wvi l5) → RM h0 h m → InI l2 → InI l3 → InI l4 → (l5 = 0 ∨ l5 = 1) → rec67 l2 l3 l4 l5 m = some mF → Wq O F (Cd O F rp_P dd) (8, 0, rw_X12_choice, []) (rx_at rw_X12_choice 67) la [] h (QN h0 mF)) {la : RLoc} {h : RHeap} {m : MS} {l2 l3 l4 : Int} (k0 : rx_look la 0 = some (.ref 170)) (k2 : rx_look la 2 = some (wvi l2)) (k3 : rx_look la 3 = some (wvi l3)) (k4 : rx_look la 4 = some (wvi l4)) (hr : RM h0 h m) (pl2 : InI l2) (pl3 : InI l3) (pl4 : InI l4) (hD : m_choice_198 g rec67 l2 l3 l4 m = some mF) : Wq O F (Cd O F rp_P dd) (8, 0, rw_X12_choice, []) (rx_at rw_X12_choice 198) la [] h (QN h0 mF) := by
  unfold m_choice_198 at hD
  refine wq_iconst rfl ?_
  exact c_m_choice_199_b hd hrec67 k0 k2 k3 k4 hr pl2 pl3 pl4 (Or.inl rfl) hD
def m_choice_132 (g : Nat) (rec67 : Int → Int → Int → Int → MS → Option MS) (rec103 : Int → Int → Int → Int → MS → Option MS) (l2 : Int) (l3 : Int) (l4 : Int) (l6 : Int) (s1 : Int) (m : MS) : Option MS := nb (m_fits s1 m) (fun m111 => rec103 l2 l3 l4 (i32 (l6 + 1)) m111)
theorem c_m_choice_132_b {dd : Nat} (hd : 4 ≤ dd) {g : Nat} {h0 : RHeap} {mF : MS} {rec67 : Int → Int → Int → Int → MS → Option MS} {rec103 : Int → Int → Int → Int → MS → Option MS} (hrec67 : ∀ {la : RLoc} {h : RHeap} {m : MS} {l2 l3 l4 l5 : Int}, rx_look la 0 = some (.ref 170) → rx_look la 2 = some (wvi l2) → rx_look la 3 = some (wvi l3) → rx_look la 4 = some (wvi l4) → rx_look la 5 = some (wvi l5) → RM h0 h m → InI l2 → InI l3 → InI l4 → (l5 = 0 ∨ l5 = 1) → rec67 l2 l3 l4 l5 m = some mF → Wq O F (Cd O F rp_P dd) (8, 0, rw_X12_choice, []) (rx_at rw_X12_choice 67) la [] h (QN h0 mF)) (hrec103 : ∀ {la : RLoc} {h : RHeap} {m : MS} {l2 l3 l4 l6 : Int}, rx_look la 0 = some (.ref 170) → rx_look la 2 = some (wvi l2) → rx_look la 3 = some (wvi l3) → rx_look la 4 = some (wvi l4) → rx_look la 6 = some (wvi l6) → RM h0 h m → InI l2 → InI l3 → InI l4 → InI l6 → rec103 l2 l3 l4 l6 m = some mF → Wq O F (Cd O F rp_P dd) (8, 0, rw_X12_choice, []) (rx_at rw_X12_choice 103) la [] h (QN h0 mF)) {la : RLoc} {h : RHeap} {m : MS} {l2 l3 l4 l6 s1 : Int} (k0 : rx_look la 0 = some (.ref 170)) (k2 : rx_look la 2 = some (wvi l2)) (k3 : rx_look la 3 = some (wvi l3)) (k4 : rx_look la 4 = some (wvi l4)) (k6 : rx_look la 6 = some (wvi l6)) (hr : RM h0 h m) (pl2 : InI l2) (pl3 : InI l3) (pl4 : InI l4) (pl6 : InI l6) (ps1 : (s1 = 0 ∨ s1 = 1)) (hD : m_choice_132 g rec67 rec103 l2 l3 l4 l6 s1 m = some mF) : Wq O F (Cd O F rp_P dd) (8, 0, rw_X12_choice, []) (rx_at rw_X12_choice 132) la [wvi s1, .ref 170] h (QN h0 mF) := by
  unfold m_choice_132 at hD
  obtain ⟨m111, q114, hD⟩ := nb_of hD
  refine wm_cvN hr (c_fits (by omega) hr ps1 q114) rfl rfl rfl (fun h112 hr113 => ?_)
  refine wl_iinc k6 rfl rfl (fun la115 kk116 t117 => ?_)
  have kk118 := t117 0 _ (by decide) (Or.inr rfl) k0
  have kk119 := t117 2 _ (by decide) (Or.inr rfl) k2
  have kk120 := t117 3 _ (by decide) (Or.inr rfl) k3
  have kk121 := t117 4 _ (by decide) (Or.inr rfl) k4
  refine wq_goto rfl rfl ?_
  exact hrec103 kk118 kk119 kk120 kk121 kk116 hr113 pl2 pl3 pl4 (InI_i32 _) hD
def m_choice_103 (g : Nat) (rec67 : Int → Int → Int → Int → MS → Option MS) : Nat → Int → Int → Int → Int → MS → Option MS
  | 0, _, _, _, _, _ => none
  | n + 1, l2, l3, l4, l6, m => if l6 < (m 69 0) then ck l6 2000 (if (m 68 l6) = (m 32 0) then m_choice_132 g rec67 (m_choice_103 g rec67 n) l2 l3 l4 l6 0 m else m_choice_132 g rec67 (m_choice_103 g rec67 n) l2 l3 l4 l6 1 m) else ck (m 69 0) 2000 (wlet (mset m 68 (m 69 0) (m 32 0)) (fun m79 => wlet (mset m79 69 0 (i32 ((m79 69 0) + 1))) (fun m84 => vb (m_emit 26 (m84 32 0) 0 0 m84) (fun v93 m89 => if (m89 6 0) = 0 then if (m89 10 0) = 20 then m_choice_199 g rec67 l2 l3 l4 1 m89 else m_choice_198 g rec67 l2 l3 l4 m89 else m_choice_198 g rec67 l2 l3 l4 m89))))
theorem c_m_choice_103 {dd : Nat} (hd : 4 ≤ dd) {g : Nat} {h0 : RHeap} {mF : MS} {rec67 : Int → Int → Int → Int → MS → Option MS} (hrec67 : ∀ {la : RLoc} {h : RHeap} {m : MS} {l2 l3 l4 l5 : Int}, rx_look la 0 = some (.ref 170) → rx_look la 2 = some (wvi l2) → rx_look la 3 = some (wvi l3) → rx_look la 4 = some (wvi l4) → rx_look la 5 = some (wvi l5) → RM h0 h m → InI l2 → InI l3 → InI l4 → (l5 = 0 ∨ l5 = 1) → rec67 l2 l3 l4 l5 m = some mF → Wq O F (Cd O F rp_P dd) (8, 0, rw_X12_choice, []) (rx_at rw_X12_choice 67) la [] h (QN h0 mF)) : ∀ (n : Nat) {la : RLoc} {h : RHeap} {m : MS} {l2 l3 l4 l6 : Int}, rx_look la 0 = some (.ref 170) → rx_look la 2 = some (wvi l2) → rx_look la 3 = some (wvi l3) → rx_look la 4 = some (wvi l4) → rx_look la 6 = some (wvi l6) → RM h0 h m → InI l2 → InI l3 → InI l4 → InI l6 → m_choice_103 g rec67 n l2 l3 l4 l6 m = some mF → Wq O F (Cd O F rp_P dd) (8, 0, rw_X12_choice, []) (rx_at rw_X12_choice 103) la [] h (QN h0 mF) := by
  intro n
  induction n with
  | zero =>
    intro la h m l2 l3 l4 l6 k0 k2 k3 k4 k6 hr pl2 pl3 pl4 pl6 hD
    unfold m_choice_103 at hD
    cases hD
  | succ n ih =>
    intro la h m l2 l3 l4 l6 k0 k2 k3 k4 k6 hr pl2 pl3 pl4 pl6 hD
    unfold m_choice_103 at hD
    refine wq_iload k6 rfl ?_
    refine wq_aload_n k0 rfl ?_
    refine wm_gfi hr rfl rfl (fun pp73 => ?_)
    refine wq_icmp_ge pl6 pp73 rfl rfl rfl (fun c74 => ?_) (fun c74 => ?_)
    · rw [if_neg (Int.not_lt.mpr c74)] at hD
      refine wq_aload_n k0 rfl ?_
      refine wm_gfa (c := 0) hr rfl rfl ?_
      refine wq_aload_n k0 rfl ?_
      refine wm_gfi hr rfl rfl (fun pp75 => ?_)
      refine wq_aload_n k0 rfl ?_
      refine wm_gfi hr rfl rfl (fun pp76 => ?_)
      obtain ⟨g77, g78, hD⟩ := ck_of hD
      obtain ⟨m79, e80, hD⟩ := wlet_of hD
      refine wm_asi (f := 68) hr rfl pp75 g77 g78 pp76 rfl (fun h81 hr82 => ?_)
      rw [← e80] at hr82
      refine wq_aload_n k0 rfl ?_
      refine wq_dup rfl rfl ?_
      refine wm_gfi hr82 rfl rfl (fun pp83 => ?_)
      refine wq_iconst rfl ?_
      refine wq_iadd rfl ?_
      obtain ⟨m84, e85, hD⟩ := wlet_of hD
      refine wm_pfi hr82 rfl rfl (InI_i32 _) rfl (fun h86 hr87 => ?_)
      rw [← e85] at hr87
      refine wq_aload_n k0 rfl ?_
      refine wq_bipush (by decide) rfl ?_
      refine wq_aload_n k0 rfl ?_
      refine wm_gfi hr87 rfl rfl (fun pp88 => ?_)
      refine wq_iconst rfl ?_
      refine wq_iconst rfl ?_
      obtain ⟨v93, m89, q92, hD⟩ := vb_of hD
      refine wm_cvI hr87 (c_emit (by omega) hr87 ⟨by decide, by decide⟩ pp88 ⟨by decide, by decide⟩ ⟨by decide, by decide⟩ q92) rfl rfl rfl (fun h90 hr91 pp94 => ?_)
      refine wl_istore rfl rfl (fun la95 kk96 t97 => ?_)
      have kk98 := t97 0 _ (by decide) (Or.inr rfl) k0
      have kk99 := t97 2 _ (by decide) (Or.inr rfl) k2
      have kk100 := t97 3 _ (by decide) (Or.inr rfl) k3
      have kk101 := t97 4 _ (by decide) (Or.inr rfl) k4
      refine wq_aload_n kk98 rfl ?_
      refine wm_gfi hr91 rfl rfl (fun pp102 => ?_)
      refine wq_if_ne pp102 rfl rfl rfl (fun c103 => ?_) (fun c103 => ?_)
      · rw [if_neg c103] at hD
        exact c_m_choice_198_b hd hrec67 kk98 kk99 kk100 kk101 hr91 pl2 pl3 pl4 hD
      · rw [if_pos c103] at hD
        refine wq_aload_n kk98 rfl ?_
        refine wm_gfi hr91 rfl rfl (fun pp104 => ?_)
        refine wq_bipush (by decide) rfl ?_
        refine wq_icmp_ne pp104 ⟨by decide, by decide⟩ rfl rfl rfl (fun c105 => ?_) (fun c105 => ?_)
        · rw [if_neg c105] at hD
          exact c_m_choice_198_b hd hrec67 kk98 kk99 kk100 kk101 hr91 pl2 pl3 pl4 hD
        · rw [if_pos c105] at hD
          refine wq_iconst rfl ?_
          refine wq_goto rfl rfl ?_
          exact c_m_choice_199_b hd hrec67 kk98 kk99 kk100 kk101 hr91 pl2 pl3 pl4 (Or.inr rfl) hD
    · rw [if_pos c74] at hD
      refine wq_aload_n k0 rfl ?_
      refine wq_aload_n k0 rfl ?_
      refine wm_gfa (c := 0) hr rfl rfl ?_
      refine wq_iload k6 rfl ?_
      obtain ⟨g106, g107, hD⟩ := ck_of hD
      refine wm_ali (f := 68) hr rfl pl6 g106 g107 rfl (fun pp108 => ?_)
      refine wq_aload_n k0 rfl ?_
      refine wm_gfi hr rfl rfl (fun pp109 => ?_)
      refine wq_icmp_eq pp108 pp109 rfl rfl rfl (fun c110 => ?_) (fun c110 => ?_)
      · rw [if_pos c110] at hD
        refine wq_iconst rfl ?_
        exact c_m_choice_132_b hd hrec67 ih k0 k2 k3 k4 k6 hr pl2 pl3 pl4 pl6 (Or.inl rfl) hD
      · rw [if_neg c110] at hD
        refine wq_iconst rfl ?_
        refine wq_goto rfl rfl ?_
        exact c_m_choice_132_b hd hrec67 ih k0 k2 k3 k4 k6 hr pl2 pl3 pl4 pl6 (Or.inr rfl) hD
def m_choice_97 (g : Nat) (rec67 : Int → Int → Int → Int → MS → Option MS) (l2 : Int) (l3 : Int) (l4 : Int) (s1 : Int) (m : MS) : Option MS := nb (m_fits s1 m) (fun m62 => m_choice_103 g rec67 g l2 l3 l4 l2 m62)
theorem c_m_choice_97_b {dd : Nat} (hd : 4 ≤ dd) {g : Nat} {h0 : RHeap} {mF : MS} {rec67 : Int → Int → Int → Int → MS → Option MS} (hrec67 : ∀ {la : RLoc} {h : RHeap} {m : MS} {l2 l3 l4 l5 : Int}, rx_look la 0 = some (.ref 170) → rx_look la 2 = some (wvi l2) → rx_look la 3 = some (wvi l3) → rx_look la 4 = some (wvi l4) → rx_look la 5 = some (wvi l5) → RM h0 h m → InI l2 → InI l3 → InI l4 → (l5 = 0 ∨ l5 = 1) → rec67 l2 l3 l4 l5 m = some mF → Wq O F (Cd O F rp_P dd) (8, 0, rw_X12_choice, []) (rx_at rw_X12_choice 67) la [] h (QN h0 mF)) {la : RLoc} {h : RHeap} {m : MS} {l2 l3 l4 s1 : Int} (k0 : rx_look la 0 = some (.ref 170)) (k2 : rx_look la 2 = some (wvi l2)) (k3 : rx_look la 3 = some (wvi l3)) (k4 : rx_look la 4 = some (wvi l4)) (hr : RM h0 h m) (pl2 : InI l2) (pl3 : InI l3) (pl4 : InI l4) (ps1 : (s1 = 0 ∨ s1 = 1)) (hD : m_choice_97 g rec67 l2 l3 l4 s1 m = some mF) : Wq O F (Cd O F rp_P dd) (8, 0, rw_X12_choice, []) (rx_at rw_X12_choice 97) la [wvi s1, .ref 170] h (QN h0 mF) := by
  unfold m_choice_97 at hD
  obtain ⟨m62, q65, hD⟩ := nb_of hD
  refine wm_cvN hr (c_fits (by omega) hr ps1 q65) rfl rfl rfl (fun h63 hr64 => ?_)
  refine wq_iload_n k2 rfl ?_
  refine wl_istore rfl rfl (fun la66 kk67 t68 => ?_)
  have kk69 := t68 0 _ (by decide) (Or.inr rfl) k0
  have kk70 := t68 2 _ (by decide) (Or.inr rfl) k2
  have kk71 := t68 3 _ (by decide) (Or.inr rfl) k3
  have kk72 := t68 4 _ (by decide) (Or.inr rfl) k4
  exact c_m_choice_103 hd hrec67 g kk69 kk70 kk71 kk72 kk67 hr64 pl2 pl3 pl4 pl2 hD
def m_choice_67 (g : Nat) : Nat → Int → Int → Int → Int → MS → Option MS
  | 0, _, _, _, _, _ => none
  | n + 1, l2, l3, l4, l5, m => if l5 = 0 then m_choice_213 g l4 m else if (m 6 0) = 0 then nb (m_constant g m) (fun m56 => if (m56 31 0) = l3 then m_choice_97 g (m_choice_67 g n) l2 l3 l4 1 m56 else m_choice_97 g (m_choice_67 g n) l2 l3 l4 0 m56) else m_choice_213 g l4 m
theorem c_m_choice_67 {dd : Nat} (hd : 4 ≤ dd) {g : Nat} {h0 : RHeap} {mF : MS} : ∀ (n : Nat) {la : RLoc} {h : RHeap} {m : MS} {l2 l3 l4 l5 : Int}, rx_look la 0 = some (.ref 170) → rx_look la 2 = some (wvi l2) → rx_look la 3 = some (wvi l3) → rx_look la 4 = some (wvi l4) → rx_look la 5 = some (wvi l5) → RM h0 h m → InI l2 → InI l3 → InI l4 → (l5 = 0 ∨ l5 = 1) → m_choice_67 g n l2 l3 l4 l5 m = some mF → Wq O F (Cd O F rp_P dd) (8, 0, rw_X12_choice, []) (rx_at rw_X12_choice 67) la [] h (QN h0 mF) := by
  intro n
  induction n with
  | zero =>
    intro la h m l2 l3 l4 l5 k0 k2 k3 k4 k5 hr pl2 pl3 pl4 pl5 hD
    unfold m_choice_67 at hD
    cases hD
  | succ n ih =>
    intro la h m l2 l3 l4 l5 k0 k2 k3 k4 k5 hr pl2 pl3 pl4 pl5 hD
    unfold m_choice_67 at hD
    refine wq_iload k5 rfl ?_
    refine wq_if_eq (InI_z pl5) rfl rfl rfl (fun c53 => ?_) (fun c53 => ?_)
    · rw [if_pos c53] at hD
      exact c_m_choice_213_b hd k0 k4 hr pl4 hD
    · rw [if_neg c53] at hD
      refine wq_aload_n k0 rfl ?_
      refine wm_gfi hr rfl rfl (fun pp54 => ?_)
      refine wq_if_ne pp54 rfl rfl rfl (fun c55 => ?_) (fun c55 => ?_)
      · rw [if_neg c55] at hD
        exact c_m_choice_213_b hd k0 k4 hr pl4 hD
      · rw [if_pos c55] at hD
        refine wq_aload_n k0 rfl ?_
        obtain ⟨m56, q59, hD⟩ := nb_of hD
        refine wm_cvN hr (c_constant (by omega) hr q59) rfl rfl rfl (fun h57 hr58 => ?_)
        refine wq_aload_n k0 rfl ?_
        refine wq_aload_n k0 rfl ?_
        refine wm_gfi hr58 rfl rfl (fun pp60 => ?_)
        refine wq_iload_n k3 rfl ?_
        refine wq_icmp_ne pp60 pl3 rfl rfl rfl (fun c61 => ?_) (fun c61 => ?_)
        · rw [if_neg c61] at hD
          refine wq_iconst rfl ?_
          exact c_m_choice_97_b hd ih k0 k2 k3 k4 hr58 pl2 pl3 pl4 (Or.inl rfl) hD
        · rw [if_pos c61] at hD
          refine wq_iconst rfl ?_
          refine wq_goto rfl rfl ?_
          exact c_m_choice_97_b hd ih k0 k2 k3 k4 hr58 pl2 pl3 pl4 (Or.inr rfl) hD
def m_choice_58 (g : Nat) (l2 : Int) (l3 : Int) (m : MS) : Option MS := m_choice_67 g g l2 l3 (m 57 0) 1 m
theorem c_m_choice_58_b {dd : Nat} (hd : 4 ≤ dd) {g : Nat} {h0 : RHeap} {mF : MS} {la : RLoc} {h : RHeap} {m : MS} {l2 l3 : Int} (k0 : rx_look la 0 = some (.ref 170)) (k2 : rx_look la 2 = some (wvi l2)) (k3 : rx_look la 3 = some (wvi l3)) (hr : RM h0 h m) (pl2 : InI l2) (pl3 : InI l3) (hD : m_choice_58 g l2 l3 m = some mF) : Wq O F (Cd O F rp_P dd) (8, 0, rw_X12_choice, []) (rx_at rw_X12_choice 58) la [] h (QN h0 mF) := by
  unfold m_choice_58 at hD
  refine wq_aload_n k0 rfl ?_
  refine wm_gfi hr rfl rfl (fun pp39 => ?_)
  refine wl_istore rfl rfl (fun la40 kk41 t42 => ?_)
  have kk43 := t42 0 _ (by decide) (Or.inr rfl) k0
  have kk44 := t42 2 _ (by decide) (Or.inr rfl) k2
  have kk45 := t42 3 _ (by decide) (Or.inr rfl) k3
  refine wq_iconst rfl ?_
  refine wl_istore rfl rfl (fun la46 kk47 t48 => ?_)
  have kk49 := t48 0 _ (by decide) (Or.inr rfl) kk43
  have kk50 := t48 2 _ (by decide) (Or.inr rfl) kk44
  have kk51 := t48 3 _ (by decide) (Or.inr rfl) kk45
  have kk52 := t48 4 _ (by decide) (Or.inr rfl) kk41
  exact c_m_choice_67 hd g kk49 kk50 kk51 kk52 kk47 hr pl2 pl3 pp39 (Or.inr rfl) hD
def m_choice_51 (g : Nat) (m : MS) : Option MS := nb (m_later 24 m) (fun m35 => some m35)
theorem c_m_choice_51_b {dd : Nat} (hd : 4 ≤ dd) {g : Nat} {h0 : RHeap} {mF : MS} {la : RLoc} {h : RHeap} {m : MS} (k0 : rx_look la 0 = some (.ref 170)) (hr : RM h0 h m) (hD : m_choice_51 g m = some mF) : Wq O F (Cd O F rp_P dd) (8, 0, rw_X12_choice, []) (rx_at rw_X12_choice 51) la [] h (QN h0 mF) := by
  unfold m_choice_51 at hD
  refine wq_aload_n k0 rfl ?_
  refine wq_bipush (by decide) rfl ?_
  obtain ⟨m35, q38, hD⟩ := nb_of hD
  refine wm_cvN hr (c_later (by omega) hr ⟨by decide, by decide⟩ q38) rfl rfl rfl (fun h36 hr37 => ?_)
  cases hD
  exact wq_return rfl ⟨_, rfl, hr37⟩
def m_choice (g : Nat) (m : MS) : Option MS := vb (m_back m) (fun v5 m1 => ck (i32 ((m1 67 0) - 2)) 8000 (ck (i32 ((m1 67 0) - 3)) 8000 (if v5 = 0 then if (m1 10 0) = 21 then m_choice_51 g m1 else if (m1 10 0) = 36 then m_choice_51 g m1 else m_choice_58 g (m1 66 (i32 ((m1 67 0) - 2))) (m1 66 (i32 ((m1 67 0) - 3))) m1 else m_choice_58 g (m1 66 (i32 ((m1 67 0) - 2))) (m1 66 (i32 ((m1 67 0) - 3))) m1)))
theorem c_m_choice_b {dd : Nat} (hd : 4 ≤ dd) {g : Nat} {h0 : RHeap} {mF : MS} {la : RLoc} {h : RHeap} {m : MS} (k0 : rx_look la 0 = some (.ref 170)) (hr : RM h0 h m) (hD : m_choice g m = some mF) : Wq O F (Cd O F rp_P dd) (8, 0, rw_X12_choice, []) (rx_at rw_X12_choice 0) la [] h (QN h0 mF) := by
  unfold m_choice at hD
  refine wq_aload_n k0 rfl ?_
  obtain ⟨v5, m1, q4, hD⟩ := vb_of hD
  refine wm_cvI hr (c_back (by omega) hr q4) rfl rfl rfl (fun h2 hr3 pp6 => ?_)
  refine wl_istore_n rfl rfl (fun la7 kk8 t9 => ?_)
  have kk10 := t9 0 _ (by decide) (Or.inr rfl) k0
  refine wq_aload_n kk10 rfl ?_
  refine wm_gfa (c := 0) hr3 rfl rfl ?_
  refine wq_aload_n kk10 rfl ?_
  refine wm_gfi hr3 rfl rfl (fun pp11 => ?_)
  refine wq_iconst rfl ?_
  refine wq_isub rfl ?_
  obtain ⟨g12, g13, hD⟩ := ck_of hD
  refine wm_ali (f := 66) hr3 rfl (InI_i32 _) g12 g13 rfl (fun pp14 => ?_)
  refine wl_istore_n rfl rfl (fun la15 kk16 t17 => ?_)
  have kk18 := t17 0 _ (by decide) (Or.inr rfl) kk10
  have kk19 := t17 1 _ (by decide) (Or.inr rfl) kk8
  refine wq_aload_n kk18 rfl ?_
  refine wm_gfa (c := 0) hr3 rfl rfl ?_
  refine wq_aload_n kk18 rfl ?_
  refine wm_gfi hr3 rfl rfl (fun pp20 => ?_)
  refine wq_iconst rfl ?_
  refine wq_isub rfl ?_
  obtain ⟨g21, g22, hD⟩ := ck_of hD
  refine wm_ali (f := 66) hr3 rfl (InI_i32 _) g21 g22 rfl (fun pp23 => ?_)
  refine wl_istore_n rfl rfl (fun la24 kk25 t26 => ?_)
  have kk27 := t26 0 _ (by decide) (Or.inr rfl) kk18
  have kk28 := t26 1 _ (by decide) (Or.inr rfl) kk19
  have kk29 := t26 2 _ (by decide) (Or.inr rfl) kk16
  refine wq_iload_n kk28 rfl ?_
  refine wq_if_ne pp6 rfl rfl rfl (fun c30 => ?_) (fun c30 => ?_)
  · rw [if_neg c30] at hD
    exact c_m_choice_58_b hd kk27 kk29 kk25 hr3 pp14 pp23 hD
  · rw [if_pos c30] at hD
    refine wq_aload_n kk27 rfl ?_
    refine wm_gfi hr3 rfl rfl (fun pp31 => ?_)
    refine wq_bipush (by decide) rfl ?_
    refine wq_icmp_eq pp31 ⟨by decide, by decide⟩ rfl rfl rfl (fun c32 => ?_) (fun c32 => ?_)
    · rw [if_pos c32] at hD
      exact c_m_choice_51_b hd kk27 hr3 hD
    · rw [if_neg c32] at hD
      refine wq_aload_n kk27 rfl ?_
      refine wm_gfi hr3 rfl rfl (fun pp33 => ?_)
      refine wq_bipush (by decide) rfl ?_
      refine wq_icmp_ne pp33 ⟨by decide, by decide⟩ rfl rfl rfl (fun c34 => ?_) (fun c34 => ?_)
      · rw [if_neg c34] at hD
        exact c_m_choice_58_b hd kk27 kk29 kk25 hr3 pp14 pp23 hD
      · rw [if_pos c34] at hD
        exact c_m_choice_51_b hd kk27 hr3 hD
theorem c_choice {d : Nat} (hd : 5 ≤ d) {g : Nat} {h0 h : RHeap} {m : MS} {mF : MS} (hr : RM h0 h m) (hD : m_choice g m = some mF) : Cq (Cd O F rp_P d) 214 [.ref 170] h (QN h0 mF) := by
  refine cq_of (I := (8, 0, rw_X12_choice, [])) rfl rfl (by omega) ?_
  exact c_m_choice_b (by omega) rfl hr hD
def m_truth_9 (s0 : Int) (m : MS) : Option (Int × MS) := some (s0, m)
theorem c_m_truth_9_b {dd : Nat} (hd : 0 ≤ dd) {h0 : RHeap} {vF : Int} {mF : MS} {la : RLoc} {h : RHeap} {m : MS} {s0 : Int} (hr : RM h0 h m) (ps0 : InL s0) (hD : m_truth_9 s0 m = some (vF, mF)) : Wq O F (Cd O F rp_P dd) (1, 5, rw_X12_truth, []) (rx_at rw_X12_truth 9) la [wvl s0] h (QV 1 h0 vF mF) := by
  unfold m_truth_9 at hD
  cases hD
  exact wq_lreturn rfl ⟨_, rfl, hr, ps0⟩
def m_truth (l0 : Int) (m : MS) : Option (Int × MS) := if l0 = 0 then m_truth_9 0 m else m_truth_9 1 m
theorem c_m_truth_b {dd : Nat} (hd : 0 ≤ dd) {h0 : RHeap} {vF : Int} {mF : MS} {la : RLoc} {h : RHeap} {m : MS} {l0 : Int} (k0 : rx_look la 0 = some (wvi l0)) (hr : RM h0 h m) (pl0 : (l0 = 0 ∨ l0 = 1)) (hD : m_truth l0 m = some (vF, mF)) : Wq O F (Cd O F rp_P dd) (1, 5, rw_X12_truth, []) (rx_at rw_X12_truth 0) la [] h (QV 1 h0 vF mF) := by
  unfold m_truth at hD
  refine wq_iload_n k0 rfl ?_
  refine wq_if_eq (InI_z pl0) rfl rfl rfl (fun c1 => ?_) (fun c1 => ?_)
  · rw [if_pos c1] at hD
    refine wq_lconst (x := 0) (by decide) rfl ?_
    exact c_m_truth_9_b hd hr ⟨by decide, by decide⟩ hD
  · rw [if_neg c1] at hD
    refine wq_lconst (x := 1) (by decide) rfl ?_
    refine wq_goto rfl rfl ?_
    exact c_m_truth_9_b hd hr ⟨by decide, by decide⟩ hD
theorem c_truth {d : Nat} (hd : 1 ≤ d) {h0 h : RHeap} {m : MS} {l0 : Int} {vF : Int} {mF : MS} (hr : RM h0 h m) (pl0 : (l0 = 0 ∨ l0 = 1)) (hD : m_truth l0 m = some (vF, mF)) : Cq (Cd O F rp_P d) 290 [wvi l0] h (QV 1 h0 vF mF) := by
  refine cq_of (I := (1, 5, rw_X12_truth, [])) rfl rfl (by omega) ?_
  exact c_m_truth_b (by omega) rfl hr pl0 hD
def m_compared_83 (s0 : Int) (m : MS) : Option (Int × MS) := vb (m_truth s0 m) (fun v48 m44 => some (v48, m44))
theorem c_m_compared_83_b {dd : Nat} (hd : 1 ≤ dd) {h0 : RHeap} {vF : Int} {mF : MS} {la : RLoc} {h : RHeap} {m : MS} {s0 : Int} (hr : RM h0 h m) (ps0 : (s0 = 0 ∨ s0 = 1)) (hD : m_compared_83 s0 m = some (vF, mF)) : Wq O F (Cd O F rp_P dd) (5, 5, rw_X12_compared, []) (rx_at rw_X12_compared 83) la [wvi s0] h (QV 1 h0 vF mF) := by
  unfold m_compared_83 at hD
  obtain ⟨v48, m44, q47, hD⟩ := vb_of hD
  refine wm_csL (fun _ _ => rfl) (c_truth (by omega) hr ps0 q47) rfl rfl rfl (fun h45 hr46 pp49 => ?_)
  cases hD
  exact wq_lreturn rfl ⟨_, rfl, hr46, pp49⟩
def m_compared_113 (s0 : Int) (m : MS) : Option (Int × MS) := vb (m_truth s0 m) (fun v42 m38 => some (v42, m38))
theorem c_m_compared_113_b {dd : Nat} (hd : 1 ≤ dd) {h0 : RHeap} {vF : Int} {mF : MS} {la : RLoc} {h : RHeap} {m : MS} {s0 : Int} (hr : RM h0 h m) (ps0 : (s0 = 0 ∨ s0 = 1)) (hD : m_compared_113 s0 m = some (vF, mF)) : Wq O F (Cd O F rp_P dd) (5, 5, rw_X12_compared, []) (rx_at rw_X12_compared 113) la [wvi s0] h (QV 1 h0 vF mF) := by
  unfold m_compared_113 at hD
  obtain ⟨v42, m38, q41, hD⟩ := vb_of hD
  refine wm_csL (fun _ _ => rfl) (c_truth (by omega) hr ps0 q41) rfl rfl rfl (fun h39 hr40 pp43 => ?_)
  cases hD
  exact wq_lreturn rfl ⟨_, rfl, hr40, pp43⟩
def m_compared_143 (s0 : Int) (m : MS) : Option (Int × MS) := vb (m_truth s0 m) (fun v36 m32 => some (v36, m32))
theorem c_m_compared_143_b {dd : Nat} (hd : 1 ≤ dd) {h0 : RHeap} {vF : Int} {mF : MS} {la : RLoc} {h : RHeap} {m : MS} {s0 : Int} (hr : RM h0 h m) (ps0 : (s0 = 0 ∨ s0 = 1)) (hD : m_compared_143 s0 m = some (vF, mF)) : Wq O F (Cd O F rp_P dd) (5, 5, rw_X12_compared, []) (rx_at rw_X12_compared 143) la [wvi s0] h (QV 1 h0 vF mF) := by
  unfold m_compared_143 at hD
  obtain ⟨v36, m32, q35, hD⟩ := vb_of hD
  refine wm_csL (fun _ _ => rfl) (c_truth (by omega) hr ps0 q35) rfl rfl rfl (fun h33 hr34 pp37 => ?_)
  cases hD
  exact wq_lreturn rfl ⟨_, rfl, hr34, pp37⟩
def m_compared_98 (s0 : Int) (m : MS) : Option (Int × MS) := vb (m_truth s0 m) (fun v30 m26 => some (v30, m26))
theorem c_m_compared_98_b {dd : Nat} (hd : 1 ≤ dd) {h0 : RHeap} {vF : Int} {mF : MS} {la : RLoc} {h : RHeap} {m : MS} {s0 : Int} (hr : RM h0 h m) (ps0 : (s0 = 0 ∨ s0 = 1)) (hD : m_compared_98 s0 m = some (vF, mF)) : Wq O F (Cd O F rp_P dd) (5, 5, rw_X12_compared, []) (rx_at rw_X12_compared 98) la [wvi s0] h (QV 1 h0 vF mF) := by
  unfold m_compared_98 at hD
  obtain ⟨v30, m26, q29, hD⟩ := vb_of hD
  refine wm_csL (fun _ _ => rfl) (c_truth (by omega) hr ps0 q29) rfl rfl rfl (fun h27 hr28 pp31 => ?_)
  cases hD
  exact wq_lreturn rfl ⟨_, rfl, hr28, pp31⟩
def m_compared_128 (s0 : Int) (m : MS) : Option (Int × MS) := vb (m_truth s0 m) (fun v24 m20 => some (v24, m20))
theorem c_m_compared_128_b {dd : Nat} (hd : 1 ≤ dd) {h0 : RHeap} {vF : Int} {mF : MS} {la : RLoc} {h : RHeap} {m : MS} {s0 : Int} (hr : RM h0 h m) (ps0 : (s0 = 0 ∨ s0 = 1)) (hD : m_compared_128 s0 m = some (vF, mF)) : Wq O F (Cd O F rp_P dd) (5, 5, rw_X12_compared, []) (rx_at rw_X12_compared 128) la [wvi s0] h (QV 1 h0 vF mF) := by
  unfold m_compared_128 at hD
  obtain ⟨v24, m20, q23, hD⟩ := vb_of hD
  refine wm_csL (fun _ _ => rfl) (c_truth (by omega) hr ps0 q23) rfl rfl rfl (fun h21 hr22 pp25 => ?_)
  cases hD
  exact wq_lreturn rfl ⟨_, rfl, hr22, pp25⟩
def m_compared_158 (s0 : Int) (m : MS) : Option (Int × MS) := vb (m_truth s0 m) (fun v18 m14 => some (v18, m14))
theorem c_m_compared_158_b {dd : Nat} (hd : 1 ≤ dd) {h0 : RHeap} {vF : Int} {mF : MS} {la : RLoc} {h : RHeap} {m : MS} {s0 : Int} (hr : RM h0 h m) (ps0 : (s0 = 0 ∨ s0 = 1)) (hD : m_compared_158 s0 m = some (vF, mF)) : Wq O F (Cd O F rp_P dd) (5, 5, rw_X12_compared, []) (rx_at rw_X12_compared 158) la [wvi s0] h (QV 1 h0 vF mF) := by
  unfold m_compared_158 at hD
  obtain ⟨v18, m14, q17, hD⟩ := vb_of hD
  refine wm_csL (fun _ _ => rfl) (c_truth (by omega) hr ps0 q17) rfl rfl rfl (fun h15 hr16 pp19 => ?_)
  cases hD
  exact wq_lreturn rfl ⟨_, rfl, hr16, pp19⟩
def m_compared_147 (l1 : Int) (l3 : Int) (m : MS) : Option (Int × MS) := if l1 < l3 then m_compared_158 0 m else m_compared_158 1 m
theorem c_m_compared_147_b {dd : Nat} (hd : 1 ≤ dd) {h0 : RHeap} {vF : Int} {mF : MS} {la : RLoc} {h : RHeap} {m : MS} {l1 l3 : Int} (k1 : rx_look la 1 = some (wvl l1)) (k3 : rx_look la 3 = some (wvl l3)) (hr : RM h0 h m) (pl1 : InL l1) (pl3 : InL l3) (hD : m_compared_147 l1 l3 m = some (vF, mF)) : Wq O F (Cd O F rp_P dd) (5, 5, rw_X12_compared, []) (rx_at rw_X12_compared 147) la [] h (QV 1 h0 vF mF) := by
  unfold m_compared_147 at hD
  refine wq_lload_n k1 rfl ?_
  refine wq_lload_n k3 rfl ?_
  refine wq_lc_lt pl1 pl3 rfl rfl rfl rfl (fun c13 => ?_) (fun c13 => ?_)
  · rw [if_pos c13] at hD
    refine wq_iconst rfl ?_
    exact c_m_compared_158_b hd hr (Or.inl rfl) hD
  · rw [if_neg (Int.not_lt.mpr c13)] at hD
    refine wq_iconst rfl ?_
    refine wq_goto rfl rfl ?_
    exact c_m_compared_158_b hd hr (Or.inr rfl) hD
def m_compared (l0 : Int) (l1 : Int) (l3 : Int) (m : MS) : Option (Int × MS) := if l0 = 13 then if l1 = l3 then m_compared_83 1 m else m_compared_83 0 m else if l0 = 14 then if l1 < l3 then m_compared_113 1 m else m_compared_113 0 m else if l0 = 15 then if l3 < l1 then m_compared_143 1 m else m_compared_143 0 m else if l0 = 25 then if l1 = l3 then m_compared_98 0 m else m_compared_98 1 m else if l0 = 26 then if l3 < l1 then m_compared_128 0 m else m_compared_128 1 m else m_compared_147 l1 l3 m
theorem c_m_compared_b {dd : Nat} (hd : 1 ≤ dd) {h0 : RHeap} {vF : Int} {mF : MS} {la : RLoc} {h : RHeap} {m : MS} {l0 l1 l3 : Int} (k0 : rx_look la 0 = some (wvi l0)) (k1 : rx_look la 1 = some (wvl l1)) (k3 : rx_look la 3 = some (wvl l3)) (hr : RM h0 h m) (pl0 : InI l0) (pl1 : InL l1) (pl3 : InL l3) (hD : m_compared l0 l1 l3 m = some (vF, mF)) : Wq O F (Cd O F rp_P dd) (5, 5, rw_X12_compared, []) (rx_at rw_X12_compared 0) la [] h (QV 1 h0 vF mF) := by
  unfold m_compared at hD
  refine wq_iload_n k0 rfl ?_
  by_cases c1 : l0 = 13
  · rw [if_pos c1] at hD
    refine wq_tsw_in (j := 0) pl0 (by omega) (by omega) (by omega) rfl rfl rfl ?_
    refine wq_lload_n k1 rfl ?_
    refine wq_lload_n k3 rfl ?_
    refine wq_lc_ne pl1 pl3 rfl rfl rfl rfl (fun c2 => ?_) (fun c2 => ?_)
    · rw [if_neg c2] at hD
      refine wq_iconst rfl ?_
      exact c_m_compared_83_b hd hr (Or.inl rfl) hD
    · rw [if_pos c2] at hD
      refine wq_iconst rfl ?_
      refine wq_goto rfl rfl ?_
      exact c_m_compared_83_b hd hr (Or.inr rfl) hD
  rw [if_neg c1] at hD
  by_cases c3 : l0 = 14
  · rw [if_pos c3] at hD
    refine wq_tsw_in (j := 1) pl0 (by omega) (by omega) (by omega) rfl rfl rfl ?_
    refine wq_lload_n k1 rfl ?_
    refine wq_lload_n k3 rfl ?_
    refine wq_lc_ge pl1 pl3 rfl rfl rfl rfl (fun c4 => ?_) (fun c4 => ?_)
    · rw [if_neg (Int.not_lt.mpr c4)] at hD
      refine wq_iconst rfl ?_
      exact c_m_compared_113_b hd hr (Or.inl rfl) hD
    · rw [if_pos c4] at hD
      refine wq_iconst rfl ?_
      refine wq_goto rfl rfl ?_
      exact c_m_compared_113_b hd hr (Or.inr rfl) hD
  rw [if_neg c3] at hD
  by_cases c5 : l0 = 15
  · rw [if_pos c5] at hD
    refine wq_tsw_in (j := 2) pl0 (by omega) (by omega) (by omega) rfl rfl rfl ?_
    refine wq_lload_n k1 rfl ?_
    refine wq_lload_n k3 rfl ?_
    refine wq_lc_le pl1 pl3 rfl rfl rfl rfl (fun c6 => ?_) (fun c6 => ?_)
    · rw [if_neg (Int.not_lt.mpr c6)] at hD
      refine wq_iconst rfl ?_
      exact c_m_compared_143_b hd hr (Or.inl rfl) hD
    · rw [if_pos c6] at hD
      refine wq_iconst rfl ?_
      refine wq_goto rfl rfl ?_
      exact c_m_compared_143_b hd hr (Or.inr rfl) hD
  rw [if_neg c5] at hD
  by_cases c7 : l0 = 25
  · rw [if_pos c7] at hD
    refine wq_tsw_in (j := 12) pl0 (by omega) (by omega) (by omega) rfl rfl rfl ?_
    refine wq_lload_n k1 rfl ?_
    refine wq_lload_n k3 rfl ?_
    refine wq_lc_eq pl1 pl3 rfl rfl rfl rfl (fun c8 => ?_) (fun c8 => ?_)
    · rw [if_pos c8] at hD
      refine wq_iconst rfl ?_
      exact c_m_compared_98_b hd hr (Or.inl rfl) hD
    · rw [if_neg c8] at hD
      refine wq_iconst rfl ?_
      refine wq_goto rfl rfl ?_
      exact c_m_compared_98_b hd hr (Or.inr rfl) hD
  rw [if_neg c7] at hD
  by_cases c9 : l0 = 26
  · rw [if_pos c9] at hD
    refine wq_tsw_in (j := 13) pl0 (by omega) (by omega) (by omega) rfl rfl rfl ?_
    refine wq_lload_n k1 rfl ?_
    refine wq_lload_n k3 rfl ?_
    refine wq_lc_gt pl1 pl3 rfl rfl rfl rfl (fun c10 => ?_) (fun c10 => ?_)
    · rw [if_pos c10] at hD
      refine wq_iconst rfl ?_
      exact c_m_compared_128_b hd hr (Or.inl rfl) hD
    · rw [if_neg (Int.not_lt.mpr c10)] at hD
      refine wq_iconst rfl ?_
      refine wq_goto rfl rfl ?_
      exact c_m_compared_128_b hd hr (Or.inr rfl) hD
  rw [if_neg c9] at hD
  rcases (show l0 < 13 ∨ 26 < l0 ∨ l0 = 16 ∨ l0 = 17 ∨ l0 = 18 ∨ l0 = 19 ∨ l0 = 20 ∨ l0 = 21 ∨ l0 = 22 ∨ l0 = 23 ∨ l0 = 24 by omega) with c12 | c12 | c12 | c12 | c12 | c12 | c12 | c12 | c12 | c12 | c12
  · refine wq_tsw_out pl0 (by omega) rfl rfl ?_
    exact c_m_compared_147_b hd k1 k3 hr pl1 pl3 hD
  · refine wq_tsw_out pl0 (by omega) rfl rfl ?_
    exact c_m_compared_147_b hd k1 k3 hr pl1 pl3 hD
  · refine wq_tsw_in (j := 3) pl0 (by omega) (by omega) (by omega) rfl rfl rfl ?_
    exact c_m_compared_147_b hd k1 k3 hr pl1 pl3 hD
  · refine wq_tsw_in (j := 4) pl0 (by omega) (by omega) (by omega) rfl rfl rfl ?_
    exact c_m_compared_147_b hd k1 k3 hr pl1 pl3 hD
  · refine wq_tsw_in (j := 5) pl0 (by omega) (by omega) (by omega) rfl rfl rfl ?_
    exact c_m_compared_147_b hd k1 k3 hr pl1 pl3 hD
  · refine wq_tsw_in (j := 6) pl0 (by omega) (by omega) (by omega) rfl rfl rfl ?_
    exact c_m_compared_147_b hd k1 k3 hr pl1 pl3 hD
  · refine wq_tsw_in (j := 7) pl0 (by omega) (by omega) (by omega) rfl rfl rfl ?_
    exact c_m_compared_147_b hd k1 k3 hr pl1 pl3 hD
  · refine wq_tsw_in (j := 8) pl0 (by omega) (by omega) (by omega) rfl rfl rfl ?_
    exact c_m_compared_147_b hd k1 k3 hr pl1 pl3 hD
  · refine wq_tsw_in (j := 9) pl0 (by omega) (by omega) (by omega) rfl rfl rfl ?_
    exact c_m_compared_147_b hd k1 k3 hr pl1 pl3 hD
  · refine wq_tsw_in (j := 10) pl0 (by omega) (by omega) (by omega) rfl rfl rfl ?_
    exact c_m_compared_147_b hd k1 k3 hr pl1 pl3 hD
  · refine wq_tsw_in (j := 11) pl0 (by omega) (by omega) (by omega) rfl rfl rfl ?_
    exact c_m_compared_147_b hd k1 k3 hr pl1 pl3 hD
theorem c_compared {d : Nat} (hd : 2 ≤ d) {h0 h : RHeap} {m : MS} {l0 l1 l3 : Int} {vF : Int} {mF : MS} (hr : RM h0 h m) (pl0 : InI l0) (pl1 : InL l1) (pl3 : InL l3) (hD : m_compared l0 l1 l3 m = some (vF, mF)) : Cq (Cd O F rp_P d) 215 [wvi l0, wvl l1, wvl l3] h (QV 1 h0 vF mF) := by
  refine cq_of (I := (5, 5, rw_X12_compared, [])) rfl rfl (by omega) ?_
  exact c_m_compared_b (by omega) rfl rfl rfl hr pl0 pl1 pl3 hD
def m_compares_47 (s0 : Int) (m : MS) : Option (Int × MS) := some (s0, m)
theorem c_m_compares_47_b {dd : Nat} (hd : 0 ≤ dd) {h0 : RHeap} {vF : Int} {mF : MS} {la : RLoc} {h : RHeap} {m : MS} {s0 : Int} (hr : RM h0 h m) (ps0 : (s0 = 0 ∨ s0 = 1)) (hD : m_compares_47 s0 m = some (vF, mF)) : Wq O F (Cd O F rp_P dd) (1, 2, rw_X12_compares, []) (rx_at rw_X12_compares 47) la [wvi s0] h (QV 3 h0 vF mF) := by
  unfold m_compares_47 at hD
  cases hD
  exact wq_zreturn rfl ps0 ⟨_, rfl, hr, ps0⟩
def m_compares_42 (m : MS) : Option (Int × MS) := m_compares_47 1 m
theorem c_m_compares_42_b {dd : Nat} (hd : 0 ≤ dd) {h0 : RHeap} {vF : Int} {mF : MS} {la : RLoc} {h : RHeap} {m : MS} (hr : RM h0 h m) (hD : m_compares_42 m = some (vF, mF)) : Wq O F (Cd O F rp_P dd) (1, 2, rw_X12_compares, []) (rx_at rw_X12_compares 42) la [] h (QV 3 h0 vF mF) := by
  unfold m_compares_42 at hD
  refine wq_iconst rfl ?_
  refine wq_goto rfl rfl ?_
  exact c_m_compares_47_b hd hr (Or.inr rfl) hD
def m_compares (l0 : Int) (m : MS) : Option (Int × MS) := if l0 = 13 then m_compares_42 m else if l0 = 25 then m_compares_42 m else if l0 = 14 then m_compares_42 m else if l0 = 26 then m_compares_42 m else if l0 = 15 then m_compares_42 m else if l0 = 27 then m_compares_42 m else if l0 = 56 then m_compares_42 m else m_compares_47 0 m
theorem c_m_compares_b {dd : Nat} (hd : 0 ≤ dd) {h0 : RHeap} {vF : Int} {mF : MS} {la : RLoc} {h : RHeap} {m : MS} {l0 : Int} (k0 : rx_look la 0 = some (wvi l0)) (hr : RM h0 h m) (pl0 : InI l0) (hD : m_compares l0 m = some (vF, mF)) : Wq O F (Cd O F rp_P dd) (1, 2, rw_X12_compares, []) (rx_at rw_X12_compares 0) la [] h (QV 3 h0 vF mF) := by
  unfold m_compares at hD
  refine wq_iload_n k0 rfl ?_
  refine wq_bipush (by decide) rfl ?_
  refine wq_icmp_eq pl0 ⟨by decide, by decide⟩ rfl rfl rfl (fun c1 => ?_) (fun c1 => ?_)
  · rw [if_pos c1] at hD
    exact c_m_compares_42_b hd hr hD
  · rw [if_neg c1] at hD
    refine wq_iload_n k0 rfl ?_
    refine wq_bipush (by decide) rfl ?_
    refine wq_icmp_eq pl0 ⟨by decide, by decide⟩ rfl rfl rfl (fun c2 => ?_) (fun c2 => ?_)
    · rw [if_pos c2] at hD
      exact c_m_compares_42_b hd hr hD
    · rw [if_neg c2] at hD
      refine wq_iload_n k0 rfl ?_
      refine wq_bipush (by decide) rfl ?_
      refine wq_icmp_eq pl0 ⟨by decide, by decide⟩ rfl rfl rfl (fun c3 => ?_) (fun c3 => ?_)
      · rw [if_pos c3] at hD
        exact c_m_compares_42_b hd hr hD
      · rw [if_neg c3] at hD
        refine wq_iload_n k0 rfl ?_
        refine wq_bipush (by decide) rfl ?_
        refine wq_icmp_eq pl0 ⟨by decide, by decide⟩ rfl rfl rfl (fun c4 => ?_) (fun c4 => ?_)
        · rw [if_pos c4] at hD
          exact c_m_compares_42_b hd hr hD
        · rw [if_neg c4] at hD
          refine wq_iload_n k0 rfl ?_
          refine wq_bipush (by decide) rfl ?_
          refine wq_icmp_eq pl0 ⟨by decide, by decide⟩ rfl rfl rfl (fun c5 => ?_) (fun c5 => ?_)
          · rw [if_pos c5] at hD
            exact c_m_compares_42_b hd hr hD
          · rw [if_neg c5] at hD
            refine wq_iload_n k0 rfl ?_
            refine wq_bipush (by decide) rfl ?_
            refine wq_icmp_eq pl0 ⟨by decide, by decide⟩ rfl rfl rfl (fun c6 => ?_) (fun c6 => ?_)
            · rw [if_pos c6] at hD
              exact c_m_compares_42_b hd hr hD
            · rw [if_neg c6] at hD
              refine wq_iload_n k0 rfl ?_
              refine wq_bipush (by decide) rfl ?_
              refine wq_icmp_ne pl0 ⟨by decide, by decide⟩ rfl rfl rfl (fun c7 => ?_) (fun c7 => ?_)
              · rw [if_neg c7] at hD
                refine wq_iconst rfl ?_
                exact c_m_compares_47_b hd hr (Or.inl rfl) hD
              · rw [if_pos c7] at hD
                exact c_m_compares_42_b hd hr hD
theorem c_compares {d : Nat} (hd : 1 ≤ d) {h0 h : RHeap} {m : MS} {l0 : Int} {vF : Int} {mF : MS} (hr : RM h0 h m) (pl0 : InI l0) (hD : m_compares l0 m = some (vF, mF)) : Cq (Cd O F rp_P d) 216 [wvi l0] h (QV 3 h0 vF mF) := by
  refine cq_of (I := (1, 2, rw_X12_compares, [])) rfl rfl (by omega) ?_
  exact c_m_compares_b (by omega) rfl hr pl0 hD
def m_keepProgram_142 (g : Nat) : Nat → Int → MS → Option MS
  | 0, _, _ => none
  | n + 1, l1, m => if l1 < 1500 then ck l1 1500 (ck l1 1500 (wlet (mset m 79 l1 (m 4 l1)) (fun m112 => m_keepProgram_142 g n (i32 (l1 + 1)) m112))) else some m
theorem c_m_keepProgram_142 {dd : Nat} (hd : 0 ≤ dd) {g : Nat} {h0 : RHeap} {mF : MS} : ∀ (n : Nat) {la : RLoc} {h : RHeap} {m : MS} {l1 : Int}, rx_look la 0 = some (.ref 170) → rx_look la 1 = some (wvi l1) → RM h0 h m → InI l1 → m_keepProgram_142 g n l1 m = some mF → Wq O F (Cd O F rp_P dd) (2, 0, rw_X12_keepProgram, []) (rx_at rw_X12_keepProgram 142) la [] h (QN h0 mF) := by
  intro n
  induction n with
  | zero =>
    intro la h m l1 k0 k1 hr pl1 hD
    unfold m_keepProgram_142 at hD
    cases hD
  | succ n ih =>
    intro la h m l1 k0 k1 hr pl1 hD
    unfold m_keepProgram_142 at hD
    refine wq_iload_n k1 rfl ?_
    refine wq_sipush (by decide) rfl ?_
    refine wq_icmp_ge pl1 ⟨by decide, by decide⟩ rfl rfl rfl (fun c106 => ?_) (fun c106 => ?_)
    · rw [if_neg (Int.not_lt.mpr c106)] at hD
      cases hD
      exact wq_return rfl ⟨_, rfl, hr⟩
    · rw [if_pos c106] at hD
      refine wq_aload_n k0 rfl ?_
      refine wm_gfa (c := 0) hr rfl rfl ?_
      refine wq_iload_n k1 rfl ?_
      refine wq_aload_n k0 rfl ?_
      refine wm_gfa (c := 0) hr rfl rfl ?_
      refine wq_iload_n k1 rfl ?_
      obtain ⟨g107, g108, hD⟩ := ck_of hD
      refine wm_ali (f := 4) hr rfl pl1 g107 g108 rfl (fun pp109 => ?_)
      obtain ⟨g110, g111, hD⟩ := ck_of hD
      obtain ⟨m112, e113, hD⟩ := wlet_of hD
      refine wm_asi (f := 79) hr rfl pl1 g110 g111 pp109 rfl (fun h114 hr115 => ?_)
      rw [← e113] at hr115
      refine wl_iinc k1 rfl rfl (fun la116 kk117 t118 => ?_)
      have kk119 := t118 0 _ (by decide) (Or.inr rfl) k0
      refine wq_goto rfl rfl ?_
      exact ih kk119 kk117 hr115 (InI_i32 _) hD
def m_keepProgram_66 (g : Nat) : Nat → Int → MS → Option MS
  | 0, _, _ => none
  | n + 1, l1, m => if (m 45 0) < l1 then m_keepProgram_142 g g 0 m else ck l1 240 (ck l1 240 (wlet (mset m 74 l1 (m 46 l1)) (fun m62 => ck l1 240 (ck l1 240 (wlet (mset m62 75 l1 (m62 47 l1)) (fun m71 => ck l1 240 (ck l1 240 (wlet (mset m71 76 l1 (m71 48 l1)) (fun m80 => ck l1 240 (ck l1 240 (wlet (mset m80 77 l1 (m80 49 l1)) (fun m89 => ck l1 240 (ck l1 240 (wlet (mset m89 78 l1 (m89 50 l1)) (fun m98 => m_keepProgram_66 g n (i32 (l1 + 1)) m98)))))))))))))))
theorem c_m_keepProgram_66 {dd : Nat} (hd : 0 ≤ dd) {g : Nat} {h0 : RHeap} {mF : MS} : ∀ (n : Nat) {la : RLoc} {h : RHeap} {m : MS} {l1 : Int}, rx_look la 0 = some (.ref 170) → rx_look la 1 = some (wvi l1) → RM h0 h m → InI l1 → m_keepProgram_66 g n l1 m = some mF → Wq O F (Cd O F rp_P dd) (2, 0, rw_X12_keepProgram, []) (rx_at rw_X12_keepProgram 66) la [] h (QN h0 mF) := by
  intro n
  induction n with
  | zero =>
    intro la h m l1 k0 k1 hr pl1 hD
    unfold m_keepProgram_66 at hD
    cases hD
  | succ n ih =>
    intro la h m l1 k0 k1 hr pl1 hD
    unfold m_keepProgram_66 at hD
    refine wq_iload_n k1 rfl ?_
    refine wq_aload_n k0 rfl ?_
    refine wm_gfi hr rfl rfl (fun pp51 => ?_)
    refine wq_icmp_gt pl1 pp51 rfl rfl rfl (fun c52 => ?_) (fun c52 => ?_)
    · rw [if_pos c52] at hD
      refine wq_iconst rfl ?_
      refine wl_istore_n rfl rfl (fun la53 kk54 t55 => ?_)
      have kk56 := t55 0 _ (by decide) (Or.inr rfl) k0
      exact c_m_keepProgram_142 hd g kk56 kk54 hr ⟨by decide, by decide⟩ hD
    · rw [if_neg (Int.not_lt.mpr c52)] at hD
      refine wq_aload_n k0 rfl ?_
      refine wm_gfa (c := 0) hr rfl rfl ?_
      refine wq_iload_n k1 rfl ?_
      refine wq_aload_n k0 rfl ?_
      refine wm_gfa (c := 0) hr rfl rfl ?_
      refine wq_iload_n k1 rfl ?_
      obtain ⟨g57, g58, hD⟩ := ck_of hD
      refine wm_ali (f := 46) hr rfl pl1 g57 g58 rfl (fun pp59 => ?_)
      obtain ⟨g60, g61, hD⟩ := ck_of hD
      obtain ⟨m62, e63, hD⟩ := wlet_of hD
      refine wm_asi (f := 74) hr rfl pl1 g60 g61 pp59 rfl (fun h64 hr65 => ?_)
      rw [← e63] at hr65
      refine wq_aload_n k0 rfl ?_
      refine wm_gfa (c := 0) hr65 rfl rfl ?_
      refine wq_iload_n k1 rfl ?_
      refine wq_aload_n k0 rfl ?_
      refine wm_gfa (c := 0) hr65 rfl rfl ?_
      refine wq_iload_n k1 rfl ?_
      obtain ⟨g66, g67, hD⟩ := ck_of hD
      refine wm_ali (f := 47) hr65 rfl pl1 g66 g67 rfl (fun pp68 => ?_)
      obtain ⟨g69, g70, hD⟩ := ck_of hD
      obtain ⟨m71, e72, hD⟩ := wlet_of hD
      refine wm_asi (f := 75) hr65 rfl pl1 g69 g70 pp68 rfl (fun h73 hr74 => ?_)
      rw [← e72] at hr74
      refine wq_aload_n k0 rfl ?_
      refine wm_gfa (c := 0) hr74 rfl rfl ?_
      refine wq_iload_n k1 rfl ?_
      refine wq_aload_n k0 rfl ?_
      refine wm_gfa (c := 0) hr74 rfl rfl ?_
      refine wq_iload_n k1 rfl ?_
      obtain ⟨g75, g76, hD⟩ := ck_of hD
      refine wm_ali (f := 48) hr74 rfl pl1 g75 g76 rfl (fun pp77 => ?_)
      obtain ⟨g78, g79, hD⟩ := ck_of hD
      obtain ⟨m80, e81, hD⟩ := wlet_of hD
      refine wm_asi (f := 76) hr74 rfl pl1 g78 g79 pp77 rfl (fun h82 hr83 => ?_)
      rw [← e81] at hr83
      refine wq_aload_n k0 rfl ?_
      refine wm_gfa (c := 0) hr83 rfl rfl ?_
      refine wq_iload_n k1 rfl ?_
      refine wq_aload_n k0 rfl ?_
      refine wm_gfa (c := 0) hr83 rfl rfl ?_
      refine wq_iload_n k1 rfl ?_
      obtain ⟨g84, g85, hD⟩ := ck_of hD
      refine wm_ali (f := 49) hr83 rfl pl1 g84 g85 rfl (fun pp86 => ?_)
      obtain ⟨g87, g88, hD⟩ := ck_of hD
      obtain ⟨m89, e90, hD⟩ := wlet_of hD
      refine wm_asi (f := 77) hr83 rfl pl1 g87 g88 pp86 rfl (fun h91 hr92 => ?_)
      rw [← e90] at hr92
      refine wq_aload_n k0 rfl ?_
      refine wm_gfa (c := 3) hr92 rfl rfl ?_
      refine wq_iload_n k1 rfl ?_
      refine wq_aload_n k0 rfl ?_
      refine wm_gfa (c := 3) hr92 rfl rfl ?_
      refine wq_iload_n k1 rfl ?_
      obtain ⟨g93, g94, hD⟩ := ck_of hD
      refine wm_alz (f := 50) hr92 rfl pl1 g93 g94 rfl (fun pp95 => ?_)
      obtain ⟨g96, g97, hD⟩ := ck_of hD
      obtain ⟨m98, e99, hD⟩ := wlet_of hD
      refine wm_asz (f := 78) hr92 rfl pl1 g96 g97 pp95 rfl (fun h100 hr101 => ?_)
      rw [← e99] at hr101
      refine wl_iinc k1 rfl rfl (fun la102 kk103 t104 => ?_)
      have kk105 := t104 0 _ (by decide) (Or.inr rfl) k0
      refine wq_goto rfl rfl ?_
      exact ih kk105 kk103 hr101 (InI_i32 _) hD
def m_keepProgram_2 (g : Nat) : Nat → Int → MS → Option MS
  | 0, _, _ => none
  | n + 1, l1, m => if l1 < (m 57 0) then ck l1 6000 (ck l1 6000 (wlet (mset m 70 l1 (m 58 l1)) (fun m16 => ck l1 6000 (ck l1 6000 (wlet (mset m16 71 l1 (m16 59 l1)) (fun m25 => ck l1 6000 (ck l1 6000 (wlet (mset m25 72 l1 (m25 60 l1)) (fun m34 => ck l1 6000 (ck l1 6000 (wlet (mset m34 73 l1 (m34 61 l1)) (fun m43 => m_keepProgram_2 g n (i32 (l1 + 1)) m43)))))))))))) else m_keepProgram_66 g g 0 m
theorem c_m_keepProgram_2 {dd : Nat} (hd : 0 ≤ dd) {g : Nat} {h0 : RHeap} {mF : MS} : ∀ (n : Nat) {la : RLoc} {h : RHeap} {m : MS} {l1 : Int}, rx_look la 0 = some (.ref 170) → rx_look la 1 = some (wvi l1) → RM h0 h m → InI l1 → m_keepProgram_2 g n l1 m = some mF → Wq O F (Cd O F rp_P dd) (2, 0, rw_X12_keepProgram, []) (rx_at rw_X12_keepProgram 2) la [] h (QN h0 mF) := by
  intro n
  induction n with
  | zero =>
    intro la h m l1 k0 k1 hr pl1 hD
    unfold m_keepProgram_2 at hD
    cases hD
  | succ n ih =>
    intro la h m l1 k0 k1 hr pl1 hD
    unfold m_keepProgram_2 at hD
    refine wq_iload_n k1 rfl ?_
    refine wq_aload_n k0 rfl ?_
    refine wm_gfi hr rfl rfl (fun pp5 => ?_)
    refine wq_icmp_ge pl1 pp5 rfl rfl rfl (fun c6 => ?_) (fun c6 => ?_)
    · rw [if_neg (Int.not_lt.mpr c6)] at hD
      refine wq_iconst rfl ?_
      refine wl_istore_n rfl rfl (fun la7 kk8 t9 => ?_)
      have kk10 := t9 0 _ (by decide) (Or.inr rfl) k0
      exact c_m_keepProgram_66 hd g kk10 kk8 hr ⟨by decide, by decide⟩ hD
    · rw [if_pos c6] at hD
      refine wq_aload_n k0 rfl ?_
      refine wm_gfa (c := 0) hr rfl rfl ?_
      refine wq_iload_n k1 rfl ?_
      refine wq_aload_n k0 rfl ?_
      refine wm_gfa (c := 0) hr rfl rfl ?_
      refine wq_iload_n k1 rfl ?_
      obtain ⟨g11, g12, hD⟩ := ck_of hD
      refine wm_ali (f := 58) hr rfl pl1 g11 g12 rfl (fun pp13 => ?_)
      obtain ⟨g14, g15, hD⟩ := ck_of hD
      obtain ⟨m16, e17, hD⟩ := wlet_of hD
      refine wm_asi (f := 70) hr rfl pl1 g14 g15 pp13 rfl (fun h18 hr19 => ?_)
      rw [← e17] at hr19
      refine wq_aload_n k0 rfl ?_
      refine wm_gfa (c := 0) hr19 rfl rfl ?_
      refine wq_iload_n k1 rfl ?_
      refine wq_aload_n k0 rfl ?_
      refine wm_gfa (c := 0) hr19 rfl rfl ?_
      refine wq_iload_n k1 rfl ?_
      obtain ⟨g20, g21, hD⟩ := ck_of hD
      refine wm_ali (f := 59) hr19 rfl pl1 g20 g21 rfl (fun pp22 => ?_)
      obtain ⟨g23, g24, hD⟩ := ck_of hD
      obtain ⟨m25, e26, hD⟩ := wlet_of hD
      refine wm_asi (f := 71) hr19 rfl pl1 g23 g24 pp22 rfl (fun h27 hr28 => ?_)
      rw [← e26] at hr28
      refine wq_aload_n k0 rfl ?_
      refine wm_gfa (c := 0) hr28 rfl rfl ?_
      refine wq_iload_n k1 rfl ?_
      refine wq_aload_n k0 rfl ?_
      refine wm_gfa (c := 0) hr28 rfl rfl ?_
      refine wq_iload_n k1 rfl ?_
      obtain ⟨g29, g30, hD⟩ := ck_of hD
      refine wm_ali (f := 60) hr28 rfl pl1 g29 g30 rfl (fun pp31 => ?_)
      obtain ⟨g32, g33, hD⟩ := ck_of hD
      obtain ⟨m34, e35, hD⟩ := wlet_of hD
      refine wm_asi (f := 72) hr28 rfl pl1 g32 g33 pp31 rfl (fun h36 hr37 => ?_)
      rw [← e35] at hr37
      refine wq_aload_n k0 rfl ?_
      refine wm_gfa (c := 0) hr37 rfl rfl ?_
      refine wq_iload_n k1 rfl ?_
      refine wq_aload_n k0 rfl ?_
      refine wm_gfa (c := 0) hr37 rfl rfl ?_
      refine wq_iload_n k1 rfl ?_
      obtain ⟨g38, g39, hD⟩ := ck_of hD
      refine wm_ali (f := 61) hr37 rfl pl1 g38 g39 rfl (fun pp40 => ?_)
      obtain ⟨g41, g42, hD⟩ := ck_of hD
      obtain ⟨m43, e44, hD⟩ := wlet_of hD
      refine wm_asi (f := 73) hr37 rfl pl1 g41 g42 pp40 rfl (fun h45 hr46 => ?_)
      rw [← e44] at hr46
      refine wl_iinc k1 rfl rfl (fun la47 kk48 t49 => ?_)
      have kk50 := t49 0 _ (by decide) (Or.inr rfl) k0
      refine wq_goto rfl rfl ?_
      exact ih kk50 kk48 hr46 (InI_i32 _) hD
def m_keepProgram (g : Nat) (m : MS) : Option MS := m_keepProgram_2 g g 0 m
theorem c_m_keepProgram_b {dd : Nat} (hd : 0 ≤ dd) {g : Nat} {h0 : RHeap} {mF : MS} {la : RLoc} {h : RHeap} {m : MS} (k0 : rx_look la 0 = some (.ref 170)) (hr : RM h0 h m) (hD : m_keepProgram g m = some mF) : Wq O F (Cd O F rp_P dd) (2, 0, rw_X12_keepProgram, []) (rx_at rw_X12_keepProgram 0) la [] h (QN h0 mF) := by
  unfold m_keepProgram at hD
  refine wq_iconst rfl ?_
  refine wl_istore_n rfl rfl (fun la1 kk2 t3 => ?_)
  have kk4 := t3 0 _ (by decide) (Or.inr rfl) k0
  exact c_m_keepProgram_2 hd g kk4 kk2 hr ⟨by decide, by decide⟩ hD
theorem c_keepProgram {d : Nat} (hd : 1 ≤ d) {g : Nat} {h0 h : RHeap} {m : MS} {mF : MS} (hr : RM h0 h m) (hD : m_keepProgram g m = some mF) : Cq (Cd O F rp_P d) 244 [.ref 170] h (QN h0 mF) := by
  refine cq_of (I := (2, 0, rw_X12_keepProgram, [])) rfl rfl (by omega) ?_
  exact c_m_keepProgram_b (by omega) rfl hr hD
def m_deeper_28 (m : MS) : Option MS := some m
theorem c_m_deeper_28_b {dd : Nat} (hd : 1 ≤ dd) {h0 : RHeap} {mF : MS} {la : RLoc} {h : RHeap} {m : MS} (hr : RM h0 h m) (hD : m_deeper_28 m = some mF) : Wq O F (Cd O F rp_P dd) (1, 0, rw_X12_deeper, []) (rx_at rw_X12_deeper 28) la [] h (QN h0 mF) := by
  unfold m_deeper_28 at hD
  cases hD
  exact wq_return rfl ⟨_, rfl, hr⟩
def m_deeper (m : MS) : Option MS := wlet (mset m 63 0 (i32 ((m 63 0) + 1))) (fun m2 => if 20 < (m2 63 0) then nb (m_fail 5 (m2 9 0) m2) (fun m9 => m_deeper_28 m9) else m_deeper_28 m2)
theorem c_m_deeper_b {dd : Nat} (hd : 1 ≤ dd) {h0 : RHeap} {mF : MS} {la : RLoc} {h : RHeap} {m : MS} (k0 : rx_look la 0 = some (.ref 170)) (hr : RM h0 h m) (hD : m_deeper m = some mF) : Wq O F (Cd O F rp_P dd) (1, 0, rw_X12_deeper, []) (rx_at rw_X12_deeper 0) la [] h (QN h0 mF) := by
  unfold m_deeper at hD
  refine wq_aload_n k0 rfl ?_
  refine wq_dup rfl rfl ?_
  refine wm_gfi hr rfl rfl (fun pp1 => ?_)
  refine wq_iconst rfl ?_
  refine wq_iadd rfl ?_
  obtain ⟨m2, e3, hD⟩ := wlet_of hD
  refine wm_pfi hr rfl rfl (InI_i32 _) rfl (fun h4 hr5 => ?_)
  rw [← e3] at hr5
  refine wq_aload_n k0 rfl ?_
  refine wm_gfi hr5 rfl rfl (fun pp6 => ?_)
  refine wq_bipush (by decide) rfl ?_
  refine wq_icmp_le pp6 ⟨by decide, by decide⟩ rfl rfl rfl (fun c7 => ?_) (fun c7 => ?_)
  · rw [if_neg (Int.not_lt.mpr c7)] at hD
    exact c_m_deeper_28_b hd hr5 hD
  · rw [if_pos c7] at hD
    refine wq_aload_n k0 rfl ?_
    refine wq_iconst rfl ?_
    refine wq_aload_n k0 rfl ?_
    refine wm_gfi hr5 rfl rfl (fun pp8 => ?_)
    obtain ⟨m9, q12, hD⟩ := nb_of hD
    refine wm_cvN hr5 (c_fail (by omega) hr5 ⟨by decide, by decide⟩ pp8 q12) rfl rfl rfl (fun h10 hr11 => ?_)
    exact c_m_deeper_28_b hd hr11 hD
theorem c_deeper {d : Nat} (hd : 2 ≤ d) {h0 h : RHeap} {m : MS} {mF : MS} (hr : RM h0 h m) (hD : m_deeper m = some mF) : Cq (Cd O F rp_P d) 221 [.ref 170] h (QN h0 mF) := by
  refine cq_of (I := (1, 0, rw_X12_deeper, [])) rfl rfl (by omega) ?_
  exact c_m_deeper_b (by omega) rfl hr hD
def m_nameFactor_211 (g : Nat) (m : MS) : Option MS := some m
theorem c_m_nameFactor_211_b {dd : Nat} (hd : 5 ≤ dd) {g : Nat} {h0 : RHeap} {mF : MS} {la : RLoc} {h : RHeap} {m : MS} (hr : RM h0 h m) (hD : m_nameFactor_211 g m = some mF) : Wq O F (Cd O F rp_P dd) (2, 0, rw_X12_nameFactor, []) (rx_at rw_X12_nameFactor 211) la [] h (QN h0 mF) := by
  unfold m_nameFactor_211 at hD
  cases hD
  exact wq_return rfl ⟨_, rfl, hr⟩
def m_nameFactor_160 (g : Nat) (l1 : Int) (m : MS) : Option MS := ck l1 140 (if (m 17 l1) = 5 then nb (m_keep (i32 (l1 - 5)) m) (fun m99 => nb (m_take g m99) (fun m103 => nb (m_want g 16 m103) (fun m107 => nb (m_later 47 m107) (fun m111 => nb (m_later 30 m111) (fun m115 => m_nameFactor_211 g m115))))) else nb (m_fail 1 (m 9 0) m) (fun m95 => m_nameFactor_211 g m95))
theorem c_m_nameFactor_160_b {dd : Nat} (hd : 5 ≤ dd) {g : Nat} {h0 : RHeap} {mF : MS} {la : RLoc} {h : RHeap} {m : MS} {l1 : Int} (k0 : rx_look la 0 = some (.ref 170)) (k1 : rx_look la 1 = some (wvi l1)) (hr : RM h0 h m) (pl1 : InI l1) (hD : m_nameFactor_160 g l1 m = some mF) : Wq O F (Cd O F rp_P dd) (2, 0, rw_X12_nameFactor, []) (rx_at rw_X12_nameFactor 160) la [] h (QN h0 mF) := by
  unfold m_nameFactor_160 at hD
  refine wq_aload_n k0 rfl ?_
  refine wm_gfa (c := 0) hr rfl rfl ?_
  refine wq_iload_n k1 rfl ?_
  obtain ⟨g90, g91, hD⟩ := ck_of hD
  refine wm_ali (f := 17) hr rfl pl1 g90 g91 rfl (fun pp92 => ?_)
  refine wq_iconst rfl ?_
  refine wq_icmp_ne pp92 ⟨by decide, by decide⟩ rfl rfl rfl (fun c93 => ?_) (fun c93 => ?_)
  · rw [if_neg c93] at hD
    refine wq_aload_n k0 rfl ?_
    refine wq_iconst rfl ?_
    refine wq_aload_n k0 rfl ?_
    refine wm_gfi hr rfl rfl (fun pp94 => ?_)
    obtain ⟨m95, q98, hD⟩ := nb_of hD
    refine wm_cvN hr (c_fail (by omega) hr ⟨by decide, by decide⟩ pp94 q98) rfl rfl rfl (fun h96 hr97 => ?_)
    exact c_m_nameFactor_211_b hd hr97 hD
  · rw [if_pos c93] at hD
    refine wq_aload_n k0 rfl ?_
    refine wq_iload_n k1 rfl ?_
    refine wq_iconst rfl ?_
    refine wq_isub rfl ?_
    obtain ⟨m99, q102, hD⟩ := nb_of hD
    refine wm_cvN hr (c_keep (by omega) hr (InI_i32 _) q102) rfl rfl rfl (fun h100 hr101 => ?_)
    refine wq_aload_n k0 rfl ?_
    obtain ⟨m103, q106, hD⟩ := nb_of hD
    refine wm_cvN hr101 (c_take (by omega) hr101 q106) rfl rfl rfl (fun h104 hr105 => ?_)
    refine wq_aload_n k0 rfl ?_
    refine wq_bipush (by decide) rfl ?_
    obtain ⟨m107, q110, hD⟩ := nb_of hD
    refine wm_cvN hr105 (c_want (by omega) hr105 ⟨by decide, by decide⟩ q110) rfl rfl rfl (fun h108 hr109 => ?_)
    refine wq_aload_n k0 rfl ?_
    refine wq_bipush (by decide) rfl ?_
    obtain ⟨m111, q114, hD⟩ := nb_of hD
    refine wm_cvN hr109 (c_later (by omega) hr109 ⟨by decide, by decide⟩ q114) rfl rfl rfl (fun h112 hr113 => ?_)
    refine wq_aload_n k0 rfl ?_
    refine wq_bipush (by decide) rfl ?_
    obtain ⟨m115, q118, hD⟩ := nb_of hD
    refine wm_cvN hr113 (c_later (by omega) hr113 ⟨by decide, by decide⟩ q118) rfl rfl rfl (fun h116 hr117 => ?_)
    refine wq_goto rfl rfl ?_
    exact c_m_nameFactor_211_b hd hr117 hD
def m_nameFactor_145 (g : Nat) (s1 : Int) (m : MS) : Option MS := nb (m_write0 s1 m) (fun m78 => wlet (mset m78 62 0 2) (fun m82 => nb (m_take g m82) (fun m86 => m_nameFactor_211 g m86)))
theorem c_m_nameFactor_145_b {dd : Nat} (hd : 5 ≤ dd) {g : Nat} {h0 : RHeap} {mF : MS} {la : RLoc} {h : RHeap} {m : MS} {s1 : Int} (k0 : rx_look la 0 = some (.ref 170)) (hr : RM h0 h m) (ps1 : InI s1) (hD : m_nameFactor_145 g s1 m = some mF) : Wq O F (Cd O F rp_P dd) (2, 0, rw_X12_nameFactor, []) (rx_at rw_X12_nameFactor 145) la [wvi s1, .ref 170] h (QN h0 mF) := by
  unfold m_nameFactor_145 at hD
  obtain ⟨m78, q81, hD⟩ := nb_of hD
  refine wm_cvN hr (c_write0 (by omega) hr ps1 q81) rfl rfl rfl (fun h79 hr80 => ?_)
  refine wq_aload_n k0 rfl ?_
  refine wq_iconst rfl ?_
  obtain ⟨m82, e83, hD⟩ := wlet_of hD
  refine wm_pfi hr80 rfl rfl ⟨by decide, by decide⟩ rfl (fun h84 hr85 => ?_)
  rw [← e83] at hr85
  refine wq_aload_n k0 rfl ?_
  obtain ⟨m86, q89, hD⟩ := nb_of hD
  refine wm_cvN hr85 (c_take (by omega) hr85 q89) rfl rfl rfl (fun h87 hr88 => ?_)
  refine wq_goto rfl rfl ?_
  exact c_m_nameFactor_211_b hd hr88 hD
def m_nameFactor (g : Nat) (m : MS) : Option MS := vb (m_known g m) (fun v5 m1 => if v5 < 0 then some m1 else ck v5 140 (if (m1 17 v5) = 0 then ck v5 140 (wlet (mset m1 62 0 (m1 20 v5)) (fun m63 => ck v5 140 (nb (m_write1 2 (m63 22 v5) m63) (fun m70 => nb (m_take g m70) (fun m74 => m_nameFactor_211 g m74))))) else ck v5 140 (if (m1 17 v5) = 2 then nb (m_keep v5 m1) (fun m48 => nb (m_later 45 m48) (fun m52 => nb (m_variable g v5 m52) (fun m56 => m_nameFactor_211 g m56))) else ck v5 140 (if (m1 17 v5) = 4 then ck v5 140 (nb (m_keep (m1 20 v5) m1) (fun m33 => nb (m_later 51 m33) (fun m37 => ck v5 140 (nb (m_call g (m37 30 v5) m37) (fun m44 => m_nameFactor_211 g m44))))) else ck v5 140 (if (m1 17 v5) = 5 then if v5 < 12 then m_nameFactor_160 g v5 m1 else if v5 = 12 then m_nameFactor_145 g 16 m1 else m_nameFactor_145 g 17 m1 else m_nameFactor_160 g v5 m1)))))
theorem c_m_nameFactor_b {dd : Nat} (hd : 5 ≤ dd) {g : Nat} {h0 : RHeap} {mF : MS} {la : RLoc} {h : RHeap} {m : MS} (k0 : rx_look la 0 = some (.ref 170)) (hr : RM h0 h m) (hD : m_nameFactor g m = some mF) : Wq O F (Cd O F rp_P dd) (2, 0, rw_X12_nameFactor, []) (rx_at rw_X12_nameFactor 0) la [] h (QN h0 mF) := by
  unfold m_nameFactor at hD
  refine wq_aload_n k0 rfl ?_
  obtain ⟨v5, m1, q4, hD⟩ := vb_of hD
  refine wm_cvI hr (c_known (by omega) hr q4) rfl rfl rfl (fun h2 hr3 pp6 => ?_)
  refine wl_istore_n rfl rfl (fun la7 kk8 t9 => ?_)
  have kk10 := t9 0 _ (by decide) (Or.inr rfl) k0
  refine wq_iload_n kk8 rfl ?_
  refine wq_if_ge pp6 rfl rfl rfl (fun c11 => ?_) (fun c11 => ?_)
  · rw [if_neg (Int.not_lt.mpr c11)] at hD
    refine wq_aload_n kk10 rfl ?_
    refine wm_gfa (c := 0) hr3 rfl rfl ?_
    refine wq_iload_n kk8 rfl ?_
    obtain ⟨g12, g13, hD⟩ := ck_of hD
    refine wm_ali (f := 17) hr3 rfl pp6 g12 g13 rfl (fun pp14 => ?_)
    refine wq_if_ne pp14 rfl rfl rfl (fun c15 => ?_) (fun c15 => ?_)
    · rw [if_neg c15] at hD
      refine wq_aload_n kk10 rfl ?_
      refine wm_gfa (c := 0) hr3 rfl rfl ?_
      refine wq_iload_n kk8 rfl ?_
      obtain ⟨g16, g17, hD⟩ := ck_of hD
      refine wm_ali (f := 17) hr3 rfl pp6 g16 g17 rfl (fun pp18 => ?_)
      refine wq_iconst rfl ?_
      refine wq_icmp_ne pp18 ⟨by decide, by decide⟩ rfl rfl rfl (fun c19 => ?_) (fun c19 => ?_)
      · rw [if_neg c19] at hD
        refine wq_aload_n kk10 rfl ?_
        refine wm_gfa (c := 0) hr3 rfl rfl ?_
        refine wq_iload_n kk8 rfl ?_
        obtain ⟨g20, g21, hD⟩ := ck_of hD
        refine wm_ali (f := 17) hr3 rfl pp6 g20 g21 rfl (fun pp22 => ?_)
        refine wq_iconst rfl ?_
        refine wq_icmp_ne pp22 ⟨by decide, by decide⟩ rfl rfl rfl (fun c23 => ?_) (fun c23 => ?_)
        · rw [if_neg c23] at hD
          refine wq_aload_n kk10 rfl ?_
          refine wm_gfa (c := 0) hr3 rfl rfl ?_
          refine wq_iload_n kk8 rfl ?_
          obtain ⟨g24, g25, hD⟩ := ck_of hD
          refine wm_ali (f := 17) hr3 rfl pp6 g24 g25 rfl (fun pp26 => ?_)
          refine wq_iconst rfl ?_
          refine wq_icmp_ne pp26 ⟨by decide, by decide⟩ rfl rfl rfl (fun c27 => ?_) (fun c27 => ?_)
          · rw [if_neg c27] at hD
            exact c_m_nameFactor_160_b hd kk10 kk8 hr3 pp6 hD
          · rw [if_pos c27] at hD
            refine wq_iload_n kk8 rfl ?_
            refine wq_bipush (by decide) rfl ?_
            refine wq_icmp_lt pp6 ⟨by decide, by decide⟩ rfl rfl rfl (fun c28 => ?_) (fun c28 => ?_)
            · rw [if_pos c28] at hD
              exact c_m_nameFactor_160_b hd kk10 kk8 hr3 pp6 hD
            · rw [if_neg (Int.not_lt.mpr c28)] at hD
              refine wq_aload_n kk10 rfl ?_
              refine wq_iload_n kk8 rfl ?_
              refine wq_bipush (by decide) rfl ?_
              refine wq_icmp_ne pp6 ⟨by decide, by decide⟩ rfl rfl rfl (fun c29 => ?_) (fun c29 => ?_)
              · rw [if_neg c29] at hD
                refine wq_bipush (by decide) rfl ?_
                exact c_m_nameFactor_145_b hd kk10 hr3 ⟨by decide, by decide⟩ hD
              · rw [if_pos c29] at hD
                refine wq_bipush (by decide) rfl ?_
                refine wq_goto rfl rfl ?_
                exact c_m_nameFactor_145_b hd kk10 hr3 ⟨by decide, by decide⟩ hD
        · rw [if_pos c23] at hD
          refine wq_aload_n kk10 rfl ?_
          refine wq_aload_n kk10 rfl ?_
          refine wm_gfa (c := 0) hr3 rfl rfl ?_
          refine wq_iload_n kk8 rfl ?_
          obtain ⟨g30, g31, hD⟩ := ck_of hD
          refine wm_ali (f := 20) hr3 rfl pp6 g30 g31 rfl (fun pp32 => ?_)
          obtain ⟨m33, q36, hD⟩ := nb_of hD
          refine wm_cvN hr3 (c_keep (by omega) hr3 pp32 q36) rfl rfl rfl (fun h34 hr35 => ?_)
          refine wq_aload_n kk10 rfl ?_
          refine wq_bipush (by decide) rfl ?_
          obtain ⟨m37, q40, hD⟩ := nb_of hD
          refine wm_cvN hr35 (c_later (by omega) hr35 ⟨by decide, by decide⟩ q40) rfl rfl rfl (fun h38 hr39 => ?_)
          refine wq_aload_n kk10 rfl ?_
          refine wq_aload_n kk10 rfl ?_
          refine wm_gfa (c := 0) hr39 rfl rfl ?_
          refine wq_iload_n kk8 rfl ?_
          obtain ⟨g41, g42, hD⟩ := ck_of hD
          refine wm_ali (f := 30) hr39 rfl pp6 g41 g42 rfl (fun pp43 => ?_)
          obtain ⟨m44, q47, hD⟩ := nb_of hD
          refine wm_cvN hr39 (c_call (by omega) hr39 pp43 q47) rfl rfl rfl (fun h45 hr46 => ?_)
          refine wq_goto rfl rfl ?_
          exact c_m_nameFactor_211_b hd hr46 hD
      · rw [if_pos c19] at hD
        refine wq_aload_n kk10 rfl ?_
        refine wq_iload_n kk8 rfl ?_
        obtain ⟨m48, q51, hD⟩ := nb_of hD
        refine wm_cvN hr3 (c_keep (by omega) hr3 pp6 q51) rfl rfl rfl (fun h49 hr50 => ?_)
        refine wq_aload_n kk10 rfl ?_
        refine wq_bipush (by decide) rfl ?_
        obtain ⟨m52, q55, hD⟩ := nb_of hD
        refine wm_cvN hr50 (c_later (by omega) hr50 ⟨by decide, by decide⟩ q55) rfl rfl rfl (fun h53 hr54 => ?_)
        refine wq_aload_n kk10 rfl ?_
        refine wq_iload_n kk8 rfl ?_
        obtain ⟨m56, q59, hD⟩ := nb_of hD
        refine wm_cvN hr54 (c_variable (by omega) hr54 pp6 q59) rfl rfl rfl (fun h57 hr58 => ?_)
        refine wq_goto rfl rfl ?_
        exact c_m_nameFactor_211_b hd hr58 hD
    · rw [if_pos c15] at hD
      refine wq_aload_n kk10 rfl ?_
      refine wq_aload_n kk10 rfl ?_
      refine wm_gfa (c := 0) hr3 rfl rfl ?_
      refine wq_iload_n kk8 rfl ?_
      obtain ⟨g60, g61, hD⟩ := ck_of hD
      refine wm_ali (f := 20) hr3 rfl pp6 g60 g61 rfl (fun pp62 => ?_)
      obtain ⟨m63, e64, hD⟩ := wlet_of hD
      refine wm_pfi hr3 rfl rfl pp62 rfl (fun h65 hr66 => ?_)
      rw [← e64] at hr66
      refine wq_aload_n kk10 rfl ?_
      refine wq_iconst rfl ?_
      refine wq_aload_n kk10 rfl ?_
      refine wm_gfa (c := 0) hr66 rfl rfl ?_
      refine wq_iload_n kk8 rfl ?_
      obtain ⟨g67, g68, hD⟩ := ck_of hD
      refine wm_ali (f := 22) hr66 rfl pp6 g67 g68 rfl (fun pp69 => ?_)
      obtain ⟨m70, q73, hD⟩ := nb_of hD
      refine wm_cvN hr66 (c_write1 (by omega) hr66 ⟨by decide, by decide⟩ pp69 q73) rfl rfl rfl (fun h71 hr72 => ?_)
      refine wq_aload_n kk10 rfl ?_
      obtain ⟨m74, q77, hD⟩ := nb_of hD
      refine wm_cvN hr72 (c_take (by omega) hr72 q77) rfl rfl rfl (fun h75 hr76 => ?_)
      refine wq_goto rfl rfl ?_
      exact c_m_nameFactor_211_b hd hr76 hD
  · rw [if_pos c11] at hD
    cases hD
    exact wq_return rfl ⟨_, rfl, hr3⟩
theorem c_nameFactor {d : Nat} (hd : 6 ≤ d) {g : Nat} {h0 h : RHeap} {m : MS} {mF : MS} (hr : RM h0 h m) (hD : m_nameFactor g m = some mF) : Cq (Cd O F rp_P d) 248 [.ref 170] h (QN h0 mF) := by
  refine cq_of (I := (2, 0, rw_X12_nameFactor, [])) rfl rfl (by omega) ?_
  exact c_m_nameFactor_b (by omega) rfl hr hD
end Dec
