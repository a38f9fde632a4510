section Dec
variable {O : ROld} {F : RFacts}
def m_group_248 (g : Nat) (m : MS) : Option MS := some m
theorem c_m_group_248_b {dd : Nat} (hd : 4 ≤ dd) {g : Nat} {h0 : RHeap} {mF : MS} {la : RLoc} {h : RHeap} {m : MS} (hr : RM h0 h m) (hD : m_group_248 g m = some mF) : Wq O F (Cd O F rp_P dd) (7, 0, rw_X12_group, []) (rx_at rw_X12_group 248) la [] h (QN h0 mF) := by
  unfold m_group_248 at hD
  cases hD
  exact wq_return rfl ⟨_, rfl, hr⟩
def m_group_131 (g : Nat) : Nat → Int → Int → Int → MS → Option MS
  | 0, _, _, _, _ => none
  | n + 1, l1, l2, l5, m => if l5 < (m 15 0) then if (m 6 0) = 0 then nb (m_become l5 m) (fun m91 => ck l5 140 (wlet (mset m91 29 l5 l2) (fun m97 => nb (m_seat l5 m97) (fun m101 => ck l1 240 (ck (i32 ((i32 (8 * l1)) + (m101 49 l1))) 1920 (wlet (mset m101 51 (i32 ((i32 (8 * l1)) + (m101 49 l1))) (m101 33 0)) (fun m118 => ck (i32 ((i32 (8 * l1)) + (m101 49 l1))) 1920 (wlet (mset m118 52 (i32 ((i32 (8 * l1)) + (m101 49 l1))) l2) (fun m124 => ck (i32 ((i32 (8 * l1)) + (m101 49 l1))) 1920 (wlet (mset m124 53 (i32 ((i32 (8 * l1)) + (m101 49 l1))) (m124 34 0)) (fun m131 => ck (i32 ((i32 (8 * l1)) + (m101 49 l1))) 1920 (wlet (mset m131 54 (i32 ((i32 (8 * l1)) + (m101 49 l1))) (m131 35 0)) (fun m138 => ck (i32 ((i32 (8 * l1)) + (m101 49 l1))) 1920 (wlet (mset m138 55 (i32 ((i32 (8 * l1)) + (m101 49 l1))) (m138 36 0)) (fun m145 => ck l1 240 (ck l1 240 (wlet (mset m145 49 l1 (i32 ((m145 49 l1) + 1))) (fun m154 => m_group_131 g n l1 l2 (i32 (l5 + 1)) m154)))))))))))))))))) else m_group_248 g m else m_group_248 g m
theorem c_m_group_131 {dd : Nat} (hd : 4 ≤ dd) {g : Nat} {h0 : RHeap} {mF : MS} : ∀ (n : Nat) {la : RLoc} {h : RHeap} {m : MS} {l1 l2 l5 : Int}, rx_look la 0 = some (.ref 170) → rx_look la 1 = some (wvi l1) → rx_look la 2 = some (wvi l2) → rx_look la 5 = some (wvi l5) → RM h0 h m → InI l1 → (l2 = 0 ∨ l2 = 1) → InI l5 → m_group_131 g n l1 l2 l5 m = some mF → Wq O F (Cd O F rp_P dd) (7, 0, rw_X12_group, []) (rx_at rw_X12_group 131) la [] h (QN h0 mF) := by
  intro n
  induction n with
  | zero =>
    intro la h m l1 l2 l5 k0 k1 k2 k5 hr pl1 pl2 pl5 hD
    unfold m_group_131 at hD
    cases hD
  | succ n ih =>
    intro la h m l1 l2 l5 k0 k1 k2 k5 hr pl1 pl2 pl5 hD
    unfold m_group_131 at hD
    refine wq_iload k5 rfl ?_
    refine wq_aload_n k0 rfl ?_
    refine wm_gfi hr rfl rfl (fun pp87 => ?_)
    refine wq_icmp_ge pl5 pp87 rfl rfl rfl (fun c88 => ?_) (fun c88 => ?_)
    · rw [if_neg (Int.not_lt.mpr c88)] at hD
      exact c_m_group_248_b hd hr hD
    · rw [if_pos c88] at hD
      refine wq_aload_n k0 rfl ?_
      refine wm_gfi hr rfl rfl (fun pp89 => ?_)
      refine wq_if_ne pp89 rfl rfl rfl (fun c90 => ?_) (fun c90 => ?_)
      · rw [if_neg c90] at hD
        exact c_m_group_248_b hd hr hD
      · rw [if_pos c90] at hD
        refine wq_aload_n k0 rfl ?_
        refine wq_iload k5 rfl ?_
        obtain ⟨m91, q94, hD⟩ := nb_of hD
        refine wm_cvN hr (c_become (by omega) hr pl5 q94) rfl rfl rfl (fun h92 hr93 => ?_)
        refine wq_aload_n k0 rfl ?_
        refine wm_gfa (c := 3) hr93 rfl rfl ?_
        refine wq_iload k5 rfl ?_
        refine wq_iload_n k2 rfl ?_
        obtain ⟨g95, g96, hD⟩ := ck_of hD
        obtain ⟨m97, e98, hD⟩ := wlet_of hD
        refine wm_asz (f := 29) hr93 rfl pl5 g95 g96 pl2 rfl (fun h99 hr100 => ?_)
        rw [← e98] at hr100
        refine wq_aload_n k0 rfl ?_
        refine wq_iload k5 rfl ?_
        obtain ⟨m101, q104, hD⟩ := nb_of hD
        refine wm_cvN hr100 (c_seat (by omega) hr100 pl5 q104) rfl rfl rfl (fun h102 hr103 => ?_)
        refine wq_bipush (by decide) rfl ?_
        refine wq_iload_n k1 rfl ?_
        refine wq_imul rfl ?_
        refine wq_aload_n k0 rfl ?_
        refine wm_gfa (c := 0) hr103 rfl rfl ?_
        refine wq_iload_n k1 rfl ?_
        obtain ⟨g105, g106, hD⟩ := ck_of hD
        refine wm_ali (f := 49) hr103 rfl pl1 g105 g106 rfl (fun pp107 => ?_)
        refine wq_iadd rfl ?_
        refine wl_istore rfl rfl (fun la108 kk109 t110 => ?_)
        have kk111 := t110 0 _ (by decide) (Or.inr rfl) k0
        have kk112 := t110 1 _ (by decide) (Or.inr rfl) k1
        have kk113 := t110 2 _ (by decide) (Or.inr rfl) k2
        have kk114 := t110 5 _ (by decide) (Or.inr rfl) k5
        refine wq_aload_n kk111 rfl ?_
        refine wm_gfa (c := 0) hr103 rfl rfl ?_
        refine wq_iload kk109 rfl ?_
        refine wq_aload_n kk111 rfl ?_
        refine wm_gfi hr103 rfl rfl (fun pp115 => ?_)
        obtain ⟨g116, g117, hD⟩ := ck_of hD
        obtain ⟨m118, e119, hD⟩ := wlet_of hD
        refine wm_asi (f := 51) hr103 rfl (InI_i32 _) g116 g117 pp115 rfl (fun h120 hr121 => ?_)
        rw [← e119] at hr121
        refine wq_aload_n kk111 rfl ?_
        refine wm_gfa (c := 3) hr121 rfl rfl ?_
        refine wq_iload kk109 rfl ?_
        refine wq_iload_n kk113 rfl ?_
        obtain ⟨g122, g123, hD⟩ := ck_of hD
        obtain ⟨m124, e125, hD⟩ := wlet_of hD
        refine wm_asz (f := 52) hr121 rfl (InI_i32 _) g122 g123 pl2 rfl (fun h126 hr127 => ?_)
        rw [← e125] at hr127
        refine wq_aload_n kk111 rfl ?_
        refine wm_gfa (c := 3) hr127 rfl rfl ?_
        refine wq_iload kk109 rfl ?_
        refine wq_aload_n kk111 rfl ?_
        refine wm_gfz hr127 rfl rfl (fun pp128 => ?_)
        obtain ⟨g129, g130, hD⟩ := ck_of hD
        obtain ⟨m131, e132, hD⟩ := wlet_of hD
        refine wm_asz (f := 53) hr127 rfl (InI_i32 _) g129 g130 pp128 rfl (fun h133 hr134 => ?_)
        rw [← e132] at hr134
        refine wq_aload_n kk111 rfl ?_
        refine wm_gfa (c := 0) hr134 rfl rfl ?_
        refine wq_iload kk109 rfl ?_
        refine wq_aload_n kk111 rfl ?_
        refine wm_gfi hr134 rfl rfl (fun pp135 => ?_)
        obtain ⟨g136, g137, hD⟩ := ck_of hD
        obtain ⟨m138, e139, hD⟩ := wlet_of hD
        refine wm_asi (f := 54) hr134 rfl (InI_i32 _) g136 g137 pp135 rfl (fun h140 hr141 => ?_)
        rw [← e139] at hr141
        refine wq_aload_n kk111 rfl ?_
        refine wm_gfa (c := 0) hr141 rfl rfl ?_
        refine wq_iload kk109 rfl ?_
        refine wq_aload_n kk111 rfl ?_
        refine wm_gfi hr141 rfl rfl (fun pp142 => ?_)
        obtain ⟨g143, g144, hD⟩ := ck_of hD
        obtain ⟨m145, e146, hD⟩ := wlet_of hD
        refine wm_asi (f := 55) hr141 rfl (InI_i32 _) g143 g144 pp142 rfl (fun h147 hr148 => ?_)
        rw [← e146] at hr148
        refine wq_aload_n kk111 rfl ?_
        refine wm_gfa (c := 0) hr148 rfl rfl ?_
        refine wq_iload_n kk112 rfl ?_
        refine wq_dup2 rfl rfl rfl ?_
        obtain ⟨g149, g150, hD⟩ := ck_of hD
        refine wm_ali (f := 49) hr148 rfl pl1 g149 g150 rfl (fun pp151 => ?_)
        refine wq_iconst rfl ?_
        refine wq_iadd rfl ?_
        obtain ⟨g152, g153, hD⟩ := ck_of hD
        obtain ⟨m154, e155, hD⟩ := wlet_of hD
        refine wm_asi (f := 49) hr148 rfl pl1 g152 g153 (InI_i32 _) rfl (fun h156 hr157 => ?_)
        rw [← e155] at hr157
        refine wl_iinc kk114 rfl rfl (fun la158 kk159 t160 => ?_)
        have kk161 := t160 0 _ (by decide) (Or.inr rfl) kk111
        have kk162 := t160 1 _ (by decide) (Or.inr rfl) kk112
        have kk163 := t160 2 _ (by decide) (Or.inr rfl) kk113
        refine wq_goto rfl rfl ?_
        exact ih kk161 kk162 kk163 kk159 hr157 pl1 pl2 (InI_i32 _) hD
def m_group_128 (g : Nat) (l1 : Int) (l2 : Int) (l3 : Int) (m : MS) : Option MS := m_group_131 g g l1 l2 l3 m
theorem c_m_group_128_b {dd : Nat} (hd : 4 ≤ dd) {g : Nat} {h0 : RHeap} {mF : MS} {la : RLoc} {h : RHeap} {m : MS} {l1 l2 l3 : Int} (k0 : rx_look la 0 = some (.ref 170)) (k1 : rx_look la 1 = some (wvi l1)) (k2 : rx_look la 2 = some (wvi l2)) (k3 : rx_look la 3 = some (wvi l3)) (hr : RM h0 h m) (pl1 : InI l1) (pl2 : (l2 = 0 ∨ l2 = 1)) (pl3 : InI l3) (hD : m_group_128 g l1 l2 l3 m = some mF) : Wq O F (Cd O F rp_P dd) (7, 0, rw_X12_group, []) (rx_at rw_X12_group 128) la [] h (QN h0 mF) := by
  unfold m_group_128 at hD
  refine wq_iload_n k3 rfl ?_
  refine wl_istore rfl rfl (fun la81 kk82 t83 => ?_)
  have kk84 := t83 0 _ (by decide) (Or.inr rfl) k0
  have kk85 := t83 1 _ (by decide) (Or.inr rfl) k1
  have kk86 := t83 2 _ (by decide) (Or.inr rfl) k2
  exact c_m_group_131 hd g kk84 kk85 kk86 kk82 hr pl1 pl2 pl3 hD
def m_group_110 (g : Nat) (l1 : Int) (l2 : Int) (l3 : Int) (m : MS) : Option MS := nb (m_want g 22 m) (fun m71 => if (m71 6 0) = 0 then nb (m_nameOfType g 0 m71) (fun m77 => m_group_128 g l1 l2 l3 m77) else m_group_128 g l1 l2 l3 m71)
theorem c_m_group_110_b {dd : Nat} (hd : 4 ≤ dd) {g : Nat} {h0 : RHeap} {mF : MS} {la : RLoc} {h : RHeap} {m : MS} {l1 l2 l3 : Int} (k0 : rx_look la 0 = some (.ref 170)) (k1 : rx_look la 1 = some (wvi l1)) (k2 : rx_look la 2 = some (wvi l2)) (k3 : rx_look la 3 = some (wvi l3)) (hr : RM h0 h m) (pl1 : InI l1) (pl2 : (l2 = 0 ∨ l2 = 1)) (pl3 : InI l3) (hD : m_group_110 g l1 l2 l3 m = some mF) : Wq O F (Cd O F rp_P dd) (7, 0, rw_X12_group, []) (rx_at rw_X12_group 110) la [] h (QN h0 mF) := by
  unfold m_group_110 at hD
  refine wq_aload_n k0 rfl ?_
  refine wq_bipush (by decide) rfl ?_
  obtain ⟨m71, q74, hD⟩ := nb_of hD
  refine wm_cvN hr (c_want (by omega) hr ⟨by decide, by decide⟩ q74) rfl rfl rfl (fun h72 hr73 => ?_)
  refine wq_aload_n k0 rfl ?_
  refine wm_gfi hr73 rfl rfl (fun pp75 => ?_)
  refine wq_if_ne pp75 rfl rfl rfl (fun c76 => ?_) (fun c76 => ?_)
  · rw [if_neg c76] at hD
    exact c_m_group_128_b hd k0 k1 k2 k3 hr73 pl1 pl2 pl3 hD
  · rw [if_pos c76] at hD
    refine wq_aload_n k0 rfl ?_
    refine wq_iconst rfl ?_
    obtain ⟨m77, q80, hD⟩ := nb_of hD
    refine wm_cvN hr73 (c_nameOfType (by omega) hr73 (Or.inl rfl) q80) rfl rfl rfl (fun h78 hr79 => ?_)
    exact c_m_group_128_b hd k0 k1 k2 k3 hr79 pl1 pl2 pl3 hD
def m_group_107 (g : Nat) (rec31 : Int → Int → Int → Int → MS → Option MS) (l1 : Int) (l2 : Int) (l3 : Int) (l4 : Int) (m : MS) : Option MS := rec31 l1 l2 l3 l4 m
theorem c_m_group_107_b {dd : Nat} (hd : 4 ≤ dd) {g : Nat} {h0 : RHeap} {mF : MS} {rec31 : Int → Int → Int → Int → MS → Option MS} (hrec31 : ∀ {la : RLoc} {h : RHeap} {m : MS} {l1 l2 l3 l4 : Int}, rx_look la 0 = some (.ref 170) → rx_look la 1 = some (wvi l1) → rx_look la 2 = some (wvi l2) → rx_look la 3 = some (wvi l3) → rx_look la 4 = some (wvi l4) → RM h0 h m → InI l1 → (l2 = 0 ∨ l2 = 1) → InI l3 → (l4 = 0 ∨ l4 = 1) → rec31 l1 l2 l3 l4 m = some mF → Wq O F (Cd O F rp_P dd) (7, 0, rw_X12_group, []) (rx_at rw_X12_group 31) la [] h (QN h0 mF)) {la : RLoc} {h : RHeap} {m : MS} {l1 l2 l3 l4 : Int} (k0 : rx_look la 0 = some (.ref 170)) (k1 : rx_look la 1 = some (wvi l1)) (k2 : rx_look la 2 = some (wvi l2)) (k3 : rx_look la 3 = some (wvi l3)) (k4 : rx_look la 4 = some (wvi l4)) (hr : RM h0 h m) (pl1 : InI l1) (pl2 : (l2 = 0 ∨ l2 = 1)) (pl3 : InI l3) (pl4 : (l4 = 0 ∨ l4 = 1)) (hD : m_group_107 g rec31 l1 l2 l3 l4 m = some mF) : Wq O F (Cd O F rp_P dd) (7, 0, rw_X12_group, []) (rx_at rw_X12_group 107) la [] h (QN h0 mF) := by
  unfold m_group_107 at hD
  refine wq_goto rfl rfl ?_
  exact hrec31 k0 k1 k2 k3 k4 hr pl1 pl2 pl3 pl4 hD
def m_group_96 (g : Nat) (rec31 : Int → Int → Int → Int → MS → Option MS) (l1 : Int) (l2 : Int) (l3 : Int) (s0 : Int) (m : MS) : Option MS := if s0 = 0 then m_group_107 g rec31 l1 l2 l3 s0 m else nb (m_take g m) (fun m67 => m_group_107 g rec31 l1 l2 l3 s0 m67)
theorem c_m_group_96_b {dd : Nat} (hd : 4 ≤ dd) {g : Nat} {h0 : RHeap} {mF : MS} {rec31 : Int → Int → Int → Int → MS → Option MS} (hrec31 : ∀ {la : RLoc} {h : RHeap} {m : MS} {l1 l2 l3 l4 : Int}, rx_look la 0 = some (.ref 170) → rx_look la 1 = some (wvi l1) → rx_look la 2 = some (wvi l2) → rx_look la 3 = some (wvi l3) → rx_look la 4 = some (wvi l4) → RM h0 h m → InI l1 → (l2 = 0 ∨ l2 = 1) → InI l3 → (l4 = 0 ∨ l4 = 1) → rec31 l1 l2 l3 l4 m = some mF → Wq O F (Cd O F rp_P dd) (7, 0, rw_X12_group, []) (rx_at rw_X12_group 31) la [] h (QN h0 mF)) {la : RLoc} {h : RHeap} {m : MS} {l1 l2 l3 s0 : Int} (k0 : rx_look la 0 = some (.ref 170)) (k1 : rx_look la 1 = some (wvi l1)) (k2 : rx_look la 2 = some (wvi l2)) (k3 : rx_look la 3 = some (wvi l3)) (hr : RM h0 h m) (pl1 : InI l1) (pl2 : (l2 = 0 ∨ l2 = 1)) (pl3 : InI l3) (ps0 : (s0 = 0 ∨ s0 = 1)) (hD : m_group_96 g rec31 l1 l2 l3 s0 m = some mF) : Wq O F (Cd O F rp_P dd) (7, 0, rw_X12_group, []) (rx_at rw_X12_group 96) la [wvi s0] h (QN h0 mF) := by
  unfold m_group_96 at hD
  refine wl_istore rfl rfl (fun la59 kk60 t61 => ?_)
  have kk62 := t61 0 _ (by decide) (Or.inr rfl) k0
  have kk63 := t61 1 _ (by decide) (Or.inr rfl) k1
  have kk64 := t61 2 _ (by decide) (Or.inr rfl) k2
  have kk65 := t61 3 _ (by decide) (Or.inr rfl) k3
  refine wq_iload kk60 rfl ?_
  refine wq_if_eq (InI_z ps0) rfl rfl rfl (fun c66 => ?_) (fun c66 => ?_)
  · rw [if_pos c66] at hD
    exact c_m_group_107_b hd hrec31 kk62 kk63 kk64 kk65 kk60 hr pl1 pl2 pl3 ps0 hD
  · rw [if_neg c66] at hD
    refine wq_aload_n kk62 rfl ?_
    obtain ⟨m67, q70, hD⟩ := nb_of hD
    refine wm_cvN hr (c_take (by omega) hr q70) rfl rfl rfl (fun h68 hr69 => ?_)
    exact c_m_group_107_b hd hrec31 kk62 kk63 kk64 kk65 kk60 hr69 pl1 pl2 pl3 ps0 hD
def m_group_95 (g : Nat) (rec31 : Int → Int → Int → Int → MS → Option MS) (l1 : Int) (l2 : Int) (l3 : Int) (m : MS) : Option MS := m_group_96 g rec31 l1 l2 l3 0 m
theorem c_m_group_95_b {dd : Nat} (hd : 4 ≤ dd) {g : Nat} {h0 : RHeap} {mF : MS} {rec31 : Int → Int → Int → Int → MS → Option MS} (hrec31 : ∀ {la : RLoc} {h : RHeap} {m : MS} {l1 l2 l3 l4 : Int}, rx_look la 0 = some (.ref 170) → rx_look la 1 = some (wvi l1) → rx_look la 2 = some (wvi l2) → rx_look la 3 = some (wvi l3) → rx_look la 4 = some (wvi l4) → RM h0 h m → InI l1 → (l2 = 0 ∨ l2 = 1) → InI l3 → (l4 = 0 ∨ l4 = 1) → rec31 l1 l2 l3 l4 m = some mF → Wq O F (Cd O F rp_P dd) (7, 0, rw_X12_group, []) (rx_at rw_X12_group 31) la [] h (QN h0 mF)) {la : RLoc} {h : RHeap} {m : MS} {l1 l2 l3 : Int} (k0 : rx_look la 0 = some (.ref 170)) (k1 : rx_look la 1 = some (wvi l1)) (k2 : rx_look la 2 = some (wvi l2)) (k3 : rx_look la 3 = some (wvi l3)) (hr : RM h0 h m) (pl1 : InI l1) (pl2 : (l2 = 0 ∨ l2 = 1)) (pl3 : InI l3) (hD : m_group_95 g rec31 l1 l2 l3 m = some mF) : Wq O F (Cd O F rp_P dd) (7, 0, rw_X12_group, []) (rx_at rw_X12_group 95) la [] h (QN h0 mF) := by
  unfold m_group_95 at hD
  refine wq_iconst rfl ?_
  exact c_m_group_96_b hd hrec31 k0 k1 k2 k3 hr pl1 pl2 pl3 (Or.inl rfl) hD
def m_group_31 (g : Nat) : Nat → Int → Int → Int → Int → MS → Option MS
  | 0, _, _, _, _, _ => none
  | n + 1, l1, l2, l3, l4, m => if l4 = 0 then m_group_110 g l1 l2 l3 m else if (m 6 0) = 0 then ck l1 240 (wlet (mset m 56 0 (i32 ((i32 (8 - (m 49 l1))) - (i32 ((m 15 0) - l3))))) (fun m34 => vb (m_declare g 2 m34) (fun v42 m38 => wlet (mset m38 56 0 (-1)) (fun m51 => if (m51 6 0) = 0 then if (m51 10 0) = 20 then m_group_96 g (m_group_31 g n) l1 l2 l3 1 m51 else m_group_95 g (m_group_31 g n) l1 l2 l3 m51 else m_group_95 g (m_group_31 g n) l1 l2 l3 m51)))) else m_group_110 g l1 l2 l3 m
theorem c_m_group_31 {dd : Nat} (hd : 4 ≤ dd) {g : Nat} {h0 : RHeap} {mF : MS} : ∀ (n : Nat) {la : RLoc} {h : RHeap} {m : MS} {l1 l2 l3 l4 : Int}, rx_look la 0 = some (.ref 170) → rx_look la 1 = some (wvi l1) → rx_look la 2 = some (wvi l2) → rx_look la 3 = some (wvi l3) → rx_look la 4 = some (wvi l4) → RM h0 h m → InI l1 → (l2 = 0 ∨ l2 = 1) → InI l3 → (l4 = 0 ∨ l4 = 1) → m_group_31 g n l1 l2 l3 l4 m = some mF → Wq O F (Cd O F rp_P dd) (7, 0, rw_X12_group, []) (rx_at rw_X12_group 31) la [] h (QN h0 mF) := by
  intro n
  induction n with
  | zero =>
    intro la h m l1 l2 l3 l4 k0 k1 k2 k3 k4 hr pl1 pl2 pl3 pl4 hD
    unfold m_group_31 at hD
    cases hD
  | succ n ih =>
    intro la h m l1 l2 l3 l4 k0 k1 k2 k3 k4 hr pl1 pl2 pl3 pl4 hD
    unfold m_group_31 at hD
    refine wq_iload k4 rfl ?_
    refine wq_if_eq (InI_z pl4) rfl rfl rfl (fun c27 => ?_) (fun c27 => ?_)
    · rw [if_pos c27] at hD
      exact c_m_group_110_b hd k0 k1 k2 k3 hr pl1 pl2 pl3 hD
    · rw [if_neg c27] at hD
      refine wq_aload_n k0 rfl ?_
      refine wm_gfi hr rfl rfl (fun pp28 => ?_)
      refine wq_if_ne pp28 rfl rfl rfl (fun c29 => ?_) (fun c29 => ?_)
      · rw [if_neg c29] at hD
        exact c_m_group_110_b hd k0 k1 k2 k3 hr pl1 pl2 pl3 hD
      · rw [if_pos c29] at hD
        refine wq_aload_n k0 rfl ?_
        refine wq_bipush (by decide) rfl ?_
        refine wq_aload_n k0 rfl ?_
        refine wm_gfa (c := 0) hr rfl rfl ?_
        refine wq_iload_n k1 rfl ?_
        obtain ⟨g30, g31, hD⟩ := ck_of hD
        refine wm_ali (f := 49) hr rfl pl1 g30 g31 rfl (fun pp32 => ?_)
        refine wq_isub rfl ?_
        refine wq_aload_n k0 rfl ?_
        refine wm_gfi hr rfl rfl (fun pp33 => ?_)
        refine wq_iload_n k3 rfl ?_
        refine wq_isub rfl ?_
        refine wq_isub rfl ?_
        obtain ⟨m34, e35, hD⟩ := wlet_of hD
        refine wm_pfi hr rfl rfl (InI_i32 _) rfl (fun h36 hr37 => ?_)
        rw [← e35] at hr37
        refine wq_aload_n k0 rfl ?_
        refine wq_iconst rfl ?_
        obtain ⟨v42, m38, q41, hD⟩ := vb_of hD
        refine wm_cvI hr37 (c_declare (by omega) hr37 ⟨by decide, by decide⟩ q41) rfl rfl rfl (fun h39 hr40 pp43 => ?_)
        refine wl_istore rfl rfl (fun la44 kk45 t46 => ?_)
        have kk47 := t46 0 _ (by decide) (Or.inr rfl) k0
        have kk48 := t46 1 _ (by decide) (Or.inr rfl) k1
        have kk49 := t46 2 _ (by decide) (Or.inr rfl) k2
        have kk50 := t46 3 _ (by decide) (Or.inr rfl) k3
        refine wq_aload_n kk47 rfl ?_
        refine wq_iconst rfl ?_
        obtain ⟨m51, e52, hD⟩ := wlet_of hD
        refine wm_pfi hr40 rfl rfl ⟨by decide, by decide⟩ rfl (fun h53 hr54 => ?_)
        rw [← e52] at hr54
        refine wq_aload_n kk47 rfl ?_
        refine wm_gfi hr54 rfl rfl (fun pp55 => ?_)
        refine wq_if_ne pp55 rfl rfl rfl (fun c56 => ?_) (fun c56 => ?_)
        · rw [if_neg c56] at hD
          exact c_m_group_95_b hd ih kk47 kk48 kk49 kk50 hr54 pl1 pl2 pl3 hD
        · rw [if_pos c56] at hD
          refine wq_aload_n kk47 rfl ?_
          refine wm_gfi hr54 rfl rfl (fun pp57 => ?_)
          refine wq_bipush (by decide) rfl ?_
          refine wq_icmp_ne pp57 ⟨by decide, by decide⟩ rfl rfl rfl (fun c58 => ?_) (fun c58 => ?_)
          · rw [if_neg c58] at hD
            exact c_m_group_95_b hd ih kk47 kk48 kk49 kk50 hr54 pl1 pl2 pl3 hD
          · rw [if_pos c58] at hD
            refine wq_iconst rfl ?_
            refine wq_goto rfl rfl ?_
            exact c_m_group_96_b hd ih kk47 kk48 kk49 kk50 hr54 pl1 pl2 pl3 (Or.inr rfl) hD
def m_group_23 (g : Nat) (l1 : Int) (l2 : Int) (m : MS) : Option MS := m_group_31 g g l1 l2 (m 15 0) 1 m
theorem c_m_group_23_b {dd : Nat} (hd : 4 ≤ dd) {g : Nat} {h0 : RHeap} {mF : MS} {la : RLoc} {h : RHeap} {m : MS} {l1 l2 : Int} (k0 : rx_look la 0 = some (.ref 170)) (k1 : rx_look la 1 = some (wvi l1)) (k2 : rx_look la 2 = some (wvi l2)) (hr : RM h0 h m) (pl1 : InI l1) (pl2 : (l2 = 0 ∨ l2 = 1)) (hD : m_group_23 g l1 l2 m = some mF) : Wq O F (Cd O F rp_P dd) (7, 0, rw_X12_group, []) (rx_at rw_X12_group 23) la [] h (QN h0 mF) := by
  unfold m_group_23 at hD
  refine wq_aload_n k0 rfl ?_
  refine wm_gfi hr rfl rfl (fun pp13 => ?_)
  refine wl_istore_n rfl rfl (fun la14 kk15 t16 => ?_)
  have kk17 := t16 0 _ (by decide) (Or.inr rfl) k0
  have kk18 := t16 1 _ (by decide) (Or.inr rfl) k1
  have kk19 := t16 2 _ (by decide) (Or.inr rfl) k2
  refine wq_iconst rfl ?_
  refine wl_istore rfl rfl (fun la20 kk21 t22 => ?_)
  have kk23 := t22 0 _ (by decide) (Or.inr rfl) kk17
  have kk24 := t22 1 _ (by decide) (Or.inr rfl) kk18
  have kk25 := t22 2 _ (by decide) (Or.inr rfl) kk19
  have kk26 := t22 3 _ (by decide) (Or.inr rfl) kk15
  exact c_m_group_31 hd g kk23 kk24 kk25 kk26 kk21 hr pl1 pl2 pp13 (Or.inr rfl) hD
def m_group_14 (g : Nat) (l1 : Int) (s0 : Int) (m : MS) : Option MS := if s0 = 0 then m_group_23 g l1 s0 m else nb (m_take g m) (fun m9 => m_group_23 g l1 s0 m9)
theorem c_m_group_14_b {dd : Nat} (hd : 4 ≤ dd) {g : Nat} {h0 : RHeap} {mF : MS} {la : RLoc} {h : RHeap} {m : MS} {l1 s0 : Int} (k0 : rx_look la 0 = some (.ref 170)) (k1 : rx_look la 1 = some (wvi l1)) (hr : RM h0 h m) (pl1 : InI l1) (ps0 : (s0 = 0 ∨ s0 = 1)) (hD : m_group_14 g l1 s0 m = some mF) : Wq O F (Cd O F rp_P dd) (7, 0, rw_X12_group, []) (rx_at rw_X12_group 14) la [wvi s0] h (QN h0 mF) := by
  unfold m_group_14 at hD
  refine wl_istore_n rfl rfl (fun la3 kk4 t5 => ?_)
  have kk6 := t5 0 _ (by decide) (Or.inr rfl) k0
  have kk7 := t5 1 _ (by decide) (Or.inr rfl) k1
  refine wq_iload_n kk4 rfl ?_
  refine wq_if_eq (InI_z ps0) rfl rfl rfl (fun c8 => ?_) (fun c8 => ?_)
  · rw [if_pos c8] at hD
    exact c_m_group_23_b hd kk6 kk7 kk4 hr pl1 ps0 hD
  · rw [if_neg c8] at hD
    refine wq_aload_n kk6 rfl ?_
    obtain ⟨m9, q12, hD⟩ := nb_of hD
    refine wm_cvN hr (c_take (by omega) hr q12) rfl rfl rfl (fun h10 hr11 => ?_)
    exact c_m_group_23_b hd kk6 kk7 kk4 hr11 pl1 ps0 hD
def m_group (g : Nat) (l1 : Int) (m : MS) : Option MS := if (m 10 0) = 32 then m_group_14 g l1 1 m else m_group_14 g l1 0 m
theorem c_m_group_b {dd : Nat} (hd : 4 ≤ dd) {g : Nat} {h0 : RHeap} {mF : MS} {la : RLoc} {h : RHeap} {m : MS} {l1 : Int} (k0 : rx_look la 0 = some (.ref 170)) (k1 : rx_look la 1 = some (wvi l1)) (hr : RM h0 h m) (pl1 : InI l1) (hD : m_group g l1 m = some mF) : Wq O F (Cd O F rp_P dd) (7, 0, rw_X12_group, []) (rx_at rw_X12_group 0) la [] h (QN h0 mF) := by
  unfold m_group at hD
  refine wq_aload_n k0 rfl ?_
  refine wm_gfi hr rfl rfl (fun pp1 => ?_)
  refine wq_bipush (by decide) rfl ?_
  refine wq_icmp_ne pp1 ⟨by decide, by decide⟩ rfl rfl rfl (fun c2 => ?_) (fun c2 => ?_)
  · rw [if_neg c2] at hD
    refine wq_iconst rfl ?_
    exact c_m_group_14_b hd k0 k1 hr pl1 (Or.inl rfl) hD
  · rw [if_pos c2] at hD
    refine wq_iconst rfl ?_
    refine wq_goto rfl rfl ?_
    exact c_m_group_14_b hd k0 k1 hr pl1 (Or.inr rfl) hD
theorem c_group {d : Nat} (hd : 5 ≤ d) {g : Nat} {h0 h : RHeap} {m : MS} {l1 : Int} {mF : MS} (hr : RM h0 h m) (pl1 : InI l1) (hD : m_group g l1 m = some mF) : Cq (Cd O F rp_P d) 233 [.ref 170, wvi l1] h (QN h0 mF) := by
  refine cq_of (I := (7, 0, rw_X12_group, [])) rfl rfl (by omega) ?_
  exact c_m_group_b (by omega) rfl rfl hr pl1 hD
def m_later (l1 : Int) (m : MS) : Option MS := ck (m 65 0) 4000 (wlet (mset m 64 (m 65 0) l1) (fun m4 => wlet (mset m4 65 0 (i32 ((m4 65 0) + 1))) (fun m9 => some m9)))
theorem c_m_later_b {dd : Nat} (hd : 0 ≤ dd) {h0 : RHeap} {mF : MS} {la : RLoc} {h : RHeap} {m : MS} {l1 : Int} (k0 : rx_look la 0 = some (.ref 170)) (k1 : rx_look la 1 = some (wvi l1)) (hr : RM h0 h m) (pl1 : InI l1) (hD : m_later l1 m = some mF) : Wq O F (Cd O F rp_P dd) (2, 0, rw_X12_later, []) (rx_at rw_X12_later 0) la [] h (QN h0 mF) := by
  unfold m_later at hD
  refine wq_aload_n k0 rfl ?_
  refine wm_gfa (c := 0) hr rfl rfl ?_
  refine wq_aload_n k0 rfl ?_
  refine wm_gfi hr rfl rfl (fun pp1 => ?_)
  refine wq_iload_n k1 rfl ?_
  obtain ⟨g2, g3, hD⟩ := ck_of hD
  obtain ⟨m4, e5, hD⟩ := wlet_of hD
  refine wm_asi (f := 64) hr rfl pp1 g2 g3 pl1 rfl (fun h6 hr7 => ?_)
  rw [← e5] at hr7
  refine wq_aload_n k0 rfl ?_
  refine wq_dup rfl rfl ?_
  refine wm_gfi hr7 rfl rfl (fun pp8 => ?_)
  refine wq_iconst rfl ?_
  refine wq_iadd rfl ?_
  obtain ⟨m9, e10, hD⟩ := wlet_of hD
  refine wm_pfi hr7 rfl rfl (InI_i32 _) rfl (fun h11 hr12 => ?_)
  rw [← e10] at hr12
  cases hD
  exact wq_return rfl ⟨_, rfl, hr12⟩
theorem c_later {d : Nat} (hd : 1 ≤ d) {h0 h : RHeap} {m : MS} {l1 : Int} {mF : MS} (hr : RM h0 h m) (pl1 : InI l1) (hD : m_later l1 m = some mF) : Cq (Cd O F rp_P d) 246 [.ref 170, wvi l1] h (QN h0 mF) := by
  refine cq_of (I := (2, 0, rw_X12_later, [])) rfl rfl (by omega) ?_
  exact c_m_later_b (by omega) rfl rfl hr pl1 hD
def m_header_242 (g : Nat) (m : MS) : Option MS := nb (m_want g 21 m) (fun m145 => nb (m_later 3 m145) (fun m149 => nb (m_later 1 m149) (fun m153 => some m153)))
theorem c_m_header_242_b {dd : Nat} (hd : 5 ≤ dd) {g : Nat} {h0 : RHeap} {mF : MS} {la : RLoc} {h : RHeap} {m : MS} (k0 : rx_look la 0 = some (.ref 170)) (hr : RM h0 h m) (hD : m_header_242 g m = some mF) : Wq O F (Cd O F rp_P dd) (4, 0, rw_X12_header, []) (rx_at rw_X12_header 242) la [] h (QN h0 mF) := by
  unfold m_header_242 at hD
  refine wq_aload_n k0 rfl ?_
  refine wq_bipush (by decide) rfl ?_
  obtain ⟨m145, q148, hD⟩ := nb_of hD
  refine wm_cvN hr (c_want (by omega) hr ⟨by decide, by decide⟩ q148) rfl rfl rfl (fun h146 hr147 => ?_)
  refine wq_aload_n k0 rfl ?_
  refine wq_iconst rfl ?_
  obtain ⟨m149, q152, hD⟩ := nb_of hD
  refine wm_cvN hr147 (c_later (by omega) hr147 ⟨by decide, by decide⟩ q152) rfl rfl rfl (fun h150 hr151 => ?_)
  refine wq_aload_n k0 rfl ?_
  refine wq_iconst rfl ?_
  obtain ⟨m153, q156, hD⟩ := nb_of hD
  refine wm_cvN hr151 (c_later (by omega) hr151 ⟨by decide, by decide⟩ q156) rfl rfl rfl (fun h154 hr155 => ?_)
  cases hD
  exact wq_return rfl ⟨_, rfl, hr155⟩
def m_header_230 (g : Nat) (l2 : Int) (m : MS) : Option MS := if (m 6 0) = 0 then nb (m_become l2 m) (fun m141 => m_header_242 g m141) else m_header_242 g m
theorem c_m_header_230_b {dd : Nat} (hd : 5 ≤ dd) {g : Nat} {h0 : RHeap} {mF : MS} {la : RLoc} {h : RHeap} {m : MS} {l2 : Int} (k0 : rx_look la 0 = some (.ref 170)) (k2 : rx_look la 2 = some (wvi l2)) (hr : RM h0 h m) (pl2 : InI l2) (hD : m_header_230 g l2 m = some mF) : Wq O F (Cd O F rp_P dd) (4, 0, rw_X12_header, []) (rx_at rw_X12_header 230) la [] h (QN h0 mF) := by
  unfold m_header_230 at hD
  refine wq_aload_n k0 rfl ?_
  refine wm_gfi hr rfl rfl (fun pp139 => ?_)
  refine wq_if_ne pp139 rfl rfl rfl (fun c140 => ?_) (fun c140 => ?_)
  · rw [if_neg c140] at hD
    exact c_m_header_242_b hd k0 hr hD
  · rw [if_pos c140] at hD
    refine wq_aload_n k0 rfl ?_
    refine wq_iload_n k2 rfl ?_
    obtain ⟨m141, q144, hD⟩ := nb_of hD
    refine wm_cvN hr (c_become (by omega) hr pl2 q144) rfl rfl rfl (fun h142 hr143 => ?_)
    exact c_m_header_242_b hd k0 hr143 hD
def m_header_208 (g : Nat) (l1 : Int) (l2 : Int) (m : MS) : Option MS := if l1 = 0 then m_header_242 g m else nb (m_want g 22 m) (fun m129 => if (m129 6 0) = 0 then nb (m_nameOfType g 0 m129) (fun m135 => m_header_230 g l2 m135) else m_header_230 g l2 m129)
theorem c_m_header_208_b {dd : Nat} (hd : 5 ≤ dd) {g : Nat} {h0 : RHeap} {mF : MS} {la : RLoc} {h : RHeap} {m : MS} {l1 l2 : Int} (k0 : rx_look la 0 = some (.ref 170)) (k1 : rx_look la 1 = some (wvi l1)) (k2 : rx_look la 2 = some (wvi l2)) (hr : RM h0 h m) (pl1 : (l1 = 0 ∨ l1 = 1)) (pl2 : InI l2) (hD : m_header_208 g l1 l2 m = some mF) : Wq O F (Cd O F rp_P dd) (4, 0, rw_X12_header, []) (rx_at rw_X12_header 208) la [] h (QN h0 mF) := by
  unfold m_header_208 at hD
  refine wq_iload_n k1 rfl ?_
  refine wq_if_eq (InI_z pl1) rfl rfl rfl (fun c128 => ?_) (fun c128 => ?_)
  · rw [if_pos c128] at hD
    exact c_m_header_242_b hd k0 hr hD
  · rw [if_neg c128] at hD
    refine wq_aload_n k0 rfl ?_
    refine wq_bipush (by decide) rfl ?_
    obtain ⟨m129, q132, hD⟩ := nb_of hD
    refine wm_cvN hr (c_want (by omega) hr ⟨by decide, by decide⟩ q132) rfl rfl rfl (fun h130 hr131 => ?_)
    refine wq_aload_n k0 rfl ?_
    refine wm_gfi hr131 rfl rfl (fun pp133 => ?_)
    refine wq_if_ne pp133 rfl rfl rfl (fun c134 => ?_) (fun c134 => ?_)
    · rw [if_neg c134] at hD
      exact c_m_header_230_b hd k0 k2 hr131 pl2 hD
    · rw [if_pos c134] at hD
      refine wq_aload_n k0 rfl ?_
      refine wq_iconst rfl ?_
      obtain ⟨m135, q138, hD⟩ := nb_of hD
      refine wm_cvN hr131 (c_nameOfType (by omega) hr131 (Or.inl rfl) q138) rfl rfl rfl (fun h136 hr137 => ?_)
      exact c_m_header_230_b hd k0 k2 hr137 pl2 hD
def m_header_202 (g : Nat) (l1 : Int) (l2 : Int) (m : MS) : Option MS := nb (m_want g 17 m) (fun m124 => m_header_208 g l1 l2 m124)
theorem c_m_header_202_b {dd : Nat} (hd : 5 ≤ dd) {g : Nat} {h0 : RHeap} {mF : MS} {la : RLoc} {h : RHeap} {m : MS} {l1 l2 : Int} (k0 : rx_look la 0 = some (.ref 170)) (k1 : rx_look la 1 = some (wvi l1)) (k2 : rx_look la 2 = some (wvi l2)) (hr : RM h0 h m) (pl1 : (l1 = 0 ∨ l1 = 1)) (pl2 : InI l2) (hD : m_header_202 g l1 l2 m = some mF) : Wq O F (Cd O F rp_P dd) (4, 0, rw_X12_header, []) (rx_at rw_X12_header 202) la [] h (QN h0 mF) := by
  unfold m_header_202 at hD
  refine wq_aload_n k0 rfl ?_
  refine wq_bipush (by decide) rfl ?_
  obtain ⟨m124, q127, hD⟩ := nb_of hD
  refine wm_cvN hr (c_want (by omega) hr ⟨by decide, by decide⟩ q127) rfl rfl rfl (fun h125 hr126 => ?_)
  exact c_m_header_208_b hd k0 k1 k2 hr126 pl1 pl2 hD
def m_header_174 (g : Nat) : Nat → Int → Int → Int → MS → Option MS
  | 0, _, _, _, _ => none
  | n + 1, l1, l2, l3, m => if (m 6 0) = 0 then if (m 10 0) = 21 then nb (m_take g m) (fun m116 => nb (m_group g l3 m116) (fun m120 => m_header_174 g n l1 l2 l3 m120)) else m_header_202 g l1 l2 m else m_header_202 g l1 l2 m
theorem c_m_header_174 {dd : Nat} (hd : 5 ≤ dd) {g : Nat} {h0 : RHeap} {mF : MS} : ∀ (n : Nat) {la : RLoc} {h : RHeap} {m : MS} {l1 l2 l3 : Int}, rx_look la 0 = some (.ref 170) → rx_look la 1 = some (wvi l1) → rx_look la 2 = some (wvi l2) → rx_look la 3 = some (wvi l3) → RM h0 h m → (l1 = 0 ∨ l1 = 1) → InI l2 → InI l3 → m_header_174 g n l1 l2 l3 m = some mF → Wq O F (Cd O F rp_P dd) (4, 0, rw_X12_header, []) (rx_at rw_X12_header 174) la [] h (QN h0 mF) := by
  intro n
  induction n with
  | zero =>
    intro la h m l1 l2 l3 k0 k1 k2 k3 hr pl1 pl2 pl3 hD
    unfold m_header_174 at hD
    cases hD
  | succ n ih =>
    intro la h m l1 l2 l3 k0 k1 k2 k3 hr pl1 pl2 pl3 hD
    unfold m_header_174 at hD
    refine wq_aload_n k0 rfl ?_
    refine wm_gfi hr rfl rfl (fun pp112 => ?_)
    refine wq_if_ne pp112 rfl rfl rfl (fun c113 => ?_) (fun c113 => ?_)
    · rw [if_neg c113] at hD
      exact c_m_header_202_b hd k0 k1 k2 hr pl1 pl2 hD
    · rw [if_pos c113] at hD
      refine wq_aload_n k0 rfl ?_
      refine wm_gfi hr rfl rfl (fun pp114 => ?_)
      refine wq_bipush (by decide) rfl ?_
      refine wq_icmp_ne pp114 ⟨by decide, by decide⟩ rfl rfl rfl (fun c115 => ?_) (fun c115 => ?_)
      · rw [if_neg c115] at hD
        exact c_m_header_202_b hd k0 k1 k2 hr pl1 pl2 hD
      · rw [if_pos c115] at hD
        refine wq_aload_n k0 rfl ?_
        obtain ⟨m116, q119, hD⟩ := nb_of hD
        refine wm_cvN hr (c_take (by omega) hr q119) rfl rfl rfl (fun h117 hr118 => ?_)
        refine wq_aload_n k0 rfl ?_
        refine wq_iload_n k3 rfl ?_
        obtain ⟨m120, q123, hD⟩ := nb_of hD
        refine wm_cvN hr118 (c_group (by omega) hr118 pl3 q123) rfl rfl rfl (fun h121 hr122 => ?_)
        refine wq_goto rfl rfl ?_
        exact ih k0 k1 k2 k3 hr122 pl1 pl2 pl3 hD
def m_header_48 (g : Nat) (l1 : Int) (s1 : Int) (m : MS) : Option MS := vb (m_declare g s1 m) (fun v23 m19 => if 0 < (m19 6 0) then some m19 else wlet (mset m19 45 0 (i32 ((m19 45 0) + 1))) (fun m33 => ck v23 140 (wlet (mset m33 30 v23 (m33 45 0)) (fun m46 => ck v23 140 (wlet (mset m46 19 v23 0) (fun m52 => wlet (mset m52 41 0 (i32 ((m52 41 0) + 1))) (fun m57 => ck (m57 41 0) 8 (wlet (mset m57 42 (m57 41 0) (m57 15 0)) (fun m65 => ck (m65 41 0) 8 (wlet (mset m65 43 (m65 41 0) 4) (fun m72 => ck (m72 41 0) 8 (wlet (mset m72 44 (m72 41 0) (m33 45 0)) (fun m79 => ck (m33 45 0) 240 (wlet (mset m79 47 (m33 45 0) (m79 41 0)) (fun m86 => ck (m33 45 0) 240 (wlet (mset m86 49 (m33 45 0) 0) (fun m92 => ck (m33 45 0) 240 (wlet (mset m92 50 (m33 45 0) l1) (fun m98 => if (m98 10 0) = 16 then nb (m_take g m98) (fun m104 => nb (m_group g (m33 45 0) m104) (fun m108 => m_header_174 g g l1 v23 (m33 45 0) m108)) else m_header_208 g l1 v23 m98)))))))))))))))))))
theorem c_m_header_48_b {dd : Nat} (hd : 5 ≤ dd) {g : Nat} {h0 : RHeap} {mF : MS} {la : RLoc} {h : RHeap} {m : MS} {l1 s1 : Int} (k0 : rx_look la 0 = some (.ref 170)) (k1 : rx_look la 1 = some (wvi l1)) (hr : RM h0 h m) (pl1 : (l1 = 0 ∨ l1 = 1)) (ps1 : InI s1) (hD : m_header_48 g l1 s1 m = some mF) : Wq O F (Cd O F rp_P dd) (4, 0, rw_X12_header, []) (rx_at rw_X12_header 48) la [wvi s1, .ref 170] h (QN h0 mF) := by
  unfold m_header_48 at hD
  obtain ⟨v23, m19, q22, hD⟩ := vb_of hD
  refine wm_cvI hr (c_declare (by omega) hr ps1 q22) rfl rfl rfl (fun h20 hr21 pp24 => ?_)
  refine wl_istore_n rfl rfl (fun la25 kk26 t27 => ?_)
  have kk28 := t27 0 _ (by decide) (Or.inr rfl) k0
  have kk29 := t27 1 _ (by decide) (Or.inr rfl) k1
  refine wq_aload_n kk28 rfl ?_
  refine wm_gfi hr21 rfl rfl (fun pp30 => ?_)
  refine wq_if_le pp30 rfl rfl rfl (fun c31 => ?_) (fun c31 => ?_)
  · rw [if_neg (Int.not_lt.mpr c31)] at hD
    refine wq_aload_n kk28 rfl ?_
    refine wq_dup rfl rfl ?_
    refine wm_gfi hr21 rfl rfl (fun pp32 => ?_)
    refine wq_iconst rfl ?_
    refine wq_iadd rfl ?_
    obtain ⟨m33, e34, hD⟩ := wlet_of hD
    refine wm_pfi hr21 rfl rfl (InI_i32 _) rfl (fun h35 hr36 => ?_)
    rw [← e34] at hr36
    refine wq_aload_n kk28 rfl ?_
    refine wm_gfi hr36 rfl rfl (fun pp37 => ?_)
    refine wl_istore_n rfl rfl (fun la38 kk39 t40 => ?_)
    have kk41 := t40 0 _ (by decide) (Or.inr rfl) kk28
    have kk42 := t40 1 _ (by decide) (Or.inr rfl) kk29
    have kk43 := t40 2 _ (by decide) (Or.inr rfl) kk26
    refine wq_aload_n kk41 rfl ?_
    refine wm_gfa (c := 0) hr36 rfl rfl ?_
    refine wq_iload_n kk43 rfl ?_
    refine wq_iload_n kk39 rfl ?_
    obtain ⟨g44, g45, hD⟩ := ck_of hD
    obtain ⟨m46, e47, hD⟩ := wlet_of hD
    refine wm_asi (f := 30) hr36 rfl pp24 g44 g45 pp37 rfl (fun h48 hr49 => ?_)
    rw [← e47] at hr49
    refine wq_aload_n kk41 rfl ?_
    refine wm_gfa (c := 3) hr49 rfl rfl ?_
    refine wq_iload_n kk43 rfl ?_
    refine wq_iconst rfl ?_
    obtain ⟨g50, g51, hD⟩ := ck_of hD
    obtain ⟨m52, e53, hD⟩ := wlet_of hD
    refine wm_asz (f := 19) hr49 rfl pp24 g50 g51 (Or.inl rfl) rfl (fun h54 hr55 => ?_)
    rw [← e53] at hr55
    refine wq_aload_n kk41 rfl ?_
    refine wq_dup rfl rfl ?_
    refine wm_gfi hr55 rfl rfl (fun pp56 => ?_)
    refine wq_iconst rfl ?_
    refine wq_iadd rfl ?_
    obtain ⟨m57, e58, hD⟩ := wlet_of hD
    refine wm_pfi hr55 rfl rfl (InI_i32 _) rfl (fun h59 hr60 => ?_)
    rw [← e58] at hr60
    refine wq_aload_n kk41 rfl ?_
    refine wm_gfa (c := 0) hr60 rfl rfl ?_
    refine wq_aload_n kk41 rfl ?_
    refine wm_gfi hr60 rfl rfl (fun pp61 => ?_)
    refine wq_aload_n kk41 rfl ?_
    refine wm_gfi hr60 rfl rfl (fun pp62 => ?_)
    obtain ⟨g63, g64, hD⟩ := ck_of hD
    obtain ⟨m65, e66, hD⟩ := wlet_of hD
    refine wm_asi (f := 42) hr60 rfl pp61 g63 g64 pp62 rfl (fun h67 hr68 => ?_)
    rw [← e66] at hr68
    refine wq_aload_n kk41 rfl ?_
    refine wm_gfa (c := 0) hr68 rfl rfl ?_
    refine wq_aload_n kk41 rfl ?_
    refine wm_gfi hr68 rfl rfl (fun pp69 => ?_)
    refine wq_iconst rfl ?_
    obtain ⟨g70, g71, hD⟩ := ck_of hD
    obtain ⟨m72, e73, hD⟩ := wlet_of hD
    refine wm_asi (f := 43) hr68 rfl pp69 g70 g71 ⟨by decide, by decide⟩ rfl (fun h74 hr75 => ?_)
    rw [← e73] at hr75
    refine wq_aload_n kk41 rfl ?_
    refine wm_gfa (c := 0) hr75 rfl rfl ?_
    refine wq_aload_n kk41 rfl ?_
    refine wm_gfi hr75 rfl rfl (fun pp76 => ?_)
    refine wq_iload_n kk39 rfl ?_
    obtain ⟨g77, g78, hD⟩ := ck_of hD
    obtain ⟨m79, e80, hD⟩ := wlet_of hD
    refine wm_asi (f := 44) hr75 rfl pp76 g77 g78 pp37 rfl (fun h81 hr82 => ?_)
    rw [← e80] at hr82
    refine wq_aload_n kk41 rfl ?_
    refine wm_gfa (c := 0) hr82 rfl rfl ?_
    refine wq_iload_n kk39 rfl ?_
    refine wq_aload_n kk41 rfl ?_
    refine wm_gfi hr82 rfl rfl (fun pp83 => ?_)
    obtain ⟨g84, g85, hD⟩ := ck_of hD
    obtain ⟨m86, e87, hD⟩ := wlet_of hD
    refine wm_asi (f := 47) hr82 rfl pp37 g84 g85 pp83 rfl (fun h88 hr89 => ?_)
    rw [← e87] at hr89
    refine wq_aload_n kk41 rfl ?_
    refine wm_gfa (c := 0) hr89 rfl rfl ?_
    refine wq_iload_n kk39 rfl ?_
    refine wq_iconst rfl ?_
    obtain ⟨g90, g91, hD⟩ := ck_of hD
    obtain ⟨m92, e93, hD⟩ := wlet_of hD
    refine wm_asi (f := 49) hr89 rfl pp37 g90 g91 ⟨by decide, by decide⟩ rfl (fun h94 hr95 => ?_)
    rw [← e93] at hr95
    refine wq_aload_n kk41 rfl ?_
    refine wm_gfa (c := 3) hr95 rfl rfl ?_
    refine wq_iload_n kk39 rfl ?_
    refine wq_iload_n kk42 rfl ?_
    obtain ⟨g96, g97, hD⟩ := ck_of hD
    obtain ⟨m98, e99, hD⟩ := wlet_of hD
    refine wm_asz (f := 50) hr95 rfl pp37 g96 g97 pl1 rfl (fun h100 hr101 => ?_)
    rw [← e99] at hr101
    refine wq_aload_n kk41 rfl ?_
    refine wm_gfi hr101 rfl rfl (fun pp102 => ?_)
    refine wq_bipush (by decide) rfl ?_
    refine wq_icmp_ne pp102 ⟨by decide, by decide⟩ rfl rfl rfl (fun c103 => ?_) (fun c103 => ?_)
    · rw [if_neg c103] at hD
      exact c_m_header_208_b hd kk41 kk42 kk43 hr101 pl1 pp24 hD
    · rw [if_pos c103] at hD
      refine wq_aload_n kk41 rfl ?_
      obtain ⟨m104, q107, hD⟩ := nb_of hD
      refine wm_cvN hr101 (c_take (by omega) hr101 q107) rfl rfl rfl (fun h105 hr106 => ?_)
      refine wq_aload_n kk41 rfl ?_
      refine wq_iload_n kk39 rfl ?_
      obtain ⟨m108, q111, hD⟩ := nb_of hD
      refine wm_cvN hr106 (c_group (by omega) hr106 pp37 q111) rfl rfl rfl (fun h109 hr110 => ?_)
      exact c_m_header_174 hd g kk41 kk42 kk43 kk39 hr110 pl1 pp24 pp37 hD
  · rw [if_pos c31] at hD
    cases hD
    exact wq_return rfl ⟨_, rfl, hr21⟩
def m_header_14 (g : Nat) (s0 : Int) (m : MS) : Option MS := if (m 41 0) = 6 then nb (m_fail 5 (m 9 0) m) (fun m15 => some m15) else nb (m_take g m) (fun m9 => if s0 = 0 then m_header_48 g s0 3 m9 else m_header_48 g s0 4 m9)
theorem c_m_header_14_b {dd : Nat} (hd : 5 ≤ dd) {g : Nat} {h0 : RHeap} {mF : MS} {la : RLoc} {h : RHeap} {m : MS} {s0 : Int} (k0 : rx_look la 0 = some (.ref 170)) (hr : RM h0 h m) (ps0 : (s0 = 0 ∨ s0 = 1)) (hD : m_header_14 g s0 m = some mF) : Wq O F (Cd O F rp_P dd) (4, 0, rw_X12_header, []) (rx_at rw_X12_header 14) la [wvi s0] h (QN h0 mF) := by
  unfold m_header_14 at hD
  refine wl_istore_n rfl rfl (fun la3 kk4 t5 => ?_)
  have kk6 := t5 0 _ (by decide) (Or.inr rfl) k0
  refine wq_aload_n kk6 rfl ?_
  refine wm_gfi hr rfl rfl (fun pp7 => ?_)
  refine wq_bipush (by decide) rfl ?_
  refine wq_icmp_ne pp7 ⟨by decide, by decide⟩ rfl rfl rfl (fun c8 => ?_) (fun c8 => ?_)
  · rw [if_neg c8] at hD
    refine wq_aload_n kk6 rfl ?_
    obtain ⟨m9, q12, hD⟩ := nb_of hD
    refine wm_cvN hr (c_take (by omega) hr q12) rfl rfl rfl (fun h10 hr11 => ?_)
    refine wq_aload_n kk6 rfl ?_
    refine wq_iload_n kk4 rfl ?_
    refine wq_if_eq (InI_z ps0) rfl rfl rfl (fun c13 => ?_) (fun c13 => ?_)
    · rw [if_pos c13] at hD
      refine wq_iconst rfl ?_
      exact c_m_header_48_b hd kk6 kk4 hr11 ps0 ⟨by decide, by decide⟩ hD
    · rw [if_neg c13] at hD
      refine wq_iconst rfl ?_
      refine wq_goto rfl rfl ?_
      exact c_m_header_48_b hd kk6 kk4 hr11 ps0 ⟨by decide, by decide⟩ hD
  · rw [if_pos c8] at hD
    refine wq_aload_n kk6 rfl ?_
    refine wq_iconst rfl ?_
    refine wq_aload_n kk6 rfl ?_
    refine wm_gfi hr rfl rfl (fun pp14 => ?_)
    obtain ⟨m15, q18, hD⟩ := nb_of hD
    refine wm_cvN hr (c_fail (by omega) hr ⟨by decide, by decide⟩ pp14 q18) rfl rfl rfl (fun h16 hr17 => ?_)
    cases hD
    exact wq_return rfl ⟨_, rfl, hr17⟩
def m_header (g : Nat) (m : MS) : Option MS := if (m 10 0) = 34 then m_header_14 g 1 m else m_header_14 g 0 m
theorem c_m_header_b {dd : Nat} (hd : 5 ≤ dd) {g : Nat} {h0 : RHeap} {mF : MS} {la : RLoc} {h : RHeap} {m : MS} (k0 : rx_look la 0 = some (.ref 170)) (hr : RM h0 h m) (hD : m_header g m = some mF) : Wq O F (Cd O F rp_P dd) (4, 0, rw_X12_header, []) (rx_at rw_X12_header 0) la [] h (QN h0 mF) := by
  unfold m_header at hD
  refine wq_aload_n k0 rfl ?_
  refine wm_gfi hr rfl rfl (fun pp1 => ?_)
  refine wq_bipush (by decide) rfl ?_
  refine wq_icmp_ne pp1 ⟨by decide, by decide⟩ rfl rfl rfl (fun c2 => ?_) (fun c2 => ?_)
  · rw [if_neg c2] at hD
    refine wq_iconst rfl ?_
    exact c_m_header_14_b hd k0 hr (Or.inl rfl) hD
  · rw [if_pos c2] at hD
    refine wq_iconst rfl ?_
    refine wq_goto rfl rfl ?_
    exact c_m_header_14_b hd k0 hr (Or.inr rfl) hD
theorem c_header {d : Nat} (hd : 6 ≤ d) {g : Nat} {h0 h : RHeap} {m : MS} {mF : MS} (hr : RM h0 h m) (hD : m_header g m = some mF) : Cq (Cd O F rp_P d) 234 [.ref 170] h (QN h0 mF) := by
  refine cq_of (I := (4, 0, rw_X12_header, [])) rfl rfl (by omega) ?_
  exact c_m_header_b (by omega) rfl hr hD
def m_statements (m : MS) : Option MS := nb (m_later 5 m) (fun m1 => nb (m_later 6 m1) (fun m5 => some m5))
theorem c_m_statements_b {dd : Nat} (hd : 1 ≤ dd) {h0 : RHeap} {mF : MS} {la : RLoc} {h : RHeap} {m : MS} (k0 : rx_look la 0 = some (.ref 170)) (hr : RM h0 h m) (hD : m_statements m = some mF) : Wq O F (Cd O F rp_P dd) (1, 0, rw_X12_statements, []) (rx_at rw_X12_statements 0) la [] h (QN h0 mF) := by
  unfold m_statements at hD
  refine wq_aload_n k0 rfl ?_
  refine wq_iconst rfl ?_
  obtain ⟨m1, q4, hD⟩ := nb_of hD
  refine wm_cvN hr (c_later (by omega) hr ⟨by decide, by decide⟩ q4) rfl rfl rfl (fun h2 hr3 => ?_)
  refine wq_aload_n k0 rfl ?_
  refine wq_bipush (by decide) rfl ?_
  obtain ⟨m5, q8, hD⟩ := nb_of hD
  refine wm_cvN hr3 (c_later (by omega) hr3 ⟨by decide, by decide⟩ q8) rfl rfl rfl (fun h6 hr7 => ?_)
  cases hD
  exact wq_return rfl ⟨_, rfl, hr7⟩
theorem c_statements {d : Nat} (hd : 2 ≤ d) {h0 h : RHeap} {m : MS} {mF : MS} (hr : RM h0 h m) (hD : m_statements m = some mF) : Cq (Cd O F rp_P d) 277 [.ref 170] h (QN h0 mF) := by
  refine cq_of (I := (1, 0, rw_X12_statements, [])) rfl rfl (by omega) ?_
  exact c_m_statements_b (by omega) rfl hr hD
def m_actionsOrBody_18 (g : Nat) (m : MS) : Option MS := nb (m_header g m) (fun m42 => some m42)
theorem c_m_actionsOrBody_18_b {dd : Nat} (hd : 6 ≤ dd) {g : Nat} {h0 : RHeap} {mF : MS} {la : RLoc} {h : RHeap} {m : MS} (k0 : rx_look la 0 = some (.ref 170)) (hr : RM h0 h m) (hD : m_actionsOrBody_18 g m = some mF) : Wq O F (Cd O F rp_P dd) (2, 0, rw_X12_actionsOrBody, []) (rx_at rw_X12_actionsOrBody 18) la [] h (QN h0 mF) := by
  unfold m_actionsOrBody_18 at hD
  refine wq_aload_n k0 rfl ?_
  obtain ⟨m42, q45, hD⟩ := nb_of hD
  refine wm_cvN hr (c_header (by omega) hr q45) rfl rfl rfl (fun h43 hr44 => ?_)
  cases hD
  exact wq_return rfl ⟨_, rfl, hr44⟩
def m_actionsOrBody (g : Nat) (m : MS) : Option MS := if (m 10 0) = 33 then m_actionsOrBody_18 g m else if (m 10 0) = 34 then m_actionsOrBody_18 g m else nb (m_want g 35 m) (fun m5 => ck (m5 41 0) 8 (ck (m5 44 (m5 41 0)) 240 (wlet (mset m5 46 (m5 44 (m5 41 0)) (m5 57 0)) (fun m20 => ck (m20 41 0) 8 (ck (m5 44 (m5 41 0)) 240 (wlet (mset m20 48 (m5 44 (m5 41 0)) (m20 43 (m20 41 0))) (fun m30 => nb (m_later 4 m30) (fun m34 => nb (m_statements m34) (fun m38 => some m38)))))))))
theorem c_m_actionsOrBody_b {dd : Nat} (hd : 6 ≤ dd) {g : Nat} {h0 : RHeap} {mF : MS} {la : RLoc} {h : RHeap} {m : MS} (k0 : rx_look la 0 = some (.ref 170)) (hr : RM h0 h m) (hD : m_actionsOrBody g m = some mF) : Wq O F (Cd O F rp_P dd) (2, 0, rw_X12_actionsOrBody, []) (rx_at rw_X12_actionsOrBody 0) la [] h (QN h0 mF) := by
  unfold m_actionsOrBody at hD
  refine wq_aload_n k0 rfl ?_
  refine wm_gfi hr rfl rfl (fun pp1 => ?_)
  refine wq_bipush (by decide) rfl ?_
  refine wq_icmp_eq pp1 ⟨by decide, by decide⟩ rfl rfl rfl (fun c2 => ?_) (fun c2 => ?_)
  · rw [if_pos c2] at hD
    exact c_m_actionsOrBody_18_b hd k0 hr hD
  · rw [if_neg c2] at hD
    refine wq_aload_n k0 rfl ?_
    refine wm_gfi hr rfl rfl (fun pp3 => ?_)
    refine wq_bipush (by decide) rfl ?_
    refine wq_icmp_ne pp3 ⟨by decide, by decide⟩ rfl rfl rfl (fun c4 => ?_) (fun c4 => ?_)
    · rw [if_neg c4] at hD
      refine wq_aload_n k0 rfl ?_
      refine wq_bipush (by decide) rfl ?_
      obtain ⟨m5, q8, hD⟩ := nb_of hD
      refine wm_cvN hr (c_want (by omega) hr ⟨by decide, by decide⟩ q8) rfl rfl rfl (fun h6 hr7 => ?_)
      refine wq_aload_n k0 rfl ?_
      refine wm_gfa (c := 0) hr7 rfl rfl ?_
      refine wq_aload_n k0 rfl ?_
      refine wm_gfi hr7 rfl rfl (fun pp9 => ?_)
      obtain ⟨g10, g11, hD⟩ := ck_of hD
      refine wm_ali (f := 44) hr7 rfl pp9 g10 g11 rfl (fun pp12 => ?_)
      refine wl_istore_n rfl rfl (fun la13 kk14 t15 => ?_)
      have kk16 := t15 0 _ (by decide) (Or.inr rfl) k0
      refine wq_aload_n kk16 rfl ?_
      refine wm_gfa (c := 0) hr7 rfl rfl ?_
      refine wq_iload_n kk14 rfl ?_
      refine wq_aload_n kk16 rfl ?_
      refine wm_gfi hr7 rfl rfl (fun pp17 => ?_)
      obtain ⟨g18, g19, hD⟩ := ck_of hD
      obtain ⟨m20, e21, hD⟩ := wlet_of hD
      refine wm_asi (f := 46) hr7 rfl pp12 g18 g19 pp17 rfl (fun h22 hr23 => ?_)
      rw [← e21] at hr23
      refine wq_aload_n kk16 rfl ?_
      refine wm_gfa (c := 0) hr23 rfl rfl ?_
      refine wq_iload_n kk14 rfl ?_
      refine wq_aload_n kk16 rfl ?_
      refine wm_gfa (c := 0) hr23 rfl rfl ?_
      refine wq_aload_n kk16 rfl ?_
      refine wm_gfi hr23 rfl rfl (fun pp24 => ?_)
      obtain ⟨g25, g26, hD⟩ := ck_of hD
      refine wm_ali (f := 43) hr23 rfl pp24 g25 g26 rfl (fun pp27 => ?_)
      obtain ⟨g28, g29, hD⟩ := ck_of hD
      obtain ⟨m30, e31, hD⟩ := wlet_of hD
      refine wm_asi (f := 48) hr23 rfl pp12 g28 g29 pp27 rfl (fun h32 hr33 => ?_)
      rw [← e31] at hr33
      refine wq_aload_n kk16 rfl ?_
      refine wq_iconst rfl ?_
      obtain ⟨m34, q37, hD⟩ := nb_of hD
      refine wm_cvN hr33 (c_later (by omega) hr33 ⟨by decide, by decide⟩ q37) rfl rfl rfl (fun h35 hr36 => ?_)
      refine wq_aload_n kk16 rfl ?_
      obtain ⟨m38, q41, hD⟩ := nb_of hD
      refine wm_cvN hr36 (c_statements (by omega) hr36 q41) rfl rfl rfl (fun h39 hr40 => ?_)
      cases hD
      exact wq_return rfl ⟨_, rfl, hr40⟩
    · rw [if_pos c4] at hD
      exact c_m_actionsOrBody_18_b hd k0 hr hD
theorem c_actionsOrBody {d : Nat} (hd : 7 ≤ d) {g : Nat} {h0 h : RHeap} {m : MS} {mF : MS} (hr : RM h0 h m) (hD : m_actionsOrBody g m = some mF) : Cq (Cd O F rp_P d) 193 [.ref 170] h (QN h0 mF) := by
  refine cq_of (I := (2, 0, rw_X12_actionsOrBody, [])) rfl rfl (by omega) ?_
  exact c_m_actionsOrBody_b (by omega) rfl hr hD
def m_stop_38 (s1 : Int) (m : MS) : Option MS := wlet (mset m 102 0 s1) (fun m13 => some m13)
theorem c_m_stop_38_b {dd : Nat} (hd : 0 ≤ dd) {h0 : RHeap} {mF : MS} {la : RLoc} {h : RHeap} {m : MS} {s1 : Int} (hr : RM h0 h m) (ps1 : InI s1) (hD : m_stop_38 s1 m = some mF) : Wq O F (Cd O F rp_P dd) (2, 0, rw_X12_stop, []) (rx_at rw_X12_stop 38) la [wvi s1, .ref 170] h (QN h0 mF) := by
  unfold m_stop_38 at hD
  obtain ⟨m13, e14, hD⟩ := wlet_of hD
  refine wm_pfi hr rfl rfl ps1 rfl (fun h15 hr16 => ?_)
  rw [← e14] at hr16
  cases hD
  exact wq_return rfl ⟨_, rfl, hr16⟩
def m_stop_37 (m : MS) : Option MS := m_stop_38 (-1) m
theorem c_m_stop_37_b {dd : Nat} (hd : 0 ≤ dd) {h0 : RHeap} {mF : MS} {la : RLoc} {h : RHeap} {m : MS} (hr : RM h0 h m) (hD : m_stop_37 m = some mF) : Wq O F (Cd O F rp_P dd) (2, 0, rw_X12_stop, []) (rx_at rw_X12_stop 37) la [.ref 170] h (QN h0 mF) := by
  unfold m_stop_37 at hD
  refine wq_iconst rfl ?_
  exact c_m_stop_38_b hd hr ⟨by decide, by decide⟩ hD
def m_stop (l1 : Int) (m : MS) : Option MS := wlet (mset m 101 0 l1) (fun m1 => if 0 < l1 then if l1 < 7 then if 0 < (m1 89 0) then ck (i32 ((m1 89 0) - 1)) 200 (m_stop_38 (m1 95 (i32 ((m1 89 0) - 1))) m1) else m_stop_37 m1 else m_stop_37 m1 else m_stop_37 m1)
theorem c_m_stop_b {dd : Nat} (hd : 0 ≤ dd) {h0 : RHeap} {mF : MS} {la : RLoc} {h : RHeap} {m : MS} {l1 : Int} (k0 : rx_look la 0 = some (.ref 170)) (k1 : rx_look la 1 = some (wvi l1)) (hr : RM h0 h m) (pl1 : InI l1) (hD : m_stop l1 m = some mF) : Wq O F (Cd O F rp_P dd) (2, 0, rw_X12_stop, []) (rx_at rw_X12_stop 0) la [] h (QN h0 mF) := by
  unfold m_stop at hD
  refine wq_aload_n k0 rfl ?_
  refine wq_iload_n k1 rfl ?_
  obtain ⟨m1, e2, hD⟩ := wlet_of hD
  refine wm_pfi hr rfl rfl pl1 rfl (fun h3 hr4 => ?_)
  rw [← e2] at hr4
  refine wq_aload_n k0 rfl ?_
  refine wq_iload_n k1 rfl ?_
  refine wq_if_le pl1 rfl rfl rfl (fun c5 => ?_) (fun c5 => ?_)
  · rw [if_neg (Int.not_lt.mpr c5)] at hD
    exact c_m_stop_37_b hd hr4 hD
  · rw [if_pos c5] at hD
    refine wq_iload_n k1 rfl ?_
    refine wq_bipush (by decide) rfl ?_
    refine wq_icmp_ge pl1 ⟨by decide, by decide⟩ rfl rfl rfl (fun c6 => ?_) (fun c6 => ?_)
    · rw [if_neg (Int.not_lt.mpr c6)] at hD
      exact c_m_stop_37_b hd hr4 hD
    · rw [if_pos c6] at hD
      refine wq_aload_n k0 rfl ?_
      refine wm_gfi hr4 rfl rfl (fun pp7 => ?_)
      refine wq_if_le pp7 rfl rfl rfl (fun c8 => ?_) (fun c8 => ?_)
      · rw [if_neg (Int.not_lt.mpr c8)] at hD
        exact c_m_stop_37_b hd hr4 hD
      · rw [if_pos c8] at hD
        refine wq_aload_n k0 rfl ?_
        refine wm_gfa (c := 0) hr4 rfl rfl ?_
        refine wq_aload_n k0 rfl ?_
        refine wm_gfi hr4 rfl rfl (fun pp9 => ?_)
        refine wq_iconst rfl ?_
        refine wq_isub rfl ?_
        obtain ⟨g10, g11, hD⟩ := ck_of hD
        refine wm_ali (f := 95) hr4 rfl (InI_i32 _) g10 g11 rfl (fun pp12 => ?_)
        refine wq_goto rfl rfl ?_
        exact c_m_stop_38_b hd hr4 pp12 hD
theorem c_stop {d : Nat} (hd : 1 ≤ d) {h0 h : RHeap} {m : MS} {l1 : Int} {mF : MS} (hr : RM h0 h m) (pl1 : InI l1) (hD : m_stop l1 m = some mF) : Cq (Cd O F rp_P d) 279 [.ref 170, wvi l1] h (QN h0 mF) := by
  refine cq_of (I := (2, 0, rw_X12_stop, [])) rfl rfl (by omega) ?_
  exact c_m_stop_b (by omega) rfl rfl hr pl1 hD
def m_isWrong_9 (l1 : Int) (m : MS) : Option (Int × MS) := some (l1, m)
theorem c_m_isWrong_9_b {dd : Nat} (hd : 1 ≤ dd) {h0 : RHeap} {vF : Int} {mF : MS} {la : RLoc} {h : RHeap} {m : MS} {l1 : Int} (k1 : rx_look la 1 = some (wvi l1)) (hr : RM h0 h m) (pl1 : (l1 = 0 ∨ l1 = 1)) (hD : m_isWrong_9 l1 m = some (vF, mF)) : Wq O F (Cd O F rp_P dd) (3, 2, rw_X12_isWrong, []) (rx_at rw_X12_isWrong 9) la [] h (QV 3 h0 vF mF) := by
  unfold m_isWrong_9 at hD
  refine wq_iload_n k1 rfl ?_
  cases hD
  exact wq_zreturn rfl pl1 ⟨_, rfl, hr, pl1⟩
def m_isWrong (l1 : Int) (l2 : Int) (m : MS) : Option (Int × MS) := if l1 = 0 then m_isWrong_9 l1 m else nb (m_stop l2 m) (fun m2 => m_isWrong_9 l1 m2)
theorem c_m_isWrong_b {dd : Nat} (hd : 1 ≤ dd) {h0 : RHeap} {vF : Int} {mF : MS} {la : RLoc} {h : RHeap} {m : MS} {l1 l2 : Int} (k0 : rx_look la 0 = some (.ref 170)) (k1 : rx_look la 1 = some (wvi l1)) (k2 : rx_look la 2 = some (wvi l2)) (hr : RM h0 h m) (pl1 : (l1 = 0 ∨ l1 = 1)) (pl2 : InI l2) (hD : m_isWrong l1 l2 m = some (vF, mF)) : Wq O F (Cd O F rp_P dd) (3, 2, rw_X12_isWrong, []) (rx_at rw_X12_isWrong 0) la [] h (QV 3 h0 vF mF) := by
  unfold m_isWrong at hD
  refine wq_iload_n k1 rfl ?_
  refine wq_if_eq (InI_z pl1) rfl rfl rfl (fun c1 => ?_) (fun c1 => ?_)
  · rw [if_pos c1] at hD
    exact c_m_isWrong_9_b hd k1 hr pl1 hD
  · rw [if_neg c1] at hD
    refine wq_aload_n k0 rfl ?_
    refine wq_iload_n k2 rfl ?_
    obtain ⟨m2, q5, hD⟩ := nb_of hD
    refine wm_cvN hr (c_stop (by omega) hr pl2 q5) rfl rfl rfl (fun h3 hr4 => ?_)
    exact c_m_isWrong_9_b hd k1 hr4 pl1 hD
theorem c_isWrong {d : Nat} (hd : 2 ≤ d) {h0 h : RHeap} {m : MS} {l1 l2 : Int} {vF : Int} {mF : MS} (hr : RM h0 h m) (pl1 : (l1 = 0 ∨ l1 = 1)) (pl2 : InI l2) (hD : m_isWrong l1 l2 m = some (vF, mF)) : Cq (Cd O F rp_P d) 240 [.ref 170, wvi l1, wvi l2] h (QV 3 h0 vF mF) := by
  refine cq_of (I := (3, 2, rw_X12_isWrong, [])) rfl rfl (by omega) ?_
  exact c_m_isWrong_b (by omega) rfl rfl rfl hr pl1 pl2 hD
def m_pop (m : MS) : Option (Int × MS) := wlet (mset m 97 0 (i32 ((m 97 0) - 1))) (fun m2 => ck (m2 97 0) 70000 (some (m2 96 (m2 97 0), m2)))
theorem c_m_pop_b {dd : Nat} (hd : 0 ≤ dd) {h0 : RHeap} {vF : Int} {mF : MS} {la : RLoc} {h : RHeap} {m : MS} (k0 : rx_look la 0 = some (.ref 170)) (hr : RM h0 h m) (hD : m_pop m = some (vF, mF)) : Wq O F (Cd O F rp_P dd) (1, 5, rw_X12_pop, []) (rx_at rw_X12_pop 0) la [] h (QV 1 h0 vF mF) := by
  unfold m_pop at hD
  refine wq_aload_n k0 rfl ?_
  refine wq_dup rfl rfl ?_
  refine wm_gfi hr rfl rfl (fun pp1 => ?_)
  refine wq_iconst rfl ?_
  refine wq_isub rfl ?_
  obtain ⟨m2, e3, hD⟩ := wlet_of hD
  refine wm_pfi hr rfl rfl (InI_i32 _) rfl (fun h4 hr5 => ?_)
  rw [← e3] at hr5
  refine wq_aload_n k0 rfl ?_
  refine wm_gfa (c := 1) hr5 rfl rfl ?_
  refine wq_aload_n k0 rfl ?_
  refine wm_gfi hr5 rfl rfl (fun pp6 => ?_)
  obtain ⟨g7, g8, hD⟩ := ck_of hD
  refine wm_all (f := 96) hr5 rfl pp6 g7 g8 rfl (fun pp9 => ?_)
  cases hD
  exact wq_lreturn rfl ⟨_, rfl, hr5, pp9⟩
theorem c_pop {d : Nat} (hd : 1 ≤ d) {h0 h : RHeap} {m : MS} {vF : Int} {mF : MS} (hr : RM h0 h m) (hD : m_pop m = some (vF, mF)) : Cq (Cd O F rp_P d) 261 [.ref 170] h (QV 1 h0 vF mF) := by
  refine cq_of (I := (1, 5, rw_X12_pop, [])) rfl rfl (by omega) ?_
  exact c_m_pop_b (by omega) rfl hr hD
def m_push (l1 : Int) (m : MS) : Option MS := ck (m 97 0) 70000 (wlet (mset m 96 (m 97 0) l1) (fun m4 => wlet (mset m4 97 0 (i32 ((m4 97 0) + 1))) (fun m9 => some m9)))
theorem c_m_push_b {dd : Nat} (hd : 0 ≤ dd) {h0 : RHeap} {mF : MS} {la : RLoc} {h : RHeap} {m : MS} {l1 : Int} (k0 : rx_look la 0 = some (.ref 170)) (k1 : rx_look la 1 = some (wvl l1)) (hr : RM h0 h m) (pl1 : InL l1) (hD : m_push l1 m = some mF) : Wq O F (Cd O F rp_P dd) (3, 0, rw_X12_push, []) (rx_at rw_X12_push 0) la [] h (QN h0 mF) := by
  unfold m_push at hD
  refine wq_aload_n k0 rfl ?_
  refine wm_gfa (c := 1) hr rfl rfl ?_
  refine wq_aload_n k0 rfl ?_
  refine wm_gfi hr rfl rfl (fun pp1 => ?_)
  refine wq_lload_n k1 rfl ?_
  obtain ⟨g2, g3, hD⟩ := ck_of hD
  obtain ⟨m4, e5, hD⟩ := wlet_of hD
  refine wm_asl (f := 96) hr rfl pp1 g2 g3 pl1 rfl (fun h6 hr7 => ?_)
  rw [← e5] at hr7
  refine wq_aload_n k0 rfl ?_
  refine wq_dup rfl rfl ?_
  refine wm_gfi hr7 rfl rfl (fun pp8 => ?_)
  refine wq_iconst rfl ?_
  refine wq_iadd rfl ?_
  obtain ⟨m9, e10, hD⟩ := wlet_of hD
  refine wm_pfi hr7 rfl rfl (InI_i32 _) rfl (fun h11 hr12 => ?_)
  rw [← e10] at hr12
  cases hD
  exact wq_return rfl ⟨_, rfl, hr12⟩
theorem c_push {d : Nat} (hd : 1 ≤ d) {h0 h : RHeap} {m : MS} {l1 : Int} {mF : MS} (hr : RM h0 h m) (pl1 : InL l1) (hD : m_push l1 m = some mF) : Cq (Cd O F rp_P d) 263 [.ref 170, wvl l1] h (QN h0 mF) := by
  refine cq_of (I := (3, 0, rw_X12_push, [])) rfl rfl (by omega) ?_
  exact c_m_push_b (by omega) rfl rfl hr pl1 hD
def m_addRow_53 (g : Nat) : Nat → Int → Int → Int → MS → Option MS
  | 0, _, _, _, _ => none
  | n + 1, l1, l5, l7, m => if l1 < l7 then nb (m_push l5 m) (fun m51 => some m51) else m_addRow_53 g n l1 (l_or l5 (l_shl 1 (i32 l7))) (i64 (l7 + 1)) m
theorem c_m_addRow_53 {dd : Nat} (hd : 2 ≤ dd) {g : Nat} {h0 : RHeap} {mF : MS} : ∀ (n : Nat) {la : RLoc} {h : RHeap} {m : MS} {l1 l5 l7 : Int}, rx_look la 0 = some (.ref 170) → rx_look la 1 = some (wvl l1) → rx_look la 5 = some (wvl l5) → rx_look la 7 = some (wvl l7) → RM h0 h m → InL l1 → InL l5 → InL l7 → m_addRow_53 g n l1 l5 l7 m = some mF → Wq O F (Cd O F rp_P dd) (9, 0, rw_X12_addRow, []) (rx_at rw_X12_addRow 53) la [] h (QN h0 mF) := by
  intro n
  induction n with
  | zero =>
    intro la h m l1 l5 l7 k0 k1 k5 k7 hr pl1 pl5 pl7 hD
    unfold m_addRow_53 at hD
    cases hD
  | succ n ih =>
    intro la h m l1 l5 l7 k0 k1 k5 k7 hr pl1 pl5 pl7 hD
    unfold m_addRow_53 at hD
    refine wq_lload k7 rfl ?_
    refine wq_lload_n k1 rfl ?_
    refine wq_lc_gt pl7 pl1 rfl rfl rfl rfl (fun c50 => ?_) (fun c50 => ?_)
    · rw [if_pos c50] at hD
      refine wq_aload_n k0 rfl ?_
      refine wq_lload k5 rfl ?_
      obtain ⟨m51, q54, hD⟩ := nb_of hD
      refine wm_cvN hr (c_push (by omega) hr pl5 q54) rfl rfl rfl (fun h52 hr53 => ?_)
      cases hD
      exact wq_return rfl ⟨_, rfl, hr53⟩
    · rw [if_neg (Int.not_lt.mpr c50)] at hD
      refine wq_lload k5 rfl ?_
      refine wq_lconst (x := 1) (by decide) rfl ?_
      refine wq_lload k7 rfl ?_
      refine wq_l2i rfl ?_
      refine wq_lshl rfl ?_
      refine wq_lor rfl ?_
      refine wl_lstore rfl rfl (fun la55 kk56 t57 => ?_)
      have kk58 := t57 0 _ ⟨by decide, by decide⟩ (Or.inr rfl) k0
      have kk59 := t57 1 _ ⟨by decide, by decide⟩ (Or.inl (by decide)) k1
      have kk60 := t57 7 _ ⟨by decide, by decide⟩ (Or.inl (by decide)) k7
      refine wq_lload kk60 rfl ?_
      refine wq_lconst (x := 1) (by decide) rfl ?_
      refine wq_ladd rfl ?_
      refine wl_lstore rfl rfl (fun la61 kk62 t63 => ?_)
      have kk64 := t63 0 _ ⟨by decide, by decide⟩ (Or.inr rfl) kk58
      have kk65 := t63 1 _ ⟨by decide, by decide⟩ (Or.inl (by decide)) kk59
      have kk66 := t63 5 _ ⟨by decide, by decide⟩ (Or.inl (by decide)) kk56
      refine wq_goto rfl rfl ?_
      exact ih kk64 kk65 kk66 kk62 hr pl1 (InL_toInt _) (InL_i64 _) hD
def m_addRow_42 (g : Nat) (l1 : Int) (l3 : Int) (l5 : Int) (s1 : Int) (m : MS) : Option MS := vb (m_isWrong s1 3 m) (fun v41 m37 => if v41 = 0 then m_addRow_53 g g l1 l5 l3 m37 else some m37)
theorem c_m_addRow_42_b {dd : Nat} (hd : 2 ≤ dd) {g : Nat} {h0 : RHeap} {mF : MS} {la : RLoc} {h : RHeap} {m : MS} {l1 l3 l5 s1 : Int} (k0 : rx_look la 0 = some (.ref 170)) (k1 : rx_look la 1 = some (wvl l1)) (k3 : rx_look la 3 = some (wvl l3)) (k5 : rx_look la 5 = some (wvl l5)) (hr : RM h0 h m) (pl1 : InL l1) (pl3 : InL l3) (pl5 : InL l5) (ps1 : (s1 = 0 ∨ s1 = 1)) (hD : m_addRow_42 g l1 l3 l5 s1 m = some mF) : Wq O F (Cd O F rp_P dd) (9, 0, rw_X12_addRow, []) (rx_at rw_X12_addRow 42) la [wvi s1, .ref 170] h (QN h0 mF) := by
  unfold m_addRow_42 at hD
  refine wq_iconst rfl ?_
  obtain ⟨v41, m37, q40, hD⟩ := vb_of hD
  refine wm_cvZ hr (c_isWrong (by omega) hr ps1 ⟨by decide, by decide⟩ q40) rfl rfl rfl (fun h38 hr39 pp42 => ?_)
  refine wq_if_eq (InI_z pp42) rfl rfl rfl (fun c43 => ?_) (fun c43 => ?_)
  · rw [if_pos c43] at hD
    refine wq_lload_n k3 rfl ?_
    refine wl_lstore rfl rfl (fun la44 kk45 t46 => ?_)
    have kk47 := t46 0 _ ⟨by decide, by decide⟩ (Or.inr rfl) k0
    have kk48 := t46 1 _ ⟨by decide, by decide⟩ (Or.inl (by decide)) k1
    have kk49 := t46 5 _ ⟨by decide, by decide⟩ (Or.inl (by decide)) k5
    exact c_m_addRow_53 hd g kk47 kk48 kk49 kk45 hr39 pl1 pl5 pl3 hD
  · rw [if_neg c43] at hD
    cases hD
    exact wq_return rfl ⟨_, rfl, hr39⟩
def m_addRow_41 (g : Nat) (l1 : Int) (l3 : Int) (l5 : Int) (m : MS) : Option MS := m_addRow_42 g l1 l3 l5 0 m
theorem c_m_addRow_41_b {dd : Nat} (hd : 2 ≤ dd) {g : Nat} {h0 : RHeap} {mF : MS} {la : RLoc} {h : RHeap} {m : MS} {l1 l3 l5 : Int} (k0 : rx_look la 0 = some (.ref 170)) (k1 : rx_look la 1 = some (wvl l1)) (k3 : rx_look la 3 = some (wvl l3)) (k5 : rx_look la 5 = some (wvl l5)) (hr : RM h0 h m) (pl1 : InL l1) (pl3 : InL l3) (pl5 : InL l5) (hD : m_addRow_41 g l1 l3 l5 m = some mF) : Wq O F (Cd O F rp_P dd) (9, 0, rw_X12_addRow, []) (rx_at rw_X12_addRow 41) la [.ref 170] h (QN h0 mF) := by
  unfold m_addRow_41 at hD
  refine wq_iconst rfl ?_
  exact c_m_addRow_42_b hd k0 k1 k3 k5 hr pl1 pl3 pl5 (Or.inl rfl) hD
def m_addRow_37 (g : Nat) (l1 : Int) (l3 : Int) (l5 : Int) (m : MS) : Option MS := m_addRow_42 g l1 l3 l5 1 m
theorem c_m_addRow_37_b {dd : Nat} (hd : 2 ≤ dd) {g : Nat} {h0 : RHeap} {mF : MS} {la : RLoc} {h : RHeap} {m : MS} {l1 l3 l5 : Int} (k0 : rx_look la 0 = some (.ref 170)) (k1 : rx_look la 1 = some (wvl l1)) (k3 : rx_look la 3 = some (wvl l3)) (k5 : rx_look la 5 = some (wvl l5)) (hr : RM h0 h m) (pl1 : InL l1) (pl3 : InL l3) (pl5 : InL l5) (hD : m_addRow_37 g l1 l3 l5 m = some mF) : Wq O F (Cd O F rp_P dd) (9, 0, rw_X12_addRow, []) (rx_at rw_X12_addRow 37) la [.ref 170] h (QN h0 mF) := by
  unfold m_addRow_37 at hD
  refine wq_iconst rfl ?_
  refine wq_goto rfl rfl ?_
  exact c_m_addRow_42_b hd k0 k1 k3 k5 hr pl1 pl3 pl5 (Or.inr rfl) hD
def m_addRow (g : Nat) (m : MS) : Option MS := vb (m_pop m) (fun v5 m1 => vb (m_pop m1) (fun v15 m11 => vb (m_pop m11) (fun v26 m22 => if v5 < v15 then m_addRow_41 g v5 v15 v26 m22 else if v15 < 0 then m_addRow_37 g v5 v15 v26 m22 else if 63 < v5 then m_addRow_37 g v5 v15 v26 m22 else m_addRow_41 g v5 v15 v26 m22)))
theorem c_m_addRow_b {dd : Nat} (hd : 2 ≤ dd) {g : Nat} {h0 : RHeap} {mF : MS} {la : RLoc} {h : RHeap} {m : MS} (k0 : rx_look la 0 = some (.ref 170)) (hr : RM h0 h m) (hD : m_addRow g m = some mF) : Wq O F (Cd O F rp_P dd) (9, 0, rw_X12_addRow, []) (rx_at rw_X12_addRow 0) la [] h (QN h0 mF) := by
  unfold m_addRow at hD
  refine wq_aload_n k0 rfl ?_
  obtain ⟨v5, m1, q4, hD⟩ := vb_of hD
  refine wm_cvL hr (c_pop (by omega) hr q4) rfl rfl rfl (fun h2 hr3 pp6 => ?_)
  refine wl_lstore_n rfl rfl (fun la7 kk8 t9 => ?_)
  have kk10 := t9 0 _ ⟨by decide, by decide⟩ (Or.inr rfl) k0
  refine wq_aload_n kk10 rfl ?_
  obtain ⟨v15, m11, q14, hD⟩ := vb_of hD
  refine wm_cvL hr3 (c_pop (by omega) hr3 q14) rfl rfl rfl (fun h12 hr13 pp16 => ?_)
  refine wl_lstore_n rfl rfl (fun la17 kk18 t19 => ?_)
  have kk20 := t19 0 _ ⟨by decide, by decide⟩ (Or.inr rfl) kk10
  have kk21 := t19 1 _ ⟨by decide, by decide⟩ (Or.inl (by decide)) kk8
  refine wq_aload_n kk20 rfl ?_
  obtain ⟨v26, m22, q25, hD⟩ := vb_of hD
  refine wm_cvL hr13 (c_pop (by omega) hr13 q25) rfl rfl rfl (fun h23 hr24 pp27 => ?_)
  refine wl_lstore rfl rfl (fun la28 kk29 t30 => ?_)
  have kk31 := t30 0 _ ⟨by decide, by decide⟩ (Or.inr rfl) kk20
  have kk32 := t30 1 _ ⟨by decide, by decide⟩ (Or.inl (by decide)) kk21
  have kk33 := t30 3 _ ⟨by decide, by decide⟩ (Or.inl (by decide)) kk18
  refine wq_aload_n kk31 rfl ?_
  refine wq_lload_n kk33 rfl ?_
  refine wq_lload_n kk32 rfl ?_
  refine wq_lc_gt pp16 pp6 rfl rfl rfl rfl (fun c34 => ?_) (fun c34 => ?_)
  · rw [if_pos c34] at hD
    exact c_m_addRow_41_b hd kk31 kk32 kk33 kk29 hr24 pp6 pp16 pp27 hD
  · rw [if_neg (Int.not_lt.mpr c34)] at hD
    refine wq_lload_n kk33 rfl ?_
    refine wq_lconst (x := 0) (by decide) rfl ?_
    refine wq_lc_lt pp16 ⟨by decide, by decide⟩ rfl rfl rfl rfl (fun c35 => ?_) (fun c35 => ?_)
    · rw [if_pos c35] at hD
      exact c_m_addRow_37_b hd kk31 kk32 kk33 kk29 hr24 pp6 pp16 pp27 hD
    · rw [if_neg (Int.not_lt.mpr c35)] at hD
      refine wq_lload_n kk32 rfl ?_
      refine wq_ldc2 (x := 63) (by decide) rfl ?_
      refine wq_lc_le pp6 ⟨by decide, by decide⟩ rfl rfl rfl rfl (fun c36 => ?_) (fun c36 => ?_)
      · rw [if_neg (Int.not_lt.mpr c36)] at hD
        exact c_m_addRow_41_b hd kk31 kk32 kk33 kk29 hr24 pp6 pp16 pp27 hD
      · rw [if_pos c36] at hD
        exact c_m_addRow_37_b hd kk31 kk32 kk33 kk29 hr24 pp6 pp16 pp27 hD
theorem c_addRow {d : Nat} (hd : 3 ≤ d) {g : Nat} {h0 h : RHeap} {m : MS} {mF : MS} (hr : RM h0 h m) (hD : m_addRow g m = some mF) : Cq (Cd O F rp_P d) 194 [.ref 170] h (QN h0 mF) := by
  refine cq_of (I := (9, 0, rw_X12_addRow, [])) rfl rfl (by omega) ?_
  exact c_m_addRow_b (by omega) rfl hr hD
def m_afterBlock (g : Nat) (m : MS) : Option MS := ck (m 41 0) 8 (wlet (mset m 15 0 (m 42 (m 41 0))) (fun m5 => wlet (mset m5 41 0 (i32 ((m5 41 0) - 1))) (fun m10 => nb (m_want g 21 m10) (fun m14 => nb (m_later 2 m14) (fun m18 => some m18)))))
theorem c_m_afterBlock_b {dd : Nat} (hd : 4 ≤ dd) {g : Nat} {h0 : RHeap} {mF : MS} {la : RLoc} {h : RHeap} {m : MS} (k0 : rx_look la 0 = some (.ref 170)) (hr : RM h0 h m) (hD : m_afterBlock g m = some mF) : Wq O F (Cd O F rp_P dd) (1, 0, rw_X12_afterBlock, []) (rx_at rw_X12_afterBlock 0) la [] h (QN h0 mF) := by
  unfold m_afterBlock at hD
  refine wq_aload_n k0 rfl ?_
  refine wq_aload_n k0 rfl ?_
  refine wm_gfa (c := 0) hr rfl rfl ?_
  refine wq_aload_n k0 rfl ?_
  refine wm_gfi hr rfl rfl (fun pp1 => ?_)
  obtain ⟨g2, g3, hD⟩ := ck_of hD
  refine wm_ali (f := 42) hr rfl pp1 g2 g3 rfl (fun pp4 => ?_)
  obtain ⟨m5, e6, hD⟩ := wlet_of hD
  refine wm_pfi hr rfl rfl pp4 rfl (fun h7 hr8 => ?_)
  rw [← e6] at hr8
  refine wq_aload_n k0 rfl ?_
  refine wq_dup rfl rfl ?_
  refine wm_gfi hr8 rfl rfl (fun pp9 => ?_)
  refine wq_iconst rfl ?_
  refine wq_isub rfl ?_
  obtain ⟨m10, e11, hD⟩ := wlet_of hD
  refine wm_pfi hr8 rfl rfl (InI_i32 _) rfl (fun h12 hr13 => ?_)
  rw [← e11] at hr13
  refine wq_aload_n k0 rfl ?_
  refine wq_bipush (by decide) rfl ?_
  obtain ⟨m14, q17, hD⟩ := nb_of hD
  refine wm_cvN hr13 (c_want (by omega) hr13 ⟨by decide, by decide⟩ q17) rfl rfl rfl (fun h15 hr16 => ?_)
  refine wq_aload_n k0 rfl ?_
  refine wq_iconst rfl ?_
  obtain ⟨m18, q21, hD⟩ := nb_of hD
  refine wm_cvN hr16 (c_later (by omega) hr16 ⟨by decide, by decide⟩ q21) rfl rfl rfl (fun h19 hr20 => ?_)
  cases hD
  exact wq_return rfl ⟨_, rfl, hr20⟩
theorem c_afterBlock {d : Nat} (hd : 5 ≤ d) {g : Nat} {h0 h : RHeap} {m : MS} {mF : MS} (hr : RM h0 h m) (hD : m_afterBlock g m = some mF) : Cq (Cd O F rp_P d) 195 [.ref 170] h (QN h0 mF) := by
  refine cq_of (I := (1, 0, rw_X12_afterBlock, [])) rfl rfl (by omega) ?_
  exact c_m_afterBlock_b (by omega) rfl hr hD
def m_back (m : MS) : Option (Int × MS) := wlet (mset m 67 0 (i32 ((m 67 0) - 1))) (fun m2 => ck (m2 67 0) 8000 (some (m2 66 (m2 67 0), m2)))
theorem c_m_back_b {dd : Nat} (hd : 0 ≤ dd) {h0 : RHeap} {vF : Int} {mF : MS} {la : RLoc} {h : RHeap} {m : MS} (k0 : rx_look la 0 = some (.ref 170)) (hr : RM h0 h m) (hD : m_back m = some (vF, mF)) : Wq O F (Cd O F rp_P dd) (1, 1, rw_X12_back, []) (rx_at rw_X12_back 0) la [] h (QV 0 h0 vF mF) := by
  unfold m_back at hD
  refine wq_aload_n k0 rfl ?_
  refine wq_dup rfl rfl ?_
  refine wm_gfi hr rfl rfl (fun pp1 => ?_)
  refine wq_iconst rfl ?_
  refine wq_isub rfl ?_
  obtain ⟨m2, e3, hD⟩ := wlet_of hD
  refine wm_pfi hr rfl rfl (InI_i32 _) rfl (fun h4 hr5 => ?_)
  rw [← e3] at hr5
  refine wq_aload_n k0 rfl ?_
  refine wm_gfa (c := 0) hr5 rfl rfl ?_
  refine wq_aload_n k0 rfl ?_
  refine wm_gfi hr5 rfl rfl (fun pp6 => ?_)
  obtain ⟨g7, g8, hD⟩ := ck_of hD
  refine wm_ali (f := 66) hr5 rfl pp6 g7 g8 rfl (fun pp9 => ?_)
  cases hD
  exact wq_ireturn rfl ⟨_, rfl, hr5, pp9⟩
theorem c_back {d : Nat} (hd : 1 ≤ d) {h0 h : RHeap} {m : MS} {vF : Int} {mF : MS} (hr : RM h0 h m) (hD : m_back m = some (vF, mF)) : Cq (Cd O F rp_P d) 204 [.ref 170] h (QV 0 h0 vF mF) := by
  refine cq_of (I := (1, 1, rw_X12_back, [])) rfl rfl (by omega) ?_
  exact c_m_back_b (by omega) rfl hr hD
def m_emit (l1 : Int) (l2 : Int) (l3 : Int) (l4 : Int) (m : MS) : Option (Int × MS) := ck (m 57 0) 6000 (wlet (mset m 58 (m 57 0) l1) (fun m4 => ck (m4 57 0) 6000 (wlet (mset m4 59 (m4 57 0) l2) (fun m11 => ck (m11 57 0) 6000 (wlet (mset m11 60 (m11 57 0) l3) (fun m18 => ck (m18 57 0) 6000 (wlet (mset m18 61 (m18 57 0) l4) (fun m25 => wlet (mset m25 57 0 (i32 ((m25 57 0) + 1))) (fun m30 => some (i32 ((m30 57 0) - 1), m30))))))))))
theorem c_m_emit_b {dd : Nat} (hd : 0 ≤ dd) {h0 : RHeap} {vF : Int} {mF : MS} {la : RLoc} {h : RHeap} {m : MS} {l1 l2 l3 l4 : Int} (k0 : rx_look la 0 = some (.ref 170)) (k1 : rx_look la 1 = some (wvi l1)) (k2 : rx_look la 2 = some (wvi l2)) (k3 : rx_look la 3 = some (wvi l3)) (k4 : rx_look la 4 = some (wvi l4)) (hr : RM h0 h m) (pl1 : InI l1) (pl2 : InI l2) (pl3 : InI l3) (pl4 : InI l4) (hD : m_emit l1 l2 l3 l4 m = some (vF, mF)) : Wq O F (Cd O F rp_P dd) (5, 1, rw_X12_emit, []) (rx_at rw_X12_emit 0) la [] h (QV 0 h0 vF mF) := by
  unfold m_emit at hD
  refine wq_aload_n k0 rfl ?_
  refine wm_gfa (c := 0) hr rfl rfl ?_
  refine wq_aload_n k0 rfl ?_
  refine wm_gfi hr rfl rfl (fun pp1 => ?_)
  refine wq_iload_n k1 rfl ?_
  obtain ⟨g2, g3, hD⟩ := ck_of hD
  obtain ⟨m4, e5, hD⟩ := wlet_of hD
  refine wm_asi (f := 58) hr rfl pp1 g2 g3 pl1 rfl (fun h6 hr7 => ?_)
  rw [← e5] at hr7
  refine wq_aload_n k0 rfl ?_
  refine wm_gfa (c := 0) hr7 rfl rfl ?_
  refine wq_aload_n k0 rfl ?_
  refine wm_gfi hr7 rfl rfl (fun pp8 => ?_)
  refine wq_iload_n k2 rfl ?_
  obtain ⟨g9, g10, hD⟩ := ck_of hD
  obtain ⟨m11, e12, hD⟩ := wlet_of hD
  refine wm_asi (f := 59) hr7 rfl pp8 g9 g10 pl2 rfl (fun h13 hr14 => ?_)
  rw [← e12] at hr14
  refine wq_aload_n k0 rfl ?_
  refine wm_gfa (c := 0) hr14 rfl rfl ?_
  refine wq_aload_n k0 rfl ?_
  refine wm_gfi hr14 rfl rfl (fun pp15 => ?_)
  refine wq_iload_n k3 rfl ?_
  obtain ⟨g16, g17, hD⟩ := ck_of hD
  obtain ⟨m18, e19, hD⟩ := wlet_of hD
  refine wm_asi (f := 60) hr14 rfl pp15 g16 g17 pl3 rfl (fun h20 hr21 => ?_)
  rw [← e19] at hr21
  refine wq_aload_n k0 rfl ?_
  refine wm_gfa (c := 0) hr21 rfl rfl ?_
  refine wq_aload_n k0 rfl ?_
  refine wm_gfi hr21 rfl rfl (fun pp22 => ?_)
  refine wq_iload k4 rfl ?_
  obtain ⟨g23, g24, hD⟩ := ck_of hD
  obtain ⟨m25, e26, hD⟩ := wlet_of hD
  refine wm_asi (f := 61) hr21 rfl pp22 g23 g24 pl4 rfl (fun h27 hr28 => ?_)
  rw [← e26] at hr28
  refine wq_aload_n k0 rfl ?_
  refine wq_dup rfl rfl ?_
  refine wm_gfi hr28 rfl rfl (fun pp29 => ?_)
  refine wq_iconst rfl ?_
  refine wq_iadd rfl ?_
  obtain ⟨m30, e31, hD⟩ := wlet_of hD
  refine wm_pfi hr28 rfl rfl (InI_i32 _) rfl (fun h32 hr33 => ?_)
  rw [← e31] at hr33
  refine wq_aload_n k0 rfl ?_
  refine wm_gfi hr33 rfl rfl (fun pp34 => ?_)
  refine wq_iconst rfl ?_
  refine wq_isub rfl ?_
  cases hD
  exact wq_ireturn rfl ⟨_, rfl, hr33, (InI_i32 _)⟩
theorem c_emit {d : Nat} (hd : 1 ≤ d) {h0 h : RHeap} {m : MS} {l1 l2 l3 l4 : Int} {vF : Int} {mF : MS} (hr : RM h0 h m) (pl1 : InI l1) (pl2 : InI l2) (pl3 : InI l3) (pl4 : InI l4) (hD : m_emit l1 l2 l3 l4 m = some (vF, mF)) : Cq (Cd O F rp_P d) 222 [.ref 170, wvi l1, wvi l2, wvi l3, wvi l4] h (QV 0 h0 vF mF) := by
  refine cq_of (I := (5, 1, rw_X12_emit, [])) rfl rfl (by omega) ?_
  exact c_m_emit_b (by omega) rfl rfl rfl rfl rfl hr pl1 pl2 pl3 pl4 hD
def m_fits_20 (m : MS) : Option MS := some m
theorem c_m_fits_20_b {dd : Nat} (hd : 1 ≤ dd) {h0 : RHeap} {mF : MS} {la : RLoc} {h : RHeap} {m : MS} (hr : RM h0 h m) (hD : m_fits_20 m = some mF) : Wq O F (Cd O F rp_P dd) (2, 0, rw_X12_fits, []) (rx_at rw_X12_fits 20) la [] h (QN h0 mF) := by
  unfold m_fits_20 at hD
  cases hD
  exact wq_return rfl ⟨_, rfl, hr⟩
def m_fits (l1 : Int) (m : MS) : Option MS := if (m 6 0) = 0 then if l1 = 0 then nb (m_fail 4 (m 9 0) m) (fun m5 => m_fits_20 m5) else m_fits_20 m else m_fits_20 m
theorem c_m_fits_b {dd : Nat} (hd : 1 ≤ dd) {h0 : RHeap} {mF : MS} {la : RLoc} {h : RHeap} {m : MS} {l1 : Int} (k0 : rx_look la 0 = some (.ref 170)) (k1 : rx_look la 1 = some (wvi l1)) (hr : RM h0 h m) (pl1 : (l1 = 0 ∨ l1 = 1)) (hD : m_fits l1 m = some mF) : Wq O F (Cd O F rp_P dd) (2, 0, rw_X12_fits, []) (rx_at rw_X12_fits 0) la [] h (QN h0 mF) := by
  unfold m_fits at hD
  refine wq_aload_n k0 rfl ?_
  refine wm_gfi hr rfl rfl (fun pp1 => ?_)
  refine wq_if_ne pp1 rfl rfl rfl (fun c2 => ?_) (fun c2 => ?_)
  · rw [if_neg c2] at hD
    exact c_m_fits_20_b hd hr hD
  · rw [if_pos c2] at hD
    refine wq_iload_n k1 rfl ?_
    refine wq_if_ne (InI_z pl1) rfl rfl rfl (fun c3 => ?_) (fun c3 => ?_)
    · rw [if_neg c3] at hD
      exact c_m_fits_20_b hd hr hD
    · rw [if_pos c3] at hD
      refine wq_aload_n k0 rfl ?_
      refine wq_iconst rfl ?_
      refine wq_aload_n k0 rfl ?_
      refine wm_gfi hr rfl rfl (fun pp4 => ?_)
      obtain ⟨m5, q8, hD⟩ := nb_of hD
      refine wm_cvN hr (c_fail (by omega) hr ⟨by decide, by decide⟩ pp4 q8) rfl rfl rfl (fun h6 hr7 => ?_)
      exact c_m_fits_20_b hd hr7 hD
theorem c_fits {d : Nat} (hd : 2 ≤ d) {h0 h : RHeap} {m : MS} {l1 : Int} {mF : MS} (hr : RM h0 h m) (pl1 : (l1 = 0 ∨ l1 = 1)) (hD : m_fits l1 m = some mF) : Cq (Cd O F rp_P d) 229 [.ref 170, wvi l1] h (QN h0 mF) := by
  refine cq_of (I := (2, 0, rw_X12_fits, [])) rfl rfl (by omega) ?_
  exact c_m_fits_b (by omega) rfl rfl hr pl1 hD
def m_keep (l1 : Int) (m : MS) : Option MS := ck (m 67 0) 8000 (wlet (mset m 66 (m 67 0) l1) (fun m4 => wlet (mset m4 67 0 (i32 ((m4 67 0) + 1))) (fun m9 => some m9)))
theorem c_m_keep_b {dd : Nat} (hd : 0 ≤ dd) {h0 : RHeap} {mF : MS} {la : RLoc} {h : RHeap} {m : MS} {l1 : Int} (k0 : rx_look la 0 = some (.ref 170)) (k1 : rx_look la 1 = some (wvi l1)) (hr : RM h0 h m) (pl1 : InI l1) (hD : m_keep l1 m = some mF) : Wq O F (Cd O F rp_P dd) (2, 0, rw_X12_keep, []) (rx_at rw_X12_keep 0) la [] h (QN h0 mF) := by
  unfold m_keep at hD
  refine wq_aload_n k0 rfl ?_
  refine wm_gfa (c := 0) hr rfl rfl ?_
  refine wq_aload_n k0 rfl ?_
  refine wm_gfi hr rfl rfl (fun pp1 => ?_)
  refine wq_iload_n k1 rfl ?_
  obtain ⟨g2, g3, hD⟩ := ck_of hD
  obtain ⟨m4, e5, hD⟩ := wlet_of hD
  refine wm_asi (f := 66) hr rfl pp1 g2 g3 pl1 rfl (fun h6 hr7 => ?_)
  rw [← e5] at hr7
  refine wq_aload_n k0 rfl ?_
  refine wq_dup rfl rfl ?_
  refine wm_gfi hr7 rfl rfl (fun pp8 => ?_)
  refine wq_iconst rfl ?_
  refine wq_iadd rfl ?_
  obtain ⟨m9, e10, hD⟩ := wlet_of hD
  refine wm_pfi hr7 rfl rfl (InI_i32 _) rfl (fun h11 hr12 => ?_)
  rw [← e10] at hr12
  cases hD
  exact wq_return rfl ⟨_, rfl, hr12⟩
theorem c_keep {d : Nat} (hd : 1 ≤ d) {h0 h : RHeap} {m : MS} {l1 : Int} {mF : MS} (hr : RM h0 h m) (pl1 : InI l1) (hD : m_keep l1 m = some mF) : Cq (Cd O F rp_P d) 243 [.ref 170, wvi l1] h (QN h0 mF) := by
  refine cq_of (I := (2, 0, rw_X12_keep, [])) rfl rfl (by omega) ?_
  exact c_m_keep_b (by omega) rfl rfl hr pl1 hD
def m_write0 (l1 : Int) (m : MS) : Option MS := vb (m_emit l1 0 0 0 m) (fun v5 m1 => some m1)
theorem c_m_write0_b {dd : Nat} (hd : 1 ≤ dd) {h0 : RHeap} {mF : MS} {la : RLoc} {h : RHeap} {m : MS} {l1 : Int} (k0 : rx_look la 0 = some (.ref 170)) (k1 : rx_look la 1 = some (wvi l1)) (hr : RM h0 h m) (pl1 : InI l1) (hD : m_write0 l1 m = some mF) : Wq O F (Cd O F rp_P dd) (3, 0, rw_X12_write0, []) (rx_at rw_X12_write0 0) la [] h (QN h0 mF) := by
  unfold m_write0 at hD
  refine wq_aload_n k0 rfl ?_
  refine wq_iload_n k1 rfl ?_
  refine wq_iconst rfl ?_
  refine wq_iconst rfl ?_
  refine wq_iconst rfl ?_
  obtain ⟨v5, m1, q4, hD⟩ := vb_of hD
  refine wm_cvI hr (c_emit (by omega) hr pl1 ⟨by decide, by decide⟩ ⟨by decide, by decide⟩ ⟨by decide, by decide⟩ q4) rfl rfl rfl (fun h2 hr3 pp6 => ?_)
  refine wl_istore_n rfl rfl (fun la7 kk8 t9 => ?_)
  cases hD
  exact wq_return rfl ⟨_, rfl, hr3⟩
theorem c_write0 {d : Nat} (hd : 2 ≤ d) {h0 h : RHeap} {m : MS} {l1 : Int} {mF : MS} (hr : RM h0 h m) (pl1 : InI l1) (hD : m_write0 l1 m = some mF) : Cq (Cd O F rp_P d) 300 [.ref 170, wvi l1] h (QN h0 mF) := by
  refine cq_of (I := (3, 0, rw_X12_write0, [])) rfl rfl (by omega) ?_
  exact c_m_write0_b (by omega) rfl rfl hr pl1 hD
def m_afterCase_200 (g : Nat) (m : MS) : Option MS := some m
theorem c_m_afterCase_200_b {dd : Nat} (hd : 4 ≤ dd) {g : Nat} {h0 : RHeap} {mF : MS} {la : RLoc} {h : RHeap} {m : MS} (hr : RM h0 h m) (hD : m_afterCase_200 g m = some mF) : Wq O F (Cd O F rp_P dd) (4, 0, rw_X12_afterCase, []) (rx_at rw_X12_afterCase 200) la [] h (QN h0 mF) := by
  unfold m_afterCase_200 at hD
  cases hD
  exact wq_return rfl ⟨_, rfl, hr⟩
def m_afterCase_174 (g : Nat) : Nat → Int → MS → Option MS
  | 0, _, _ => none
  | n + 1, l2, m => if l2 < 0 then m_afterCase_200 g m else ck l2 6000 (ck l2 6000 (wlet (mset m 59 l2 (m 57 0)) (fun m136 => m_afterCase_174 g n (m 59 l2) m136)))
theorem c_m_afterCase_174 {dd : Nat} (hd : 4 ≤ dd) {g : Nat} {h0 : RHeap} {mF : MS} : ∀ (n : Nat) {la : RLoc} {h : RHeap} {m : MS} {l2 : Int}, rx_look la 0 = some (.ref 170) → rx_look la 2 = some (wvi l2) → RM h0 h m → InI l2 → m_afterCase_174 g n l2 m = some mF → Wq O F (Cd O F rp_P dd) (4, 0, rw_X12_afterCase, []) (rx_at rw_X12_afterCase 174) la [] h (QN h0 mF) := by
  intro n
  induction n with
  | zero =>
    intro la h m l2 k0 k2 hr pl2 hD
    unfold m_afterCase_174 at hD
    cases hD
  | succ n ih =>
    intro la h m l2 k0 k2 hr pl2 hD
    unfold m_afterCase_174 at hD
    refine wq_iload_n k2 rfl ?_
    refine wq_if_lt pl2 rfl rfl rfl (fun c124 => ?_) (fun c124 => ?_)
    · rw [if_pos c124] at hD
      exact c_m_afterCase_200_b hd hr hD
    · rw [if_neg (Int.not_lt.mpr c124)] at hD
      refine wq_aload_n k0 rfl ?_
      refine wm_gfa (c := 0) hr rfl rfl ?_
      refine wq_iload_n k2 rfl ?_
      obtain ⟨g125, g126, hD⟩ := ck_of hD
      refine wm_ali (f := 59) hr rfl pl2 g125 g126 rfl (fun pp127 => ?_)
      refine wl_istore_n rfl rfl (fun la128 kk129 t130 => ?_)
      have kk131 := t130 0 _ (by decide) (Or.inr rfl) k0
      have kk132 := t130 2 _ (by decide) (Or.inr rfl) k2
      refine wq_aload_n kk131 rfl ?_
      refine wm_gfa (c := 0) hr rfl rfl ?_
      refine wq_iload_n kk132 rfl ?_
      refine wq_aload_n kk131 rfl ?_
      refine wm_gfi hr rfl rfl (fun pp133 => ?_)
      obtain ⟨g134, g135, hD⟩ := ck_of hD
      obtain ⟨m136, e137, hD⟩ := wlet_of hD
      refine wm_asi (f := 59) hr rfl pl2 g134 g135 pp133 rfl (fun h138 hr139 => ?_)
      rw [← e137] at hr139
      refine wq_iload_n kk129 rfl ?_
      refine wl_istore_n rfl rfl (fun la140 kk141 t142 => ?_)
      have kk143 := t142 0 _ (by decide) (Or.inr rfl) kk131
      refine wq_goto rfl rfl ?_
      exact ih kk143 kk141 hr139 pp127 hD
def m_afterCase_20 (g : Nat) (s1 : Int) (m : MS) : Option MS := nb (m_fits s1 m) (fun m94 => nb (m_want g 48 m94) (fun m98 => nb (m_keep (m98 62 0) m98) (fun m103 => nb (m_keep (m103 69 0) m103) (fun m108 => nb (m_keep (-1) m108) (fun m112 => nb (m_keep 1 m112) (fun m116 => nb (m_later 22 m116) (fun m120 => m_afterCase_200 g m120)))))))
theorem c_m_afterCase_20_b {dd : Nat} (hd : 4 ≤ dd) {g : Nat} {h0 : RHeap} {mF : MS} {la : RLoc} {h : RHeap} {m : MS} {s1 : Int} (k0 : rx_look la 0 = some (.ref 170)) (hr : RM h0 h m) (ps1 : (s1 = 0 ∨ s1 = 1)) (hD : m_afterCase_20 g s1 m = some mF) : Wq O F (Cd O F rp_P dd) (4, 0, rw_X12_afterCase, []) (rx_at rw_X12_afterCase 20) la [wvi s1, .ref 170] h (QN h0 mF) := by
  unfold m_afterCase_20 at hD
  obtain ⟨m94, q97, hD⟩ := nb_of hD
  refine wm_cvN hr (c_fits (by omega) hr ps1 q97) rfl rfl rfl (fun h95 hr96 => ?_)
  refine wq_aload_n k0 rfl ?_
  refine wq_bipush (by decide) rfl ?_
  obtain ⟨m98, q101, hD⟩ := nb_of hD
  refine wm_cvN hr96 (c_want (by omega) hr96 ⟨by decide, by decide⟩ q101) rfl rfl rfl (fun h99 hr100 => ?_)
  refine wq_aload_n k0 rfl ?_
  refine wq_aload_n k0 rfl ?_
  refine wm_gfi hr100 rfl rfl (fun pp102 => ?_)
  obtain ⟨m103, q106, hD⟩ := nb_of hD
  refine wm_cvN hr100 (c_keep (by omega) hr100 pp102 q106) rfl rfl rfl (fun h104 hr105 => ?_)
  refine wq_aload_n k0 rfl ?_
  refine wq_aload_n k0 rfl ?_
  refine wm_gfi hr105 rfl rfl (fun pp107 => ?_)
  obtain ⟨m108, q111, hD⟩ := nb_of hD
  refine wm_cvN hr105 (c_keep (by omega) hr105 pp107 q111) rfl rfl rfl (fun h109 hr110 => ?_)
  refine wq_aload_n k0 rfl ?_
  refine wq_iconst rfl ?_
  obtain ⟨m112, q115, hD⟩ := nb_of hD
  refine wm_cvN hr110 (c_keep (by omega) hr110 ⟨by decide, by decide⟩ q115) rfl rfl rfl (fun h113 hr114 => ?_)
  refine wq_aload_n k0 rfl ?_
  refine wq_iconst rfl ?_
  obtain ⟨m116, q119, hD⟩ := nb_of hD
  refine wm_cvN hr114 (c_keep (by omega) hr114 ⟨by decide, by decide⟩ q119) rfl rfl rfl (fun h117 hr118 => ?_)
  refine wq_aload_n k0 rfl ?_
  refine wq_bipush (by decide) rfl ?_
  obtain ⟨m120, q123, hD⟩ := nb_of hD
  refine wm_cvN hr118 (c_later (by omega) hr118 ⟨by decide, by decide⟩ q123) rfl rfl rfl (fun h121 hr122 => ?_)
  refine wq_goto rfl rfl ?_
  exact c_m_afterCase_200_b hd hr122 hD
def m_afterCase (g : Nat) (l1 : Int) (m : MS) : Option MS := if l1 = 21 then if (m 62 0) = 3 then m_afterCase_20 g 0 m else m_afterCase_20 g 1 m else if l1 = 23 then vb (m_back m) (fun v54 m50 => vb (m_back m50) (fun v64 m60 => vb (m_emit 20 v64 0 0 m60) (fun v75 m71 => nb (m_keep v75 m71) (fun m77 => ck v54 6000 (wlet (mset m77 59 v54 (m77 57 0)) (fun m84 => nb (m_later 24 m84) (fun m88 => m_afterCase_200 g m88))))))) else if (m 10 0) = 21 then nb (m_take g m) (fun m38 => nb (m_keep 0 m38) (fun m42 => nb (m_later 22 m42) (fun m46 => m_afterCase_200 g m46))) else nb (m_want g 36 m) (fun m5 => vb (m_back m5) (fun v13 m9 => vb (m_back m9) (fun v23 m19 => wlet (mset m19 69 0 v23) (fun m25 => wlet (mset m25 67 0 (i32 ((m25 67 0) - 1))) (fun m30 => nb (m_write0 28 m30) (fun m34 => m_afterCase_174 g g v13 m34))))))
theorem c_m_afterCase_b {dd : Nat} (hd : 4 ≤ dd) {g : Nat} {h0 : RHeap} {mF : MS} {la : RLoc} {h : RHeap} {m : MS} {l1 : Int} (k0 : rx_look la 0 = some (.ref 170)) (k1 : rx_look la 1 = some (wvi l1)) (hr : RM h0 h m) (pl1 : InI l1) (hD : m_afterCase g l1 m = some mF) : Wq O F (Cd O F rp_P dd) (4, 0, rw_X12_afterCase, []) (rx_at rw_X12_afterCase 0) la [] h (QN h0 mF) := by
  unfold m_afterCase at hD
  refine wq_iload_n k1 rfl ?_
  refine wq_bipush (by decide) rfl ?_
  refine wq_icmp_ne pl1 ⟨by decide, by decide⟩ rfl rfl rfl (fun c1 => ?_) (fun c1 => ?_)
  · rw [if_neg c1] at hD
    refine wq_iload_n k1 rfl ?_
    refine wq_bipush (by decide) rfl ?_
    refine wq_icmp_ne pl1 ⟨by decide, by decide⟩ rfl rfl rfl (fun c2 => ?_) (fun c2 => ?_)
    · rw [if_neg c2] at hD
      refine wq_aload_n k0 rfl ?_
      refine wm_gfi hr rfl rfl (fun pp3 => ?_)
      refine wq_bipush (by decide) rfl ?_
      refine wq_icmp_ne pp3 ⟨by decide, by decide⟩ rfl rfl rfl (fun c4 => ?_) (fun c4 => ?_)
      · rw [if_neg c4] at hD
        refine wq_aload_n k0 rfl ?_
        refine wq_bipush (by decide) rfl ?_
        obtain ⟨m5, q8, hD⟩ := nb_of hD
        refine wm_cvN hr (c_want (by omega) hr ⟨by decide, by decide⟩ q8) rfl rfl rfl (fun h6 hr7 => ?_)
        refine wq_aload_n k0 rfl ?_
        obtain ⟨v13, m9, q12, hD⟩ := vb_of hD
        refine wm_cvI hr7 (c_back (by omega) hr7 q12) rfl rfl rfl (fun h10 hr11 pp14 => ?_)
        refine wl_istore_n rfl rfl (fun la15 kk16 t17 => ?_)
        have kk18 := t17 0 _ (by decide) (Or.inr rfl) k0
        refine wq_aload_n kk18 rfl ?_
        refine wq_aload_n kk18 rfl ?_
        obtain ⟨v23, m19, q22, hD⟩ := vb_of hD
        refine wm_cvI hr11 (c_back (by omega) hr11 q22) rfl rfl rfl (fun h20 hr21 pp24 => ?_)
        obtain ⟨m25, e26, hD⟩ := wlet_of hD
        refine wm_pfi hr21 rfl rfl pp24 rfl (fun h27 hr28 => ?_)
        rw [← e26] at hr28
        refine wq_aload_n kk18 rfl ?_
        refine wq_dup rfl rfl ?_
        refine wm_gfi hr28 rfl rfl (fun pp29 => ?_)
        refine wq_iconst rfl ?_
        refine wq_isub rfl ?_
        obtain ⟨m30, e31, hD⟩ := wlet_of hD
        refine wm_pfi hr28 rfl rfl (InI_i32 _) rfl (fun h32 hr33 => ?_)
        rw [← e31] at hr33
        refine wq_aload_n kk18 rfl ?_
        refine wq_bipush (by decide) rfl ?_
        obtain ⟨m34, q37, hD⟩ := nb_of hD
        refine wm_cvN hr33 (c_write0 (by omega) hr33 ⟨by decide, by decide⟩ q37) rfl rfl rfl (fun h35 hr36 => ?_)
        exact c_m_afterCase_174 hd g kk18 kk16 hr36 pp14 hD
      · rw [if_pos c4] at hD
        refine wq_aload_n k0 rfl ?_
        obtain ⟨m38, q41, hD⟩ := nb_of hD
        refine wm_cvN hr (c_take (by omega) hr q41) rfl rfl rfl (fun h39 hr40 => ?_)
        refine wq_aload_n k0 rfl ?_
        refine wq_iconst rfl ?_
        obtain ⟨m42, q45, hD⟩ := nb_of hD
        refine wm_cvN hr40 (c_keep (by omega) hr40 ⟨by decide, by decide⟩ q45) rfl rfl rfl (fun h43 hr44 => ?_)
        refine wq_aload_n k0 rfl ?_
        refine wq_bipush (by decide) rfl ?_
        obtain ⟨m46, q49, hD⟩ := nb_of hD
        refine wm_cvN hr44 (c_later (by omega) hr44 ⟨by decide, by decide⟩ q49) rfl rfl rfl (fun h47 hr48 => ?_)
        refine wq_goto rfl rfl ?_
        exact c_m_afterCase_200_b hd hr48 hD
    · rw [if_pos c2] at hD
      refine wq_aload_n k0 rfl ?_
      obtain ⟨v54, m50, q53, hD⟩ := vb_of hD
      refine wm_cvI hr (c_back (by omega) hr q53) rfl rfl rfl (fun h51 hr52 pp55 => ?_)
      refine wl_istore_n rfl rfl (fun la56 kk57 t58 => ?_)
      have kk59 := t58 0 _ (by decide) (Or.inr rfl) k0
      refine wq_aload_n kk59 rfl ?_
      obtain ⟨v64, m60, q63, hD⟩ := vb_of hD
      refine wm_cvI hr52 (c_back (by omega) hr52 q63) rfl rfl rfl (fun h61 hr62 pp65 => ?_)
      refine wl_istore_n rfl rfl (fun la66 kk67 t68 => ?_)
      have kk69 := t68 0 _ (by decide) (Or.inr rfl) kk59
      have kk70 := t68 2 _ (by decide) (Or.inr rfl) kk57
      refine wq_aload_n kk69 rfl ?_
      refine wq_aload_n kk69 rfl ?_
      refine wq_bipush (by decide) rfl ?_
      refine wq_iload_n kk67 rfl ?_
      refine wq_iconst rfl ?_
      refine wq_iconst rfl ?_
      obtain ⟨v75, m71, q74, hD⟩ := vb_of hD
      refine wm_cvI hr62 (c_emit (by omega) hr62 ⟨by decide, by decide⟩ pp65 ⟨by decide, by decide⟩ ⟨by decide, by decide⟩ q74) rfl rfl rfl (fun h72 hr73 pp76 => ?_)
      obtain ⟨m77, q80, hD⟩ := nb_of hD
      refine wm_cvN hr73 (c_keep (by omega) hr73 pp76 q80) rfl rfl rfl (fun h78 hr79 => ?_)
      refine wq_aload_n kk69 rfl ?_
      refine wm_gfa (c := 0) hr79 rfl rfl ?_
      refine wq_iload_n kk70 rfl ?_
      refine wq_aload_n kk69 rfl ?_
      refine wm_gfi hr79 rfl rfl (fun pp81 => ?_)
      obtain ⟨g82, g83, hD⟩ := ck_of hD
      obtain ⟨m84, e85, hD⟩ := wlet_of hD
      refine wm_asi (f := 59) hr79 rfl pp55 g82 g83 pp81 rfl (fun h86 hr87 => ?_)
      rw [← e85] at hr87
      refine wq_aload_n kk69 rfl ?_
      refine wq_bipush (by decide) rfl ?_
      obtain ⟨m88, q91, hD⟩ := nb_of hD
      refine wm_cvN hr87 (c_later (by omega) hr87 ⟨by decide, by decide⟩ q91) rfl rfl rfl (fun h89 hr90 => ?_)
      refine wq_goto rfl rfl ?_
      exact c_m_afterCase_200_b hd hr90 hD
  · rw [if_pos c1] at hD
    refine wq_aload_n k0 rfl ?_
    refine wq_aload_n k0 rfl ?_
    refine wm_gfi hr rfl rfl (fun pp92 => ?_)
    refine wq_iconst rfl ?_
    refine wq_icmp_eq pp92 ⟨by decide, by decide⟩ rfl rfl rfl (fun c93 => ?_) (fun c93 => ?_)
    · rw [if_pos c93] at hD
      refine wq_iconst rfl ?_
      exact c_m_afterCase_20_b hd k0 hr (Or.inl rfl) hD
    · rw [if_neg c93] at hD
      refine wq_iconst rfl ?_
      refine wq_goto rfl rfl ?_
      exact c_m_afterCase_20_b hd k0 hr (Or.inr rfl) hD
theorem c_afterCase {d : Nat} (hd : 5 ≤ d) {g : Nat} {h0 h : RHeap} {m : MS} {l1 : Int} {mF : MS} (hr : RM h0 h m) (pl1 : InI l1) (hD : m_afterCase g l1 m = some mF) : Cq (Cd O F rp_P d) 196 [.ref 170, wvi l1] h (QN h0 mF) := by
  refine cq_of (I := (4, 0, rw_X12_afterCase, [])) rfl rfl (by omega) ?_
  exact c_m_afterCase_b (by omega) rfl rfl hr pl1 hD
def m_nextElement_39 (g : Nat) (m : MS) : Option MS := some m
theorem c_m_nextElement_39_b {dd : Nat} (hd : 4 ≤ dd) {g : Nat} {h0 : RHeap} {mF : MS} {la : RLoc} {h : RHeap} {m : MS} (hr : RM h0 h m) (hD : m_nextElement_39 g m = some mF) : Wq O F (Cd O F rp_P dd) (1, 0, rw_X12_nextElement, []) (rx_at rw_X12_nextElement 39) la [] h (QN h0 mF) := by
  unfold m_nextElement_39 at hD
  cases hD
  exact wq_return rfl ⟨_, rfl, hr⟩
def m_nextElement (g : Nat) (m : MS) : Option MS := if (m 10 0) = 20 then nb (m_take g m) (fun m11 => nb (m_later 43 m11) (fun m15 => nb (m_later 30 m15) (fun m19 => m_nextElement_39 g m19))) else nb (m_want g 19 m) (fun m3 => wlet (mset m3 62 0 3) (fun m7 => m_nextElement_39 g m7))
theorem c_m_nextElement_b {dd : Nat} (hd : 4 ≤ dd) {g : Nat} {h0 : RHeap} {mF : MS} {la : RLoc} {h : RHeap} {m : MS} (k0 : rx_look la 0 = some (.ref 170)) (hr : RM h0 h m) (hD : m_nextElement g m = some mF) : Wq O F (Cd O F rp_P dd) (1, 0, rw_X12_nextElement, []) (rx_at rw_X12_nextElement 0) la [] h (QN h0 mF) := by
  unfold m_nextElement at hD
  refine wq_aload_n k0 rfl ?_
  refine wm_gfi hr rfl rfl (fun pp1 => ?_)
  refine wq_bipush (by decide) rfl ?_
  refine wq_icmp_ne pp1 ⟨by decide, by decide⟩ rfl rfl rfl (fun c2 => ?_) (fun c2 => ?_)
  · rw [if_neg c2] at hD
    refine wq_aload_n k0 rfl ?_
    refine wq_bipush (by decide) rfl ?_
    obtain ⟨m3, q6, hD⟩ := nb_of hD
    refine wm_cvN hr (c_want (by omega) hr ⟨by decide, by decide⟩ q6) rfl rfl rfl (fun h4 hr5 => ?_)
    refine wq_aload_n k0 rfl ?_
    refine wq_iconst rfl ?_
    obtain ⟨m7, e8, hD⟩ := wlet_of hD
    refine wm_pfi hr5 rfl rfl ⟨by decide, by decide⟩ rfl (fun h9 hr10 => ?_)
    rw [← e8] at hr10
    exact c_m_nextElement_39_b hd hr10 hD
  · rw [if_pos c2] at hD
    refine wq_aload_n k0 rfl ?_
    obtain ⟨m11, q14, hD⟩ := nb_of hD
    refine wm_cvN hr (c_take (by omega) hr q14) rfl rfl rfl (fun h12 hr13 => ?_)
    refine wq_aload_n k0 rfl ?_
    refine wq_bipush (by decide) rfl ?_
    obtain ⟨m15, q18, hD⟩ := nb_of hD
    refine wm_cvN hr13 (c_later (by omega) hr13 ⟨by decide, by decide⟩ q18) rfl rfl rfl (fun h16 hr17 => ?_)
    refine wq_aload_n k0 rfl ?_
    refine wq_bipush (by decide) rfl ?_
    obtain ⟨m19, q22, hD⟩ := nb_of hD
    refine wm_cvN hr17 (c_later (by omega) hr17 ⟨by decide, by decide⟩ q22) rfl rfl rfl (fun h20 hr21 => ?_)
    refine wq_goto rfl rfl ?_
    exact c_m_nextElement_39_b hd hr21 hD
theorem c_nextElement {d : Nat} (hd : 5 ≤ d) {g : Nat} {h0 h : RHeap} {m : MS} {mF : MS} (hr : RM h0 h m) (hD : m_nextElement g m = some mF) : Cq (Cd O F rp_P d) 253 [.ref 170] h (QN h0 mF) := by
  refine cq_of (I := (1, 0, rw_X12_nextElement, [])) rfl rfl (by omega) ?_
  exact c_m_nextElement_b (by omega) rfl hr hD
def m_afterFactor_372 (g : Nat) (m : MS) : Option MS := some m
theorem c_m_afterFactor_372_b {dd : Nat} (hd : 5 ≤ dd) {g : Nat} {h0 : RHeap} {mF : MS} {la : RLoc} {h : RHeap} {m : MS} (hr : RM h0 h m) (hD : m_afterFactor_372 g m = some mF) : Wq O F (Cd O F rp_P dd) (4, 0, rw_X12_afterFactor, []) (rx_at rw_X12_afterFactor 372) la [] h (QN h0 mF) := by
  unfold m_afterFactor_372 at hD
  cases hD
  exact wq_return rfl ⟨_, rfl, hr⟩
def m_afterFactor_369 (g : Nat) (s1 : Int) (m : MS) : Option MS := wlet (mset m 62 0 s1) (fun m177 => m_afterFactor_372 g m177)
theorem c_m_afterFactor_369_b {dd : Nat} (hd : 5 ≤ dd) {g : Nat} {h0 : RHeap} {mF : MS} {la : RLoc} {h : RHeap} {m : MS} {s1 : Int} (hr : RM h0 h m) (ps1 : InI s1) (hD : m_afterFactor_369 g s1 m = some mF) : Wq O F (Cd O F rp_P dd) (4, 0, rw_X12_afterFactor, []) (rx_at rw_X12_afterFactor 369) la [wvi s1, .ref 170] h (QN h0 mF) := by
  unfold m_afterFactor_369 at hD
  obtain ⟨m177, e178, hD⟩ := wlet_of hD
  refine wm_pfi hr rfl rfl ps1 rfl (fun h179 hr180 => ?_)
  rw [← e178] at hr180
  exact c_m_afterFactor_372_b hd hr180 hD
def m_afterFactor_316 (g : Nat) (l2 : Int) (s1 : Int) (m : MS) : Option MS := nb (m_fits s1 m) (fun m153 => nb (m_want g 17 m153) (fun m157 => vb (m_emit 15 l2 (m157 62 0) 0 m157) (fun v166 m162 => if l2 = 0 then m_afterFactor_369 g 0 m162 else if l2 = 1 then m_afterFactor_369 g 1 m162 else if l2 = 4 then m_afterFactor_369 g 2 m162 else m_afterFactor_369 g (m162 62 0) m162)))
theorem c_m_afterFactor_316_b {dd : Nat} (hd : 5 ≤ dd) {g : Nat} {h0 : RHeap} {mF : MS} {la : RLoc} {h : RHeap} {m : MS} {l2 s1 : Int} (k0 : rx_look la 0 = some (.ref 170)) (k2 : rx_look la 2 = some (wvi l2)) (hr : RM h0 h m) (pl2 : InI l2) (ps1 : (s1 = 0 ∨ s1 = 1)) (hD : m_afterFactor_316 g l2 s1 m = some mF) : Wq O F (Cd O F rp_P dd) (4, 0, rw_X12_afterFactor, []) (rx_at rw_X12_afterFactor 316) la [wvi s1, .ref 170] h (QN h0 mF) := by
  unfold m_afterFactor_316 at hD
  obtain ⟨m153, q156, hD⟩ := nb_of hD
  refine wm_cvN hr (c_fits (by omega) hr ps1 q156) rfl rfl rfl (fun h154 hr155 => ?_)
  refine wq_aload_n k0 rfl ?_
  refine wq_bipush (by decide) rfl ?_
  obtain ⟨m157, q160, hD⟩ := nb_of hD
  refine wm_cvN hr155 (c_want (by omega) hr155 ⟨by decide, by decide⟩ q160) rfl rfl rfl (fun h158 hr159 => ?_)
  refine wq_aload_n k0 rfl ?_
  refine wq_bipush (by decide) rfl ?_
  refine wq_iload_n k2 rfl ?_
  refine wq_aload_n k0 rfl ?_
  refine wm_gfi hr159 rfl rfl (fun pp161 => ?_)
  refine wq_iconst rfl ?_
  obtain ⟨v166, m162, q165, hD⟩ := vb_of hD
  refine wm_cvI hr159 (c_emit (by omega) hr159 ⟨by decide, by decide⟩ pl2 pp161 ⟨by decide, by decide⟩ q165) rfl rfl rfl (fun h163 hr164 pp167 => ?_)
  refine wl_istore_n rfl rfl (fun la168 kk169 t170 => ?_)
  have kk171 := t170 0 _ (by decide) (Or.inr rfl) k0
  have kk172 := t170 2 _ (by decide) (Or.inr rfl) k2
  refine wq_aload_n kk171 rfl ?_
  refine wq_iload_n kk172 rfl ?_
  refine wq_if_ne pl2 rfl rfl rfl (fun c173 => ?_) (fun c173 => ?_)
  · rw [if_neg c173] at hD
    refine wq_iload_n kk172 rfl ?_
    refine wq_iconst rfl ?_
    refine wq_icmp_ne pl2 ⟨by decide, by decide⟩ rfl rfl rfl (fun c174 => ?_) (fun c174 => ?_)
    · rw [if_neg c174] at hD
      refine wq_iload_n kk172 rfl ?_
      refine wq_iconst rfl ?_
      refine wq_icmp_ne pl2 ⟨by decide, by decide⟩ rfl rfl rfl (fun c175 => ?_) (fun c175 => ?_)
      · rw [if_neg c175] at hD
        refine wq_aload_n kk171 rfl ?_
        refine wm_gfi hr164 rfl rfl (fun pp176 => ?_)
        exact c_m_afterFactor_369_b hd hr164 pp176 hD
      · rw [if_pos c175] at hD
        refine wq_iconst rfl ?_
        refine wq_goto rfl rfl ?_
        exact c_m_afterFactor_369_b hd hr164 ⟨by decide, by decide⟩ hD
    · rw [if_pos c174] at hD
      refine wq_iconst rfl ?_
      refine wq_goto rfl rfl ?_
      exact c_m_afterFactor_369_b hd hr164 ⟨by decide, by decide⟩ hD
  · rw [if_pos c173] at hD
    refine wq_iconst rfl ?_
    refine wq_goto rfl rfl ?_
    exact c_m_afterFactor_369_b hd hr164 ⟨by decide, by decide⟩ hD
def m_afterFactor_288 (g : Nat) (l2 : Int) (m : MS) : Option MS := if (m 62 0) = 3 then m_afterFactor_316 g l2 0 m else m_afterFactor_316 g l2 1 m
theorem c_m_afterFactor_288_b {dd : Nat} (hd : 5 ≤ dd) {g : Nat} {h0 : RHeap} {mF : MS} {la : RLoc} {h : RHeap} {m : MS} {l2 : Int} (k0 : rx_look la 0 = some (.ref 170)) (k2 : rx_look la 2 = some (wvi l2)) (hr : RM h0 h m) (pl2 : InI l2) (hD : m_afterFactor_288 g l2 m = some mF) : Wq O F (Cd O F rp_P dd) (4, 0, rw_X12_afterFactor, []) (rx_at rw_X12_afterFactor 288) la [.ref 170] h (QN h0 mF) := by
  unfold m_afterFactor_288 at hD
  refine wq_aload_n k0 rfl ?_
  refine wm_gfi hr rfl rfl (fun pp151 => ?_)
  refine wq_iconst rfl ?_
  refine wq_icmp_eq pp151 ⟨by decide, by decide⟩ rfl rfl rfl (fun c152 => ?_) (fun c152 => ?_)
  · rw [if_pos c152] at hD
    refine wq_iconst rfl ?_
    refine wq_goto rfl rfl ?_
    exact c_m_afterFactor_316_b hd k0 k2 hr pl2 (Or.inl rfl) hD
  · rw [if_neg c152] at hD
    refine wq_iconst rfl ?_
    refine wq_goto rfl rfl ?_
    exact c_m_afterFactor_316_b hd k0 k2 hr pl2 (Or.inr rfl) hD
def m_afterFactor_220 (g : Nat) (l2 : Int) (s1 : Int) (m : MS) : Option MS := nb (m_fits s1 m) (fun m128 => nb (m_want g 19 m128) (fun m132 => ck l2 140 (ck l2 140 (vb (m_emit 5 (m132 26 l2) (m132 27 l2) 0 m132) (fun v146 m142 => m_afterFactor_372 g m142)))))
theorem c_m_afterFactor_220_b {dd : Nat} (hd : 5 ≤ dd) {g : Nat} {h0 : RHeap} {mF : MS} {la : RLoc} {h : RHeap} {m : MS} {l2 s1 : Int} (k0 : rx_look la 0 = some (.ref 170)) (k2 : rx_look la 2 = some (wvi l2)) (hr : RM h0 h m) (pl2 : InI l2) (ps1 : (s1 = 0 ∨ s1 = 1)) (hD : m_afterFactor_220 g l2 s1 m = some mF) : Wq O F (Cd O F rp_P dd) (4, 0, rw_X12_afterFactor, []) (rx_at rw_X12_afterFactor 220) la [wvi s1, .ref 170] h (QN h0 mF) := by
  unfold m_afterFactor_220 at hD
  obtain ⟨m128, q131, hD⟩ := nb_of hD
  refine wm_cvN hr (c_fits (by omega) hr ps1 q131) rfl rfl rfl (fun h129 hr130 => ?_)
  refine wq_aload_n k0 rfl ?_
  refine wq_bipush (by decide) rfl ?_
  obtain ⟨m132, q135, hD⟩ := nb_of hD
  refine wm_cvN hr130 (c_want (by omega) hr130 ⟨by decide, by decide⟩ q135) rfl rfl rfl (fun h133 hr134 => ?_)
  refine wq_aload_n k0 rfl ?_
  refine wq_iconst rfl ?_
  refine wq_aload_n k0 rfl ?_
  refine wm_gfa (c := 0) hr134 rfl rfl ?_
  refine wq_iload_n k2 rfl ?_
  obtain ⟨g136, g137, hD⟩ := ck_of hD
  refine wm_ali (f := 26) hr134 rfl pl2 g136 g137 rfl (fun pp138 => ?_)
  refine wq_aload_n k0 rfl ?_
  refine wm_gfa (c := 0) hr134 rfl rfl ?_
  refine wq_iload_n k2 rfl ?_
  obtain ⟨g139, g140, hD⟩ := ck_of hD
  refine wm_ali (f := 27) hr134 rfl pl2 g139 g140 rfl (fun pp141 => ?_)
  refine wq_iconst rfl ?_
  obtain ⟨v146, m142, q145, hD⟩ := vb_of hD
  refine wm_cvI hr134 (c_emit (by omega) hr134 ⟨by decide, by decide⟩ pp138 pp141 ⟨by decide, by decide⟩ q145) rfl rfl rfl (fun h143 hr144 pp147 => ?_)
  refine wl_istore_n rfl rfl (fun la148 kk149 t150 => ?_)
  refine wq_goto rfl rfl ?_
  exact c_m_afterFactor_372_b hd hr144 hD
def m_afterFactor_146 (g : Nat) (s1 : Int) (m : MS) : Option MS := nb (m_fits s1 m) (fun m116 => nb (m_write0 14 m116) (fun m120 => nb (m_nextElement g m120) (fun m124 => m_afterFactor_372 g m124)))
theorem c_m_afterFactor_146_b {dd : Nat} (hd : 5 ≤ dd) {g : Nat} {h0 : RHeap} {mF : MS} {la : RLoc} {h : RHeap} {m : MS} {s1 : Int} (k0 : rx_look la 0 = some (.ref 170)) (hr : RM h0 h m) (ps1 : (s1 = 0 ∨ s1 = 1)) (hD : m_afterFactor_146 g s1 m = some mF) : Wq O F (Cd O F rp_P dd) (4, 0, rw_X12_afterFactor, []) (rx_at rw_X12_afterFactor 146) la [wvi s1, .ref 170] h (QN h0 mF) := by
  unfold m_afterFactor_146 at hD
  obtain ⟨m116, q119, hD⟩ := nb_of hD
  refine wm_cvN hr (c_fits (by omega) hr ps1 q119) rfl rfl rfl (fun h117 hr118 => ?_)
  refine wq_aload_n k0 rfl ?_
  refine wq_bipush (by decide) rfl ?_
  obtain ⟨m120, q123, hD⟩ := nb_of hD
  refine wm_cvN hr118 (c_write0 (by omega) hr118 ⟨by decide, by decide⟩ q123) rfl rfl rfl (fun h121 hr122 => ?_)
  refine wq_aload_n k0 rfl ?_
  obtain ⟨m124, q127, hD⟩ := nb_of hD
  refine wm_cvN hr122 (c_nextElement (by omega) hr122 q127) rfl rfl rfl (fun h125 hr126 => ?_)
  refine wq_goto rfl rfl ?_
  exact c_m_afterFactor_372_b hd hr126 hD
def m_afterFactor_114 (g : Nat) (m : MS) : Option MS := nb (m_write0 13 m) (fun m108 => nb (m_nextElement g m108) (fun m112 => m_afterFactor_372 g m112))
theorem c_m_afterFactor_114_b {dd : Nat} (hd : 5 ≤ dd) {g : Nat} {h0 : RHeap} {mF : MS} {la : RLoc} {h : RHeap} {m : MS} (k0 : rx_look la 0 = some (.ref 170)) (hr : RM h0 h m) (hD : m_afterFactor_114 g m = some mF) : Wq O F (Cd O F rp_P dd) (4, 0, rw_X12_afterFactor, []) (rx_at rw_X12_afterFactor 114) la [] h (QN h0 mF) := by
  unfold m_afterFactor_114 at hD
  refine wq_aload_n k0 rfl ?_
  refine wq_bipush (by decide) rfl ?_
  obtain ⟨m108, q111, hD⟩ := nb_of hD
  refine wm_cvN hr (c_write0 (by omega) hr ⟨by decide, by decide⟩ q111) rfl rfl rfl (fun h109 hr110 => ?_)
  refine wq_aload_n k0 rfl ?_
  obtain ⟨m112, q115, hD⟩ := nb_of hD
  refine wm_cvN hr110 (c_nextElement (by omega) hr110 q115) rfl rfl rfl (fun h113 hr114 => ?_)
  refine wq_goto rfl rfl ?_
  exact c_m_afterFactor_372_b hd hr114 hD
def m_afterFactor_76 (g : Nat) (s1 : Int) (m : MS) : Option MS := nb (m_fits s1 m) (fun m88 => if (m88 6 0) = 0 then if (m88 10 0) = 28 then nb (m_take g m88) (fun m96 => nb (m_later 44 m96) (fun m100 => nb (m_later 30 m100) (fun m104 => m_afterFactor_372 g m104))) else m_afterFactor_114 g m88 else m_afterFactor_114 g m88)
theorem c_m_afterFactor_76_b {dd : Nat} (hd : 5 ≤ dd) {g : Nat} {h0 : RHeap} {mF : MS} {la : RLoc} {h : RHeap} {m : MS} {s1 : Int} (k0 : rx_look la 0 = some (.ref 170)) (hr : RM h0 h m) (ps1 : (s1 = 0 ∨ s1 = 1)) (hD : m_afterFactor_76 g s1 m = some mF) : Wq O F (Cd O F rp_P dd) (4, 0, rw_X12_afterFactor, []) (rx_at rw_X12_afterFactor 76) la [wvi s1, .ref 170] h (QN h0 mF) := by
  unfold m_afterFactor_76 at hD
  obtain ⟨m88, q91, hD⟩ := nb_of hD
  refine wm_cvN hr (c_fits (by omega) hr ps1 q91) rfl rfl rfl (fun h89 hr90 => ?_)
  refine wq_aload_n k0 rfl ?_
  refine wm_gfi hr90 rfl rfl (fun pp92 => ?_)
  refine wq_if_ne pp92 rfl rfl rfl (fun c93 => ?_) (fun c93 => ?_)
  · rw [if_neg c93] at hD
    exact c_m_afterFactor_114_b hd k0 hr90 hD
  · rw [if_pos c93] at hD
    refine wq_aload_n k0 rfl ?_
    refine wm_gfi hr90 rfl rfl (fun pp94 => ?_)
    refine wq_bipush (by decide) rfl ?_
    refine wq_icmp_ne pp94 ⟨by decide, by decide⟩ rfl rfl rfl (fun c95 => ?_) (fun c95 => ?_)
    · rw [if_neg c95] at hD
      exact c_m_afterFactor_114_b hd k0 hr90 hD
    · rw [if_pos c95] at hD
      refine wq_aload_n k0 rfl ?_
      obtain ⟨m96, q99, hD⟩ := nb_of hD
      refine wm_cvN hr90 (c_take (by omega) hr90 q99) rfl rfl rfl (fun h97 hr98 => ?_)
      refine wq_aload_n k0 rfl ?_
      refine wq_bipush (by decide) rfl ?_
      obtain ⟨m100, q103, hD⟩ := nb_of hD
      refine wm_cvN hr98 (c_later (by omega) hr98 ⟨by decide, by decide⟩ q103) rfl rfl rfl (fun h101 hr102 => ?_)
      refine wq_aload_n k0 rfl ?_
      refine wq_bipush (by decide) rfl ?_
      obtain ⟨m104, q107, hD⟩ := nb_of hD
      refine wm_cvN hr102 (c_later (by omega) hr102 ⟨by decide, by decide⟩ q107) rfl rfl rfl (fun h105 hr106 => ?_)
      refine wq_goto rfl rfl ?_
      exact c_m_afterFactor_372_b hd hr106 hD
def m_afterFactor_45 (g : Nat) (s1 : Int) (m : MS) : Option MS := nb (m_fits s1 m) (fun m80 => nb (m_write0 11 m80) (fun m84 => m_afterFactor_372 g m84))
theorem c_m_afterFactor_45_b {dd : Nat} (hd : 5 ≤ dd) {g : Nat} {h0 : RHeap} {mF : MS} {la : RLoc} {h : RHeap} {m : MS} {s1 : Int} (k0 : rx_look la 0 = some (.ref 170)) (hr : RM h0 h m) (ps1 : (s1 = 0 ∨ s1 = 1)) (hD : m_afterFactor_45 g s1 m = some mF) : Wq O F (Cd O F rp_P dd) (4, 0, rw_X12_afterFactor, []) (rx_at rw_X12_afterFactor 45) la [wvi s1, .ref 170] h (QN h0 mF) := by
  unfold m_afterFactor_45 at hD
  obtain ⟨m80, q83, hD⟩ := nb_of hD
  refine wm_cvN hr (c_fits (by omega) hr ps1 q83) rfl rfl rfl (fun h81 hr82 => ?_)
  refine wq_aload_n k0 rfl ?_
  refine wq_bipush (by decide) rfl ?_
  obtain ⟨m84, q87, hD⟩ := nb_of hD
  refine wm_cvN hr82 (c_write0 (by omega) hr82 ⟨by decide, by decide⟩ q87) rfl rfl rfl (fun h85 hr86 => ?_)
  refine wq_goto rfl rfl ?_
  exact c_m_afterFactor_372_b hd hr86 hD
def m_afterFactor (g : Nat) (l1 : Int) (m : MS) : Option MS := if l1 = 41 then nb (m_want g 17 m) (fun m76 => m_afterFactor_372 g m76) else if l1 = 42 then wlet (mset m 63 0 (i32 ((m 63 0) - 1))) (fun m70 => if (m70 62 0) = 2 then m_afterFactor_45 g 1 m70 else m_afterFactor_45 g 0 m70) else if l1 = 43 then if (m 62 0) = 0 then m_afterFactor_76 g 1 m else m_afterFactor_76 g 0 m else if l1 = 44 then if (m 62 0) = 0 then m_afterFactor_146 g 1 m else m_afterFactor_146 g 0 m else if l1 = 45 then vb (m_back m) (fun v52 m48 => ck v52 140 (wlet (mset m48 62 0 (m48 20 v52)) (fun m57 => nb (m_write0 6 m57) (fun m61 => m_afterFactor_372 g m61)))) else if l1 = 46 then vb (m_back m) (fun v37 m33 => ck v37 140 (if (m33 62 0) = (m33 25 v37) then m_afterFactor_220 g v37 1 m33 else m_afterFactor_220 g v37 0 m33)) else if l1 = 51 then vb (m_back m) (fun v27 m23 => wlet (mset m23 62 0 v27) (fun m29 => m_afterFactor_372 g m29)) else vb (m_back m) (fun v12 m8 => if v12 = 0 then m_afterFactor_288 g v12 m8 else if v12 = 2 then m_afterFactor_288 g v12 m8 else if v12 = 3 then m_afterFactor_288 g v12 m8 else if (m8 62 0) = 0 then m_afterFactor_316 g v12 1 m8 else m_afterFactor_316 g v12 0 m8)
theorem c_m_afterFactor_b {dd : Nat} (hd : 5 ≤ dd) {g : Nat} {h0 : RHeap} {mF : MS} {la : RLoc} {h : RHeap} {m : MS} {l1 : Int} (k0 : rx_look la 0 = some (.ref 170)) (k1 : rx_look la 1 = some (wvi l1)) (hr : RM h0 h m) (pl1 : InI l1) (hD : m_afterFactor g l1 m = some mF) : Wq O F (Cd O F rp_P dd) (4, 0, rw_X12_afterFactor, []) (rx_at rw_X12_afterFactor 0) la [] h (QN h0 mF) := by
  unfold m_afterFactor at hD
  refine wq_iload_n k1 rfl ?_
  refine wq_bipush (by decide) rfl ?_
  refine wq_icmp_ne pl1 ⟨by decide, by decide⟩ rfl rfl rfl (fun c1 => ?_) (fun c1 => ?_)
  · rw [if_neg c1] at hD
    refine wq_iload_n k1 rfl ?_
    refine wq_bipush (by decide) rfl ?_
    refine wq_icmp_ne pl1 ⟨by decide, by decide⟩ rfl rfl rfl (fun c2 => ?_) (fun c2 => ?_)
    · rw [if_neg c2] at hD
      refine wq_iload_n k1 rfl ?_
      refine wq_bipush (by decide) rfl ?_
      refine wq_icmp_ne pl1 ⟨by decide, by decide⟩ rfl rfl rfl (fun c3 => ?_) (fun c3 => ?_)
      · rw [if_neg c3] at hD
        refine wq_iload_n k1 rfl ?_
        refine wq_bipush (by decide) rfl ?_
        refine wq_icmp_ne pl1 ⟨by decide, by decide⟩ rfl rfl rfl (fun c4 => ?_) (fun c4 => ?_)
        · rw [if_neg c4] at hD
          refine wq_iload_n k1 rfl ?_
          refine wq_bipush (by decide) rfl ?_
          refine wq_icmp_ne pl1 ⟨by decide, by decide⟩ rfl rfl rfl (fun c5 => ?_) (fun c5 => ?_)
          · rw [if_neg c5] at hD
            refine wq_iload_n k1 rfl ?_
            refine wq_bipush (by decide) rfl ?_
            refine wq_icmp_ne pl1 ⟨by decide, by decide⟩ rfl rfl rfl (fun c6 => ?_) (fun c6 => ?_)
            · rw [if_neg c6] at hD
              refine wq_iload_n k1 rfl ?_
              refine wq_bipush (by decide) rfl ?_
              refine wq_icmp_ne pl1 ⟨by decide, by decide⟩ rfl rfl rfl (fun c7 => ?_) (fun c7 => ?_)
              · rw [if_neg c7] at hD
                refine wq_aload_n k0 rfl ?_
                obtain ⟨v12, m8, q11, hD⟩ := vb_of hD
                refine wm_cvI hr (c_back (by omega) hr q11) rfl rfl rfl (fun h9 hr10 pp13 => ?_)
                refine wl_istore_n rfl rfl (fun la14 kk15 t16 => ?_)
                have kk17 := t16 0 _ (by decide) (Or.inr rfl) k0
                refine wq_aload_n kk17 rfl ?_
                refine wq_iload_n kk15 rfl ?_
                refine wq_if_eq pp13 rfl rfl rfl (fun c18 => ?_) (fun c18 => ?_)
                · rw [if_pos c18] at hD
                  exact c_m_afterFactor_288_b hd kk17 kk15 hr10 pp13 hD
                · rw [if_neg c18] at hD
                  refine wq_iload_n kk15 rfl ?_
                  refine wq_iconst rfl ?_
                  refine wq_icmp_eq pp13 ⟨by decide, by decide⟩ rfl rfl rfl (fun c19 => ?_) (fun c19 => ?_)
                  · rw [if_pos c19] at hD
                    exact c_m_afterFactor_288_b hd kk17 kk15 hr10 pp13 hD
                  · rw [if_neg c19] at hD
                    refine wq_iload_n kk15 rfl ?_
                    refine wq_iconst rfl ?_
                    refine wq_icmp_ne pp13 ⟨by decide, by decide⟩ rfl rfl rfl (fun c20 => ?_) (fun c20 => ?_)
                    · rw [if_neg c20] at hD
                      refine wq_aload_n kk17 rfl ?_
                      refine wm_gfi hr10 rfl rfl (fun pp21 => ?_)
                      refine wq_if_ne pp21 rfl rfl rfl (fun c22 => ?_) (fun c22 => ?_)
                      · rw [if_neg c22] at hD
                        refine wq_iconst rfl ?_
                        exact c_m_afterFactor_316_b hd kk17 kk15 hr10 pp13 (Or.inl rfl) hD
                      · rw [if_pos c22] at hD
                        refine wq_iconst rfl ?_
                        refine wq_goto rfl rfl ?_
                        exact c_m_afterFactor_316_b hd kk17 kk15 hr10 pp13 (Or.inr rfl) hD
                    · rw [if_pos c20] at hD
                      exact c_m_afterFactor_288_b hd kk17 kk15 hr10 pp13 hD
              · rw [if_pos c7] at hD
                refine wq_aload_n k0 rfl ?_
                refine wq_aload_n k0 rfl ?_
                obtain ⟨v27, m23, q26, hD⟩ := vb_of hD
                refine wm_cvI hr (c_back (by omega) hr q26) rfl rfl rfl (fun h24 hr25 pp28 => ?_)
                obtain ⟨m29, e30, hD⟩ := wlet_of hD
                refine wm_pfi hr25 rfl rfl pp28 rfl (fun h31 hr32 => ?_)
                rw [← e30] at hr32
                refine wq_goto rfl rfl ?_
                exact c_m_afterFactor_372_b hd hr32 hD
            · rw [if_pos c6] at hD
              refine wq_aload_n k0 rfl ?_
              obtain ⟨v37, m33, q36, hD⟩ := vb_of hD
              refine wm_cvI hr (c_back (by omega) hr q36) rfl rfl rfl (fun h34 hr35 pp38 => ?_)
              refine wl_istore_n rfl rfl (fun la39 kk40 t41 => ?_)
              have kk42 := t41 0 _ (by decide) (Or.inr rfl) k0
              refine wq_aload_n kk42 rfl ?_
              refine wq_aload_n kk42 rfl ?_
              refine wm_gfi hr35 rfl rfl (fun pp43 => ?_)
              refine wq_aload_n kk42 rfl ?_
              refine wm_gfa (c := 0) hr35 rfl rfl ?_
              refine wq_iload_n kk40 rfl ?_
              obtain ⟨g44, g45, hD⟩ := ck_of hD
              refine wm_ali (f := 25) hr35 rfl pp38 g44 g45 rfl (fun pp46 => ?_)
              refine wq_icmp_ne pp43 pp46 rfl rfl rfl (fun c47 => ?_) (fun c47 => ?_)
              · rw [if_neg c47] at hD
                refine wq_iconst rfl ?_
                exact c_m_afterFactor_220_b hd kk42 kk40 hr35 pp38 (Or.inl rfl) hD
              · rw [if_pos c47] at hD
                refine wq_iconst rfl ?_
                refine wq_goto rfl rfl ?_
                exact c_m_afterFactor_220_b hd kk42 kk40 hr35 pp38 (Or.inr rfl) hD
          · rw [if_pos c5] at hD
            refine wq_aload_n k0 rfl ?_
            refine wq_aload_n k0 rfl ?_
            refine wm_gfa (c := 0) hr rfl rfl ?_
            refine wq_aload_n k0 rfl ?_
            obtain ⟨v52, m48, q51, hD⟩ := vb_of hD
            refine wm_cvI hr (c_back (by omega) hr q51) rfl rfl rfl (fun h49 hr50 pp53 => ?_)
            obtain ⟨g54, g55, hD⟩ := ck_of hD
            refine wm_ali (f := 20) hr50 rfl pp53 g54 g55 rfl (fun pp56 => ?_)
            obtain ⟨m57, e58, hD⟩ := wlet_of hD
            refine wm_pfi hr50 rfl rfl pp56 rfl (fun h59 hr60 => ?_)
            rw [← e58] at hr60
            refine wq_aload_n k0 rfl ?_
            refine wq_bipush (by decide) rfl ?_
            obtain ⟨m61, q64, hD⟩ := nb_of hD
            refine wm_cvN hr60 (c_write0 (by omega) hr60 ⟨by decide, by decide⟩ q64) rfl rfl rfl (fun h62 hr63 => ?_)
            refine wq_goto rfl rfl ?_
            exact c_m_afterFactor_372_b hd hr63 hD
        · rw [if_pos c4] at hD
          refine wq_aload_n k0 rfl ?_
          refine wq_aload_n k0 rfl ?_
          refine wm_gfi hr rfl rfl (fun pp65 => ?_)
          refine wq_if_ne pp65 rfl rfl rfl (fun c66 => ?_) (fun c66 => ?_)
          · rw [if_neg c66] at hD
            refine wq_iconst rfl ?_
            exact c_m_afterFactor_146_b hd k0 hr (Or.inl rfl) hD
          · rw [if_pos c66] at hD
            refine wq_iconst rfl ?_
            refine wq_goto rfl rfl ?_
            exact c_m_afterFactor_146_b hd k0 hr (Or.inr rfl) hD
      · rw [if_pos c3] at hD
        refine wq_aload_n k0 rfl ?_
        refine wq_aload_n k0 rfl ?_
        refine wm_gfi hr rfl rfl (fun pp67 => ?_)
        refine wq_if_ne pp67 rfl rfl rfl (fun c68 => ?_) (fun c68 => ?_)
        · rw [if_neg c68] at hD
          refine wq_iconst rfl ?_
          exact c_m_afterFactor_76_b hd k0 hr (Or.inl rfl) hD
        · rw [if_pos c68] at hD
          refine wq_iconst rfl ?_
          refine wq_goto rfl rfl ?_
          exact c_m_afterFactor_76_b hd k0 hr (Or.inr rfl) hD
    · rw [if_pos c2] at hD
      refine wq_aload_n k0 rfl ?_
      refine wq_dup rfl rfl ?_
      refine wm_gfi hr rfl rfl (fun pp69 => ?_)
      refine wq_iconst rfl ?_
      refine wq_isub rfl ?_
      obtain ⟨m70, e71, hD⟩ := wlet_of hD
      refine wm_pfi hr rfl rfl (InI_i32 _) rfl (fun h72 hr73 => ?_)
      rw [← e71] at hr73
      refine wq_aload_n k0 rfl ?_
      refine wq_aload_n k0 rfl ?_
      refine wm_gfi hr73 rfl rfl (fun pp74 => ?_)
      refine wq_iconst rfl ?_
      refine wq_icmp_ne pp74 ⟨by decide, by decide⟩ rfl rfl rfl (fun c75 => ?_) (fun c75 => ?_)
      · rw [if_neg c75] at hD
        refine wq_iconst rfl ?_
        exact c_m_afterFactor_45_b hd k0 hr73 (Or.inl rfl) hD
      · rw [if_pos c75] at hD
        refine wq_iconst rfl ?_
        refine wq_goto rfl rfl ?_
        exact c_m_afterFactor_45_b hd k0 hr73 (Or.inr rfl) hD
  · rw [if_pos c1] at hD
    refine wq_aload_n k0 rfl ?_
    refine wq_bipush (by decide) rfl ?_
    obtain ⟨m76, q79, hD⟩ := nb_of hD
    refine wm_cvN hr (c_want (by omega) hr ⟨by decide, by decide⟩ q79) rfl rfl rfl (fun h77 hr78 => ?_)
    refine wq_goto rfl rfl ?_
    exact c_m_afterFactor_372_b hd hr78 hD
theorem c_afterFactor {d : Nat} (hd : 6 ≤ d) {g : Nat} {h0 h : RHeap} {m : MS} {l1 : Int} {mF : MS} (hr : RM h0 h m) (pl1 : InI l1) (hD : m_afterFactor g l1 m = some mF) : Cq (Cd O F rp_P d) 197 [.ref 170, wvi l1] h (QN h0 mF) := by
  refine cq_of (I := (4, 0, rw_X12_afterFactor, [])) rfl rfl (by omega) ?_
  exact c_m_afterFactor_b (by omega) rfl rfl hr pl1 hD
def m_write1 (l1 : Int) (l2 : Int) (m : MS) : Option MS := vb (m_emit l1 l2 0 0 m) (fun v5 m1 => some m1)
theorem c_m_write1_b {dd : Nat} (hd : 1 ≤ dd) {h0 : RHeap} {mF : MS} {la : RLoc} {h : RHeap} {m : MS} {l1 l2 : Int} (k0 : rx_look la 0 = some (.ref 170)) (k1 : rx_look la 1 = some (wvi l1)) (k2 : rx_look la 2 = some (wvi l2)) (hr : RM h0 h m) (pl1 : InI l1) (pl2 : InI l2) (hD : m_write1 l1 l2 m = some mF) : Wq O F (Cd O F rp_P dd) (4, 0, rw_X12_write1, []) (rx_at rw_X12_write1 0) la [] h (QN h0 mF) := by
  unfold m_write1 at hD
  refine wq_aload_n k0 rfl ?_
  refine wq_iload_n k1 rfl ?_
  refine wq_iload_n k2 rfl ?_
  refine wq_iconst rfl ?_
  refine wq_iconst rfl ?_
  obtain ⟨v5, m1, q4, hD⟩ := vb_of hD
  refine wm_cvI hr (c_emit (by omega) hr pl1 pl2 ⟨by decide, by decide⟩ ⟨by decide, by decide⟩ q4) rfl rfl rfl (fun h2 hr3 pp6 => ?_)
  refine wl_istore_n rfl rfl (fun la7 kk8 t9 => ?_)
  cases hD
  exact wq_return rfl ⟨_, rfl, hr3⟩
theorem c_write1 {d : Nat} (hd : 2 ≤ d) {h0 h : RHeap} {m : MS} {l1 l2 : Int} {mF : MS} (hr : RM h0 h m) (pl1 : InI l1) (pl2 : InI l2) (hD : m_write1 l1 l2 m = some mF) : Cq (Cd O F rp_P d) 301 [.ref 170, wvi l1, wvi l2] h (QN h0 mF) := by
  refine cq_of (I := (4, 0, rw_X12_write1, [])) rfl rfl (by omega) ?_
  exact c_m_write1_b (by omega) rfl rfl rfl hr pl1 pl2 hD
def m_afterFor_318 (g : Nat) (m : MS) : Option MS := some m
theorem c_m_afterFor_318_b {dd : Nat} (hd : 4 ≤ dd) {g : Nat} {h0 : RHeap} {mF : MS} {la : RLoc} {h : RHeap} {m : MS} (hr : RM h0 h m) (hD : m_afterFor_318 g m = some mF) : Wq O F (Cd O F rp_P dd) (6, 0, rw_X12_afterFor, []) (rx_at rw_X12_afterFor 318) la [] h (QN h0 mF) := by
  unfold m_afterFor_318 at hD
  cases hD
  exact wq_return rfl ⟨_, rfl, hr⟩
def m_afterFor_227 (g : Nat) (l3 : Int) (s1 : Int) (s2 : Int) (m : MS) : Option MS := ck l3 140 (ck l3 140 (vb (m_emit s1 s2 (m 22 l3) (m 23 l3) m) (fun v182 m178 => nb (m_write0 1 m178) (fun m188 => nb (m_later 20 m188) (fun m192 => nb (m_later 6 m192) (fun m196 => m_afterFor_318 g m196))))))
theorem c_m_afterFor_227_b {dd : Nat} (hd : 4 ≤ dd) {g : Nat} {h0 : RHeap} {mF : MS} {la : RLoc} {h : RHeap} {m : MS} {l3 s1 s2 : Int} (k0 : rx_look la 0 = some (.ref 170)) (k3 : rx_look la 3 = some (wvi l3)) (hr : RM h0 h m) (pl3 : InI l3) (ps1 : InI s1) (ps2 : (s2 = 0 ∨ s2 = 1)) (hD : m_afterFor_227 g l3 s1 s2 m = some mF) : Wq O F (Cd O F rp_P dd) (6, 0, rw_X12_afterFor, []) (rx_at rw_X12_afterFor 227) la [wvi s2, wvi s1, .ref 170] h (QN h0 mF) := by
  unfold m_afterFor_227 at hD
  refine wq_aload_n k0 rfl ?_
  refine wm_gfa (c := 0) hr rfl rfl ?_
  refine wq_iload_n k3 rfl ?_
  obtain ⟨g172, g173, hD⟩ := ck_of hD
  refine wm_ali (f := 22) hr rfl pl3 g172 g173 rfl (fun pp174 => ?_)
  refine wq_aload_n k0 rfl ?_
  refine wm_gfa (c := 0) hr rfl rfl ?_
  refine wq_iload_n k3 rfl ?_
  obtain ⟨g175, g176, hD⟩ := ck_of hD
  refine wm_ali (f := 23) hr rfl pl3 g175 g176 rfl (fun pp177 => ?_)
  obtain ⟨v182, m178, q181, hD⟩ := vb_of hD
  refine wm_cvI hr (c_emit (by omega) hr ps1 (InI_z ps2) pp174 pp177 q181) rfl rfl rfl (fun h179 hr180 pp183 => ?_)
  refine wl_istore rfl rfl (fun la184 kk185 t186 => ?_)
  have kk187 := t186 0 _ (by decide) (Or.inr rfl) k0
  refine wq_aload_n kk187 rfl ?_
  refine wq_iconst rfl ?_
  obtain ⟨m188, q191, hD⟩ := nb_of hD
  refine wm_cvN hr180 (c_write0 (by omega) hr180 ⟨by decide, by decide⟩ q191) rfl rfl rfl (fun h189 hr190 => ?_)
  refine wq_aload_n kk187 rfl ?_
  refine wq_bipush (by decide) rfl ?_
  obtain ⟨m192, q195, hD⟩ := nb_of hD
  refine wm_cvN hr190 (c_later (by omega) hr190 ⟨by decide, by decide⟩ q195) rfl rfl rfl (fun h193 hr194 => ?_)
  refine wq_aload_n kk187 rfl ?_
  refine wq_bipush (by decide) rfl ?_
  obtain ⟨m196, q199, hD⟩ := nb_of hD
  refine wm_cvN hr194 (c_later (by omega) hr194 ⟨by decide, by decide⟩ q199) rfl rfl rfl (fun h197 hr198 => ?_)
  refine wq_goto rfl rfl ?_
  exact c_m_afterFor_318_b hd hr198 hD
def m_afterFor_173 (g : Nat) (l2 : Int) (l3 : Int) (l4 : Int) (s1 : Int) (m : MS) : Option MS := nb (m_fits s1 m) (fun m141 => nb (m_want g 41 m141) (fun m145 => vb (m_emit 22 0 l2 0 m145) (fun v153 m149 => nb (m_keep v153 m149) (fun m155 => nb (m_keep (m155 57 0) m155) (fun m160 => nb (m_write1 0 l4 m160) (fun m164 => ck l3 140 (if (m164 21 l3) = 0 then m_afterFor_227 g l3 23 0 m164 else m_afterFor_227 g l3 23 1 m164)))))))
theorem c_m_afterFor_173_b {dd : Nat} (hd : 4 ≤ dd) {g : Nat} {h0 : RHeap} {mF : MS} {la : RLoc} {h : RHeap} {m : MS} {l2 l3 l4 s1 : Int} (k0 : rx_look la 0 = some (.ref 170)) (k2 : rx_look la 2 = some (wvi l2)) (k3 : rx_look la 3 = some (wvi l3)) (k4 : rx_look la 4 = some (wvi l4)) (hr : RM h0 h m) (pl2 : InI l2) (pl3 : InI l3) (pl4 : InI l4) (ps1 : (s1 = 0 ∨ s1 = 1)) (hD : m_afterFor_173 g l2 l3 l4 s1 m = some mF) : Wq O F (Cd O F rp_P dd) (6, 0, rw_X12_afterFor, []) (rx_at rw_X12_afterFor 173) la [wvi s1, .ref 170] h (QN h0 mF) := by
  unfold m_afterFor_173 at hD
  obtain ⟨m141, q144, hD⟩ := nb_of hD
  refine wm_cvN hr (c_fits (by omega) hr ps1 q144) rfl rfl rfl (fun h142 hr143 => ?_)
  refine wq_aload_n k0 rfl ?_
  refine wq_bipush (by decide) rfl ?_
  obtain ⟨m145, q148, hD⟩ := nb_of hD
  refine wm_cvN hr143 (c_want (by omega) hr143 ⟨by decide, by decide⟩ q148) rfl rfl rfl (fun h146 hr147 => ?_)
  refine wq_aload_n k0 rfl ?_
  refine wq_aload_n k0 rfl ?_
  refine wq_bipush (by decide) rfl ?_
  refine wq_iconst rfl ?_
  refine wq_iload_n k2 rfl ?_
  refine wq_iconst rfl ?_
  obtain ⟨v153, m149, q152, hD⟩ := vb_of hD
  refine wm_cvI hr147 (c_emit (by omega) hr147 ⟨by decide, by decide⟩ ⟨by decide, by decide⟩ pl2 ⟨by decide, by decide⟩ q152) rfl rfl rfl (fun h150 hr151 pp154 => ?_)
  obtain ⟨m155, q158, hD⟩ := nb_of hD
  refine wm_cvN hr151 (c_keep (by omega) hr151 pp154 q158) rfl rfl rfl (fun h156 hr157 => ?_)
  refine wq_aload_n k0 rfl ?_
  refine wq_aload_n k0 rfl ?_
  refine wm_gfi hr157 rfl rfl (fun pp159 => ?_)
  obtain ⟨m160, q163, hD⟩ := nb_of hD
  refine wm_cvN hr157 (c_keep (by omega) hr157 pp159 q163) rfl rfl rfl (fun h161 hr162 => ?_)
  refine wq_aload_n k0 rfl ?_
  refine wq_iconst rfl ?_
  refine wq_iload k4 rfl ?_
  obtain ⟨m164, q167, hD⟩ := nb_of hD
  refine wm_cvN hr162 (c_write1 (by omega) hr162 ⟨by decide, by decide⟩ pl4 q167) rfl rfl rfl (fun h165 hr166 => ?_)
  refine wq_aload_n k0 rfl ?_
  refine wq_bipush (by decide) rfl ?_
  refine wq_aload_n k0 rfl ?_
  refine wm_gfa (c := 3) hr166 rfl rfl ?_
  refine wq_iload_n k3 rfl ?_
  obtain ⟨g168, g169, hD⟩ := ck_of hD
  refine wm_alz (f := 21) hr166 rfl pl3 g168 g169 rfl (fun pp170 => ?_)
  refine wq_if_eq (InI_z pp170) rfl rfl rfl (fun c171 => ?_) (fun c171 => ?_)
  · rw [if_pos c171] at hD
    refine wq_iconst rfl ?_
    exact c_m_afterFor_227_b hd k0 k3 hr166 pl3 ⟨by decide, by decide⟩ (Or.inl rfl) hD
  · rw [if_neg c171] at hD
    refine wq_iconst rfl ?_
    refine wq_goto rfl rfl ?_
    exact c_m_afterFor_227_b hd k0 k3 hr166 pl3 ⟨by decide, by decide⟩ (Or.inr rfl) hD
def m_afterFor_89 (g : Nat) (s1 : Int) (m : MS) : Option MS := nb (m_keep s1 m) (fun m125 => nb (m_take g m125) (fun m129 => nb (m_later 19 m129) (fun m133 => nb (m_later 30 m133) (fun m137 => m_afterFor_318 g m137))))
theorem c_m_afterFor_89_b {dd : Nat} (hd : 4 ≤ dd) {g : Nat} {h0 : RHeap} {mF : MS} {la : RLoc} {h : RHeap} {m : MS} {s1 : Int} (k0 : rx_look la 0 = some (.ref 170)) (hr : RM h0 h m) (ps1 : (s1 = 0 ∨ s1 = 1)) (hD : m_afterFor_89 g s1 m = some mF) : Wq O F (Cd O F rp_P dd) (6, 0, rw_X12_afterFor, []) (rx_at rw_X12_afterFor 89) la [wvi s1, .ref 170] h (QN h0 mF) := by
  unfold m_afterFor_89 at hD
  obtain ⟨m125, q128, hD⟩ := nb_of hD
  refine wm_cvN hr (c_keep (by omega) hr (InI_z ps1) q128) rfl rfl rfl (fun h126 hr127 => ?_)
  refine wq_aload_n k0 rfl ?_
  obtain ⟨m129, q132, hD⟩ := nb_of hD
  refine wm_cvN hr127 (c_take (by omega) hr127 q132) rfl rfl rfl (fun h130 hr131 => ?_)
  refine wq_aload_n k0 rfl ?_
  refine wq_bipush (by decide) rfl ?_
  obtain ⟨m133, q136, hD⟩ := nb_of hD
  refine wm_cvN hr131 (c_later (by omega) hr131 ⟨by decide, by decide⟩ q136) rfl rfl rfl (fun h134 hr135 => ?_)
  refine wq_aload_n k0 rfl ?_
  refine wq_bipush (by decide) rfl ?_
  obtain ⟨m137, q140, hD⟩ := nb_of hD
  refine wm_cvN hr135 (c_later (by omega) hr135 ⟨by decide, by decide⟩ q140) rfl rfl rfl (fun h138 hr139 => ?_)
  refine wq_goto rfl rfl ?_
  exact c_m_afterFor_318_b hd hr139 hD
def m_afterFor_74 (g : Nat) (m : MS) : Option MS := if (m 10 0) = 46 then m_afterFor_89 g 1 m else m_afterFor_89 g 0 m
theorem c_m_afterFor_74_b {dd : Nat} (hd : 4 ≤ dd) {g : Nat} {h0 : RHeap} {mF : MS} {la : RLoc} {h : RHeap} {m : MS} (k0 : rx_look la 0 = some (.ref 170)) (hr : RM h0 h m) (hD : m_afterFor_74 g m = some mF) : Wq O F (Cd O F rp_P dd) (6, 0, rw_X12_afterFor, []) (rx_at rw_X12_afterFor 74) la [] h (QN h0 mF) := by
  unfold m_afterFor_74 at hD
  refine wq_aload_n k0 rfl ?_
  refine wq_aload_n k0 rfl ?_
  refine wm_gfi hr rfl rfl (fun pp123 => ?_)
  refine wq_bipush (by decide) rfl ?_
  refine wq_icmp_ne pp123 ⟨by decide, by decide⟩ rfl rfl rfl (fun c124 => ?_) (fun c124 => ?_)
  · rw [if_neg c124] at hD
    refine wq_iconst rfl ?_
    exact c_m_afterFor_89_b hd k0 hr (Or.inl rfl) hD
  · rw [if_pos c124] at hD
    refine wq_iconst rfl ?_
    refine wq_goto rfl rfl ?_
    exact c_m_afterFor_89_b hd k0 hr (Or.inr rfl) hD
def m_afterFor_37 (g : Nat) (s1 : Int) (m : MS) : Option MS := nb (m_fits s1 m) (fun m108 => if (m108 6 0) = 0 then if (m108 10 0) = 45 then m_afterFor_74 g m108 else if (m108 10 0) = 46 then m_afterFor_74 g m108 else nb (m_fail 1 (m108 9 0) m108) (fun m119 => m_afterFor_74 g m119) else m_afterFor_74 g m108)
theorem c_m_afterFor_37_b {dd : Nat} (hd : 4 ≤ dd) {g : Nat} {h0 : RHeap} {mF : MS} {la : RLoc} {h : RHeap} {m : MS} {s1 : Int} (k0 : rx_look la 0 = some (.ref 170)) (hr : RM h0 h m) (ps1 : (s1 = 0 ∨ s1 = 1)) (hD : m_afterFor_37 g s1 m = some mF) : Wq O F (Cd O F rp_P dd) (6, 0, rw_X12_afterFor, []) (rx_at rw_X12_afterFor 37) la [wvi s1, .ref 170] h (QN h0 mF) := by
  unfold m_afterFor_37 at hD
  obtain ⟨m108, q111, hD⟩ := nb_of hD
  refine wm_cvN hr (c_fits (by omega) hr ps1 q111) rfl rfl rfl (fun h109 hr110 => ?_)
  refine wq_aload_n k0 rfl ?_
  refine wm_gfi hr110 rfl rfl (fun pp112 => ?_)
  refine wq_if_ne pp112 rfl rfl rfl (fun c113 => ?_) (fun c113 => ?_)
  · rw [if_neg c113] at hD
    exact c_m_afterFor_74_b hd k0 hr110 hD
  · rw [if_pos c113] at hD
    refine wq_aload_n k0 rfl ?_
    refine wm_gfi hr110 rfl rfl (fun pp114 => ?_)
    refine wq_bipush (by decide) rfl ?_
    refine wq_icmp_eq pp114 ⟨by decide, by decide⟩ rfl rfl rfl (fun c115 => ?_) (fun c115 => ?_)
    · rw [if_pos c115] at hD
      exact c_m_afterFor_74_b hd k0 hr110 hD
    · rw [if_neg c115] at hD
      refine wq_aload_n k0 rfl ?_
      refine wm_gfi hr110 rfl rfl (fun pp116 => ?_)
      refine wq_bipush (by decide) rfl ?_
      refine wq_icmp_eq pp116 ⟨by decide, by decide⟩ rfl rfl rfl (fun c117 => ?_) (fun c117 => ?_)
      · rw [if_pos c117] at hD
        exact c_m_afterFor_74_b hd k0 hr110 hD
      · rw [if_neg c117] at hD
        refine wq_aload_n k0 rfl ?_
        refine wq_iconst rfl ?_
        refine wq_aload_n k0 rfl ?_
        refine wm_gfi hr110 rfl rfl (fun pp118 => ?_)
        obtain ⟨m119, q122, hD⟩ := nb_of hD
        refine wm_cvN hr110 (c_fail (by omega) hr110 ⟨by decide, by decide⟩ pp118 q122) rfl rfl rfl (fun h120 hr121 => ?_)
        exact c_m_afterFor_74_b hd k0 hr121 hD
def m_afterFor (g : Nat) (l1 : Int) (m : MS) : Option MS := if l1 = 18 then ck (i32 ((m 67 0) - 1)) 8000 (ck (m 66 (i32 ((m 67 0) - 1))) 140 (if (m 62 0) = (m 20 (m 66 (i32 ((m 67 0) - 1)))) then m_afterFor_37 g 1 m else m_afterFor_37 g 0 m)) else if l1 = 19 then ck (i32 ((m 67 0) - 1)) 8000 (ck (i32 ((m 67 0) - 2)) 8000 (ck (i32 ((m 67 0) - 3)) 8000 (ck (m 66 (i32 ((m 67 0) - 2))) 140 (if (m 62 0) = (m 20 (m 66 (i32 ((m 67 0) - 2)))) then m_afterFor_173 g (m 66 (i32 ((m 67 0) - 1))) (m 66 (i32 ((m 67 0) - 2))) (m 66 (i32 ((m 67 0) - 3))) 1 m else m_afterFor_173 g (m 66 (i32 ((m 67 0) - 1))) (m 66 (i32 ((m 67 0) - 2))) (m 66 (i32 ((m 67 0) - 3))) 0 m)))) else vb (m_back m) (fun v7 m3 => vb (m_back m3) (fun v17 m13 => vb (m_back m13) (fun v28 m24 => wlet (mset m24 67 0 (i32 ((m24 67 0) - 2))) (fun m37 => vb (m_emit 24 v7 v28 0 m37) (fun v45 m41 => ck v17 6000 (wlet (mset m41 59 v17 (m41 57 0)) (fun m55 => nb (m_write0 25 m55) (fun m59 => m_afterFor_318 g m59))))))))
theorem c_m_afterFor_b {dd : Nat} (hd : 4 ≤ dd) {g : Nat} {h0 : RHeap} {mF : MS} {la : RLoc} {h : RHeap} {m : MS} {l1 : Int} (k0 : rx_look la 0 = some (.ref 170)) (k1 : rx_look la 1 = some (wvi l1)) (hr : RM h0 h m) (pl1 : InI l1) (hD : m_afterFor g l1 m = some mF) : Wq O F (Cd O F rp_P dd) (6, 0, rw_X12_afterFor, []) (rx_at rw_X12_afterFor 0) la [] h (QN h0 mF) := by
  unfold m_afterFor at hD
  refine wq_iload_n k1 rfl ?_
  refine wq_bipush (by decide) rfl ?_
  refine wq_icmp_ne pl1 ⟨by decide, by decide⟩ rfl rfl rfl (fun c1 => ?_) (fun c1 => ?_)
  · rw [if_neg c1] at hD
    refine wq_iload_n k1 rfl ?_
    refine wq_bipush (by decide) rfl ?_
    refine wq_icmp_ne pl1 ⟨by decide, by decide⟩ rfl rfl rfl (fun c2 => ?_) (fun c2 => ?_)
    · rw [if_neg c2] at hD
      refine wq_aload_n k0 rfl ?_
      obtain ⟨v7, m3, q6, hD⟩ := vb_of hD
      refine wm_cvI hr (c_back (by omega) hr q6) rfl rfl rfl (fun h4 hr5 pp8 => ?_)
      refine wl_istore_n rfl rfl (fun la9 kk10 t11 => ?_)
      have kk12 := t11 0 _ (by decide) (Or.inr rfl) k0
      refine wq_aload_n kk12 rfl ?_
      obtain ⟨v17, m13, q16, hD⟩ := vb_of hD
      refine wm_cvI hr5 (c_back (by omega) hr5 q16) rfl rfl rfl (fun h14 hr15 pp18 => ?_)
      refine wl_istore_n rfl rfl (fun la19 kk20 t21 => ?_)
      have kk22 := t21 0 _ (by decide) (Or.inr rfl) kk12
      have kk23 := t21 2 _ (by decide) (Or.inr rfl) kk10
      refine wq_aload_n kk22 rfl ?_
      obtain ⟨v28, m24, q27, hD⟩ := vb_of hD
      refine wm_cvI hr15 (c_back (by omega) hr15 q27) rfl rfl rfl (fun h25 hr26 pp29 => ?_)
      refine wl_istore rfl rfl (fun la30 kk31 t32 => ?_)
      have kk33 := t32 0 _ (by decide) (Or.inr rfl) kk22
      have kk34 := t32 2 _ (by decide) (Or.inr rfl) kk23
      have kk35 := t32 3 _ (by decide) (Or.inr rfl) kk20
      refine wq_aload_n kk33 rfl ?_
      refine wq_aload_n kk33 rfl ?_
      refine wm_gfi hr26 rfl rfl (fun pp36 => ?_)
      refine wq_iconst rfl ?_
      refine wq_isub rfl ?_
      obtain ⟨m37, e38, hD⟩ := wlet_of hD
      refine wm_pfi hr26 rfl rfl (InI_i32 _) rfl (fun h39 hr40 => ?_)
      rw [← e38] at hr40
      refine wq_aload_n kk33 rfl ?_
      refine wq_bipush (by decide) rfl ?_
      refine wq_iload_n kk34 rfl ?_
      refine wq_iload kk31 rfl ?_
      refine wq_iconst rfl ?_
      obtain ⟨v45, m41, q44, hD⟩ := vb_of hD
      refine wm_cvI hr40 (c_emit (by omega) hr40 ⟨by decide, by decide⟩ pp8 pp29 ⟨by decide, by decide⟩ q44) rfl rfl rfl (fun h42 hr43 pp46 => ?_)
      refine wl_istore rfl rfl (fun la47 kk48 t49 => ?_)
      have kk50 := t49 0 _ (by decide) (Or.inr rfl) kk33
      have kk51 := t49 3 _ (by decide) (Or.inr rfl) kk35
      refine wq_aload_n kk50 rfl ?_
      refine wm_gfa (c := 0) hr43 rfl rfl ?_
      refine wq_iload_n kk51 rfl ?_
      refine wq_aload_n kk50 rfl ?_
      refine wm_gfi hr43 rfl rfl (fun pp52 => ?_)
      obtain ⟨g53, g54, hD⟩ := ck_of hD
      obtain ⟨m55, e56, hD⟩ := wlet_of hD
      refine wm_asi (f := 59) hr43 rfl pp18 g53 g54 pp52 rfl (fun h57 hr58 => ?_)
      rw [← e56] at hr58
      refine wq_aload_n kk50 rfl ?_
      refine wq_bipush (by decide) rfl ?_
      obtain ⟨m59, q62, hD⟩ := nb_of hD
      refine wm_cvN hr58 (c_write0 (by omega) hr58 ⟨by decide, by decide⟩ q62) rfl rfl rfl (fun h60 hr61 => ?_)
      exact c_m_afterFor_318_b hd hr61 hD
    · rw [if_pos c2] at hD
      refine wq_aload_n k0 rfl ?_
      refine wm_gfa (c := 0) hr rfl rfl ?_
      refine wq_aload_n k0 rfl ?_
      refine wm_gfi hr rfl rfl (fun pp63 => ?_)
      refine wq_iconst rfl ?_
      refine wq_isub rfl ?_
      obtain ⟨g64, g65, hD⟩ := ck_of hD
      refine wm_ali (f := 66) hr rfl (InI_i32 _) g64 g65 rfl (fun pp66 => ?_)
      refine wl_istore_n rfl rfl (fun la67 kk68 t69 => ?_)
      have kk70 := t69 0 _ (by decide) (Or.inr rfl) k0
      refine wq_aload_n kk70 rfl ?_
      refine wm_gfa (c := 0) hr rfl rfl ?_
      refine wq_aload_n kk70 rfl ?_
      refine wm_gfi hr rfl rfl (fun pp71 => ?_)
      refine wq_iconst rfl ?_
      refine wq_isub rfl ?_
      obtain ⟨g72, g73, hD⟩ := ck_of hD
      refine wm_ali (f := 66) hr rfl (InI_i32 _) g72 g73 rfl (fun pp74 => ?_)
      refine wl_istore_n rfl rfl (fun la75 kk76 t77 => ?_)
      have kk78 := t77 0 _ (by decide) (Or.inr rfl) kk70
      have kk79 := t77 2 _ (by decide) (Or.inr rfl) kk68
      refine wq_aload_n kk78 rfl ?_
      refine wm_gfa (c := 0) hr rfl rfl ?_
      refine wq_aload_n kk78 rfl ?_
      refine wm_gfi hr rfl rfl (fun pp80 => ?_)
      refine wq_iconst rfl ?_
      refine wq_isub rfl ?_
      obtain ⟨g81, g82, hD⟩ := ck_of hD
      refine wm_ali (f := 66) hr rfl (InI_i32 _) g81 g82 rfl (fun pp83 => ?_)
      refine wl_istore rfl rfl (fun la84 kk85 t86 => ?_)
      have kk87 := t86 0 _ (by decide) (Or.inr rfl) kk78
      have kk88 := t86 2 _ (by decide) (Or.inr rfl) kk79
      have kk89 := t86 3 _ (by decide) (Or.inr rfl) kk76
      refine wq_aload_n kk87 rfl ?_
      refine wq_aload_n kk87 rfl ?_
      refine wm_gfi hr rfl rfl (fun pp90 => ?_)
      refine wq_aload_n kk87 rfl ?_
      refine wm_gfa (c := 0) hr rfl rfl ?_
      refine wq_iload_n kk89 rfl ?_
      obtain ⟨g91, g92, hD⟩ := ck_of hD
      refine wm_ali (f := 20) hr rfl pp74 g91 g92 rfl (fun pp93 => ?_)
      refine wq_icmp_ne pp90 pp93 rfl rfl rfl (fun c94 => ?_) (fun c94 => ?_)
      · rw [if_neg c94] at hD
        refine wq_iconst rfl ?_
        exact c_m_afterFor_173_b hd kk87 kk88 kk89 kk85 hr pp66 pp74 pp83 (Or.inl rfl) hD
      · rw [if_pos c94] at hD
        refine wq_iconst rfl ?_
        refine wq_goto rfl rfl ?_
        exact c_m_afterFor_173_b hd kk87 kk88 kk89 kk85 hr pp66 pp74 pp83 (Or.inr rfl) hD
  · rw [if_pos c1] at hD
    refine wq_aload_n k0 rfl ?_
    refine wm_gfa (c := 0) hr rfl rfl ?_
    refine wq_aload_n k0 rfl ?_
    refine wm_gfi hr rfl rfl (fun pp95 => ?_)
    refine wq_iconst rfl ?_
    refine wq_isub rfl ?_
    obtain ⟨g96, g97, hD⟩ := ck_of hD
    refine wm_ali (f := 66) hr rfl (InI_i32 _) g96 g97 rfl (fun pp98 => ?_)
    refine wl_istore_n rfl rfl (fun la99 kk100 t101 => ?_)
    have kk102 := t101 0 _ (by decide) (Or.inr rfl) k0
    refine wq_aload_n kk102 rfl ?_
    refine wq_aload_n kk102 rfl ?_
    refine wm_gfi hr rfl rfl (fun pp103 => ?_)
    refine wq_aload_n kk102 rfl ?_
    refine wm_gfa (c := 0) hr rfl rfl ?_
    refine wq_iload_n kk100 rfl ?_
    obtain ⟨g104, g105, hD⟩ := ck_of hD
    refine wm_ali (f := 20) hr rfl pp98 g104 g105 rfl (fun pp106 => ?_)
    refine wq_icmp_ne pp103 pp106 rfl rfl rfl (fun c107 => ?_) (fun c107 => ?_)
    · rw [if_neg c107] at hD
      refine wq_iconst rfl ?_
      exact c_m_afterFor_37_b hd kk102 hr (Or.inl rfl) hD
    · rw [if_pos c107] at hD
      refine wq_iconst rfl ?_
      refine wq_goto rfl rfl ?_
      exact c_m_afterFor_37_b hd kk102 hr (Or.inr rfl) hD
theorem c_afterFor {d : Nat} (hd : 5 ≤ d) {g : Nat} {h0 h : RHeap} {m : MS} {l1 : Int} {mF : MS} (hr : RM h0 h m) (pl1 : InI l1) (hD : m_afterFor g l1 m = some mF) : Cq (Cd O F rp_P d) 198 [.ref 170, wvi l1] h (QN h0 mF) := by
  refine cq_of (I := (6, 0, rw_X12_afterFor, [])) rfl rfl (by omega) ?_
  exact c_m_afterFor_b (by omega) rfl rfl hr pl1 hD
end Dec
