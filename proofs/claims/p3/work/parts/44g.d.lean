section Dec
variable {O : ROld} {F : RFacts}
def m_otherStep_363 (g : Nat) (m : MS) : Option MS := some m
theorem c_m_otherStep_363_b {dd : Nat} (hd : 5 ≤ dd) {g : Nat} {h0 : RHeap} {mF : MS} {la : RLoc} {h : RHeap} {m : MS} (hr : RM h0 h m) (hD : m_otherStep_363 g m = some mF) : Wq O F (Cd O F rp_P dd) (5, 0, rw_X12_otherStep, []) (rx_at rw_X12_otherStep 363) la [] h (QN h0 mF) := by
  unfold m_otherStep_363 at hD
  cases hD
  exact wq_return rfl ⟨_, rfl, hr⟩
def m_otherStep_247 (g : Nat) (s1 : Int) (m : MS) : Option MS := vb (m_truth s1 m) (fun v172 m168 => nb (m_push v172 m168) (fun m174 => m_otherStep_363 g m174))
theorem c_m_otherStep_247_b {dd : Nat} (hd : 5 ≤ dd) {g : Nat} {h0 : RHeap} {mF : MS} {la : RLoc} {h : RHeap} {m : MS} {s1 : Int} (hr : RM h0 h m) (ps1 : (s1 = 0 ∨ s1 = 1)) (hD : m_otherStep_247 g s1 m = some mF) : Wq O F (Cd O F rp_P dd) (5, 0, rw_X12_otherStep, []) (rx_at rw_X12_otherStep 247) la [wvi s1, .ref 170] h (QN h0 mF) := by
  unfold m_otherStep_247 at hD
  obtain ⟨v172, m168, q171, hD⟩ := vb_of hD
  refine wm_csL (fun _ _ => rfl) (c_truth (by omega) hr ps1 q171) rfl rfl rfl (fun h169 hr170 pp173 => ?_)
  obtain ⟨m174, q177, hD⟩ := nb_of hD
  refine wm_cvN hr170 (c_push (by omega) hr170 pp173 q177) rfl rfl rfl (fun h175 hr176 => ?_)
  refine wq_goto rfl rfl ?_
  exact c_m_otherStep_363_b hd hr176 hD
def m_otherStep_287 (g : Nat) (s1 : Int) (m : MS) : Option MS := vb (m_truth s1 m) (fun v162 m158 => nb (m_push v162 m158) (fun m164 => m_otherStep_363 g m164))
theorem c_m_otherStep_287_b {dd : Nat} (hd : 5 ≤ dd) {g : Nat} {h0 : RHeap} {mF : MS} {la : RLoc} {h : RHeap} {m : MS} {s1 : Int} (hr : RM h0 h m) (ps1 : (s1 = 0 ∨ s1 = 1)) (hD : m_otherStep_287 g s1 m = some mF) : Wq O F (Cd O F rp_P dd) (5, 0, rw_X12_otherStep, []) (rx_at rw_X12_otherStep 287) la [wvi s1, .ref 170] h (QN h0 mF) := by
  unfold m_otherStep_287 at hD
  obtain ⟨v162, m158, q161, hD⟩ := vb_of hD
  refine wm_csL (fun _ _ => rfl) (c_truth (by omega) hr ps1 q161) rfl rfl rfl (fun h159 hr160 pp163 => ?_)
  obtain ⟨m164, q167, hD⟩ := nb_of hD
  refine wm_cvN hr160 (c_push (by omega) hr160 pp163 q167) rfl rfl rfl (fun h165 hr166 => ?_)
  refine wq_goto rfl rfl ?_
  exact c_m_otherStep_363_b hd hr166 hD
def m_otherStep_282 (g : Nat) (m : MS) : Option MS := m_otherStep_287 g 1 m
theorem c_m_otherStep_282_b {dd : Nat} (hd : 5 ≤ dd) {g : Nat} {h0 : RHeap} {mF : MS} {la : RLoc} {h : RHeap} {m : MS} (hr : RM h0 h m) (hD : m_otherStep_282 g m = some mF) : Wq O F (Cd O F rp_P dd) (5, 0, rw_X12_otherStep, []) (rx_at rw_X12_otherStep 282) la [.ref 170] h (QN h0 mF) := by
  unfold m_otherStep_282 at hD
  refine wq_iconst rfl ?_
  refine wq_goto rfl rfl ?_
  exact c_m_otherStep_287_b hd hr (Or.inr rfl) hD
def m_otherStep_318 (g : Nat) : Nat → Int → Int → Int → MS → Option MS
  | 0, _, _, _, _ => none
  | n + 1, l1, l2, l3, m => ck l1 6000 (if l3 < (m 72 l1) then ck (i32 (l2 + l3)) 1500 (nb (m_putByte (m 79 (i32 (l2 + l3))) m) (fun m148 => m_otherStep_318 g n l1 l2 (i32 (l3 + 1)) m148)) else m_otherStep_363 g m)
theorem c_m_otherStep_318 {dd : Nat} (hd : 5 ≤ dd) {g : Nat} {h0 : RHeap} {mF : MS} : ∀ (n : Nat) {la : RLoc} {h : RHeap} {m : MS} {l1 l2 l3 : Int}, rx_look la 0 = some (.ref 170) → rx_look la 1 = some (wvi l1) → rx_look la 2 = some (wvi l2) → rx_look la 3 = some (wvi l3) → RM h0 h m → InI l1 → InI l2 → InI l3 → m_otherStep_318 g n l1 l2 l3 m = some mF → Wq O F (Cd O F rp_P dd) (5, 0, rw_X12_otherStep, []) (rx_at rw_X12_otherStep 318) la [] h (QN h0 mF) := by
  intro n
  induction n with
  | zero =>
    intro la h m l1 l2 l3 k0 k1 k2 k3 hr pl1 pl2 pl3 hD
    unfold m_otherStep_318 at hD
    cases hD
  | succ n ih =>
    intro la h m l1 l2 l3 k0 k1 k2 k3 hr pl1 pl2 pl3 hD
    unfold m_otherStep_318 at hD
    refine wq_iload_n k3 rfl ?_
    refine wq_aload_n k0 rfl ?_
    refine wm_gfa (c := 0) hr rfl rfl ?_
    refine wq_iload_n k1 rfl ?_
    obtain ⟨g141, g142, hD⟩ := ck_of hD
    refine wm_ali (f := 72) hr rfl pl1 g141 g142 rfl (fun pp143 => ?_)
    refine wq_icmp_ge pl3 pp143 rfl rfl rfl (fun c144 => ?_) (fun c144 => ?_)
    · rw [if_neg (Int.not_lt.mpr c144)] at hD
      refine wq_goto rfl rfl ?_
      exact c_m_otherStep_363_b hd hr hD
    · rw [if_pos c144] at hD
      refine wq_aload_n k0 rfl ?_
      refine wq_aload_n k0 rfl ?_
      refine wm_gfa (c := 0) hr rfl rfl ?_
      refine wq_iload_n k2 rfl ?_
      refine wq_iload_n k3 rfl ?_
      refine wq_iadd rfl ?_
      obtain ⟨g145, g146, hD⟩ := ck_of hD
      refine wm_ali (f := 79) hr rfl (InI_i32 _) g145 g146 rfl (fun pp147 => ?_)
      obtain ⟨m148, q151, hD⟩ := nb_of hD
      refine wm_cvN hr (c_putByte (by omega) hr pp147 q151) rfl rfl rfl (fun h149 hr150 => ?_)
      refine wl_iinc k3 rfl rfl (fun la152 kk153 t154 => ?_)
      have kk155 := t154 0 _ (by decide) (Or.inr rfl) k0
      have kk156 := t154 1 _ (by decide) (Or.inr rfl) k1
      have kk157 := t154 2 _ (by decide) (Or.inr rfl) k2
      refine wq_goto rfl rfl ?_
      exact ih kk155 kk156 kk157 kk153 hr150 pl1 pl2 (InI_i32 _) hD
def m_otherStep_358 (g : Nat) (m : MS) : Option MS := nb (m_stop 4 m) (fun m137 => m_otherStep_363 g m137)
theorem c_m_otherStep_358_b {dd : Nat} (hd : 5 ≤ dd) {g : Nat} {h0 : RHeap} {mF : MS} {la : RLoc} {h : RHeap} {m : MS} (k0 : rx_look la 0 = some (.ref 170)) (hr : RM h0 h m) (hD : m_otherStep_358 g m = some mF) : Wq O F (Cd O F rp_P dd) (5, 0, rw_X12_otherStep, []) (rx_at rw_X12_otherStep 358) la [] h (QN h0 mF) := by
  unfold m_otherStep_358 at hD
  refine wq_aload_n k0 rfl ?_
  refine wq_iconst rfl ?_
  obtain ⟨m137, q140, hD⟩ := nb_of hD
  refine wm_cvN hr (c_stop (by omega) hr ⟨by decide, by decide⟩ q140) rfl rfl rfl (fun h138 hr139 => ?_)
  exact c_m_otherStep_363_b hd hr139 hD
def m_otherStep (g : Nat) (l1 : Int) (m : MS) : Option MS := ck l1 6000 (ck l1 6000 (if (m 70 l1) = 9 then vb (m_pop m) (fun v17 m13 => nb (m_push (i32 (-(i32 v17))) m13) (fun m19 => m_otherStep_363 g m19)) else if (m 70 l1) = 10 then ck l1 6000 (nb (m_join (m 71 l1) (m 72 l1) m) (fun m27 => m_otherStep_363 g m27)) else if (m 70 l1) = 11 then vb (m_pop m) (fun v36 m32 => nb (m_push (i64 (1 - v36)) m32) (fun m38 => m_otherStep_363 g m38)) else if (m 70 l1) = 12 then nb (m_push 0 m) (fun m43 => m_otherStep_363 g m43) else if (m 70 l1) = 13 then vb (m_pop m) (fun v52 m48 => vb (m_isOut v52 0 63 m48) (fun v62 m58 => vb (m_isWrong v62 3 m58) (fun v68 m64 => if v68 = 0 then vb (m_pop m64) (fun v75 m71 => nb (m_push (l_or v75 (l_shl 1 (i32 v52))) m71) (fun m77 => m_otherStep_363 g m77)) else m_otherStep_363 g m64))) else if (m 70 l1) = 14 then nb (m_addRow g m) (fun m82 => m_otherStep_363 g m82) else if (m 70 l1) = 15 then ck l1 6000 (nb (m_apply (m 71 l1) (m 72 l1) m) (fun m90 => m_otherStep_363 g m90)) else if (m 70 l1) = 16 then if (m 82 0) = (m 81 0) then m_otherStep_247 g 1 m else m_otherStep_247 g 0 m else if (m 70 l1) = 17 then if (m 82 0) = (m 81 0) then m_otherStep_282 g m else ck (m 82 0) 1500 (if (m 80 (m 82 0)) = 10 then m_otherStep_282 g m else m_otherStep_287 g 0 m) else if (m 70 l1) = 29 then nb (m_takeIn g (m 71 l1) m) (fun m108 => m_otherStep_363 g m108) else if (m 70 l1) = 30 then vb (m_pop m) (fun v117 m113 => nb (m_putOut g (m 71 l1) v117 m113) (fun m119 => m_otherStep_363 g m119)) else if (m 70 l1) = 31 then m_otherStep_318 g g l1 (m 71 l1) 0 m else if (m 70 l1) = 32 then nb (m_putByte 10 m) (fun m131 => m_otherStep_363 g m131) else m_otherStep_358 g m))
theorem c_m_otherStep_b {dd : Nat} (hd : 5 ≤ dd) {g : Nat} {h0 : RHeap} {mF : MS} {la : RLoc} {h : RHeap} {m : MS} {l1 : Int} (k0 : rx_look la 0 = some (.ref 170)) (k1 : rx_look la 1 = some (wvi l1)) (hr : RM h0 h m) (pl1 : InI l1) (hD : m_otherStep g l1 m = some mF) : Wq O F (Cd O F rp_P dd) (5, 0, rw_X12_otherStep, []) (rx_at rw_X12_otherStep 0) la [] h (QN h0 mF) := by
  unfold m_otherStep at hD
  refine wq_aload_n k0 rfl ?_
  refine wm_gfa (c := 0) hr rfl rfl ?_
  refine wq_iload_n k1 rfl ?_
  obtain ⟨g1, g2, hD⟩ := ck_of hD
  refine wm_ali (f := 71) hr rfl pl1 g1 g2 rfl (fun pp3 => ?_)
  refine wl_istore_n rfl rfl (fun la4 kk5 t6 => ?_)
  have kk7 := t6 0 _ (by decide) (Or.inr rfl) k0
  have kk8 := t6 1 _ (by decide) (Or.inr rfl) k1
  refine wq_aload_n kk7 rfl ?_
  refine wm_gfa (c := 0) hr rfl rfl ?_
  refine wq_iload_n kk8 rfl ?_
  obtain ⟨g9, g10, hD⟩ := ck_of hD
  refine wm_ali (f := 70) hr rfl pl1 g9 g10 rfl (fun pp11 => ?_)
  by_cases c12 : (m 70 l1) = 9
  · rw [if_pos c12] at hD
    refine wq_tsw_in (j := 0) pp11 (by omega) (by omega) (by omega) rfl rfl rfl ?_
    refine wq_aload_n kk7 rfl ?_
    refine wq_aload_n kk7 rfl ?_
    obtain ⟨v17, m13, q16, hD⟩ := vb_of hD
    refine wm_cvL hr (c_pop (by omega) hr q16) rfl rfl rfl (fun h14 hr15 pp18 => ?_)
    refine wq_l2i rfl ?_
    refine wq_ineg rfl ?_
    refine wq_i2l (InI_i32 _) rfl ?_
    obtain ⟨m19, q22, hD⟩ := nb_of hD
    refine wm_cvN hr15 (c_push (by omega) hr15 (InI.toL (InI_i32 _)) q22) rfl rfl rfl (fun h20 hr21 => ?_)
    refine wq_goto rfl rfl ?_
    exact c_m_otherStep_363_b hd hr21 hD
  rw [if_neg c12] at hD
  by_cases c23 : (m 70 l1) = 10
  · rw [if_pos c23] at hD
    refine wq_tsw_in (j := 1) pp11 (by omega) (by omega) (by omega) rfl rfl rfl ?_
    refine wq_aload_n kk7 rfl ?_
    refine wq_iload_n kk5 rfl ?_
    refine wq_aload_n kk7 rfl ?_
    refine wm_gfa (c := 0) hr rfl rfl ?_
    refine wq_iload_n kk8 rfl ?_
    obtain ⟨g24, g25, hD⟩ := ck_of hD
    refine wm_ali (f := 72) hr rfl pl1 g24 g25 rfl (fun pp26 => ?_)
    obtain ⟨m27, q30, hD⟩ := nb_of hD
    refine wm_cvN hr (c_join (by omega) hr pp3 pp26 q30) rfl rfl rfl (fun h28 hr29 => ?_)
    refine wq_goto rfl rfl ?_
    exact c_m_otherStep_363_b hd hr29 hD
  rw [if_neg c23] at hD
  by_cases c31 : (m 70 l1) = 11
  · rw [if_pos c31] at hD
    refine wq_tsw_in (j := 2) pp11 (by omega) (by omega) (by omega) rfl rfl rfl ?_
    refine wq_aload_n kk7 rfl ?_
    refine wq_lconst (x := 1) (by decide) rfl ?_
    refine wq_aload_n kk7 rfl ?_
    obtain ⟨v36, m32, q35, hD⟩ := vb_of hD
    refine wm_cvL hr (c_pop (by omega) hr q35) rfl rfl rfl (fun h33 hr34 pp37 => ?_)
    refine wq_lsub rfl ?_
    obtain ⟨m38, q41, hD⟩ := nb_of hD
    refine wm_cvN hr34 (c_push (by omega) hr34 (InL_i64 _) q41) rfl rfl rfl (fun h39 hr40 => ?_)
    refine wq_goto rfl rfl ?_
    exact c_m_otherStep_363_b hd hr40 hD
  rw [if_neg c31] at hD
  by_cases c42 : (m 70 l1) = 12
  · rw [if_pos c42] at hD
    refine wq_tsw_in (j := 3) pp11 (by omega) (by omega) (by omega) rfl rfl rfl ?_
    refine wq_aload_n kk7 rfl ?_
    refine wq_lconst (x := 0) (by decide) rfl ?_
    obtain ⟨m43, q46, hD⟩ := nb_of hD
    refine wm_cvN hr (c_push (by omega) hr ⟨by decide, by decide⟩ q46) rfl rfl rfl (fun h44 hr45 => ?_)
    refine wq_goto rfl rfl ?_
    exact c_m_otherStep_363_b hd hr45 hD
  rw [if_neg c42] at hD
  by_cases c47 : (m 70 l1) = 13
  · rw [if_pos c47] at hD
    refine wq_tsw_in (j := 4) pp11 (by omega) (by omega) (by omega) rfl rfl rfl ?_
    refine wq_aload_n kk7 rfl ?_
    obtain ⟨v52, m48, q51, hD⟩ := vb_of hD
    refine wm_cvL hr (c_pop (by omega) hr q51) rfl rfl rfl (fun h49 hr50 pp53 => ?_)
    refine wl_lstore_n rfl rfl (fun la54 kk55 t56 => ?_)
    have kk57 := t56 0 _ ⟨by decide, by decide⟩ (Or.inr rfl) kk7
    refine wq_aload_n kk57 rfl ?_
    refine wq_lload_n kk55 rfl ?_
    refine wq_iconst rfl ?_
    refine wq_bipush (by decide) rfl ?_
    obtain ⟨v62, m58, q61, hD⟩ := vb_of hD
    refine wm_csZ (fun _ _ => rfl) (c_isOut (by omega) hr50 pp53 ⟨by decide, by decide⟩ ⟨by decide, by decide⟩ q61) rfl rfl rfl (fun h59 hr60 pp63 => ?_)
    refine wq_iconst rfl ?_
    obtain ⟨v68, m64, q67, hD⟩ := vb_of hD
    refine wm_cvZ hr60 (c_isWrong (by omega) hr60 pp63 ⟨by decide, by decide⟩ q67) rfl rfl rfl (fun h65 hr66 pp69 => ?_)
    refine wq_if_ne (InI_z pp69) rfl rfl rfl (fun c70 => ?_) (fun c70 => ?_)
    · rw [if_neg c70] at hD
      exact c_m_otherStep_363_b hd hr66 hD
    · rw [if_pos c70] at hD
      refine wq_aload_n kk57 rfl ?_
      refine wq_aload_n kk57 rfl ?_
      obtain ⟨v75, m71, q74, hD⟩ := vb_of hD
      refine wm_cvL hr66 (c_pop (by omega) hr66 q74) rfl rfl rfl (fun h72 hr73 pp76 => ?_)
      refine wq_lconst (x := 1) (by decide) rfl ?_
      refine wq_lload_n kk55 rfl ?_
      refine wq_l2i rfl ?_
      refine wq_lshl rfl ?_
      refine wq_lor rfl ?_
      obtain ⟨m77, q80, hD⟩ := nb_of hD
      refine wm_cvN hr73 (c_push (by omega) hr73 (InL_toInt _) q80) rfl rfl rfl (fun h78 hr79 => ?_)
      refine wq_goto rfl rfl ?_
      exact c_m_otherStep_363_b hd hr79 hD
  rw [if_neg c47] at hD
  by_cases c81 : (m 70 l1) = 14
  · rw [if_pos c81] at hD
    refine wq_tsw_in (j := 5) pp11 (by omega) (by omega) (by omega) rfl rfl rfl ?_
    refine wq_aload_n kk7 rfl ?_
    obtain ⟨m82, q85, hD⟩ := nb_of hD
    refine wm_cvN hr (c_addRow (by omega) hr q85) rfl rfl rfl (fun h83 hr84 => ?_)
    refine wq_goto rfl rfl ?_
    exact c_m_otherStep_363_b hd hr84 hD
  rw [if_neg c81] at hD
  by_cases c86 : (m 70 l1) = 15
  · rw [if_pos c86] at hD
    refine wq_tsw_in (j := 6) pp11 (by omega) (by omega) (by omega) rfl rfl rfl ?_
    refine wq_aload_n kk7 rfl ?_
    refine wq_iload_n kk5 rfl ?_
    refine wq_aload_n kk7 rfl ?_
    refine wm_gfa (c := 0) hr rfl rfl ?_
    refine wq_iload_n kk8 rfl ?_
    obtain ⟨g87, g88, hD⟩ := ck_of hD
    refine wm_ali (f := 72) hr rfl pl1 g87 g88 rfl (fun pp89 => ?_)
    obtain ⟨m90, q93, hD⟩ := nb_of hD
    refine wm_cvN hr (c_apply (by omega) hr pp3 pp89 q93) rfl rfl rfl (fun h91 hr92 => ?_)
    refine wq_goto rfl rfl ?_
    exact c_m_otherStep_363_b hd hr92 hD
  rw [if_neg c86] at hD
  by_cases c94 : (m 70 l1) = 16
  · rw [if_pos c94] at hD
    refine wq_tsw_in (j := 7) pp11 (by omega) (by omega) (by omega) rfl rfl rfl ?_
    refine wq_aload_n kk7 rfl ?_
    refine wq_aload_n kk7 rfl ?_
    refine wm_gfi hr rfl rfl (fun pp95 => ?_)
    refine wq_aload_n kk7 rfl ?_
    refine wm_gfi hr rfl rfl (fun pp96 => ?_)
    refine wq_icmp_ne pp95 pp96 rfl rfl rfl (fun c97 => ?_) (fun c97 => ?_)
    · rw [if_neg c97] at hD
      refine wq_iconst rfl ?_
      exact c_m_otherStep_247_b hd hr (Or.inl rfl) hD
    · rw [if_pos c97] at hD
      refine wq_iconst rfl ?_
      refine wq_goto rfl rfl ?_
      exact c_m_otherStep_247_b hd hr (Or.inr rfl) hD
  rw [if_neg c94] at hD
  by_cases c98 : (m 70 l1) = 17
  · rw [if_pos c98] at hD
    refine wq_tsw_in (j := 8) pp11 (by omega) (by omega) (by omega) rfl rfl rfl ?_
    refine wq_aload_n kk7 rfl ?_
    refine wq_aload_n kk7 rfl ?_
    refine wm_gfi hr rfl rfl (fun pp99 => ?_)
    refine wq_aload_n kk7 rfl ?_
    refine wm_gfi hr rfl rfl (fun pp100 => ?_)
    refine wq_icmp_eq pp99 pp100 rfl rfl rfl (fun c101 => ?_) (fun c101 => ?_)
    · rw [if_pos c101] at hD
      exact c_m_otherStep_282_b hd hr hD
    · rw [if_neg c101] at hD
      refine wq_aload_n kk7 rfl ?_
      refine wm_gfa (c := 0) hr rfl rfl ?_
      refine wq_aload_n kk7 rfl ?_
      refine wm_gfi hr rfl rfl (fun pp102 => ?_)
      obtain ⟨g103, g104, hD⟩ := ck_of hD
      refine wm_ali (f := 80) hr rfl pp102 g103 g104 rfl (fun pp105 => ?_)
      refine wq_bipush (by decide) rfl ?_
      refine wq_icmp_ne pp105 ⟨by decide, by decide⟩ rfl rfl rfl (fun c106 => ?_) (fun c106 => ?_)
      · rw [if_neg c106] at hD
        refine wq_iconst rfl ?_
        exact c_m_otherStep_287_b hd hr (Or.inl rfl) hD
      · rw [if_pos c106] at hD
        exact c_m_otherStep_282_b hd hr hD
  rw [if_neg c98] at hD
  by_cases c107 : (m 70 l1) = 29
  · rw [if_pos c107] at hD
    refine wq_tsw_in (j := 20) pp11 (by omega) (by omega) (by omega) rfl rfl rfl ?_
    refine wq_aload_n kk7 rfl ?_
    refine wq_iload_n kk5 rfl ?_
    obtain ⟨m108, q111, hD⟩ := nb_of hD
    refine wm_cvN hr (c_takeIn (by omega) hr pp3 q111) rfl rfl rfl (fun h109 hr110 => ?_)
    refine wq_goto rfl rfl ?_
    exact c_m_otherStep_363_b hd hr110 hD
  rw [if_neg c107] at hD
  by_cases c112 : (m 70 l1) = 30
  · rw [if_pos c112] at hD
    refine wq_tsw_in (j := 21) pp11 (by omega) (by omega) (by omega) rfl rfl rfl ?_
    refine wq_aload_n kk7 rfl ?_
    refine wq_iload_n kk5 rfl ?_
    refine wq_aload_n kk7 rfl ?_
    obtain ⟨v117, m113, q116, hD⟩ := vb_of hD
    refine wm_cvL hr (c_pop (by omega) hr q116) rfl rfl rfl (fun h114 hr115 pp118 => ?_)
    obtain ⟨m119, q122, hD⟩ := nb_of hD
    refine wm_cvN hr115 (c_putOut (by omega) hr115 pp3 pp118 q122) rfl rfl rfl (fun h120 hr121 => ?_)
    refine wq_goto rfl rfl ?_
    exact c_m_otherStep_363_b hd hr121 hD
  rw [if_neg c112] at hD
  by_cases c123 : (m 70 l1) = 31
  · rw [if_pos c123] at hD
    refine wq_tsw_in (j := 22) pp11 (by omega) (by omega) (by omega) rfl rfl rfl ?_
    refine wq_iconst rfl ?_
    refine wl_istore_n rfl rfl (fun la124 kk125 t126 => ?_)
    have kk127 := t126 0 _ (by decide) (Or.inr rfl) kk7
    have kk128 := t126 1 _ (by decide) (Or.inr rfl) kk8
    have kk129 := t126 2 _ (by decide) (Or.inr rfl) kk5
    exact c_m_otherStep_318 hd g kk127 kk128 kk129 kk125 hr pl1 pp3 ⟨by decide, by decide⟩ hD
  rw [if_neg c123] at hD
  by_cases c130 : (m 70 l1) = 32
  · rw [if_pos c130] at hD
    refine wq_tsw_in (j := 23) pp11 (by omega) (by omega) (by omega) rfl rfl rfl ?_
    refine wq_aload_n kk7 rfl ?_
    refine wq_bipush (by decide) rfl ?_
    obtain ⟨m131, q134, hD⟩ := nb_of hD
    refine wm_cvN hr (c_putByte (by omega) hr ⟨by decide, by decide⟩ q134) rfl rfl rfl (fun h132 hr133 => ?_)
    refine wq_goto rfl rfl ?_
    exact c_m_otherStep_363_b hd hr133 hD
  rw [if_neg c130] at hD
  rcases (show (m 70 l1) < 9 ∨ 32 < (m 70 l1) ∨ (m 70 l1) = 18 ∨ (m 70 l1) = 19 ∨ (m 70 l1) = 20 ∨ (m 70 l1) = 21 ∨ (m 70 l1) = 22 ∨ (m 70 l1) = 23 ∨ (m 70 l1) = 24 ∨ (m 70 l1) = 25 ∨ (m 70 l1) = 26 ∨ (m 70 l1) = 27 ∨ (m 70 l1) = 28 by omega) with c136 | c136 | c136 | c136 | c136 | c136 | c136 | c136 | c136 | c136 | c136 | c136 | c136
  · refine wq_tsw_out pp11 (by omega) rfl rfl ?_
    exact c_m_otherStep_358_b hd kk7 hr hD
  · refine wq_tsw_out pp11 (by omega) rfl rfl ?_
    exact c_m_otherStep_358_b hd kk7 hr hD
  · refine wq_tsw_in (j := 9) pp11 (by omega) (by omega) (by omega) rfl rfl rfl ?_
    exact c_m_otherStep_358_b hd kk7 hr hD
  · refine wq_tsw_in (j := 10) pp11 (by omega) (by omega) (by omega) rfl rfl rfl ?_
    exact c_m_otherStep_358_b hd kk7 hr hD
  · refine wq_tsw_in (j := 11) pp11 (by omega) (by omega) (by omega) rfl rfl rfl ?_
    exact c_m_otherStep_358_b hd kk7 hr hD
  · refine wq_tsw_in (j := 12) pp11 (by omega) (by omega) (by omega) rfl rfl rfl ?_
    exact c_m_otherStep_358_b hd kk7 hr hD
  · refine wq_tsw_in (j := 13) pp11 (by omega) (by omega) (by omega) rfl rfl rfl ?_
    exact c_m_otherStep_358_b hd kk7 hr hD
  · refine wq_tsw_in (j := 14) pp11 (by omega) (by omega) (by omega) rfl rfl rfl ?_
    exact c_m_otherStep_358_b hd kk7 hr hD
  · refine wq_tsw_in (j := 15) pp11 (by omega) (by omega) (by omega) rfl rfl rfl ?_
    exact c_m_otherStep_358_b hd kk7 hr hD
  · refine wq_tsw_in (j := 16) pp11 (by omega) (by omega) (by omega) rfl rfl rfl ?_
    exact c_m_otherStep_358_b hd kk7 hr hD
  · refine wq_tsw_in (j := 17) pp11 (by omega) (by omega) (by omega) rfl rfl rfl ?_
    exact c_m_otherStep_358_b hd kk7 hr hD
  · refine wq_tsw_in (j := 18) pp11 (by omega) (by omega) (by omega) rfl rfl rfl ?_
    exact c_m_otherStep_358_b hd kk7 hr hD
  · refine wq_tsw_in (j := 19) pp11 (by omega) (by omega) (by omega) rfl rfl rfl ?_
    exact c_m_otherStep_358_b hd kk7 hr hD
theorem c_otherStep {d : Nat} (hd : 6 ≤ d) {g : Nat} {h0 h : RHeap} {m : MS} {l1 : Int} {mF : MS} (hr : RM h0 h m) (pl1 : InI l1) (hD : m_otherStep g l1 m = some mF) : Cq (Cd O F rp_P d) 257 [.ref 170, wvi l1] h (QN h0 mF) := by
  refine cq_of (I := (5, 0, rw_X12_otherStep, [])) rfl rfl (by omega) ?_
  exact c_m_otherStep_b (by omega) rfl rfl hr pl1 hD
def m_place (m : MS) : Option (Int × MS) := wlet (mset m 3 0 0) (fun m1 => some (m1 7 0, m1))
theorem c_m_place_b {dd : Nat} (hd : 0 ≤ dd) {h0 : RHeap} {vF : Int} {mF : MS} {la : RLoc} {h : RHeap} {m : MS} (k0 : rx_look la 0 = some (.ref 170)) (hr : RM h0 h m) (hD : m_place m = some (vF, mF)) : Wq O F (Cd O F rp_P dd) (1, 1, rw_X12_place, []) (rx_at rw_X12_place 0) la [] h (QV 0 h0 vF mF) := by
  unfold m_place at hD
  refine wq_aload_n k0 rfl ?_
  refine wq_iconst rfl ?_
  obtain ⟨m1, e2, hD⟩ := wlet_of hD
  refine wm_pfi hr rfl rfl ⟨by decide, by decide⟩ rfl (fun h3 hr4 => ?_)
  rw [← e2] at hr4
  refine wq_aload_n k0 rfl ?_
  refine wm_gfi hr4 rfl rfl (fun pp5 => ?_)
  cases hD
  exact wq_ireturn rfl ⟨_, rfl, hr4, pp5⟩
theorem c_place {d : Nat} (hd : 1 ≤ d) {h0 h : RHeap} {m : MS} {vF : Int} {mF : MS} (hr : RM h0 h m) (hD : m_place m = some (vF, mF)) : Cq (Cd O F rp_P d) 260 [.ref 170] h (QV 0 h0 vF mF) := by
  refine cq_of (I := (1, 1, rw_X12_place, [])) rfl rfl (by omega) ?_
  exact c_m_place_b (by omega) rfl hr hD
def m_step_278 (g : Nat) (m : MS) : Option MS := some m
theorem c_m_step_278_b {dd : Nat} (hd : 6 ≤ dd) {g : Nat} {h0 : RHeap} {mF : MS} {la : RLoc} {h : RHeap} {m : MS} (hr : RM h0 h m) (hD : m_step_278 g m = some mF) : Wq O F (Cd O F rp_P dd) (4, 0, rw_X12_step, []) (rx_at rw_X12_step 278) la [] h (QN h0 mF) := by
  unfold m_step_278 at hD
  cases hD
  exact wq_return rfl ⟨_, rfl, hr⟩
def m_step_248 (g : Nat) (s1 : Int) (m : MS) : Option MS := wlet (mset m 98 0 s1) (fun m114 => m_step_278 g m114)
theorem c_m_step_248_b {dd : Nat} (hd : 6 ≤ dd) {g : Nat} {h0 : RHeap} {mF : MS} {la : RLoc} {h : RHeap} {m : MS} {s1 : Int} (hr : RM h0 h m) (ps1 : InI s1) (hD : m_step_248 g s1 m = some mF) : Wq O F (Cd O F rp_P dd) (4, 0, rw_X12_step, []) (rx_at rw_X12_step 248) la [wvi s1, .ref 170] h (QN h0 mF) := by
  unfold m_step_248 at hD
  obtain ⟨m114, e115, hD⟩ := wlet_of hD
  refine wm_pfi hr rfl rfl ps1 rfl (fun h116 hr117 => ?_)
  rw [← e115] at hr117
  refine wq_goto rfl rfl ?_
  exact c_m_step_278_b hd hr117 hD
def m_step_211 (g : Nat) (l1 : Int) (l2 : Int) (l3 : Int) (m : MS) : Option MS := if l2 = 26 then ck (i32 ((m 97 0) - 1)) 70000 (if (m 96 (i32 ((m 97 0) - 1))) = l3 then ck l1 6000 (m_step_248 g (m 72 l1) m) else m_step_248 g (m 98 0) m) else if l2 = 27 then wlet (mset m 97 0 (i32 ((m 97 0) - 1))) (fun m101 => m_step_278 g m101) else nb (m_otherStep g l1 m) (fun m96 => m_step_278 g m96)
theorem c_m_step_211_b {dd : Nat} (hd : 6 ≤ dd) {g : Nat} {h0 : RHeap} {mF : MS} {la : RLoc} {h : RHeap} {m : MS} {l1 l2 l3 : Int} (k0 : rx_look la 0 = some (.ref 170)) (k1 : rx_look la 1 = some (wvi l1)) (k2 : rx_look la 2 = some (wvi l2)) (k3 : rx_look la 3 = some (wvi l3)) (hr : RM h0 h m) (pl1 : InI l1) (pl2 : InI l2) (pl3 : InI l3) (hD : m_step_211 g l1 l2 l3 m = some mF) : Wq O F (Cd O F rp_P dd) (4, 0, rw_X12_step, []) (rx_at rw_X12_step 211) la [] h (QN h0 mF) := by
  unfold m_step_211 at hD
  refine wq_iload_n k2 rfl ?_
  refine wq_bipush (by decide) rfl ?_
  refine wq_icmp_ne pl2 ⟨by decide, by decide⟩ rfl rfl rfl (fun c94 => ?_) (fun c94 => ?_)
  · rw [if_neg c94] at hD
    refine wq_iload_n k2 rfl ?_
    refine wq_bipush (by decide) rfl ?_
    refine wq_icmp_ne pl2 ⟨by decide, by decide⟩ rfl rfl rfl (fun c95 => ?_) (fun c95 => ?_)
    · rw [if_neg c95] at hD
      refine wq_aload_n k0 rfl ?_
      refine wq_iload_n k1 rfl ?_
      obtain ⟨m96, q99, hD⟩ := nb_of hD
      refine wm_cvN hr (c_otherStep (by omega) hr pl1 q99) rfl rfl rfl (fun h97 hr98 => ?_)
      exact c_m_step_278_b hd hr98 hD
    · rw [if_pos c95] at hD
      refine wq_aload_n k0 rfl ?_
      refine wq_dup rfl rfl ?_
      refine wm_gfi hr rfl rfl (fun pp100 => ?_)
      refine wq_iconst rfl ?_
      refine wq_isub rfl ?_
      obtain ⟨m101, e102, hD⟩ := wlet_of hD
      refine wm_pfi hr rfl rfl (InI_i32 _) rfl (fun h103 hr104 => ?_)
      rw [← e102] at hr104
      refine wq_goto rfl rfl ?_
      exact c_m_step_278_b hd hr104 hD
  · rw [if_pos c94] at hD
    refine wq_aload_n k0 rfl ?_
    refine wq_aload_n k0 rfl ?_
    refine wm_gfa (c := 1) hr rfl rfl ?_
    refine wq_aload_n k0 rfl ?_
    refine wm_gfi hr rfl rfl (fun pp105 => ?_)
    refine wq_iconst rfl ?_
    refine wq_isub rfl ?_
    obtain ⟨g106, g107, hD⟩ := ck_of hD
    refine wm_all (f := 96) hr rfl (InI_i32 _) g106 g107 rfl (fun pp108 => ?_)
    refine wq_iload_n k3 rfl ?_
    refine wq_i2l pl3 rfl ?_
    refine wq_lc_ne pp108 (InI.toL pl3) rfl rfl rfl rfl (fun c109 => ?_) (fun c109 => ?_)
    · rw [if_neg c109] at hD
      refine wq_aload_n k0 rfl ?_
      refine wm_gfi hr rfl rfl (fun pp110 => ?_)
      exact c_m_step_248_b hd hr pp110 hD
    · rw [if_pos c109] at hD
      refine wq_aload_n k0 rfl ?_
      refine wm_gfa (c := 0) hr rfl rfl ?_
      refine wq_iload_n k1 rfl ?_
      obtain ⟨g111, g112, hD⟩ := ck_of hD
      refine wm_ali (f := 72) hr rfl pl1 g111 g112 rfl (fun pp113 => ?_)
      refine wq_goto rfl rfl ?_
      exact c_m_step_248_b hd hr pp113 hD
def m_step_185 (g : Nat) (s1 : Int) (m : MS) : Option MS := wlet (mset m 98 0 s1) (fun m90 => m_step_278 g m90)
theorem c_m_step_185_b {dd : Nat} (hd : 6 ≤ dd) {g : Nat} {h0 : RHeap} {mF : MS} {la : RLoc} {h : RHeap} {m : MS} {s1 : Int} (hr : RM h0 h m) (ps1 : InI s1) (hD : m_step_185 g s1 m = some mF) : Wq O F (Cd O F rp_P dd) (4, 0, rw_X12_step, []) (rx_at rw_X12_step 185) la [wvi s1, .ref 170] h (QN h0 mF) := by
  unfold m_step_185 at hD
  obtain ⟨m90, e91, hD⟩ := wlet_of hD
  refine wm_pfi hr rfl rfl ps1 rfl (fun h92 hr93 => ?_)
  rw [← e91] at hr93
  refine wq_goto rfl rfl ?_
  exact c_m_step_278_b hd hr93 hD
def m_step_119 (g : Nat) (l1 : Int) (l2 : Int) (l3 : Int) (m : MS) : Option MS := if l2 = 18 then nb (m_callAction g l3 m) (fun m86 => m_step_278 g m86) else if l2 = 19 then nb (m_leave l3 m) (fun m82 => m_step_278 g m82) else if l2 = 20 then wlet (mset m 98 0 l3) (fun m78 => m_step_278 g m78) else if l2 = 21 then vb (m_pop m) (fun v74 m70 => if v74 = 0 then m_step_185 g l3 m70 else m_step_185 g (m70 98 0) m70) else if l2 < 22 then m_step_211 g l1 l2 l3 m else if 25 < l2 then m_step_211 g l1 l2 l3 m else nb (m_forStep l1 m) (fun m66 => m_step_278 g m66)
theorem c_m_step_119_b {dd : Nat} (hd : 6 ≤ dd) {g : Nat} {h0 : RHeap} {mF : MS} {la : RLoc} {h : RHeap} {m : MS} {l1 l2 l3 : Int} (k0 : rx_look la 0 = some (.ref 170)) (k1 : rx_look la 1 = some (wvi l1)) (k2 : rx_look la 2 = some (wvi l2)) (k3 : rx_look la 3 = some (wvi l3)) (hr : RM h0 h m) (pl1 : InI l1) (pl2 : InI l2) (pl3 : InI l3) (hD : m_step_119 g l1 l2 l3 m = some mF) : Wq O F (Cd O F rp_P dd) (4, 0, rw_X12_step, []) (rx_at rw_X12_step 119) la [] h (QN h0 mF) := by
  unfold m_step_119 at hD
  refine wq_iload_n k2 rfl ?_
  refine wq_bipush (by decide) rfl ?_
  refine wq_icmp_ne pl2 ⟨by decide, by decide⟩ rfl rfl rfl (fun c60 => ?_) (fun c60 => ?_)
  · rw [if_neg c60] at hD
    refine wq_iload_n k2 rfl ?_
    refine wq_bipush (by decide) rfl ?_
    refine wq_icmp_ne pl2 ⟨by decide, by decide⟩ rfl rfl rfl (fun c61 => ?_) (fun c61 => ?_)
    · rw [if_neg c61] at hD
      refine wq_iload_n k2 rfl ?_
      refine wq_bipush (by decide) rfl ?_
      refine wq_icmp_ne pl2 ⟨by decide, by decide⟩ rfl rfl rfl (fun c62 => ?_) (fun c62 => ?_)
      · rw [if_neg c62] at hD
        refine wq_iload_n k2 rfl ?_
        refine wq_bipush (by decide) rfl ?_
        refine wq_icmp_ne pl2 ⟨by decide, by decide⟩ rfl rfl rfl (fun c63 => ?_) (fun c63 => ?_)
        · rw [if_neg c63] at hD
          refine wq_iload_n k2 rfl ?_
          refine wq_bipush (by decide) rfl ?_
          refine wq_icmp_lt pl2 ⟨by decide, by decide⟩ rfl rfl rfl (fun c64 => ?_) (fun c64 => ?_)
          · rw [if_pos c64] at hD
            exact c_m_step_211_b hd k0 k1 k2 k3 hr pl1 pl2 pl3 hD
          · rw [if_neg (Int.not_lt.mpr c64)] at hD
            refine wq_iload_n k2 rfl ?_
            refine wq_bipush (by decide) rfl ?_
            refine wq_icmp_gt pl2 ⟨by decide, by decide⟩ rfl rfl rfl (fun c65 => ?_) (fun c65 => ?_)
            · rw [if_pos c65] at hD
              exact c_m_step_211_b hd k0 k1 k2 k3 hr pl1 pl2 pl3 hD
            · rw [if_neg (Int.not_lt.mpr c65)] at hD
              refine wq_aload_n k0 rfl ?_
              refine wq_iload_n k1 rfl ?_
              obtain ⟨m66, q69, hD⟩ := nb_of hD
              refine wm_cvN hr (c_forStep (by omega) hr pl1 q69) rfl rfl rfl (fun h67 hr68 => ?_)
              refine wq_goto rfl rfl ?_
              exact c_m_step_278_b hd hr68 hD
        · rw [if_pos c63] at hD
          refine wq_aload_n k0 rfl ?_
          refine wq_aload_n k0 rfl ?_
          obtain ⟨v74, m70, q73, hD⟩ := vb_of hD
          refine wm_cvL hr (c_pop (by omega) hr q73) rfl rfl rfl (fun h71 hr72 pp75 => ?_)
          refine wq_lconst (x := 0) (by decide) rfl ?_
          refine wq_lc_ne pp75 ⟨by decide, by decide⟩ rfl rfl rfl rfl (fun c76 => ?_) (fun c76 => ?_)
          · rw [if_neg c76] at hD
            refine wq_aload_n k0 rfl ?_
            refine wm_gfi hr72 rfl rfl (fun pp77 => ?_)
            exact c_m_step_185_b hd hr72 pp77 hD
          · rw [if_pos c76] at hD
            refine wq_iload_n k3 rfl ?_
            refine wq_goto rfl rfl ?_
            exact c_m_step_185_b hd hr72 pl3 hD
      · rw [if_pos c62] at hD
        refine wq_aload_n k0 rfl ?_
        refine wq_iload_n k3 rfl ?_
        obtain ⟨m78, e79, hD⟩ := wlet_of hD
        refine wm_pfi hr rfl rfl pl3 rfl (fun h80 hr81 => ?_)
        rw [← e79] at hr81
        refine wq_goto rfl rfl ?_
        exact c_m_step_278_b hd hr81 hD
    · rw [if_pos c61] at hD
      refine wq_aload_n k0 rfl ?_
      refine wq_iload_n k3 rfl ?_
      obtain ⟨m82, q85, hD⟩ := nb_of hD
      refine wm_cvN hr (c_leave (by omega) hr pl3 q85) rfl rfl rfl (fun h83 hr84 => ?_)
      refine wq_goto rfl rfl ?_
      exact c_m_step_278_b hd hr84 hD
  · rw [if_pos c60] at hD
    refine wq_aload_n k0 rfl ?_
    refine wq_iload_n k3 rfl ?_
    obtain ⟨m86, q89, hD⟩ := nb_of hD
    refine wm_cvN hr (c_callAction (by omega) hr pl3 q89) rfl rfl rfl (fun h87 hr88 => ?_)
    refine wq_goto rfl rfl ?_
    exact c_m_step_278_b hd hr88 hD
def m_step (g : Nat) (m : MS) : Option MS := wlet (mset m 98 0 (i32 ((m 98 0) + 1))) (fun m7 => ck (m 98 0) 6000 (ck (m 98 0) 6000 (if (m7 70 (m 98 0)) = 0 then ck (i32 ((m7 89 0) - 1)) 200 (wlet (mset m7 95 (i32 ((m7 89 0) - 1)) (m7 71 (m 98 0))) (fun m56 => m_step_278 g m56)) else if (m7 70 (m 98 0)) = 1 then if (m7 100 0) = (m7 99 0) then nb (m_stop 7 m7) (fun m49 => m_step_278 g m49) else wlet (mset m7 100 0 (i32 ((m7 100 0) + 1))) (fun m45 => m_step_278 g m45) else if (m7 70 (m 98 0)) = 2 then nb (m_push (m7 71 (m 98 0)) m7) (fun m37 => m_step_278 g m37) else if (m7 70 (m 98 0)) < 3 then m_step_119 g (m 98 0) (m7 70 (m 98 0)) (m7 71 (m 98 0)) m7 else if 8 < (m7 70 (m 98 0)) then m_step_119 g (m 98 0) (m7 70 (m 98 0)) (m7 71 (m 98 0)) m7 else nb (m_cellStep g (m 98 0) m7) (fun m33 => m_step_278 g m33))))
theorem c_m_step_b {dd : Nat} (hd : 6 ≤ dd) {g : Nat} {h0 : RHeap} {mF : MS} {la : RLoc} {h : RHeap} {m : MS} (k0 : rx_look la 0 = some (.ref 170)) (hr : RM h0 h m) (hD : m_step g m = some mF) : Wq O F (Cd O F rp_P dd) (4, 0, rw_X12_step, []) (rx_at rw_X12_step 0) la [] h (QN h0 mF) := by
  unfold m_step at hD
  refine wq_aload_n k0 rfl ?_
  refine wm_gfi hr rfl rfl (fun pp1 => ?_)
  refine wl_istore_n rfl rfl (fun la2 kk3 t4 => ?_)
  have kk5 := t4 0 _ (by decide) (Or.inr rfl) k0
  refine wq_aload_n kk5 rfl ?_
  refine wq_dup rfl rfl ?_
  refine wm_gfi hr rfl rfl (fun pp6 => ?_)
  refine wq_iconst rfl ?_
  refine wq_iadd rfl ?_
  obtain ⟨m7, e8, hD⟩ := wlet_of hD
  refine wm_pfi hr rfl rfl (InI_i32 _) rfl (fun h9 hr10 => ?_)
  rw [← e8] at hr10
  refine wq_aload_n kk5 rfl ?_
  refine wm_gfa (c := 0) hr10 rfl rfl ?_
  refine wq_iload_n kk3 rfl ?_
  obtain ⟨g11, g12, hD⟩ := ck_of hD
  refine wm_ali (f := 70) hr10 rfl pp1 g11 g12 rfl (fun pp13 => ?_)
  refine wl_istore_n rfl rfl (fun la14 kk15 t16 => ?_)
  have kk17 := t16 0 _ (by decide) (Or.inr rfl) kk5
  have kk18 := t16 1 _ (by decide) (Or.inr rfl) kk3
  refine wq_aload_n kk17 rfl ?_
  refine wm_gfa (c := 0) hr10 rfl rfl ?_
  refine wq_iload_n kk18 rfl ?_
  obtain ⟨g19, g20, hD⟩ := ck_of hD
  refine wm_ali (f := 71) hr10 rfl pp1 g19 g20 rfl (fun pp21 => ?_)
  refine wl_istore_n rfl rfl (fun la22 kk23 t24 => ?_)
  have kk25 := t24 0 _ (by decide) (Or.inr rfl) kk17
  have kk26 := t24 1 _ (by decide) (Or.inr rfl) kk18
  have kk27 := t24 2 _ (by decide) (Or.inr rfl) kk15
  refine wq_iload_n kk27 rfl ?_
  refine wq_if_ne pp13 rfl rfl rfl (fun c28 => ?_) (fun c28 => ?_)
  · rw [if_neg c28] at hD
    refine wq_iload_n kk27 rfl ?_
    refine wq_iconst rfl ?_
    refine wq_icmp_ne pp13 ⟨by decide, by decide⟩ rfl rfl rfl (fun c29 => ?_) (fun c29 => ?_)
    · rw [if_neg c29] at hD
      refine wq_iload_n kk27 rfl ?_
      refine wq_iconst rfl ?_
      refine wq_icmp_ne pp13 ⟨by decide, by decide⟩ rfl rfl rfl (fun c30 => ?_) (fun c30 => ?_)
      · rw [if_neg c30] at hD
        refine wq_iload_n kk27 rfl ?_
        refine wq_iconst rfl ?_
        refine wq_icmp_lt pp13 ⟨by decide, by decide⟩ rfl rfl rfl (fun c31 => ?_) (fun c31 => ?_)
        · rw [if_pos c31] at hD
          exact c_m_step_119_b hd kk25 kk26 kk27 kk23 hr10 pp1 pp13 pp21 hD
        · rw [if_neg (Int.not_lt.mpr c31)] at hD
          refine wq_iload_n kk27 rfl ?_
          refine wq_bipush (by decide) rfl ?_
          refine wq_icmp_gt pp13 ⟨by decide, by decide⟩ rfl rfl rfl (fun c32 => ?_) (fun c32 => ?_)
          · rw [if_pos c32] at hD
            exact c_m_step_119_b hd kk25 kk26 kk27 kk23 hr10 pp1 pp13 pp21 hD
          · rw [if_neg (Int.not_lt.mpr c32)] at hD
            refine wq_aload_n kk25 rfl ?_
            refine wq_iload_n kk26 rfl ?_
            obtain ⟨m33, q36, hD⟩ := nb_of hD
            refine wm_cvN hr10 (c_cellStep (by omega) hr10 pp1 q36) rfl rfl rfl (fun h34 hr35 => ?_)
            refine wq_goto rfl rfl ?_
            exact c_m_step_278_b hd hr35 hD
      · rw [if_pos c30] at hD
        refine wq_aload_n kk25 rfl ?_
        refine wq_iload_n kk23 rfl ?_
        refine wq_i2l pp21 rfl ?_
        obtain ⟨m37, q40, hD⟩ := nb_of hD
        refine wm_cvN hr10 (c_push (by omega) hr10 (InI.toL pp21) q40) rfl rfl rfl (fun h38 hr39 => ?_)
        refine wq_goto rfl rfl ?_
        exact c_m_step_278_b hd hr39 hD
    · rw [if_pos c29] at hD
      refine wq_aload_n kk25 rfl ?_
      refine wm_gfi hr10 rfl rfl (fun pp41 => ?_)
      refine wq_aload_n kk25 rfl ?_
      refine wm_gfi hr10 rfl rfl (fun pp42 => ?_)
      refine wq_icmp_ne pp41 pp42 rfl rfl rfl (fun c43 => ?_) (fun c43 => ?_)
      · rw [if_neg c43] at hD
        refine wq_aload_n kk25 rfl ?_
        refine wq_dup rfl rfl ?_
        refine wm_gfi hr10 rfl rfl (fun pp44 => ?_)
        refine wq_iconst rfl ?_
        refine wq_iadd rfl ?_
        obtain ⟨m45, e46, hD⟩ := wlet_of hD
        refine wm_pfi hr10 rfl rfl (InI_i32 _) rfl (fun h47 hr48 => ?_)
        rw [← e46] at hr48
        refine wq_goto rfl rfl ?_
        exact c_m_step_278_b hd hr48 hD
      · rw [if_pos c43] at hD
        refine wq_aload_n kk25 rfl ?_
        refine wq_bipush (by decide) rfl ?_
        obtain ⟨m49, q52, hD⟩ := nb_of hD
        refine wm_cvN hr10 (c_stop (by omega) hr10 ⟨by decide, by decide⟩ q52) rfl rfl rfl (fun h50 hr51 => ?_)
        refine wq_goto rfl rfl ?_
        exact c_m_step_278_b hd hr51 hD
  · rw [if_pos c28] at hD
    refine wq_aload_n kk25 rfl ?_
    refine wm_gfa (c := 0) hr10 rfl rfl ?_
    refine wq_aload_n kk25 rfl ?_
    refine wm_gfi hr10 rfl rfl (fun pp53 => ?_)
    refine wq_iconst rfl ?_
    refine wq_isub rfl ?_
    refine wq_iload_n kk23 rfl ?_
    obtain ⟨g54, g55, hD⟩ := ck_of hD
    obtain ⟨m56, e57, hD⟩ := wlet_of hD
    refine wm_asi (f := 95) hr10 rfl (InI_i32 _) g54 g55 pp21 rfl (fun h58 hr59 => ?_)
    rw [← e57] at hr59
    refine wq_goto rfl rfl ?_
    exact c_m_step_278_b hd hr59 hD
theorem c_step {d : Nat} (hd : 7 ≤ d) {g : Nat} {h0 h : RHeap} {m : MS} {mF : MS} (hr : RM h0 h m) (hD : m_step g m = some mF) : Cq (Cd O F rp_P d) 278 [.ref 170] h (QN h0 mF) := by
  refine cq_of (I := (4, 0, rw_X12_step, [])) rfl rfl (by omega) ?_
  exact c_m_step_b (by omega) rfl hr hD
def m_run_118 (g : Nat) (m : MS) : Option (Int × MS) := some (m 101 0, m)
theorem c_m_run_118_b {dd : Nat} (hd : 7 ≤ dd) {g : Nat} {h0 : RHeap} {vF : Int} {mF : MS} {la : RLoc} {h : RHeap} {m : MS} (k0 : rx_look la 0 = some (.ref 170)) (hr : RM h0 h m) (hD : m_run_118 g m = some (vF, mF)) : Wq O F (Cd O F rp_P dd) (2, 1, rw_X12_run, []) (rx_at rw_X12_run 118) la [] h (QV 0 h0 vF mF) := by
  unfold m_run_118 at hD
  refine wq_aload_n k0 rfl ?_
  refine wm_gfi hr rfl rfl (fun pp73 => ?_)
  cases hD
  exact wq_ireturn rfl ⟨_, rfl, hr, pp73⟩
def m_run_104 (g : Nat) : Nat → MS → Option (Int × MS)
  | 0, _ => none
  | n + 1, m => if (m 101 0) < 0 then nb (m_step g m) (fun m69 => m_run_104 g n m69) else m_run_118 g m
theorem c_m_run_104 {dd : Nat} (hd : 7 ≤ dd) {g : Nat} {h0 : RHeap} {vF : Int} {mF : MS} : ∀ (n : Nat) {la : RLoc} {h : RHeap} {m : MS}, rx_look la 0 = some (.ref 170) → RM h0 h m → m_run_104 g n m = some (vF, mF) → Wq O F (Cd O F rp_P dd) (2, 1, rw_X12_run, []) (rx_at rw_X12_run 104) la [] h (QV 0 h0 vF mF) := by
  intro n
  induction n with
  | zero =>
    intro la h m k0 hr hD
    unfold m_run_104 at hD
    cases hD
  | succ n ih =>
    intro la h m k0 hr hD
    unfold m_run_104 at hD
    refine wq_aload_n k0 rfl ?_
    refine wm_gfi hr rfl rfl (fun pp67 => ?_)
    refine wq_if_ge pp67 rfl rfl rfl (fun c68 => ?_) (fun c68 => ?_)
    · rw [if_neg (Int.not_lt.mpr c68)] at hD
      exact c_m_run_118_b hd k0 hr hD
    · rw [if_pos c68] at hD
      refine wq_aload_n k0 rfl ?_
      obtain ⟨m69, q72, hD⟩ := nb_of hD
      refine wm_cvN hr (c_step (by omega) hr q72) rfl rfl rfl (fun h70 hr71 => ?_)
      refine wq_goto rfl rfl ?_
      exact ih k0 hr71 hD
def m_run_17 (g : Nat) (l1 : Int) (s1 : Int) (m : MS) : Option (Int × MS) := wlet (mset m 3 0 s1) (fun m3 => if 0 < (m3 3 0) then some (0, m3) else wlet (mset m3 99 0 l1) (fun m9 => wlet (mset m9 100 0 0) (fun m13 => wlet (mset m13 82 0 0) (fun m17 => wlet (mset m17 84 0 0) (fun m21 => wlet (mset m21 87 0 0) (fun m25 => wlet (mset m25 88 0 0) (fun m29 => wlet (mset m29 89 0 0) (fun m33 => wlet (mset m33 90 0 0) (fun m37 => wlet (mset m37 97 0 0) (fun m41 => wlet (mset m41 101 0 (-1)) (fun m45 => wlet (mset m45 102 0 (-1)) (fun m49 => ck 0 240 (wlet (mset m49 98 0 (m49 74 0)) (fun m56 => vb (m_open g 0 (-1) (-1) m56) (fun v64 m60 => if v64 = 0 then m_run_118 g m60 else m_run_104 g g m60)))))))))))))))
theorem c_m_run_17_b {dd : Nat} (hd : 7 ≤ dd) {g : Nat} {h0 : RHeap} {vF : Int} {mF : MS} {la : RLoc} {h : RHeap} {m : MS} {l1 s1 : Int} (k0 : rx_look la 0 = some (.ref 170)) (k1 : rx_look la 1 = some (wvi l1)) (hr : RM h0 h m) (pl1 : InI l1) (ps1 : (s1 = 0 ∨ s1 = 1)) (hD : m_run_17 g l1 s1 m = some (vF, mF)) : Wq O F (Cd O F rp_P dd) (2, 1, rw_X12_run, []) (rx_at rw_X12_run 17) la [wvi s1, .ref 170] h (QV 0 h0 vF mF) := by
  unfold m_run_17 at hD
  obtain ⟨m3, e4, hD⟩ := wlet_of hD
  refine wm_pfi hr rfl rfl (InI_z ps1) rfl (fun h5 hr6 => ?_)
  rw [← e4] at hr6
  refine wq_aload_n k0 rfl ?_
  refine wm_gfi hr6 rfl rfl (fun pp7 => ?_)
  refine wq_if_le pp7 rfl rfl rfl (fun c8 => ?_) (fun c8 => ?_)
  · rw [if_neg (Int.not_lt.mpr c8)] at hD
    refine wq_aload_n k0 rfl ?_
    refine wq_iload_n k1 rfl ?_
    obtain ⟨m9, e10, hD⟩ := wlet_of hD
    refine wm_pfi hr6 rfl rfl pl1 rfl (fun h11 hr12 => ?_)
    rw [← e10] at hr12
    refine wq_aload_n k0 rfl ?_
    refine wq_iconst rfl ?_
    obtain ⟨m13, e14, hD⟩ := wlet_of hD
    refine wm_pfi hr12 rfl rfl ⟨by decide, by decide⟩ rfl (fun h15 hr16 => ?_)
    rw [← e14] at hr16
    refine wq_aload_n k0 rfl ?_
    refine wq_iconst rfl ?_
    obtain ⟨m17, e18, hD⟩ := wlet_of hD
    refine wm_pfi hr16 rfl rfl ⟨by decide, by decide⟩ rfl (fun h19 hr20 => ?_)
    rw [← e18] at hr20
    refine wq_aload_n k0 rfl ?_
    refine wq_iconst rfl ?_
    obtain ⟨m21, e22, hD⟩ := wlet_of hD
    refine wm_pfi hr20 rfl rfl ⟨by decide, by decide⟩ rfl (fun h23 hr24 => ?_)
    rw [← e22] at hr24
    refine wq_aload_n k0 rfl ?_
    refine wq_iconst rfl ?_
    obtain ⟨m25, e26, hD⟩ := wlet_of hD
    refine wm_pfi hr24 rfl rfl ⟨by decide, by decide⟩ rfl (fun h27 hr28 => ?_)
    rw [← e26] at hr28
    refine wq_aload_n k0 rfl ?_
    refine wq_iconst rfl ?_
    obtain ⟨m29, e30, hD⟩ := wlet_of hD
    refine wm_pfi hr28 rfl rfl ⟨by decide, by decide⟩ rfl (fun h31 hr32 => ?_)
    rw [← e30] at hr32
    refine wq_aload_n k0 rfl ?_
    refine wq_iconst rfl ?_
    obtain ⟨m33, e34, hD⟩ := wlet_of hD
    refine wm_pfi hr32 rfl rfl ⟨by decide, by decide⟩ rfl (fun h35 hr36 => ?_)
    rw [← e34] at hr36
    refine wq_aload_n k0 rfl ?_
    refine wq_iconst rfl ?_
    obtain ⟨m37, e38, hD⟩ := wlet_of hD
    refine wm_pfi hr36 rfl rfl ⟨by decide, by decide⟩ rfl (fun h39 hr40 => ?_)
    rw [← e38] at hr40
    refine wq_aload_n k0 rfl ?_
    refine wq_iconst rfl ?_
    obtain ⟨m41, e42, hD⟩ := wlet_of hD
    refine wm_pfi hr40 rfl rfl ⟨by decide, by decide⟩ rfl (fun h43 hr44 => ?_)
    rw [← e42] at hr44
    refine wq_aload_n k0 rfl ?_
    refine wq_iconst rfl ?_
    obtain ⟨m45, e46, hD⟩ := wlet_of hD
    refine wm_pfi hr44 rfl rfl ⟨by decide, by decide⟩ rfl (fun h47 hr48 => ?_)
    rw [← e46] at hr48
    refine wq_aload_n k0 rfl ?_
    refine wq_iconst rfl ?_
    obtain ⟨m49, e50, hD⟩ := wlet_of hD
    refine wm_pfi hr48 rfl rfl ⟨by decide, by decide⟩ rfl (fun h51 hr52 => ?_)
    rw [← e50] at hr52
    refine wq_aload_n k0 rfl ?_
    refine wq_aload_n k0 rfl ?_
    refine wm_gfa (c := 0) hr52 rfl rfl ?_
    refine wq_iconst rfl ?_
    obtain ⟨g53, g54, hD⟩ := ck_of hD
    refine wm_ali (f := 74) hr52 rfl ⟨by decide, by decide⟩ g53 g54 rfl (fun pp55 => ?_)
    obtain ⟨m56, e57, hD⟩ := wlet_of hD
    refine wm_pfi hr52 rfl rfl pp55 rfl (fun h58 hr59 => ?_)
    rw [← e57] at hr59
    refine wq_aload_n k0 rfl ?_
    refine wq_iconst rfl ?_
    refine wq_iconst rfl ?_
    refine wq_iconst rfl ?_
    obtain ⟨v64, m60, q63, hD⟩ := vb_of hD
    refine wm_cvZ hr59 (c_open (by omega) hr59 ⟨by decide, by decide⟩ ⟨by decide, by decide⟩ ⟨by decide, by decide⟩ q63) rfl rfl rfl (fun h61 hr62 pp65 => ?_)
    refine wq_if_eq (InI_z pp65) rfl rfl rfl (fun c66 => ?_) (fun c66 => ?_)
    · rw [if_pos c66] at hD
      exact c_m_run_118_b hd k0 hr62 hD
    · rw [if_neg c66] at hD
      exact c_m_run_104 hd g k0 hr62 hD
  · rw [if_pos c8] at hD
    refine wq_iconst rfl ?_
    cases hD
    exact wq_ireturn rfl ⟨_, rfl, hr6, ⟨by decide, by decide⟩⟩
def m_run_12 (g : Nat) (l1 : Int) (m : MS) : Option (Int × MS) := m_run_17 g l1 1 m
theorem c_m_run_12_b {dd : Nat} (hd : 7 ≤ dd) {g : Nat} {h0 : RHeap} {vF : Int} {mF : MS} {la : RLoc} {h : RHeap} {m : MS} {l1 : Int} (k0 : rx_look la 0 = some (.ref 170)) (k1 : rx_look la 1 = some (wvi l1)) (hr : RM h0 h m) (pl1 : InI l1) (hD : m_run_12 g l1 m = some (vF, mF)) : Wq O F (Cd O F rp_P dd) (2, 1, rw_X12_run, []) (rx_at rw_X12_run 12) la [.ref 170] h (QV 0 h0 vF mF) := by
  unfold m_run_12 at hD
  refine wq_iconst rfl ?_
  refine wq_goto rfl rfl ?_
  exact c_m_run_17_b hd k0 k1 hr pl1 (Or.inr rfl) hD
def m_run (g : Nat) (l1 : Int) (m : MS) : Option (Int × MS) := if l1 < 0 then m_run_12 g l1 m else if 20000 < l1 then m_run_12 g l1 m else m_run_17 g l1 0 m
theorem c_m_run_b {dd : Nat} (hd : 7 ≤ dd) {g : Nat} {h0 : RHeap} {vF : Int} {mF : MS} {la : RLoc} {h : RHeap} {m : MS} {l1 : Int} (k0 : rx_look la 0 = some (.ref 170)) (k1 : rx_look la 1 = some (wvi l1)) (hr : RM h0 h m) (pl1 : InI l1) (hD : m_run g l1 m = some (vF, mF)) : Wq O F (Cd O F rp_P dd) (2, 1, rw_X12_run, []) (rx_at rw_X12_run 0) la [] h (QV 0 h0 vF mF) := by
  unfold m_run at hD
  refine wq_aload_n k0 rfl ?_
  refine wq_iload_n k1 rfl ?_
  refine wq_if_lt pl1 rfl rfl rfl (fun c1 => ?_) (fun c1 => ?_)
  · rw [if_pos c1] at hD
    exact c_m_run_12_b hd k0 k1 hr pl1 hD
  · rw [if_neg (Int.not_lt.mpr c1)] at hD
    refine wq_iload_n k1 rfl ?_
    refine wq_sipush (by decide) rfl ?_
    refine wq_icmp_le pl1 ⟨by decide, by decide⟩ rfl rfl rfl (fun c2 => ?_) (fun c2 => ?_)
    · rw [if_neg (Int.not_lt.mpr c2)] at hD
      refine wq_iconst rfl ?_
      exact c_m_run_17_b hd k0 k1 hr pl1 (Or.inl rfl) hD
    · rw [if_pos c2] at hD
      exact c_m_run_12_b hd k0 k1 hr pl1 hD
theorem c_run {d : Nat} (hd : 8 ≤ d) {g : Nat} {h0 h : RHeap} {m : MS} {l1 : Int} {vF : Int} {mF : MS} (hr : RM h0 h m) (pl1 : InI l1) (hD : m_run g l1 m = some (vF, mF)) : Cq (Cd O F rp_P d) 272 [.ref 170, wvi l1] h (QV 0 h0 vF mF) := by
  refine cq_of (I := (2, 1, rw_X12_run, [])) rfl rfl (by omega) ?_
  exact c_m_run_b (by omega) rfl rfl hr pl1 hD
def m_text_64 (g : Nat) (rec10 : Int → Int → Int → MS → Option (Int × MS)) (l1 : Int) (l4 : Int) (s0 : Int) (m : MS) : Option (Int × MS) := rec10 l1 s0 (i32 (l4 + 1)) m
theorem c_m_text_64_b {dd : Nat} (hd : 0 ≤ dd) {g : Nat} {h0 : RHeap} {vF : Int} {mF : MS} {rec10 : Int → Int → Int → MS → Option (Int × MS)} (hrec10 : ∀ {la : RLoc} {h : RHeap} {m : MS} {l1 l2 l4 : Int}, rx_look la 0 = some (.ref 170) → rx_look la 1 = some (wvi l1) → rx_look la 2 = some (wvl l2) → rx_look la 4 = some (wvi l4) → RM h0 h m → InI l1 → InL l2 → InI l4 → rec10 l1 l2 l4 m = some (vF, mF) → Wq O F (Cd O F rp_P dd) (7, 5, rw_X12_text, []) (rx_at rw_X12_text 10) la [] h (QV 1 h0 vF mF)) {la : RLoc} {h : RHeap} {m : MS} {l1 l4 s0 : Int} (k0 : rx_look la 0 = some (.ref 170)) (k1 : rx_look la 1 = some (wvi l1)) (k4 : rx_look la 4 = some (wvi l4)) (hr : RM h0 h m) (pl1 : InI l1) (pl4 : InI l4) (ps0 : InL s0) (hD : m_text_64 g rec10 l1 l4 s0 m = some (vF, mF)) : Wq O F (Cd O F rp_P dd) (7, 5, rw_X12_text, []) (rx_at rw_X12_text 64) la [wvl s0] h (QV 1 h0 vF mF) := by
  unfold m_text_64 at hD
  refine wl_lstore_n rfl rfl (fun la30 kk31 t32 => ?_)
  have kk33 := t32 0 _ ⟨by decide, by decide⟩ (Or.inr rfl) k0
  have kk34 := t32 1 _ ⟨by decide, by decide⟩ (Or.inr rfl) k1
  have kk35 := t32 4 _ ⟨by decide, by decide⟩ (Or.inr rfl) k4
  refine wl_iinc kk35 rfl rfl (fun la36 kk37 t38 => ?_)
  have kk39 := t38 0 _ (by decide) (Or.inr rfl) kk33
  have kk40 := t38 1 _ (by decide) (Or.inr rfl) kk34
  have kk41 := t38 2 _ (by decide) (Or.inl (by decide)) kk31
  refine wq_goto rfl rfl ?_
  exact hrec10 kk39 kk40 kk41 kk37 hr pl1 ps0 (InI_i32 _) hD
def m_text_63 (g : Nat) (rec10 : Int → Int → Int → MS → Option (Int × MS)) (l1 : Int) (l2 : Int) (l4 : Int) (m : MS) : Option (Int × MS) := m_text_64 g rec10 l1 l4 l2 m
theorem c_m_text_63_b {dd : Nat} (hd : 0 ≤ dd) {g : Nat} {h0 : RHeap} {vF : Int} {mF : MS} {rec10 : Int → Int → Int → MS → Option (Int × MS)} (hrec10 : ∀ {la : RLoc} {h : RHeap} {m : MS} {l1 l2 l4 : Int}, rx_look la 0 = some (.ref 170) → rx_look la 1 = some (wvi l1) → rx_look la 2 = some (wvl l2) → rx_look la 4 = some (wvi l4) → RM h0 h m → InI l1 → InL l2 → InI l4 → rec10 l1 l2 l4 m = some (vF, mF) → Wq O F (Cd O F rp_P dd) (7, 5, rw_X12_text, []) (rx_at rw_X12_text 10) la [] h (QV 1 h0 vF mF)) {la : RLoc} {h : RHeap} {m : MS} {l1 l2 l4 : Int} (k0 : rx_look la 0 = some (.ref 170)) (k1 : rx_look la 1 = some (wvi l1)) (k2 : rx_look la 2 = some (wvl l2)) (k4 : rx_look la 4 = some (wvi l4)) (hr : RM h0 h m) (pl1 : InI l1) (pl2 : InL l2) (pl4 : InI l4) (hD : m_text_63 g rec10 l1 l2 l4 m = some (vF, mF)) : Wq O F (Cd O F rp_P dd) (7, 5, rw_X12_text, []) (rx_at rw_X12_text 63) la [] h (QV 1 h0 vF mF) := by
  unfold m_text_63 at hD
  refine wq_lload_n k2 rfl ?_
  exact c_m_text_64_b hd hrec10 k0 k1 k4 hr pl1 pl4 pl2 hD
def m_text_10 (g : Nat) : Nat → Int → Int → Int → MS → Option (Int × MS)
  | 0, _, _, _, _ => none
  | n + 1, l1, l2, l4, m => if l4 < 8 then if (i64 (l1 + l4)) < 0 then m_text_63 g (m_text_10 g n) l1 l2 l4 m else if (i64 (l1 + l4)) < (m 84 0) then ck (i32 (i64 (l1 + l4))) 1500 (m_text_64 g (m_text_10 g n) l1 l4 (l_or l2 (l_shl (m 83 (i32 (i64 (l1 + l4)))) (i32 (8 * l4)))) m) else m_text_63 g (m_text_10 g n) l1 l2 l4 m else some (l2, m)
theorem c_m_text_10 {dd : Nat} (hd : 0 ≤ dd) {g : Nat} {h0 : RHeap} {vF : Int} {mF : MS} : ∀ (n : Nat) {la : RLoc} {h : RHeap} {m : MS} {l1 l2 l4 : Int}, rx_look la 0 = some (.ref 170) → rx_look la 1 = some (wvi l1) → rx_look la 2 = some (wvl l2) → rx_look la 4 = some (wvi l4) → RM h0 h m → InI l1 → InL l2 → InI l4 → m_text_10 g n l1 l2 l4 m = some (vF, mF) → Wq O F (Cd O F rp_P dd) (7, 5, rw_X12_text, []) (rx_at rw_X12_text 10) la [] h (QV 1 h0 vF mF) := by
  intro n
  induction n with
  | zero =>
    intro la h m l1 l2 l4 k0 k1 k2 k4 hr pl1 pl2 pl4 hD
    unfold m_text_10 at hD
    cases hD
  | succ n ih =>
    intro la h m l1 l2 l4 k0 k1 k2 k4 hr pl1 pl2 pl4 hD
    unfold m_text_10 at hD
    refine wq_iload k4 rfl ?_
    refine wq_bipush (by decide) rfl ?_
    refine wq_icmp_ge pl4 ⟨by decide, by decide⟩ rfl rfl rfl (fun c16 => ?_) (fun c16 => ?_)
    · rw [if_neg (Int.not_lt.mpr c16)] at hD
      refine wq_lload_n k2 rfl ?_
      cases hD
      exact wq_lreturn rfl ⟨_, rfl, hr, pl2⟩
    · rw [if_pos c16] at hD
      refine wq_iload_n k1 rfl ?_
      refine wq_i2l pl1 rfl ?_
      refine wq_iload k4 rfl ?_
      refine wq_i2l pl4 rfl ?_
      refine wq_ladd rfl ?_
      refine wl_lstore rfl rfl (fun la17 kk18 t19 => ?_)
      have kk20 := t19 0 _ ⟨by decide, by decide⟩ (Or.inr rfl) k0
      have kk21 := t19 1 _ ⟨by decide, by decide⟩ (Or.inr rfl) k1
      have kk22 := t19 2 _ ⟨by decide, by decide⟩ (Or.inl (by decide)) k2
      have kk23 := t19 4 _ ⟨by decide, by decide⟩ (Or.inr rfl) k4
      refine wq_lload kk18 rfl ?_
      refine wq_lconst (x := 0) (by decide) rfl ?_
      refine wq_lc_lt (InL_i64 _) ⟨by decide, by decide⟩ rfl rfl rfl rfl (fun c24 => ?_) (fun c24 => ?_)
      · rw [if_pos c24] at hD
        exact c_m_text_63_b hd ih kk20 kk21 kk22 kk23 hr pl1 pl2 pl4 hD
      · rw [if_neg (Int.not_lt.mpr c24)] at hD
        refine wq_lload kk18 rfl ?_
        refine wq_aload_n kk20 rfl ?_
        refine wm_gfi hr rfl rfl (fun pp25 => ?_)
        refine wq_i2l pp25 rfl ?_
        refine wq_lc_ge (InL_i64 _) (InI.toL pp25) rfl rfl rfl rfl (fun c26 => ?_) (fun c26 => ?_)
        · rw [if_neg (Int.not_lt.mpr c26)] at hD
          exact c_m_text_63_b hd ih kk20 kk21 kk22 kk23 hr pl1 pl2 pl4 hD
        · rw [if_pos c26] at hD
          refine wq_lload_n kk22 rfl ?_
          refine wq_aload_n kk20 rfl ?_
          refine wm_gfa (c := 0) hr rfl rfl ?_
          refine wq_lload kk18 rfl ?_
          refine wq_l2i rfl ?_
          obtain ⟨g27, g28, hD⟩ := ck_of hD
          refine wm_ali (f := 83) hr rfl (InI_i32 _) g27 g28 rfl (fun pp29 => ?_)
          refine wq_i2l pp29 rfl ?_
          refine wq_bipush (by decide) rfl ?_
          refine wq_iload kk23 rfl ?_
          refine wq_imul rfl ?_
          refine wq_lshl rfl ?_
          refine wq_lor rfl ?_
          refine wq_goto rfl rfl ?_
          exact c_m_text_64_b hd ih kk20 kk21 kk23 hr pl1 pl4 (InL_toInt _) hD
def m_text (g : Nat) (l1 : Int) (m : MS) : Option (Int × MS) := wlet (mset m 3 0 0) (fun m1 => m_text_10 g g l1 0 0 m1)
theorem c_m_text_b {dd : Nat} (hd : 0 ≤ dd) {g : Nat} {h0 : RHeap} {vF : Int} {mF : MS} {la : RLoc} {h : RHeap} {m : MS} {l1 : Int} (k0 : rx_look la 0 = some (.ref 170)) (k1 : rx_look la 1 = some (wvi l1)) (hr : RM h0 h m) (pl1 : InI l1) (hD : m_text g l1 m = some (vF, mF)) : Wq O F (Cd O F rp_P dd) (7, 5, rw_X12_text, []) (rx_at rw_X12_text 0) la [] h (QV 1 h0 vF mF) := by
  unfold m_text at hD
  refine wq_aload_n k0 rfl ?_
  refine wq_iconst rfl ?_
  obtain ⟨m1, e2, hD⟩ := wlet_of hD
  refine wm_pfi hr rfl rfl ⟨by decide, by decide⟩ rfl (fun h3 hr4 => ?_)
  rw [← e2] at hr4
  refine wq_lconst (x := 0) (by decide) rfl ?_
  refine wl_lstore_n rfl rfl (fun la5 kk6 t7 => ?_)
  have kk8 := t7 0 _ ⟨by decide, by decide⟩ (Or.inr rfl) k0
  have kk9 := t7 1 _ ⟨by decide, by decide⟩ (Or.inr rfl) k1
  refine wq_iconst rfl ?_
  refine wl_istore rfl rfl (fun la10 kk11 t12 => ?_)
  have kk13 := t12 0 _ (by decide) (Or.inr rfl) kk8
  have kk14 := t12 1 _ (by decide) (Or.inr rfl) kk9
  have kk15 := t12 2 _ (by decide) (Or.inl (by decide)) kk6
  exact c_m_text_10 hd g kk13 kk14 kk15 kk11 hr4 pl1 ⟨by decide, by decide⟩ ⟨by decide, by decide⟩ hD
theorem c_text {d : Nat} (hd : 1 ≤ d) {g : Nat} {h0 h : RHeap} {m : MS} {l1 : Int} {vF : Int} {mF : MS} (hr : RM h0 h m) (pl1 : InI l1) (hD : m_text g l1 m = some (vF, mF)) : Cq (Cd O F rp_P d) 288 [.ref 170, wvi l1] h (QV 1 h0 vF mF) := by
  refine cq_of (I := (7, 5, rw_X12_text, [])) rfl rfl (by omega) ?_
  exact c_m_text_b (by omega) rfl rfl hr pl1 hD
def m_told_66 (s0 : Int) (m : MS) : Option (Int × MS) := some (s0, m)
theorem c_m_told_66_b {dd : Nat} (hd : 0 ≤ dd) {h0 : RHeap} {vF : Int} {mF : MS} {la : RLoc} {h : RHeap} {m : MS} {s0 : Int} (hr : RM h0 h m) (ps0 : InI s0) (hD : m_told_66 s0 m = some (vF, mF)) : Wq O F (Cd O F rp_P dd) (2, 1, rw_X12_told, []) (rx_at rw_X12_told 66) la [wvi s0] h (QV 0 h0 vF mF) := by
  unfold m_told_66 at hD
  cases hD
  exact wq_ireturn rfl ⟨_, rfl, hr, ps0⟩
def m_told_15 (l1 : Int) (s1 : Int) (m : MS) : Option (Int × MS) := wlet (mset m 3 0 s1) (fun m3 => if 0 < (m3 3 0) then some (0, m3) else if l1 = 0 then m_told_66 (m3 100 0) m3 else if l1 = 1 then m_told_66 (m3 90 0) m3 else if l1 = 2 then m_told_66 (m3 88 0) m3 else m_told_66 (m3 82 0) m3)
theorem c_m_told_15_b {dd : Nat} (hd : 0 ≤ dd) {h0 : RHeap} {vF : Int} {mF : MS} {la : RLoc} {h : RHeap} {m : MS} {l1 s1 : Int} (k0 : rx_look la 0 = some (.ref 170)) (k1 : rx_look la 1 = some (wvi l1)) (hr : RM h0 h m) (pl1 : InI l1) (ps1 : (s1 = 0 ∨ s1 = 1)) (hD : m_told_15 l1 s1 m = some (vF, mF)) : Wq O F (Cd O F rp_P dd) (2, 1, rw_X12_told, []) (rx_at rw_X12_told 15) la [wvi s1, .ref 170] h (QV 0 h0 vF mF) := by
  unfold m_told_15 at hD
  obtain ⟨m3, e4, hD⟩ := wlet_of hD
  refine wm_pfi hr rfl rfl (InI_z ps1) rfl (fun h5 hr6 => ?_)
  rw [← e4] at hr6
  refine wq_aload_n k0 rfl ?_
  refine wm_gfi hr6 rfl rfl (fun pp7 => ?_)
  refine wq_if_le pp7 rfl rfl rfl (fun c8 => ?_) (fun c8 => ?_)
  · rw [if_neg (Int.not_lt.mpr c8)] at hD
    refine wq_iload_n k1 rfl ?_
    refine wq_if_ne pl1 rfl rfl rfl (fun c9 => ?_) (fun c9 => ?_)
    · rw [if_neg c9] at hD
      refine wq_iload_n k1 rfl ?_
      refine wq_iconst rfl ?_
      refine wq_icmp_ne pl1 ⟨by decide, by decide⟩ rfl rfl rfl (fun c10 => ?_) (fun c10 => ?_)
      · rw [if_neg c10] at hD
        refine wq_iload_n k1 rfl ?_
        refine wq_iconst rfl ?_
        refine wq_icmp_ne pl1 ⟨by decide, by decide⟩ rfl rfl rfl (fun c11 => ?_) (fun c11 => ?_)
        · rw [if_neg c11] at hD
          refine wq_aload_n k0 rfl ?_
          refine wm_gfi hr6 rfl rfl (fun pp12 => ?_)
          exact c_m_told_66_b hd hr6 pp12 hD
        · rw [if_pos c11] at hD
          refine wq_aload_n k0 rfl ?_
          refine wm_gfi hr6 rfl rfl (fun pp13 => ?_)
          refine wq_goto rfl rfl ?_
          exact c_m_told_66_b hd hr6 pp13 hD
      · rw [if_pos c10] at hD
        refine wq_aload_n k0 rfl ?_
        refine wm_gfi hr6 rfl rfl (fun pp14 => ?_)
        refine wq_goto rfl rfl ?_
        exact c_m_told_66_b hd hr6 pp14 hD
    · rw [if_pos c9] at hD
      refine wq_aload_n k0 rfl ?_
      refine wm_gfi hr6 rfl rfl (fun pp15 => ?_)
      refine wq_goto rfl rfl ?_
      exact c_m_told_66_b hd hr6 pp15 hD
  · rw [if_pos c8] at hD
    refine wq_iconst rfl ?_
    cases hD
    exact wq_ireturn rfl ⟨_, rfl, hr6, ⟨by decide, by decide⟩⟩
def m_told_10 (l1 : Int) (m : MS) : Option (Int × MS) := m_told_15 l1 1 m
theorem c_m_told_10_b {dd : Nat} (hd : 0 ≤ dd) {h0 : RHeap} {vF : Int} {mF : MS} {la : RLoc} {h : RHeap} {m : MS} {l1 : Int} (k0 : rx_look la 0 = some (.ref 170)) (k1 : rx_look la 1 = some (wvi l1)) (hr : RM h0 h m) (pl1 : InI l1) (hD : m_told_10 l1 m = some (vF, mF)) : Wq O F (Cd O F rp_P dd) (2, 1, rw_X12_told, []) (rx_at rw_X12_told 10) la [.ref 170] h (QV 0 h0 vF mF) := by
  unfold m_told_10 at hD
  refine wq_iconst rfl ?_
  refine wq_goto rfl rfl ?_
  exact c_m_told_15_b hd k0 k1 hr pl1 (Or.inr rfl) hD
def m_told (l1 : Int) (m : MS) : Option (Int × MS) := if l1 < 0 then m_told_10 l1 m else if 3 < l1 then m_told_10 l1 m else m_told_15 l1 0 m
theorem c_m_told_b {dd : Nat} (hd : 0 ≤ dd) {h0 : RHeap} {vF : Int} {mF : MS} {la : RLoc} {h : RHeap} {m : MS} {l1 : Int} (k0 : rx_look la 0 = some (.ref 170)) (k1 : rx_look la 1 = some (wvi l1)) (hr : RM h0 h m) (pl1 : InI l1) (hD : m_told l1 m = some (vF, mF)) : Wq O F (Cd O F rp_P dd) (2, 1, rw_X12_told, []) (rx_at rw_X12_told 0) la [] h (QV 0 h0 vF mF) := by
  unfold m_told at hD
  refine wq_aload_n k0 rfl ?_
  refine wq_iload_n k1 rfl ?_
  refine wq_if_lt pl1 rfl rfl rfl (fun c1 => ?_) (fun c1 => ?_)
  · rw [if_pos c1] at hD
    exact c_m_told_10_b hd k0 k1 hr pl1 hD
  · rw [if_neg (Int.not_lt.mpr c1)] at hD
    refine wq_iload_n k1 rfl ?_
    refine wq_iconst rfl ?_
    refine wq_icmp_le pl1 ⟨by decide, by decide⟩ rfl rfl rfl (fun c2 => ?_) (fun c2 => ?_)
    · rw [if_neg (Int.not_lt.mpr c2)] at hD
      refine wq_iconst rfl ?_
      exact c_m_told_15_b hd k0 k1 hr pl1 (Or.inl rfl) hD
    · rw [if_pos c2] at hD
      exact c_m_told_10_b hd k0 k1 hr pl1 hD
theorem c_told {d : Nat} (hd : 1 ≤ d) {h0 h : RHeap} {m : MS} {l1 : Int} {vF : Int} {mF : MS} (hr : RM h0 h m) (pl1 : InI l1) (hD : m_told l1 m = some (vF, mF)) : Cq (Cd O F rp_P d) 289 [.ref 170, wvi l1] h (QV 0 h0 vF mF) := by
  refine cq_of (I := (2, 1, rw_X12_told, [])) rfl rfl (by omega) ?_
  exact c_m_told_b (by omega) rfl rfl hr pl1 hD
def m_where (m : MS) : Option (Int × MS) := wlet (mset m 3 0 0) (fun m1 => some (m1 102 0, m1))
theorem c_m_where_b {dd : Nat} (hd : 0 ≤ dd) {h0 : RHeap} {vF : Int} {mF : MS} {la : RLoc} {h : RHeap} {m : MS} (k0 : rx_look la 0 = some (.ref 170)) (hr : RM h0 h m) (hD : m_where m = some (vF, mF)) : Wq O F (Cd O F rp_P dd) (1, 1, rw_X12_where, []) (rx_at rw_X12_where 0) la [] h (QV 0 h0 vF mF) := by
  unfold m_where at hD
  refine wq_aload_n k0 rfl ?_
  refine wq_iconst rfl ?_
  obtain ⟨m1, e2, hD⟩ := wlet_of hD
  refine wm_pfi hr rfl rfl ⟨by decide, by decide⟩ rfl (fun h3 hr4 => ?_)
  rw [← e2] at hr4
  refine wq_aload_n k0 rfl ?_
  refine wm_gfi hr4 rfl rfl (fun pp5 => ?_)
  cases hD
  exact wq_ireturn rfl ⟨_, rfl, hr4, pp5⟩
theorem c_where {d : Nat} (hd : 1 ≤ d) {h0 h : RHeap} {m : MS} {vF : Int} {mF : MS} (hr : RM h0 h m) (hD : m_where m = some (vF, mF)) : Cq (Cd O F rp_P d) 296 [.ref 170] h (QV 0 h0 vF mF) := by
  refine cq_of (I := (1, 1, rw_X12_where, [])) rfl rfl (by omega) ?_
  exact c_m_where_b (by omega) rfl hr hD
def m_wipe (m : MS) : Option (Int × MS) := wlet (mset m 3 0 0) (fun m1 => wlet (mset m1 5 0 0) (fun m10 => some (m1 5 0, m10)))
theorem c_m_wipe_b {dd : Nat} (hd : 0 ≤ dd) {h0 : RHeap} {vF : Int} {mF : MS} {la : RLoc} {h : RHeap} {m : MS} (k0 : rx_look la 0 = some (.ref 170)) (hr : RM h0 h m) (hD : m_wipe m = some (vF, mF)) : Wq O F (Cd O F rp_P dd) (2, 1, rw_X12_wipe, []) (rx_at rw_X12_wipe 0) la [] h (QV 0 h0 vF mF) := by
  unfold m_wipe at hD
  refine wq_aload_n k0 rfl ?_
  refine wq_iconst rfl ?_
  obtain ⟨m1, e2, hD⟩ := wlet_of hD
  refine wm_pfi hr rfl rfl ⟨by decide, by decide⟩ rfl (fun h3 hr4 => ?_)
  rw [← e2] at hr4
  refine wq_aload_n k0 rfl ?_
  refine wm_gfi hr4 rfl rfl (fun pp5 => ?_)
  refine wl_istore_n rfl rfl (fun la6 kk7 t8 => ?_)
  have kk9 := t8 0 _ (by decide) (Or.inr rfl) k0
  refine wq_aload_n kk9 rfl ?_
  refine wq_iconst rfl ?_
  obtain ⟨m10, e11, hD⟩ := wlet_of hD
  refine wm_pfi hr4 rfl rfl ⟨by decide, by decide⟩ rfl (fun h12 hr13 => ?_)
  rw [← e11] at hr13
  refine wq_iload_n kk7 rfl ?_
  cases hD
  exact wq_ireturn rfl ⟨_, rfl, hr13, pp5⟩
theorem c_wipe {d : Nat} (hd : 1 ≤ d) {h0 h : RHeap} {m : MS} {vF : Int} {mF : MS} (hr : RM h0 h m) (hD : m_wipe m = some (vF, mF)) : Cq (Cd O F rp_P d) 297 [.ref 170] h (QV 0 h0 vF mF) := by
  refine cq_of (I := (2, 1, rw_X12_wipe, [])) rfl rfl (by omega) ?_
  exact c_m_wipe_b (by omega) rfl hr hD
def m_written (m : MS) : Option (Int × MS) := wlet (mset m 3 0 0) (fun m1 => some (m1 84 0, m1))
theorem c_m_written_b {dd : Nat} (hd : 0 ≤ dd) {h0 : RHeap} {vF : Int} {mF : MS} {la : RLoc} {h : RHeap} {m : MS} (k0 : rx_look la 0 = some (.ref 170)) (hr : RM h0 h m) (hD : m_written m = some (vF, mF)) : Wq O F (Cd O F rp_P dd) (1, 1, rw_X12_written, []) (rx_at rw_X12_written 0) la [] h (QV 0 h0 vF mF) := by
  unfold m_written at hD
  refine wq_aload_n k0 rfl ?_
  refine wq_iconst rfl ?_
  obtain ⟨m1, e2, hD⟩ := wlet_of hD
  refine wm_pfi hr rfl rfl ⟨by decide, by decide⟩ rfl (fun h3 hr4 => ?_)
  rw [← e2] at hr4
  refine wq_aload_n k0 rfl ?_
  refine wm_gfi hr4 rfl rfl (fun pp5 => ?_)
  cases hD
  exact wq_ireturn rfl ⟨_, rfl, hr4, pp5⟩
theorem c_written {d : Nat} (hd : 1 ≤ d) {h0 h : RHeap} {m : MS} {vF : Int} {mF : MS} (hr : RM h0 h m) (hD : m_written m = some (vF, mF)) : Cq (Cd O F rp_P d) 304 [.ref 170] h (QV 0 h0 vF mF) := by
  refine cq_of (I := (1, 1, rw_X12_written, [])) rfl rfl (by omega) ?_
  exact c_m_written_b (by omega) rfl hr hD
end Dec
