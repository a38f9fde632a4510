section Dec
variable {O : ROld} {F : RFacts}
def m_become (l1 : Int) (m : MS) : Option MS := ck l1 140 (wlet (mset m 20 l1 (m 33 0)) (fun m4 => ck l1 140 (wlet (mset m4 21 l1 (m4 34 0)) (fun m11 => ck l1 140 (wlet (mset m11 22 l1 (m11 35 0)) (fun m18 => ck l1 140 (wlet (mset m18 23 l1 (m18 36 0)) (fun m25 => ck l1 140 (wlet (mset m25 24 l1 (m25 37 0)) (fun m32 => ck l1 140 (wlet (mset m32 25 l1 (m32 38 0)) (fun m39 => ck l1 140 (wlet (mset m39 26 l1 (m39 39 0)) (fun m46 => ck l1 140 (wlet (mset m46 27 l1 (m46 40 0)) (fun m53 => ck l1 140 (wlet (mset m53 19 l1 0) (fun m59 => some m59))))))))))))))))))
theorem c_m_become_b {dd : Nat} (hd : 0 ≤ dd) {h0 : RHeap} {mF : MS} {la : RLoc} {h : RHeap} {m : MS} {l1 : Int} (k0 : rx_look la 0 = some (.ref 170)) (k1 : rx_look la 1 = some (wvi l1)) (hr : RM h0 h m) (pl1 : InI l1) (hD : m_become l1 m = some mF) : Wq O F (Cd O F rp_P dd) (2, 0, rw_X12_become, []) (rx_at rw_X12_become 0) la [] h (QN h0 mF) := by
  unfold m_become at hD
  refine wq_aload_n k0 rfl ?_
  refine wm_gfa (c := 0) hr rfl rfl ?_
  refine wq_iload_n k1 rfl ?_
  refine wq_aload_n k0 rfl ?_
  refine wm_gfi hr rfl rfl (fun pp1 => ?_)
  obtain ⟨g2, g3, hD⟩ := ck_of hD
  obtain ⟨m4, e5, hD⟩ := wlet_of hD
  refine wm_asi (f := 20) hr rfl pl1 g2 g3 pp1 rfl (fun h6 hr7 => ?_)
  rw [← e5] at hr7
  refine wq_aload_n k0 rfl ?_
  refine wm_gfa (c := 3) hr7 rfl rfl ?_
  refine wq_iload_n k1 rfl ?_
  refine wq_aload_n k0 rfl ?_
  refine wm_gfz hr7 rfl rfl (fun pp8 => ?_)
  obtain ⟨g9, g10, hD⟩ := ck_of hD
  obtain ⟨m11, e12, hD⟩ := wlet_of hD
  refine wm_asz (f := 21) hr7 rfl pl1 g9 g10 pp8 rfl (fun h13 hr14 => ?_)
  rw [← e12] at hr14
  refine wq_aload_n k0 rfl ?_
  refine wm_gfa (c := 0) hr14 rfl rfl ?_
  refine wq_iload_n k1 rfl ?_
  refine wq_aload_n k0 rfl ?_
  refine wm_gfi hr14 rfl rfl (fun pp15 => ?_)
  obtain ⟨g16, g17, hD⟩ := ck_of hD
  obtain ⟨m18, e19, hD⟩ := wlet_of hD
  refine wm_asi (f := 22) hr14 rfl pl1 g16 g17 pp15 rfl (fun h20 hr21 => ?_)
  rw [← e19] at hr21
  refine wq_aload_n k0 rfl ?_
  refine wm_gfa (c := 0) hr21 rfl rfl ?_
  refine wq_iload_n k1 rfl ?_
  refine wq_aload_n k0 rfl ?_
  refine wm_gfi hr21 rfl rfl (fun pp22 => ?_)
  obtain ⟨g23, g24, hD⟩ := ck_of hD
  obtain ⟨m25, e26, hD⟩ := wlet_of hD
  refine wm_asi (f := 23) hr21 rfl pl1 g23 g24 pp22 rfl (fun h27 hr28 => ?_)
  rw [← e26] at hr28
  refine wq_aload_n k0 rfl ?_
  refine wm_gfa (c := 3) hr28 rfl rfl ?_
  refine wq_iload_n k1 rfl ?_
  refine wq_aload_n k0 rfl ?_
  refine wm_gfz hr28 rfl rfl (fun pp29 => ?_)
  obtain ⟨g30, g31, hD⟩ := ck_of hD
  obtain ⟨m32, e33, hD⟩ := wlet_of hD
  refine wm_asz (f := 24) hr28 rfl pl1 g30 g31 pp29 rfl (fun h34 hr35 => ?_)
  rw [← e33] at hr35
  refine wq_aload_n k0 rfl ?_
  refine wm_gfa (c := 0) hr35 rfl rfl ?_
  refine wq_iload_n k1 rfl ?_
  refine wq_aload_n k0 rfl ?_
  refine wm_gfi hr35 rfl rfl (fun pp36 => ?_)
  obtain ⟨g37, g38, hD⟩ := ck_of hD
  obtain ⟨m39, e40, hD⟩ := wlet_of hD
  refine wm_asi (f := 25) hr35 rfl pl1 g37 g38 pp36 rfl (fun h41 hr42 => ?_)
  rw [← e40] at hr42
  refine wq_aload_n k0 rfl ?_
  refine wm_gfa (c := 0) hr42 rfl rfl ?_
  refine wq_iload_n k1 rfl ?_
  refine wq_aload_n k0 rfl ?_
  refine wm_gfi hr42 rfl rfl (fun pp43 => ?_)
  obtain ⟨g44, g45, hD⟩ := ck_of hD
  obtain ⟨m46, e47, hD⟩ := wlet_of hD
  refine wm_asi (f := 26) hr42 rfl pl1 g44 g45 pp43 rfl (fun h48 hr49 => ?_)
  rw [← e47] at hr49
  refine wq_aload_n k0 rfl ?_
  refine wm_gfa (c := 0) hr49 rfl rfl ?_
  refine wq_iload_n k1 rfl ?_
  refine wq_aload_n k0 rfl ?_
  refine wm_gfi hr49 rfl rfl (fun pp50 => ?_)
  obtain ⟨g51, g52, hD⟩ := ck_of hD
  obtain ⟨m53, e54, hD⟩ := wlet_of hD
  refine wm_asi (f := 27) hr49 rfl pl1 g51 g52 pp50 rfl (fun h55 hr56 => ?_)
  rw [← e54] at hr56
  refine wq_aload_n k0 rfl ?_
  refine wm_gfa (c := 3) hr56 rfl rfl ?_
  refine wq_iload_n k1 rfl ?_
  refine wq_iconst rfl ?_
  obtain ⟨g57, g58, hD⟩ := ck_of hD
  obtain ⟨m59, e60, hD⟩ := wlet_of hD
  refine wm_asz (f := 19) hr56 rfl pl1 g57 g58 (Or.inl rfl) rfl (fun h61 hr62 => ?_)
  rw [← e60] at hr62
  cases hD
  exact wq_return rfl ⟨_, rfl, hr62⟩
theorem c_become {d : Nat} (hd : 1 ≤ d) {h0 h : RHeap} {m : MS} {l1 : Int} {mF : MS} (hr : RM h0 h m) (pl1 : InI l1) (hD : m_become l1 m = some mF) : Cq (Cd O F rp_P d) 205 [.ref 170, wvi l1] h (QN h0 mF) := by
  refine cq_of (I := (2, 0, rw_X12_become, [])) rfl rfl (by omega) ?_
  exact c_m_become_b (by omega) rfl rfl hr pl1 hD
def m_fail_17 (m : MS) : Option MS := some m
theorem c_m_fail_17_b {dd : Nat} (hd : 0 ≤ dd) {h0 : RHeap} {mF : MS} {la : RLoc} {h : RHeap} {m : MS} (hr : RM h0 h m) (hD : m_fail_17 m = some mF) : Wq O F (Cd O F rp_P dd) (3, 0, rw_X12_fail, []) (rx_at rw_X12_fail 17) la [] h (QN h0 mF) := by
  unfold m_fail_17 at hD
  cases hD
  exact wq_return rfl ⟨_, rfl, hr⟩
def m_fail (l1 : Int) (l2 : Int) (m : MS) : Option MS := if (m 6 0) = 0 then wlet (mset m 6 0 l1) (fun m3 => wlet (mset m3 7 0 l2) (fun m7 => m_fail_17 m7)) else m_fail_17 m
theorem c_m_fail_b {dd : Nat} (hd : 0 ≤ dd) {h0 : RHeap} {mF : MS} {la : RLoc} {h : RHeap} {m : MS} {l1 l2 : Int} (k0 : rx_look la 0 = some (.ref 170)) (k1 : rx_look la 1 = some (wvi l1)) (k2 : rx_look la 2 = some (wvi l2)) (hr : RM h0 h m) (pl1 : InI l1) (pl2 : InI l2) (hD : m_fail l1 l2 m = some mF) : Wq O F (Cd O F rp_P dd) (3, 0, rw_X12_fail, []) (rx_at rw_X12_fail 0) la [] h (QN h0 mF) := by
  unfold m_fail at hD
  refine wq_aload_n k0 rfl ?_
  refine wm_gfi hr rfl rfl (fun pp1 => ?_)
  refine wq_if_ne pp1 rfl rfl rfl (fun c2 => ?_) (fun c2 => ?_)
  · rw [if_neg c2] at hD
    exact c_m_fail_17_b hd hr hD
  · rw [if_pos c2] at hD
    refine wq_aload_n k0 rfl ?_
    refine wq_iload_n k1 rfl ?_
    obtain ⟨m3, e4, hD⟩ := wlet_of hD
    refine wm_pfi hr rfl rfl pl1 rfl (fun h5 hr6 => ?_)
    rw [← e4] at hr6
    refine wq_aload_n k0 rfl ?_
    refine wq_iload_n k2 rfl ?_
    obtain ⟨m7, e8, hD⟩ := wlet_of hD
    refine wm_pfi hr6 rfl rfl pl2 rfl (fun h9 hr10 => ?_)
    rw [← e8] at hr10
    exact c_m_fail_17_b hd hr10 hD
theorem c_fail {d : Nat} (hd : 1 ≤ d) {h0 h : RHeap} {m : MS} {l1 l2 : Int} {mF : MS} (hr : RM h0 h m) (pl1 : InI l1) (pl2 : InI l2) (hD : m_fail l1 l2 m = some mF) : Cq (Cd O F rp_P d) 225 [.ref 170, wvi l1, wvi l2] h (QN h0 mF) := by
  refine cq_of (I := (3, 0, rw_X12_fail, [])) rfl rfl (by omega) ?_
  exact c_m_fail_b (by omega) rfl rfl rfl hr pl1 pl2 hD
def m_byteAt_18 (s0 : Int) (m : MS) : Option (Int × MS) := some (s0, m)
theorem c_m_byteAt_18_b {dd : Nat} (hd : 0 ≤ dd) {h0 : RHeap} {vF : Int} {mF : MS} {la : RLoc} {h : RHeap} {m : MS} {s0 : Int} (hr : RM h0 h m) (ps0 : InI s0) (hD : m_byteAt_18 s0 m = some (vF, mF)) : Wq O F (Cd O F rp_P dd) (2, 1, rw_X12_byteAt, []) (rx_at rw_X12_byteAt 18) la [wvi s0] h (QV 0 h0 vF mF) := by
  unfold m_byteAt_18 at hD
  cases hD
  exact wq_ireturn rfl ⟨_, rfl, hr, ps0⟩
def m_byteAt (l1 : Int) (m : MS) : Option (Int × MS) := if l1 < (m 5 0) then ck l1 1500 (m_byteAt_18 (m 4 l1) m) else m_byteAt_18 (-1) m
theorem c_m_byteAt_b {dd : Nat} (hd : 0 ≤ dd) {h0 : RHeap} {vF : Int} {mF : MS} {la : RLoc} {h : RHeap} {m : MS} {l1 : Int} (k0 : rx_look la 0 = some (.ref 170)) (k1 : rx_look la 1 = some (wvi l1)) (hr : RM h0 h m) (pl1 : InI l1) (hD : m_byteAt l1 m = some (vF, mF)) : Wq O F (Cd O F rp_P dd) (2, 1, rw_X12_byteAt, []) (rx_at rw_X12_byteAt 0) la [] h (QV 0 h0 vF mF) := by
  unfold m_byteAt at hD
  refine wq_iload_n k1 rfl ?_
  refine wq_aload_n k0 rfl ?_
  refine wm_gfi hr rfl rfl (fun pp1 => ?_)
  refine wq_icmp_ge pl1 pp1 rfl rfl rfl (fun c2 => ?_) (fun c2 => ?_)
  · rw [if_neg (Int.not_lt.mpr c2)] at hD
    refine wq_iconst rfl ?_
    exact c_m_byteAt_18_b hd hr ⟨by decide, by decide⟩ hD
  · rw [if_pos c2] at hD
    refine wq_aload_n k0 rfl ?_
    refine wm_gfa (c := 0) hr rfl rfl ?_
    refine wq_iload_n k1 rfl ?_
    obtain ⟨g3, g4, hD⟩ := ck_of hD
    refine wm_ali (f := 4) hr rfl pl1 g3 g4 rfl (fun pp5 => ?_)
    refine wq_goto rfl rfl ?_
    exact c_m_byteAt_18_b hd hr pp5 hD
theorem c_byteAt {d : Nat} (hd : 1 ≤ d) {h0 h : RHeap} {m : MS} {l1 : Int} {vF : Int} {mF : MS} (hr : RM h0 h m) (pl1 : InI l1) (hD : m_byteAt l1 m = some (vF, mF)) : Cq (Cd O F rp_P d) 210 [.ref 170, wvi l1] h (QV 0 h0 vF mF) := by
  refine cq_of (I := (2, 1, rw_X12_byteAt, [])) rfl rfl (by omega) ?_
  exact c_m_byteAt_b (by omega) rfl rfl hr pl1 hD
def m_isFigure_17 (s0 : Int) (m : MS) : Option (Int × MS) := some (s0, m)
theorem c_m_isFigure_17_b {dd : Nat} (hd : 0 ≤ dd) {h0 : RHeap} {vF : Int} {mF : MS} {la : RLoc} {h : RHeap} {m : MS} {s0 : Int} (hr : RM h0 h m) (ps0 : (s0 = 0 ∨ s0 = 1)) (hD : m_isFigure_17 s0 m = some (vF, mF)) : Wq O F (Cd O F rp_P dd) (1, 2, rw_X12_isFigure, []) (rx_at rw_X12_isFigure 17) la [wvi s0] h (QV 3 h0 vF mF) := by
  unfold m_isFigure_17 at hD
  cases hD
  exact wq_zreturn rfl ps0 ⟨_, rfl, hr, ps0⟩
def m_isFigure_16 (m : MS) : Option (Int × MS) := m_isFigure_17 0 m
theorem c_m_isFigure_16_b {dd : Nat} (hd : 0 ≤ dd) {h0 : RHeap} {vF : Int} {mF : MS} {la : RLoc} {h : RHeap} {m : MS} (hr : RM h0 h m) (hD : m_isFigure_16 m = some (vF, mF)) : Wq O F (Cd O F rp_P dd) (1, 2, rw_X12_isFigure, []) (rx_at rw_X12_isFigure 16) la [] h (QV 3 h0 vF mF) := by
  unfold m_isFigure_16 at hD
  refine wq_iconst rfl ?_
  exact c_m_isFigure_17_b hd hr (Or.inl rfl) hD
def m_isFigure (l0 : Int) (m : MS) : Option (Int × MS) := if l0 < 48 then m_isFigure_16 m else if 57 < l0 then m_isFigure_16 m else m_isFigure_17 1 m
theorem c_m_isFigure_b {dd : Nat} (hd : 0 ≤ dd) {h0 : RHeap} {vF : Int} {mF : MS} {la : RLoc} {h : RHeap} {m : MS} {l0 : Int} (k0 : rx_look la 0 = some (wvi l0)) (hr : RM h0 h m) (pl0 : InI l0) (hD : m_isFigure l0 m = some (vF, mF)) : Wq O F (Cd O F rp_P dd) (1, 2, rw_X12_isFigure, []) (rx_at rw_X12_isFigure 0) la [] h (QV 3 h0 vF mF) := by
  unfold m_isFigure at hD
  refine wq_iload_n k0 rfl ?_
  refine wq_bipush (by decide) rfl ?_
  refine wq_icmp_lt pl0 ⟨by decide, by decide⟩ rfl rfl rfl (fun c1 => ?_) (fun c1 => ?_)
  · rw [if_pos c1] at hD
    exact c_m_isFigure_16_b hd hr hD
  · rw [if_neg (Int.not_lt.mpr c1)] at hD
    refine wq_iload_n k0 rfl ?_
    refine wq_bipush (by decide) rfl ?_
    refine wq_icmp_gt pl0 ⟨by decide, by decide⟩ rfl rfl rfl (fun c2 => ?_) (fun c2 => ?_)
    · rw [if_pos c2] at hD
      exact c_m_isFigure_16_b hd hr hD
    · rw [if_neg (Int.not_lt.mpr c2)] at hD
      refine wq_iconst rfl ?_
      refine wq_goto rfl rfl ?_
      exact c_m_isFigure_17_b hd hr (Or.inr rfl) hD
theorem c_isFigure {d : Nat} (hd : 1 ≤ d) {h0 h : RHeap} {m : MS} {l0 : Int} {vF : Int} {mF : MS} (hr : RM h0 h m) (pl0 : InI l0) (hD : m_isFigure l0 m = some (vF, mF)) : Cq (Cd O F rp_P d) 236 [wvi l0] h (QV 3 h0 vF mF) := by
  refine cq_of (I := (1, 2, rw_X12_isFigure, [])) rfl rfl (by omega) ?_
  exact c_m_isFigure_b (by omega) rfl hr pl0 hD
def m_isLetter_17 (s0 : Int) (m : MS) : Option (Int × MS) := some (s0, m)
theorem c_m_isLetter_17_b {dd : Nat} (hd : 0 ≤ dd) {h0 : RHeap} {vF : Int} {mF : MS} {la : RLoc} {h : RHeap} {m : MS} {s0 : Int} (hr : RM h0 h m) (ps0 : (s0 = 0 ∨ s0 = 1)) (hD : m_isLetter_17 s0 m = some (vF, mF)) : Wq O F (Cd O F rp_P dd) (1, 2, rw_X12_isLetter, []) (rx_at rw_X12_isLetter 17) la [wvi s0] h (QV 3 h0 vF mF) := by
  unfold m_isLetter_17 at hD
  cases hD
  exact wq_zreturn rfl ps0 ⟨_, rfl, hr, ps0⟩
def m_isLetter_16 (m : MS) : Option (Int × MS) := m_isLetter_17 0 m
theorem c_m_isLetter_16_b {dd : Nat} (hd : 0 ≤ dd) {h0 : RHeap} {vF : Int} {mF : MS} {la : RLoc} {h : RHeap} {m : MS} (hr : RM h0 h m) (hD : m_isLetter_16 m = some (vF, mF)) : Wq O F (Cd O F rp_P dd) (1, 2, rw_X12_isLetter, []) (rx_at rw_X12_isLetter 16) la [] h (QV 3 h0 vF mF) := by
  unfold m_isLetter_16 at hD
  refine wq_iconst rfl ?_
  exact c_m_isLetter_17_b hd hr (Or.inl rfl) hD
def m_isLetter (l0 : Int) (m : MS) : Option (Int × MS) := if l0 < 97 then m_isLetter_16 m else if 122 < l0 then m_isLetter_16 m else m_isLetter_17 1 m
theorem c_m_isLetter_b {dd : Nat} (hd : 0 ≤ dd) {h0 : RHeap} {vF : Int} {mF : MS} {la : RLoc} {h : RHeap} {m : MS} {l0 : Int} (k0 : rx_look la 0 = some (wvi l0)) (hr : RM h0 h m) (pl0 : InI l0) (hD : m_isLetter l0 m = some (vF, mF)) : Wq O F (Cd O F rp_P dd) (1, 2, rw_X12_isLetter, []) (rx_at rw_X12_isLetter 0) la [] h (QV 3 h0 vF mF) := by
  unfold m_isLetter at hD
  refine wq_iload_n k0 rfl ?_
  refine wq_bipush (by decide) rfl ?_
  refine wq_icmp_lt pl0 ⟨by decide, by decide⟩ rfl rfl rfl (fun c1 => ?_) (fun c1 => ?_)
  · rw [if_pos c1] at hD
    exact c_m_isLetter_16_b hd hr hD
  · rw [if_neg (Int.not_lt.mpr c1)] at hD
    refine wq_iload_n k0 rfl ?_
    refine wq_bipush (by decide) rfl ?_
    refine wq_icmp_gt pl0 ⟨by decide, by decide⟩ rfl rfl rfl (fun c2 => ?_) (fun c2 => ?_)
    · rw [if_pos c2] at hD
      exact c_m_isLetter_16_b hd hr hD
    · rw [if_neg (Int.not_lt.mpr c2)] at hD
      refine wq_iconst rfl ?_
      refine wq_goto rfl rfl ?_
      exact c_m_isLetter_17_b hd hr (Or.inr rfl) hD
theorem c_isLetter {d : Nat} (hd : 1 ≤ d) {h0 h : RHeap} {m : MS} {l0 : Int} {vF : Int} {mF : MS} (hr : RM h0 h m) (pl0 : InI l0) (hD : m_isLetter l0 m = some (vF, mF)) : Cq (Cd O F rp_P d) 237 [wvi l0] h (QV 3 h0 vF mF) := by
  refine cq_of (I := (1, 2, rw_X12_isLetter, [])) rfl rfl (by omega) ?_
  exact c_m_isLetter_b (by omega) rfl hr pl0 hD
def m_skipBlanks_125 (g : Nat) (m : MS) : Option MS := some m
theorem c_m_skipBlanks_125_b {dd : Nat} (hd : 1 ≤ dd) {g : Nat} {h0 : RHeap} {mF : MS} {la : RLoc} {h : RHeap} {m : MS} (hr : RM h0 h m) (hD : m_skipBlanks_125 g m = some mF) : Wq O F (Cd O F rp_P dd) (2, 0, rw_X12_skipBlanks, []) (rx_at rw_X12_skipBlanks 125) la [] h (QN h0 mF) := by
  unfold m_skipBlanks_125 at hD
  cases hD
  exact wq_return rfl ⟨_, rfl, hr⟩
def m_skipBlanks_112 (g : Nat) (rec0 : MS → Option MS) (m : MS) : Option MS := wlet (mset m 8 0 (i32 ((m 8 0) + 1))) (fun m48 => rec0 m48)
theorem c_m_skipBlanks_112_b {dd : Nat} (hd : 1 ≤ dd) {g : Nat} {h0 : RHeap} {mF : MS} {rec0 : MS → Option MS} (hrec0 : ∀ {la : RLoc} {h : RHeap} {m : MS}, rx_look la 0 = some (.ref 170) → RM h0 h m → rec0 m = some mF → Wq O F (Cd O F rp_P dd) (2, 0, rw_X12_skipBlanks, []) (rx_at rw_X12_skipBlanks 0) la [] h (QN h0 mF)) {la : RLoc} {h : RHeap} {m : MS} (k0 : rx_look la 0 = some (.ref 170)) (hr : RM h0 h m) (hD : m_skipBlanks_112 g rec0 m = some mF) : Wq O F (Cd O F rp_P dd) (2, 0, rw_X12_skipBlanks, []) (rx_at rw_X12_skipBlanks 112) la [] h (QN h0 mF) := by
  unfold m_skipBlanks_112 at hD
  refine wq_aload_n k0 rfl ?_
  refine wq_dup rfl rfl ?_
  refine wm_gfi hr rfl rfl (fun pp47 => ?_)
  refine wq_iconst rfl ?_
  refine wq_iadd rfl ?_
  obtain ⟨m48, e49, hD⟩ := wlet_of hD
  refine wm_pfi hr rfl rfl (InI_i32 _) rfl (fun h50 hr51 => ?_)
  rw [← e49] at hr51
  refine wq_goto rfl rfl ?_
  exact hrec0 k0 hr51 hD
def m_skipBlanks_107 (g : Nat) (rec0 : MS → Option MS) (l1 : Int) (m : MS) : Option MS := wlet (mset m 8 0 l1) (fun m43 => m_skipBlanks_112 g rec0 m43)
theorem c_m_skipBlanks_107_b {dd : Nat} (hd : 1 ≤ dd) {g : Nat} {h0 : RHeap} {mF : MS} {rec0 : MS → Option MS} (hrec0 : ∀ {la : RLoc} {h : RHeap} {m : MS}, rx_look la 0 = some (.ref 170) → RM h0 h m → rec0 m = some mF → Wq O F (Cd O F rp_P dd) (2, 0, rw_X12_skipBlanks, []) (rx_at rw_X12_skipBlanks 0) la [] h (QN h0 mF)) {la : RLoc} {h : RHeap} {m : MS} {l1 : Int} (k0 : rx_look la 0 = some (.ref 170)) (k1 : rx_look la 1 = some (wvi l1)) (hr : RM h0 h m) (pl1 : InI l1) (hD : m_skipBlanks_107 g rec0 l1 m = some mF) : Wq O F (Cd O F rp_P dd) (2, 0, rw_X12_skipBlanks, []) (rx_at rw_X12_skipBlanks 107) la [] h (QN h0 mF) := by
  unfold m_skipBlanks_107 at hD
  refine wq_aload_n k0 rfl ?_
  refine wq_iload_n k1 rfl ?_
  obtain ⟨m43, e44, hD⟩ := wlet_of hD
  refine wm_pfi hr rfl rfl pl1 rfl (fun h45 hr46 => ?_)
  rw [← e44] at hr46
  exact c_m_skipBlanks_112_b hd hrec0 k0 hr46 hD
def m_skipBlanks_90 (g : Nat) (rec0 : MS → Option MS) (l1 : Int) (m : MS) : Option MS := if l1 = (m 5 0) then nb (m_fail 1 (m 8 0) m) (fun m39 => m_skipBlanks_107 g rec0 l1 m39) else m_skipBlanks_107 g rec0 l1 m
theorem c_m_skipBlanks_90_b {dd : Nat} (hd : 1 ≤ dd) {g : Nat} {h0 : RHeap} {mF : MS} {rec0 : MS → Option MS} (hrec0 : ∀ {la : RLoc} {h : RHeap} {m : MS}, rx_look la 0 = some (.ref 170) → RM h0 h m → rec0 m = some mF → Wq O F (Cd O F rp_P dd) (2, 0, rw_X12_skipBlanks, []) (rx_at rw_X12_skipBlanks 0) la [] h (QN h0 mF)) {la : RLoc} {h : RHeap} {m : MS} {l1 : Int} (k0 : rx_look la 0 = some (.ref 170)) (k1 : rx_look la 1 = some (wvi l1)) (hr : RM h0 h m) (pl1 : InI l1) (hD : m_skipBlanks_90 g rec0 l1 m = some mF) : Wq O F (Cd O F rp_P dd) (2, 0, rw_X12_skipBlanks, []) (rx_at rw_X12_skipBlanks 90) la [] h (QN h0 mF) := by
  unfold m_skipBlanks_90 at hD
  refine wq_iload_n k1 rfl ?_
  refine wq_aload_n k0 rfl ?_
  refine wm_gfi hr rfl rfl (fun pp36 => ?_)
  refine wq_icmp_ne pl1 pp36 rfl rfl rfl (fun c37 => ?_) (fun c37 => ?_)
  · rw [if_neg c37] at hD
    exact c_m_skipBlanks_107_b hd hrec0 k0 k1 hr pl1 hD
  · rw [if_pos c37] at hD
    refine wq_aload_n k0 rfl ?_
    refine wq_iconst rfl ?_
    refine wq_aload_n k0 rfl ?_
    refine wm_gfi hr rfl rfl (fun pp38 => ?_)
    obtain ⟨m39, q42, hD⟩ := nb_of hD
    refine wm_cvN hr (c_fail (by omega) hr ⟨by decide, by decide⟩ pp38 q42) rfl rfl rfl (fun h40 hr41 => ?_)
    exact c_m_skipBlanks_107_b hd hrec0 k0 k1 hr41 pl1 hD
def m_skipBlanks_65 (g : Nat) (rec0 : MS → Option MS) : Nat → Int → MS → Option MS
  | 0, _, _ => none
  | n + 1, l1, m => if l1 < (m 5 0) then ck l1 1500 (if (m 4 l1) = 125 then m_skipBlanks_90 g rec0 l1 m else m_skipBlanks_65 g rec0 n (i32 (l1 + 1)) m) else m_skipBlanks_90 g rec0 l1 m
theorem c_m_skipBlanks_65 {dd : Nat} (hd : 1 ≤ dd) {g : Nat} {h0 : RHeap} {mF : MS} {rec0 : MS → Option MS} (hrec0 : ∀ {la : RLoc} {h : RHeap} {m : MS}, rx_look la 0 = some (.ref 170) → RM h0 h m → rec0 m = some mF → Wq O F (Cd O F rp_P dd) (2, 0, rw_X12_skipBlanks, []) (rx_at rw_X12_skipBlanks 0) la [] h (QN h0 mF)) : ∀ (n : Nat) {la : RLoc} {h : RHeap} {m : MS} {l1 : Int}, rx_look la 0 = some (.ref 170) → rx_look la 1 = some (wvi l1) → RM h0 h m → InI l1 → m_skipBlanks_65 g rec0 n l1 m = some mF → Wq O F (Cd O F rp_P dd) (2, 0, rw_X12_skipBlanks, []) (rx_at rw_X12_skipBlanks 65) la [] h (QN h0 mF) := by
  intro n
  induction n with
  | zero =>
    intro la h m l1 k0 k1 hr pl1 hD
    unfold m_skipBlanks_65 at hD
    cases hD
  | succ n ih =>
    intro la h m l1 k0 k1 hr pl1 hD
    unfold m_skipBlanks_65 at hD
    refine wq_iload_n k1 rfl ?_
    refine wq_aload_n k0 rfl ?_
    refine wm_gfi hr rfl rfl (fun pp26 => ?_)
    refine wq_icmp_ge pl1 pp26 rfl rfl rfl (fun c27 => ?_) (fun c27 => ?_)
    · rw [if_neg (Int.not_lt.mpr c27)] at hD
      exact c_m_skipBlanks_90_b hd hrec0 k0 k1 hr pl1 hD
    · rw [if_pos c27] at hD
      refine wq_aload_n k0 rfl ?_
      refine wm_gfa (c := 0) hr rfl rfl ?_
      refine wq_iload_n k1 rfl ?_
      obtain ⟨g28, g29, hD⟩ := ck_of hD
      refine wm_ali (f := 4) hr rfl pl1 g28 g29 rfl (fun pp30 => ?_)
      refine wq_bipush (by decide) rfl ?_
      refine wq_icmp_eq pp30 ⟨by decide, by decide⟩ rfl rfl rfl (fun c31 => ?_) (fun c31 => ?_)
      · rw [if_pos c31] at hD
        exact c_m_skipBlanks_90_b hd hrec0 k0 k1 hr pl1 hD
      · rw [if_neg c31] at hD
        refine wl_iinc k1 rfl rfl (fun la32 kk33 t34 => ?_)
        have kk35 := t34 0 _ (by decide) (Or.inr rfl) k0
        refine wq_goto rfl rfl ?_
        exact ih kk35 kk33 hr (InI_i32 _) hD
def m_skipBlanks_46 (g : Nat) (rec0 : MS → Option MS) (m : MS) : Option MS := ck (m 8 0) 1500 (if (m 4 (m 8 0)) = 123 then m_skipBlanks_65 g rec0 g (m 8 0) m else m_skipBlanks_112 g rec0 m)
theorem c_m_skipBlanks_46_b {dd : Nat} (hd : 1 ≤ dd) {g : Nat} {h0 : RHeap} {mF : MS} {rec0 : MS → Option MS} (hrec0 : ∀ {la : RLoc} {h : RHeap} {m : MS}, rx_look la 0 = some (.ref 170) → RM h0 h m → rec0 m = some mF → Wq O F (Cd O F rp_P dd) (2, 0, rw_X12_skipBlanks, []) (rx_at rw_X12_skipBlanks 0) la [] h (QN h0 mF)) {la : RLoc} {h : RHeap} {m : MS} (k0 : rx_look la 0 = some (.ref 170)) (hr : RM h0 h m) (hD : m_skipBlanks_46 g rec0 m = some mF) : Wq O F (Cd O F rp_P dd) (2, 0, rw_X12_skipBlanks, []) (rx_at rw_X12_skipBlanks 46) la [] h (QN h0 mF) := by
  unfold m_skipBlanks_46 at hD
  refine wq_aload_n k0 rfl ?_
  refine wm_gfa (c := 0) hr rfl rfl ?_
  refine wq_aload_n k0 rfl ?_
  refine wm_gfi hr rfl rfl (fun pp16 => ?_)
  obtain ⟨g17, g18, hD⟩ := ck_of hD
  refine wm_ali (f := 4) hr rfl pp16 g17 g18 rfl (fun pp19 => ?_)
  refine wq_bipush (by decide) rfl ?_
  refine wq_icmp_ne pp19 ⟨by decide, by decide⟩ rfl rfl rfl (fun c20 => ?_) (fun c20 => ?_)
  · rw [if_neg c20] at hD
    exact c_m_skipBlanks_112_b hd hrec0 k0 hr hD
  · rw [if_pos c20] at hD
    refine wq_aload_n k0 rfl ?_
    refine wm_gfi hr rfl rfl (fun pp21 => ?_)
    refine wl_istore_n rfl rfl (fun la22 kk23 t24 => ?_)
    have kk25 := t24 0 _ (by decide) (Or.inr rfl) k0
    exact c_m_skipBlanks_65 hd hrec0 g kk25 kk23 hr pp21 hD
def m_skipBlanks_0 (g : Nat) : Nat → MS → Option MS
  | 0, _ => none
  | n + 1, m => if (m 8 0) < (m 5 0) then if (m 6 0) = 0 then ck (m 8 0) 1500 (if 32 < (m 4 (m 8 0)) then ck (m 8 0) 1500 (if (m 4 (m 8 0)) = 123 then m_skipBlanks_46 g (m_skipBlanks_0 g n) m else m_skipBlanks_125 g m) else m_skipBlanks_46 g (m_skipBlanks_0 g n) m) else m_skipBlanks_125 g m else m_skipBlanks_125 g m
theorem c_m_skipBlanks_0 {dd : Nat} (hd : 1 ≤ dd) {g : Nat} {h0 : RHeap} {mF : MS} : ∀ (n : Nat) {la : RLoc} {h : RHeap} {m : MS}, rx_look la 0 = some (.ref 170) → RM h0 h m → m_skipBlanks_0 g n m = some mF → Wq O F (Cd O F rp_P dd) (2, 0, rw_X12_skipBlanks, []) (rx_at rw_X12_skipBlanks 0) la [] h (QN h0 mF) := by
  intro n
  induction n with
  | zero =>
    intro la h m k0 hr hD
    unfold m_skipBlanks_0 at hD
    cases hD
  | succ n ih =>
    intro la h m k0 hr hD
    unfold m_skipBlanks_0 at hD
    refine wq_aload_n k0 rfl ?_
    refine wm_gfi hr rfl rfl (fun pp1 => ?_)
    refine wq_aload_n k0 rfl ?_
    refine wm_gfi hr rfl rfl (fun pp2 => ?_)
    refine wq_icmp_ge pp1 pp2 rfl rfl rfl (fun c3 => ?_) (fun c3 => ?_)
    · rw [if_neg (Int.not_lt.mpr c3)] at hD
      exact c_m_skipBlanks_125_b hd hr hD
    · rw [if_pos c3] at hD
      refine wq_aload_n k0 rfl ?_
      refine wm_gfi hr rfl rfl (fun pp4 => ?_)
      refine wq_if_ne pp4 rfl rfl rfl (fun c5 => ?_) (fun c5 => ?_)
      · rw [if_neg c5] at hD
        exact c_m_skipBlanks_125_b hd hr hD
      · rw [if_pos c5] at hD
        refine wq_aload_n k0 rfl ?_
        refine wm_gfa (c := 0) hr rfl rfl ?_
        refine wq_aload_n k0 rfl ?_
        refine wm_gfi hr rfl rfl (fun pp6 => ?_)
        obtain ⟨g7, g8, hD⟩ := ck_of hD
        refine wm_ali (f := 4) hr rfl pp6 g7 g8 rfl (fun pp9 => ?_)
        refine wq_bipush (by decide) rfl ?_
        refine wq_icmp_le pp9 ⟨by decide, by decide⟩ rfl rfl rfl (fun c10 => ?_) (fun c10 => ?_)
        · rw [if_neg (Int.not_lt.mpr c10)] at hD
          exact c_m_skipBlanks_46_b hd ih k0 hr hD
        · rw [if_pos c10] at hD
          refine wq_aload_n k0 rfl ?_
          refine wm_gfa (c := 0) hr rfl rfl ?_
          refine wq_aload_n k0 rfl ?_
          refine wm_gfi hr rfl rfl (fun pp11 => ?_)
          obtain ⟨g12, g13, hD⟩ := ck_of hD
          refine wm_ali (f := 4) hr rfl pp11 g12 g13 rfl (fun pp14 => ?_)
          refine wq_bipush (by decide) rfl ?_
          refine wq_icmp_ne pp14 ⟨by decide, by decide⟩ rfl rfl rfl (fun c15 => ?_) (fun c15 => ?_)
          · rw [if_neg c15] at hD
            exact c_m_skipBlanks_125_b hd hr hD
          · rw [if_pos c15] at hD
            exact c_m_skipBlanks_46_b hd ih k0 hr hD
def m_skipBlanks (g : Nat) (m : MS) : Option MS := m_skipBlanks_0 g g m
theorem c_skipBlanks {d : Nat} (hd : 2 ≤ d) {g : Nat} {h0 h : RHeap} {m : MS} {mF : MS} (hr : RM h0 h m) (hD : m_skipBlanks g m = some mF) : Cq (Cd O F rp_P d) 275 [.ref 170] h (QN h0 mF) := by
  refine cq_of (I := (2, 0, rw_X12_skipBlanks, [])) rfl rfl (by omega) ?_
  exact c_m_skipBlanks_0 (by omega) g rfl hr hD
def m_takeName_92 (g : Nat) (rec5 : MS → Option MS) (s1 : Int) (m : MS) : Option MS := wlet (mset m 11 0 s1) (fun m64 => wlet (mset m64 8 0 (i32 ((m64 8 0) + 1))) (fun m69 => rec5 m69))
theorem c_m_takeName_92_b {dd : Nat} (hd : 1 ≤ dd) {g : Nat} {h0 : RHeap} {mF : MS} {rec5 : MS → Option MS} (hrec5 : ∀ {la : RLoc} {h : RHeap} {m : MS}, rx_look la 0 = some (.ref 170) → RM h0 h m → rec5 m = some mF → Wq O F (Cd O F rp_P dd) (2, 0, rw_X12_takeName, []) (rx_at rw_X12_takeName 5) la [] h (QN h0 mF)) {la : RLoc} {h : RHeap} {m : MS} {s1 : Int} (k0 : rx_look la 0 = some (.ref 170)) (hr : RM h0 h m) (ps1 : InL s1) (hD : m_takeName_92 g rec5 s1 m = some mF) : Wq O F (Cd O F rp_P dd) (2, 0, rw_X12_takeName, []) (rx_at rw_X12_takeName 92) la [wvl s1, .ref 170] h (QN h0 mF) := by
  unfold m_takeName_92 at hD
  obtain ⟨m64, e65, hD⟩ := wlet_of hD
  refine wm_pfl hr rfl rfl ps1 rfl (fun h66 hr67 => ?_)
  rw [← e65] at hr67
  refine wq_aload_n k0 rfl ?_
  refine wq_dup rfl rfl ?_
  refine wm_gfi hr67 rfl rfl (fun pp68 => ?_)
  refine wq_iconst rfl ?_
  refine wq_iadd rfl ?_
  obtain ⟨m69, e70, hD⟩ := wlet_of hD
  refine wm_pfi hr67 rfl rfl (InI_i32 _) rfl (fun h71 hr72 => ?_)
  rw [← e70] at hr72
  refine wq_goto rfl rfl ?_
  exact hrec5 k0 hr72 hD
def m_takeName_83 (g : Nat) (rec5 : MS → Option MS) (s1 : Int) (s2 : Int) (m : MS) : Option MS := m_takeName_92 g rec5 (i64 (s1 + s2)) m
theorem c_m_takeName_83_b {dd : Nat} (hd : 1 ≤ dd) {g : Nat} {h0 : RHeap} {mF : MS} {rec5 : MS → Option MS} (hrec5 : ∀ {la : RLoc} {h : RHeap} {m : MS}, rx_look la 0 = some (.ref 170) → RM h0 h m → rec5 m = some mF → Wq O F (Cd O F rp_P dd) (2, 0, rw_X12_takeName, []) (rx_at rw_X12_takeName 5) la [] h (QN h0 mF)) {la : RLoc} {h : RHeap} {m : MS} {s1 s2 : Int} (k0 : rx_look la 0 = some (.ref 170)) (hr : RM h0 h m) (ps1 : InL s1) (ps2 : InI s2) (hD : m_takeName_83 g rec5 s1 s2 m = some mF) : Wq O F (Cd O F rp_P dd) (2, 0, rw_X12_takeName, []) (rx_at rw_X12_takeName 83) la [wvi s2, wvl s1, .ref 170] h (QN h0 mF) := by
  unfold m_takeName_83 at hD
  refine wq_i2l ps2 rfl ?_
  refine wq_ladd rfl ?_
  refine wq_goto rfl rfl ?_
  exact c_m_takeName_92_b hd hrec5 k0 hr (InL_i64 _) hD
def m_takeName_33 (g : Nat) (rec5 : MS → Option MS) (m : MS) : Option MS := vb (m_byteAt (m 8 0) m) (fun v46 m42 => if (i32 ((m42 8 0) - (m42 9 0))) < 12 then vb (m_isLetter v46 m42) (fun v61 m57 => if v61 = 0 then m_takeName_83 g rec5 (i64 ((m42 11 0) * 37)) (i32 (v46 - 21)) m57 else m_takeName_83 g rec5 (i64 ((m42 11 0) * 37)) (i32 (v46 - 96)) m57) else m_takeName_92 g rec5 (m42 11 0) m42)
theorem c_m_takeName_33_b {dd : Nat} (hd : 1 ≤ dd) {g : Nat} {h0 : RHeap} {mF : MS} {rec5 : MS → Option MS} (hrec5 : ∀ {la : RLoc} {h : RHeap} {m : MS}, rx_look la 0 = some (.ref 170) → RM h0 h m → rec5 m = some mF → Wq O F (Cd O F rp_P dd) (2, 0, rw_X12_takeName, []) (rx_at rw_X12_takeName 5) la [] h (QN h0 mF)) {la : RLoc} {h : RHeap} {m : MS} (k0 : rx_look la 0 = some (.ref 170)) (hr : RM h0 h m) (hD : m_takeName_33 g rec5 m = some mF) : Wq O F (Cd O F rp_P dd) (2, 0, rw_X12_takeName, []) (rx_at rw_X12_takeName 33) la [] h (QN h0 mF) := by
  unfold m_takeName_33 at hD
  refine wq_aload_n k0 rfl ?_
  refine wq_aload_n k0 rfl ?_
  refine wm_gfi hr rfl rfl (fun pp41 => ?_)
  obtain ⟨v46, m42, q45, hD⟩ := vb_of hD
  refine wm_cvI hr (c_byteAt (by omega) hr pp41 q45) rfl rfl rfl (fun h43 hr44 pp47 => ?_)
  refine wl_istore_n rfl rfl (fun la48 kk49 t50 => ?_)
  have kk51 := t50 0 _ (by decide) (Or.inr rfl) k0
  refine wq_aload_n kk51 rfl ?_
  refine wq_aload_n kk51 rfl ?_
  refine wm_gfi hr44 rfl rfl (fun pp52 => ?_)
  refine wq_aload_n kk51 rfl ?_
  refine wm_gfi hr44 rfl rfl (fun pp53 => ?_)
  refine wq_isub rfl ?_
  refine wq_bipush (by decide) rfl ?_
  refine wq_icmp_ge (InI_i32 _) ⟨by decide, by decide⟩ rfl rfl rfl (fun c54 => ?_) (fun c54 => ?_)
  · rw [if_neg (Int.not_lt.mpr c54)] at hD
    refine wq_aload_n kk51 rfl ?_
    refine wm_gfl hr44 rfl rfl (fun pp55 => ?_)
    exact c_m_takeName_92_b hd hrec5 kk51 hr44 pp55 hD
  · rw [if_pos c54] at hD
    refine wq_aload_n kk51 rfl ?_
    refine wm_gfl hr44 rfl rfl (fun pp56 => ?_)
    refine wq_ldc2 (x := 37) (by decide) rfl ?_
    refine wq_lmul rfl ?_
    refine wq_iload_n kk49 rfl ?_
    obtain ⟨v61, m57, q60, hD⟩ := vb_of hD
    refine wm_csZ (fun _ _ => rfl) (c_isLetter (by omega) hr44 pp47 q60) rfl rfl rfl (fun h58 hr59 pp62 => ?_)
    refine wq_if_eq (InI_z pp62) rfl rfl rfl (fun c63 => ?_) (fun c63 => ?_)
    · rw [if_pos c63] at hD
      refine wq_iload_n kk49 rfl ?_
      refine wq_bipush (by decide) rfl ?_
      refine wq_isub rfl ?_
      exact c_m_takeName_83_b hd hrec5 kk51 hr59 (InL_i64 _) (InI_i32 _) hD
    · rw [if_neg c63] at hD
      refine wq_iload_n kk49 rfl ?_
      refine wq_bipush (by decide) rfl ?_
      refine wq_isub rfl ?_
      refine wq_goto rfl rfl ?_
      exact c_m_takeName_83_b hd hrec5 kk51 hr59 (InL_i64 _) (InI_i32 _) hD
def m_takeName_184 (g : Nat) (rec138 : Int → MS → Option MS) (l1 : Int) (s1 : Int) (m : MS) : Option MS := wlet (mset m 10 0 s1) (fun m90 => rec138 (i32 (l1 + 1)) m90)
theorem c_m_takeName_184_b {dd : Nat} (hd : 1 ≤ dd) {g : Nat} {h0 : RHeap} {mF : MS} {rec138 : Int → MS → Option MS} (hrec138 : ∀ {la : RLoc} {h : RHeap} {m : MS} {l1 : Int}, rx_look la 0 = some (.ref 170) → rx_look la 1 = some (wvi l1) → RM h0 h m → InI l1 → rec138 l1 m = some mF → Wq O F (Cd O F rp_P dd) (2, 0, rw_X12_takeName, []) (rx_at rw_X12_takeName 138) la [] h (QN h0 mF)) {la : RLoc} {h : RHeap} {m : MS} {l1 s1 : Int} (k0 : rx_look la 0 = some (.ref 170)) (k1 : rx_look la 1 = some (wvi l1)) (hr : RM h0 h m) (pl1 : InI l1) (ps1 : InI s1) (hD : m_takeName_184 g rec138 l1 s1 m = some mF) : Wq O F (Cd O F rp_P dd) (2, 0, rw_X12_takeName, []) (rx_at rw_X12_takeName 184) la [wvi s1, .ref 170] h (QN h0 mF) := by
  unfold m_takeName_184 at hD
  obtain ⟨m90, e91, hD⟩ := wlet_of hD
  refine wm_pfi hr rfl rfl ps1 rfl (fun h92 hr93 => ?_)
  rw [← e91] at hr93
  refine wl_iinc k1 rfl rfl (fun la94 kk95 t96 => ?_)
  have kk97 := t96 0 _ (by decide) (Or.inr rfl) k0
  refine wq_goto rfl rfl ?_
  exact hrec138 kk97 kk95 hr93 (InI_i32 _) hD
def m_takeName_180 (g : Nat) (rec138 : Int → MS → Option MS) (l1 : Int) (m : MS) : Option MS := m_takeName_184 g rec138 l1 (m 10 0) m
theorem c_m_takeName_180_b {dd : Nat} (hd : 1 ≤ dd) {g : Nat} {h0 : RHeap} {mF : MS} {rec138 : Int → MS → Option MS} (hrec138 : ∀ {la : RLoc} {h : RHeap} {m : MS} {l1 : Int}, rx_look la 0 = some (.ref 170) → rx_look la 1 = some (wvi l1) → RM h0 h m → InI l1 → rec138 l1 m = some mF → Wq O F (Cd O F rp_P dd) (2, 0, rw_X12_takeName, []) (rx_at rw_X12_takeName 138) la [] h (QN h0 mF)) {la : RLoc} {h : RHeap} {m : MS} {l1 : Int} (k0 : rx_look la 0 = some (.ref 170)) (k1 : rx_look la 1 = some (wvi l1)) (hr : RM h0 h m) (pl1 : InI l1) (hD : m_takeName_180 g rec138 l1 m = some mF) : Wq O F (Cd O F rp_P dd) (2, 0, rw_X12_takeName, []) (rx_at rw_X12_takeName 180) la [.ref 170] h (QN h0 mF) := by
  unfold m_takeName_180 at hD
  refine wq_aload_n k0 rfl ?_
  refine wm_gfi hr rfl rfl (fun pp98 => ?_)
  exact c_m_takeName_184_b hd hrec138 k0 k1 hr pl1 pp98 hD
def m_takeName_138 (g : Nat) : Nat → Int → MS → Option MS
  | 0, _, _ => none
  | n + 1, l1, m => if l1 < 30 then if (i32 ((m 8 0) - (m 9 0))) < 12 then ck l1 30 (if (m 2 l1) = (m 11 0) then m_takeName_184 g (m_takeName_138 g n) l1 (i32 (30 + l1)) m else m_takeName_180 g (m_takeName_138 g n) l1 m) else m_takeName_180 g (m_takeName_138 g n) l1 m else some m
theorem c_m_takeName_138 {dd : Nat} (hd : 1 ≤ dd) {g : Nat} {h0 : RHeap} {mF : MS} : ∀ (n : Nat) {la : RLoc} {h : RHeap} {m : MS} {l1 : Int}, rx_look la 0 = some (.ref 170) → rx_look la 1 = some (wvi l1) → RM h0 h m → InI l1 → m_takeName_138 g n l1 m = some mF → Wq O F (Cd O F rp_P dd) (2, 0, rw_X12_takeName, []) (rx_at rw_X12_takeName 138) la [] h (QN h0 mF) := by
  intro n
  induction n with
  | zero =>
    intro la h m l1 k0 k1 hr pl1 hD
    unfold m_takeName_138 at hD
    cases hD
  | succ n ih =>
    intro la h m l1 k0 k1 hr pl1 hD
    unfold m_takeName_138 at hD
    refine wq_iload_n k1 rfl ?_
    refine wq_bipush (by decide) rfl ?_
    refine wq_icmp_ge pl1 ⟨by decide, by decide⟩ rfl rfl rfl (fun c81 => ?_) (fun c81 => ?_)
    · rw [if_neg (Int.not_lt.mpr c81)] at hD
      cases hD
      exact wq_return rfl ⟨_, rfl, hr⟩
    · rw [if_pos c81] at hD
      refine wq_aload_n k0 rfl ?_
      refine wq_aload_n k0 rfl ?_
      refine wm_gfi hr rfl rfl (fun pp82 => ?_)
      refine wq_aload_n k0 rfl ?_
      refine wm_gfi hr rfl rfl (fun pp83 => ?_)
      refine wq_isub rfl ?_
      refine wq_bipush (by decide) rfl ?_
      refine wq_icmp_ge (InI_i32 _) ⟨by decide, by decide⟩ rfl rfl rfl (fun c84 => ?_) (fun c84 => ?_)
      · rw [if_neg (Int.not_lt.mpr c84)] at hD
        exact c_m_takeName_180_b hd ih k0 k1 hr pl1 hD
      · rw [if_pos c84] at hD
        refine wq_aload_n k0 rfl ?_
        refine wm_gfa (c := 1) hr rfl rfl ?_
        refine wq_iload_n k1 rfl ?_
        obtain ⟨g85, g86, hD⟩ := ck_of hD
        refine wm_all (f := 2) hr rfl pl1 g85 g86 rfl (fun pp87 => ?_)
        refine wq_aload_n k0 rfl ?_
        refine wm_gfl hr rfl rfl (fun pp88 => ?_)
        refine wq_lc_ne pp87 pp88 rfl rfl rfl rfl (fun c89 => ?_) (fun c89 => ?_)
        · rw [if_neg c89] at hD
          exact c_m_takeName_180_b hd ih k0 k1 hr pl1 hD
        · rw [if_pos c89] at hD
          refine wq_bipush (by decide) rfl ?_
          refine wq_iload_n k1 rfl ?_
          refine wq_iadd rfl ?_
          refine wq_goto rfl rfl ?_
          exact c_m_takeName_184_b hd ih k0 k1 hr pl1 (InI_i32 _) hD
def m_takeName_131 (g : Nat) (m : MS) : Option MS := wlet (mset m 10 0 1) (fun m73 => m_takeName_138 g g 0 m73)
theorem c_m_takeName_131_b {dd : Nat} (hd : 1 ≤ dd) {g : Nat} {h0 : RHeap} {mF : MS} {la : RLoc} {h : RHeap} {m : MS} (k0 : rx_look la 0 = some (.ref 170)) (hr : RM h0 h m) (hD : m_takeName_131 g m = some mF) : Wq O F (Cd O F rp_P dd) (2, 0, rw_X12_takeName, []) (rx_at rw_X12_takeName 131) la [] h (QN h0 mF) := by
  unfold m_takeName_131 at hD
  refine wq_aload_n k0 rfl ?_
  refine wq_iconst rfl ?_
  obtain ⟨m73, e74, hD⟩ := wlet_of hD
  refine wm_pfi hr rfl rfl ⟨by decide, by decide⟩ rfl (fun h75 hr76 => ?_)
  rw [← e74] at hr76
  refine wq_iconst rfl ?_
  refine wl_istore_n rfl rfl (fun la77 kk78 t79 => ?_)
  have kk80 := t79 0 _ (by decide) (Or.inr rfl) k0
  exact c_m_takeName_138 hd g kk80 kk78 hr76 ⟨by decide, by decide⟩ hD
def m_takeName_5 (g : Nat) : Nat → MS → Option MS
  | 0, _ => none
  | n + 1, m => vb (m_byteAt (m 8 0) m) (fun v10 m6 => vb (m_isLetter v10 m6) (fun v16 m12 => if v16 = 0 then vb (m_byteAt (m12 8 0) m12) (fun v24 m20 => vb (m_isFigure v24 m20) (fun v30 m26 => if v30 = 0 then if 12 < (i32 ((m26 8 0) - (m26 9 0))) then nb (m_fail 5 (m26 9 0) m26) (fun m37 => m_takeName_131 g m37) else m_takeName_131 g m26 else m_takeName_33 g (m_takeName_5 g n) m26)) else m_takeName_33 g (m_takeName_5 g n) m12))
theorem c_m_takeName_5 {dd : Nat} (hd : 1 ≤ dd) {g : Nat} {h0 : RHeap} {mF : MS} : ∀ (n : Nat) {la : RLoc} {h : RHeap} {m : MS}, rx_look la 0 = some (.ref 170) → RM h0 h m → m_takeName_5 g n m = some mF → Wq O F (Cd O F rp_P dd) (2, 0, rw_X12_takeName, []) (rx_at rw_X12_takeName 5) la [] h (QN h0 mF) := by
  intro n
  induction n with
  | zero =>
    intro la h m k0 hr hD
    unfold m_takeName_5 at hD
    cases hD
  | succ n ih =>
    intro la h m k0 hr hD
    unfold m_takeName_5 at hD
    refine wq_aload_n k0 rfl ?_
    refine wq_aload_n k0 rfl ?_
    refine wm_gfi hr rfl rfl (fun pp5 => ?_)
    obtain ⟨v10, m6, q9, hD⟩ := vb_of hD
    refine wm_cvI hr (c_byteAt (by omega) hr pp5 q9) rfl rfl rfl (fun h7 hr8 pp11 => ?_)
    obtain ⟨v16, m12, q15, hD⟩ := vb_of hD
    refine wm_csZ (fun _ _ => rfl) (c_isLetter (by omega) hr8 pp11 q15) rfl rfl rfl (fun h13 hr14 pp17 => ?_)
    refine wq_if_ne (InI_z pp17) rfl rfl rfl (fun c18 => ?_) (fun c18 => ?_)
    · rw [if_neg c18] at hD
      exact c_m_takeName_33_b hd ih k0 hr14 hD
    · rw [if_pos c18] at hD
      refine wq_aload_n k0 rfl ?_
      refine wq_aload_n k0 rfl ?_
      refine wm_gfi hr14 rfl rfl (fun pp19 => ?_)
      obtain ⟨v24, m20, q23, hD⟩ := vb_of hD
      refine wm_cvI hr14 (c_byteAt (by omega) hr14 pp19 q23) rfl rfl rfl (fun h21 hr22 pp25 => ?_)
      obtain ⟨v30, m26, q29, hD⟩ := vb_of hD
      refine wm_csZ (fun _ _ => rfl) (c_isFigure (by omega) hr22 pp25 q29) rfl rfl rfl (fun h27 hr28 pp31 => ?_)
      refine wq_if_eq (InI_z pp31) rfl rfl rfl (fun c32 => ?_) (fun c32 => ?_)
      · rw [if_pos c32] at hD
        refine wq_aload_n k0 rfl ?_
        refine wm_gfi hr28 rfl rfl (fun pp33 => ?_)
        refine wq_aload_n k0 rfl ?_
        refine wm_gfi hr28 rfl rfl (fun pp34 => ?_)
        refine wq_isub rfl ?_
        refine wq_bipush (by decide) rfl ?_
        refine wq_icmp_le (InI_i32 _) ⟨by decide, by decide⟩ rfl rfl rfl (fun c35 => ?_) (fun c35 => ?_)
        · rw [if_neg (Int.not_lt.mpr c35)] at hD
          exact c_m_takeName_131_b hd k0 hr28 hD
        · rw [if_pos c35] at hD
          refine wq_aload_n k0 rfl ?_
          refine wq_iconst rfl ?_
          refine wq_aload_n k0 rfl ?_
          refine wm_gfi hr28 rfl rfl (fun pp36 => ?_)
          obtain ⟨m37, q40, hD⟩ := nb_of hD
          refine wm_cvN hr28 (c_fail (by omega) hr28 ⟨by decide, by decide⟩ pp36 q40) rfl rfl rfl (fun h38 hr39 => ?_)
          exact c_m_takeName_131_b hd k0 hr39 hD
      · rw [if_neg c32] at hD
        exact c_m_takeName_33_b hd ih k0 hr28 hD
def m_takeName (g : Nat) (m : MS) : Option MS := wlet (mset m 11 0 0) (fun m1 => m_takeName_5 g g m1)
theorem c_m_takeName_b {dd : Nat} (hd : 1 ≤ dd) {g : Nat} {h0 : RHeap} {mF : MS} {la : RLoc} {h : RHeap} {m : MS} (k0 : rx_look la 0 = some (.ref 170)) (hr : RM h0 h m) (hD : m_takeName g m = some mF) : Wq O F (Cd O F rp_P dd) (2, 0, rw_X12_takeName, []) (rx_at rw_X12_takeName 0) la [] h (QN h0 mF) := by
  unfold m_takeName at hD
  refine wq_aload_n k0 rfl ?_
  refine wq_lconst (x := 0) (by decide) rfl ?_
  obtain ⟨m1, e2, hD⟩ := wlet_of hD
  refine wm_pfl hr rfl rfl ⟨by decide, by decide⟩ rfl (fun h3 hr4 => ?_)
  rw [← e2] at hr4
  exact c_m_takeName_5 hd g k0 hr4 hD
theorem c_takeName {d : Nat} (hd : 2 ≤ d) {g : Nat} {h0 h : RHeap} {m : MS} {mF : MS} (hr : RM h0 h m) (hD : m_takeName g m = some mF) : Cq (Cd O F rp_P d) 284 [.ref 170] h (QN h0 mF) := by
  refine cq_of (I := (2, 0, rw_X12_takeName, [])) rfl rfl (by omega) ?_
  exact c_m_takeName_b (by omega) rfl hr hD
def m_takeNumber_82 (g : Nat) (l1 : Int) (m : MS) : Option MS := wlet (mset m 10 0 2) (fun m46 => wlet (mset m46 12 0 (i32 l1)) (fun m50 => some m50))
theorem c_m_takeNumber_82_b {dd : Nat} (hd : 1 ≤ dd) {g : Nat} {h0 : RHeap} {mF : MS} {la : RLoc} {h : RHeap} {m : MS} {l1 : Int} (k0 : rx_look la 0 = some (.ref 170)) (k1 : rx_look la 1 = some (wvl l1)) (hr : RM h0 h m) (pl1 : InL l1) (hD : m_takeNumber_82 g l1 m = some mF) : Wq O F (Cd O F rp_P dd) (3, 0, rw_X12_takeNumber, []) (rx_at rw_X12_takeNumber 82) la [] h (QN h0 mF) := by
  unfold m_takeNumber_82 at hD
  refine wq_aload_n k0 rfl ?_
  refine wq_iconst rfl ?_
  obtain ⟨m46, e47, hD⟩ := wlet_of hD
  refine wm_pfi hr rfl rfl ⟨by decide, by decide⟩ rfl (fun h48 hr49 => ?_)
  rw [← e47] at hr49
  refine wq_aload_n k0 rfl ?_
  refine wq_lload_n k1 rfl ?_
  refine wq_l2i rfl ?_
  obtain ⟨m50, e51, hD⟩ := wlet_of hD
  refine wm_pfi hr49 rfl rfl (InI_i32 _) rfl (fun h52 hr53 => ?_)
  rw [← e51] at hr53
  cases hD
  exact wq_return rfl ⟨_, rfl, hr53⟩
def m_takeNumber_51 (g : Nat) (rec2 : Int → MS → Option MS) (s0 : Int) (m : MS) : Option MS := wlet (mset m 8 0 (i32 ((m 8 0) + 1))) (fun m42 => rec2 s0 m42)
theorem c_m_takeNumber_51_b {dd : Nat} (hd : 1 ≤ dd) {g : Nat} {h0 : RHeap} {mF : MS} {rec2 : Int → MS → Option MS} (hrec2 : ∀ {la : RLoc} {h : RHeap} {m : MS} {l1 : Int}, rx_look la 0 = some (.ref 170) → rx_look la 1 = some (wvl l1) → RM h0 h m → InL l1 → rec2 l1 m = some mF → Wq O F (Cd O F rp_P dd) (3, 0, rw_X12_takeNumber, []) (rx_at rw_X12_takeNumber 2) la [] h (QN h0 mF)) {la : RLoc} {h : RHeap} {m : MS} {s0 : Int} (k0 : rx_look la 0 = some (.ref 170)) (hr : RM h0 h m) (ps0 : InL s0) (hD : m_takeNumber_51 g rec2 s0 m = some mF) : Wq O F (Cd O F rp_P dd) (3, 0, rw_X12_takeNumber, []) (rx_at rw_X12_takeNumber 51) la [wvl s0] h (QN h0 mF) := by
  unfold m_takeNumber_51 at hD
  refine wl_lstore_n rfl rfl (fun la37 kk38 t39 => ?_)
  have kk40 := t39 0 _ ⟨by decide, by decide⟩ (Or.inr rfl) k0
  refine wq_aload_n kk40 rfl ?_
  refine wq_dup rfl rfl ?_
  refine wm_gfi hr rfl rfl (fun pp41 => ?_)
  refine wq_iconst rfl ?_
  refine wq_iadd rfl ?_
  obtain ⟨m42, e43, hD⟩ := wlet_of hD
  refine wm_pfi hr rfl rfl (InI_i32 _) rfl (fun h44 hr45 => ?_)
  rw [← e43] at hr45
  refine wq_goto rfl rfl ?_
  exact hrec2 kk40 kk38 hr45 ps0 hD
def m_takeNumber_2 (g : Nat) : Nat → Int → MS → Option MS
  | 0, _, _ => none
  | n + 1, l1, m => vb (m_byteAt (m 8 0) m) (fun v10 m6 => vb (m_isFigure v10 m6) (fun v16 m12 => if v16 = 0 then if 2147483647 < l1 then nb (m_fail 5 (m12 9 0) m12) (fun m21 => m_takeNumber_82 g l1 m21) else m_takeNumber_82 g l1 m12 else vb (m_byteAt (m12 8 0) m12) (fun v30 m26 => if 9999999999 < (i64 ((i64 ((i64 (l1 * 10)) + v30)) - 48)) then m_takeNumber_51 g (m_takeNumber_2 g n) 9999999999 m26 else m_takeNumber_51 g (m_takeNumber_2 g n) (i64 ((i64 ((i64 (l1 * 10)) + v30)) - 48)) m26)))
theorem c_m_takeNumber_2 {dd : Nat} (hd : 1 ≤ dd) {g : Nat} {h0 : RHeap} {mF : MS} : ∀ (n : Nat) {la : RLoc} {h : RHeap} {m : MS} {l1 : Int}, rx_look la 0 = some (.ref 170) → rx_look la 1 = some (wvl l1) → RM h0 h m → InL l1 → m_takeNumber_2 g n l1 m = some mF → Wq O F (Cd O F rp_P dd) (3, 0, rw_X12_takeNumber, []) (rx_at rw_X12_takeNumber 2) la [] h (QN h0 mF) := by
  intro n
  induction n with
  | zero =>
    intro la h m l1 k0 k1 hr pl1 hD
    unfold m_takeNumber_2 at hD
    cases hD
  | succ n ih =>
    intro la h m l1 k0 k1 hr pl1 hD
    unfold m_takeNumber_2 at hD
    refine wq_aload_n k0 rfl ?_
    refine wq_aload_n k0 rfl ?_
    refine wm_gfi hr rfl rfl (fun pp5 => ?_)
    obtain ⟨v10, m6, q9, hD⟩ := vb_of hD
    refine wm_cvI hr (c_byteAt (by omega) hr pp5 q9) rfl rfl rfl (fun h7 hr8 pp11 => ?_)
    obtain ⟨v16, m12, q15, hD⟩ := vb_of hD
    refine wm_csZ (fun _ _ => rfl) (c_isFigure (by omega) hr8 pp11 q15) rfl rfl rfl (fun h13 hr14 pp17 => ?_)
    refine wq_if_eq (InI_z pp17) rfl rfl rfl (fun c18 => ?_) (fun c18 => ?_)
    · rw [if_pos c18] at hD
      refine wq_lload_n k1 rfl ?_
      refine wq_ldc2 (x := 2147483647) (by decide) rfl ?_
      refine wq_lc_le pl1 ⟨by decide, by decide⟩ rfl rfl rfl rfl (fun c19 => ?_) (fun c19 => ?_)
      · rw [if_neg (Int.not_lt.mpr c19)] at hD
        exact c_m_takeNumber_82_b hd k0 k1 hr14 pl1 hD
      · rw [if_pos c19] at hD
        refine wq_aload_n k0 rfl ?_
        refine wq_iconst rfl ?_
        refine wq_aload_n k0 rfl ?_
        refine wm_gfi hr14 rfl rfl (fun pp20 => ?_)
        obtain ⟨m21, q24, hD⟩ := nb_of hD
        refine wm_cvN hr14 (c_fail (by omega) hr14 ⟨by decide, by decide⟩ pp20 q24) rfl rfl rfl (fun h22 hr23 => ?_)
        exact c_m_takeNumber_82_b hd k0 k1 hr23 pl1 hD
    · rw [if_neg c18] at hD
      refine wq_lload_n k1 rfl ?_
      refine wq_ldc2 (x := 10) (by decide) rfl ?_
      refine wq_lmul rfl ?_
      refine wq_aload_n k0 rfl ?_
      refine wq_aload_n k0 rfl ?_
      refine wm_gfi hr14 rfl rfl (fun pp25 => ?_)
      obtain ⟨v30, m26, q29, hD⟩ := vb_of hD
      refine wm_cvI hr14 (c_byteAt (by omega) hr14 pp25 q29) rfl rfl rfl (fun h27 hr28 pp31 => ?_)
      refine wq_i2l pp31 rfl ?_
      refine wq_ladd rfl ?_
      refine wq_ldc2 (x := 48) (by decide) rfl ?_
      refine wq_lsub rfl ?_
      refine wl_lstore_n rfl rfl (fun la32 kk33 t34 => ?_)
      have kk35 := t34 0 _ ⟨by decide, by decide⟩ (Or.inr rfl) k0
      refine wq_lload_n kk33 rfl ?_
      refine wq_ldc2 (x := 9999999999) (by decide) rfl ?_
      refine wq_lc_le (InL_i64 _) ⟨by decide, by decide⟩ rfl rfl rfl rfl (fun c36 => ?_) (fun c36 => ?_)
      · rw [if_neg (Int.not_lt.mpr c36)] at hD
        refine wq_lload_n kk33 rfl ?_
        exact c_m_takeNumber_51_b hd ih kk35 hr28 (InL_i64 _) hD
      · rw [if_pos c36] at hD
        refine wq_ldc2 (x := 9999999999) (by decide) rfl ?_
        refine wq_goto rfl rfl ?_
        exact c_m_takeNumber_51_b hd ih kk35 hr28 ⟨by decide, by decide⟩ hD
def m_takeNumber (g : Nat) (m : MS) : Option MS := m_takeNumber_2 g g 0 m
theorem c_m_takeNumber_b {dd : Nat} (hd : 1 ≤ dd) {g : Nat} {h0 : RHeap} {mF : MS} {la : RLoc} {h : RHeap} {m : MS} (k0 : rx_look la 0 = some (.ref 170)) (hr : RM h0 h m) (hD : m_takeNumber g m = some mF) : Wq O F (Cd O F rp_P dd) (3, 0, rw_X12_takeNumber, []) (rx_at rw_X12_takeNumber 0) la [] h (QN h0 mF) := by
  unfold m_takeNumber at hD
  refine wq_lconst (x := 0) (by decide) rfl ?_
  refine wl_lstore_n rfl rfl (fun la1 kk2 t3 => ?_)
  have kk4 := t3 0 _ ⟨by decide, by decide⟩ (Or.inr rfl) k0
  exact c_m_takeNumber_2 hd g kk4 kk2 hr ⟨by decide, by decide⟩ hD
theorem c_takeNumber {d : Nat} (hd : 2 ≤ d) {g : Nat} {h0 h : RHeap} {m : MS} {mF : MS} (hr : RM h0 h m) (hD : m_takeNumber g m = some mF) : Cq (Cd O F rp_P d) 285 [.ref 170] h (QN h0 mF) := by
  refine cq_of (I := (3, 0, rw_X12_takeNumber, [])) rfl rfl (by omega) ?_
  exact c_m_takeNumber_b (by omega) rfl hr hD
def m_oneSign_274 (m : MS) : Option (Int × MS) := some ((-1), m)
theorem c_m_oneSign_274_b {dd : Nat} (hd : 0 ≤ dd) {h0 : RHeap} {vF : Int} {mF : MS} {la : RLoc} {h : RHeap} {m : MS} (hr : RM h0 h m) (hD : m_oneSign_274 m = some (vF, mF)) : Wq O F (Cd O F rp_P dd) (1, 1, rw_X12_oneSign, []) (rx_at rw_X12_oneSign 274) la [] h (QV 0 h0 vF mF) := by
  unfold m_oneSign_274 at hD
  refine wq_iconst rfl ?_
  cases hD
  exact wq_ireturn rfl ⟨_, rfl, hr, ⟨by decide, by decide⟩⟩
def m_oneSign (l0 : Int) (m : MS) : Option (Int × MS) := if l0 = 40 then some (16, m) else if l0 = 41 then some (17, m) else if l0 = 42 then some (12, m) else if l0 = 43 then some (10, m) else if l0 = 44 then some (20, m) else if l0 = 45 then some (11, m) else if l0 = 46 then some (23, m) else if l0 = 58 then some (22, m) else if l0 = 59 then some (21, m) else if l0 = 60 then some (14, m) else if l0 = 61 then some (13, m) else if l0 = 62 then some (15, m) else if l0 = 91 then some (18, m) else if l0 = 93 then some (19, m) else m_oneSign_274 m
theorem c_m_oneSign_b {dd : Nat} (hd : 0 ≤ dd) {h0 : RHeap} {vF : Int} {mF : MS} {la : RLoc} {h : RHeap} {m : MS} {l0 : Int} (k0 : rx_look la 0 = some (wvi l0)) (hr : RM h0 h m) (pl0 : InI l0) (hD : m_oneSign l0 m = some (vF, mF)) : Wq O F (Cd O F rp_P dd) (1, 1, rw_X12_oneSign, []) (rx_at rw_X12_oneSign 0) la [] h (QV 0 h0 vF mF) := by
  unfold m_oneSign at hD
  refine wq_iload_n k0 rfl ?_
  by_cases c1 : l0 = 40
  · rw [if_pos c1] at hD
    refine wq_tsw_in (j := 0) pl0 (by omega) (by omega) (by omega) rfl rfl rfl ?_
    refine wq_bipush (by decide) rfl ?_
    cases hD
    exact wq_ireturn rfl ⟨_, rfl, hr, ⟨by decide, by decide⟩⟩
  rw [if_neg c1] at hD
  by_cases c2 : l0 = 41
  · rw [if_pos c2] at hD
    refine wq_tsw_in (j := 1) pl0 (by omega) (by omega) (by omega) rfl rfl rfl ?_
    refine wq_bipush (by decide) rfl ?_
    cases hD
    exact wq_ireturn rfl ⟨_, rfl, hr, ⟨by decide, by decide⟩⟩
  rw [if_neg c2] at hD
  by_cases c3 : l0 = 42
  · rw [if_pos c3] at hD
    refine wq_tsw_in (j := 2) pl0 (by omega) (by omega) (by omega) rfl rfl rfl ?_
    refine wq_bipush (by decide) rfl ?_
    cases hD
    exact wq_ireturn rfl ⟨_, rfl, hr, ⟨by decide, by decide⟩⟩
  rw [if_neg c3] at hD
  by_cases c4 : l0 = 43
  · rw [if_pos c4] at hD
    refine wq_tsw_in (j := 3) pl0 (by omega) (by omega) (by omega) rfl rfl rfl ?_
    refine wq_bipush (by decide) rfl ?_
    cases hD
    exact wq_ireturn rfl ⟨_, rfl, hr, ⟨by decide, by decide⟩⟩
  rw [if_neg c4] at hD
  by_cases c5 : l0 = 44
  · rw [if_pos c5] at hD
    refine wq_tsw_in (j := 4) pl0 (by omega) (by omega) (by omega) rfl rfl rfl ?_
    refine wq_bipush (by decide) rfl ?_
    cases hD
    exact wq_ireturn rfl ⟨_, rfl, hr, ⟨by decide, by decide⟩⟩
  rw [if_neg c5] at hD
  by_cases c6 : l0 = 45
  · rw [if_pos c6] at hD
    refine wq_tsw_in (j := 5) pl0 (by omega) (by omega) (by omega) rfl rfl rfl ?_
    refine wq_bipush (by decide) rfl ?_
    cases hD
    exact wq_ireturn rfl ⟨_, rfl, hr, ⟨by decide, by decide⟩⟩
  rw [if_neg c6] at hD
  by_cases c7 : l0 = 46
  · rw [if_pos c7] at hD
    refine wq_tsw_in (j := 6) pl0 (by omega) (by omega) (by omega) rfl rfl rfl ?_
    refine wq_bipush (by decide) rfl ?_
    cases hD
    exact wq_ireturn rfl ⟨_, rfl, hr, ⟨by decide, by decide⟩⟩
  rw [if_neg c7] at hD
  by_cases c8 : l0 = 58
  · rw [if_pos c8] at hD
    refine wq_tsw_in (j := 18) pl0 (by omega) (by omega) (by omega) rfl rfl rfl ?_
    refine wq_bipush (by decide) rfl ?_
    cases hD
    exact wq_ireturn rfl ⟨_, rfl, hr, ⟨by decide, by decide⟩⟩
  rw [if_neg c8] at hD
  by_cases c9 : l0 = 59
  · rw [if_pos c9] at hD
    refine wq_tsw_in (j := 19) pl0 (by omega) (by omega) (by omega) rfl rfl rfl ?_
    refine wq_bipush (by decide) rfl ?_
    cases hD
    exact wq_ireturn rfl ⟨_, rfl, hr, ⟨by decide, by decide⟩⟩
  rw [if_neg c9] at hD
  by_cases c10 : l0 = 60
  · rw [if_pos c10] at hD
    refine wq_tsw_in (j := 20) pl0 (by omega) (by omega) (by omega) rfl rfl rfl ?_
    refine wq_bipush (by decide) rfl ?_
    cases hD
    exact wq_ireturn rfl ⟨_, rfl, hr, ⟨by decide, by decide⟩⟩
  rw [if_neg c10] at hD
  by_cases c11 : l0 = 61
  · rw [if_pos c11] at hD
    refine wq_tsw_in (j := 21) pl0 (by omega) (by omega) (by omega) rfl rfl rfl ?_
    refine wq_bipush (by decide) rfl ?_
    cases hD
    exact wq_ireturn rfl ⟨_, rfl, hr, ⟨by decide, by decide⟩⟩
  rw [if_neg c11] at hD
  by_cases c12 : l0 = 62
  · rw [if_pos c12] at hD
    refine wq_tsw_in (j := 22) pl0 (by omega) (by omega) (by omega) rfl rfl rfl ?_
    refine wq_bipush (by decide) rfl ?_
    cases hD
    exact wq_ireturn rfl ⟨_, rfl, hr, ⟨by decide, by decide⟩⟩
  rw [if_neg c12] at hD
  by_cases c13 : l0 = 91
  · rw [if_pos c13] at hD
    refine wq_tsw_in (j := 51) pl0 (by omega) (by omega) (by omega) rfl rfl rfl ?_
    refine wq_bipush (by decide) rfl ?_
    cases hD
    exact wq_ireturn rfl ⟨_, rfl, hr, ⟨by decide, by decide⟩⟩
  rw [if_neg c13] at hD
  by_cases c14 : l0 = 93
  · rw [if_pos c14] at hD
    refine wq_tsw_in (j := 53) pl0 (by omega) (by omega) (by omega) rfl rfl rfl ?_
    refine wq_bipush (by decide) rfl ?_
    cases hD
    exact wq_ireturn rfl ⟨_, rfl, hr, ⟨by decide, by decide⟩⟩
  rw [if_neg c14] at hD
  rcases (show l0 < 40 ∨ 93 < l0 ∨ l0 = 47 ∨ l0 = 48 ∨ l0 = 49 ∨ l0 = 50 ∨ l0 = 51 ∨ l0 = 52 ∨ l0 = 53 ∨ l0 = 54 ∨ l0 = 55 ∨ l0 = 56 ∨ l0 = 57 ∨ l0 = 63 ∨ l0 = 64 ∨ l0 = 65 ∨ l0 = 66 ∨ l0 = 67 ∨ l0 = 68 ∨ l0 = 69 ∨ l0 = 70 ∨ l0 = 71 ∨ l0 = 72 ∨ l0 = 73 ∨ l0 = 74 ∨ l0 = 75 ∨ l0 = 76 ∨ l0 = 77 ∨ l0 = 78 ∨ l0 = 79 ∨ l0 = 80 ∨ l0 = 81 ∨ l0 = 82 ∨ l0 = 83 ∨ l0 = 84 ∨ l0 = 85 ∨ l0 = 86 ∨ l0 = 87 ∨ l0 = 88 ∨ l0 = 89 ∨ l0 = 90 ∨ l0 = 92 by omega) with c16 | c16 | c16 | c16 | c16 | c16 | c16 | c16 | c16 | c16 | c16 | c16 | c16 | c16 | c16 | c16 | c16 | c16 | c16 | c16 | c16 | c16 | c16 | c16 | c16 | c16 | c16 | c16 | c16 | c16 | c16 | c16 | c16 | c16 | c16 | c16 | c16 | c16 | c16 | c16 | c16 | c16
  · refine wq_tsw_out pl0 (by omega) rfl rfl ?_
    exact c_m_oneSign_274_b hd hr hD
  · refine wq_tsw_out pl0 (by omega) rfl rfl ?_
    exact c_m_oneSign_274_b hd hr hD
  · refine wq_tsw_in (j := 7) pl0 (by omega) (by omega) (by omega) rfl rfl rfl ?_
    exact c_m_oneSign_274_b hd hr hD
  · refine wq_tsw_in (j := 8) pl0 (by omega) (by omega) (by omega) rfl rfl rfl ?_
    exact c_m_oneSign_274_b hd hr hD
  · refine wq_tsw_in (j := 9) pl0 (by omega) (by omega) (by omega) rfl rfl rfl ?_
    exact c_m_oneSign_274_b hd hr hD
  · refine wq_tsw_in (j := 10) pl0 (by omega) (by omega) (by omega) rfl rfl rfl ?_
    exact c_m_oneSign_274_b hd hr hD
  · refine wq_tsw_in (j := 11) pl0 (by omega) (by omega) (by omega) rfl rfl rfl ?_
    exact c_m_oneSign_274_b hd hr hD
  · refine wq_tsw_in (j := 12) pl0 (by omega) (by omega) (by omega) rfl rfl rfl ?_
    exact c_m_oneSign_274_b hd hr hD
  · refine wq_tsw_in (j := 13) pl0 (by omega) (by omega) (by omega) rfl rfl rfl ?_
    exact c_m_oneSign_274_b hd hr hD
  · refine wq_tsw_in (j := 14) pl0 (by omega) (by omega) (by omega) rfl rfl rfl ?_
    exact c_m_oneSign_274_b hd hr hD
  · refine wq_tsw_in (j := 15) pl0 (by omega) (by omega) (by omega) rfl rfl rfl ?_
    exact c_m_oneSign_274_b hd hr hD
  · refine wq_tsw_in (j := 16) pl0 (by omega) (by omega) (by omega) rfl rfl rfl ?_
    exact c_m_oneSign_274_b hd hr hD
  · refine wq_tsw_in (j := 17) pl0 (by omega) (by omega) (by omega) rfl rfl rfl ?_
    exact c_m_oneSign_274_b hd hr hD
  · refine wq_tsw_in (j := 23) pl0 (by omega) (by omega) (by omega) rfl rfl rfl ?_
    exact c_m_oneSign_274_b hd hr hD
  · refine wq_tsw_in (j := 24) pl0 (by omega) (by omega) (by omega) rfl rfl rfl ?_
    exact c_m_oneSign_274_b hd hr hD
  · refine wq_tsw_in (j := 25) pl0 (by omega) (by omega) (by omega) rfl rfl rfl ?_
    exact c_m_oneSign_274_b hd hr hD
  · refine wq_tsw_in (j := 26) pl0 (by omega) (by omega) (by omega) rfl rfl rfl ?_
    exact c_m_oneSign_274_b hd hr hD
  · refine wq_tsw_in (j := 27) pl0 (by omega) (by omega) (by omega) rfl rfl rfl ?_
    exact c_m_oneSign_274_b hd hr hD
  · refine wq_tsw_in (j := 28) pl0 (by omega) (by omega) (by omega) rfl rfl rfl ?_
    exact c_m_oneSign_274_b hd hr hD
  · refine wq_tsw_in (j := 29) pl0 (by omega) (by omega) (by omega) rfl rfl rfl ?_
    exact c_m_oneSign_274_b hd hr hD
  · refine wq_tsw_in (j := 30) pl0 (by omega) (by omega) (by omega) rfl rfl rfl ?_
    exact c_m_oneSign_274_b hd hr hD
  · refine wq_tsw_in (j := 31) pl0 (by omega) (by omega) (by omega) rfl rfl rfl ?_
    exact c_m_oneSign_274_b hd hr hD
  · refine wq_tsw_in (j := 32) pl0 (by omega) (by omega) (by omega) rfl rfl rfl ?_
    exact c_m_oneSign_274_b hd hr hD
  · refine wq_tsw_in (j := 33) pl0 (by omega) (by omega) (by omega) rfl rfl rfl ?_
    exact c_m_oneSign_274_b hd hr hD
  · refine wq_tsw_in (j := 34) pl0 (by omega) (by omega) (by omega) rfl rfl rfl ?_
    exact c_m_oneSign_274_b hd hr hD
  · refine wq_tsw_in (j := 35) pl0 (by omega) (by omega) (by omega) rfl rfl rfl ?_
    exact c_m_oneSign_274_b hd hr hD
  · refine wq_tsw_in (j := 36) pl0 (by omega) (by omega) (by omega) rfl rfl rfl ?_
    exact c_m_oneSign_274_b hd hr hD
  · refine wq_tsw_in (j := 37) pl0 (by omega) (by omega) (by omega) rfl rfl rfl ?_
    exact c_m_oneSign_274_b hd hr hD
  · refine wq_tsw_in (j := 38) pl0 (by omega) (by omega) (by omega) rfl rfl rfl ?_
    exact c_m_oneSign_274_b hd hr hD
  · refine wq_tsw_in (j := 39) pl0 (by omega) (by omega) (by omega) rfl rfl rfl ?_
    exact c_m_oneSign_274_b hd hr hD
  · refine wq_tsw_in (j := 40) pl0 (by omega) (by omega) (by omega) rfl rfl rfl ?_
    exact c_m_oneSign_274_b hd hr hD
  · refine wq_tsw_in (j := 41) pl0 (by omega) (by omega) (by omega) rfl rfl rfl ?_
    exact c_m_oneSign_274_b hd hr hD
  · refine wq_tsw_in (j := 42) pl0 (by omega) (by omega) (by omega) rfl rfl rfl ?_
    exact c_m_oneSign_274_b hd hr hD
  · refine wq_tsw_in (j := 43) pl0 (by omega) (by omega) (by omega) rfl rfl rfl ?_
    exact c_m_oneSign_274_b hd hr hD
  · refine wq_tsw_in (j := 44) pl0 (by omega) (by omega) (by omega) rfl rfl rfl ?_
    exact c_m_oneSign_274_b hd hr hD
  · refine wq_tsw_in (j := 45) pl0 (by omega) (by omega) (by omega) rfl rfl rfl ?_
    exact c_m_oneSign_274_b hd hr hD
  · refine wq_tsw_in (j := 46) pl0 (by omega) (by omega) (by omega) rfl rfl rfl ?_
    exact c_m_oneSign_274_b hd hr hD
  · refine wq_tsw_in (j := 47) pl0 (by omega) (by omega) (by omega) rfl rfl rfl ?_
    exact c_m_oneSign_274_b hd hr hD
  · refine wq_tsw_in (j := 48) pl0 (by omega) (by omega) (by omega) rfl rfl rfl ?_
    exact c_m_oneSign_274_b hd hr hD
  · refine wq_tsw_in (j := 49) pl0 (by omega) (by omega) (by omega) rfl rfl rfl ?_
    exact c_m_oneSign_274_b hd hr hD
  · refine wq_tsw_in (j := 50) pl0 (by omega) (by omega) (by omega) rfl rfl rfl ?_
    exact c_m_oneSign_274_b hd hr hD
  · refine wq_tsw_in (j := 52) pl0 (by omega) (by omega) (by omega) rfl rfl rfl ?_
    exact c_m_oneSign_274_b hd hr hD
theorem c_oneSign {d : Nat} (hd : 1 ≤ d) {h0 h : RHeap} {m : MS} {l0 : Int} {vF : Int} {mF : MS} (hr : RM h0 h m) (pl0 : InI l0) (hD : m_oneSign l0 m = some (vF, mF)) : Cq (Cd O F rp_P d) 255 [wvi l0] h (QV 0 h0 vF mF) := by
  refine cq_of (I := (1, 1, rw_X12_oneSign, [])) rfl rfl (by omega) ?_
  exact c_m_oneSign_b (by omega) rfl hr pl0 hD
def m_takeSign_160 (s1 : Int) (m : MS) : Option MS := wlet (mset m 8 0 s1) (fun m52 => some m52)
theorem c_m_takeSign_160_b {dd : Nat} (hd : 1 ≤ dd) {h0 : RHeap} {mF : MS} {la : RLoc} {h : RHeap} {m : MS} {s1 : Int} (hr : RM h0 h m) (ps1 : InI s1) (hD : m_takeSign_160 s1 m = some mF) : Wq O F (Cd O F rp_P dd) (4, 0, rw_X12_takeSign, []) (rx_at rw_X12_takeSign 160) la [wvi s1, .ref 170] h (QN h0 mF) := by
  unfold m_takeSign_160 at hD
  obtain ⟨m52, e53, hD⟩ := wlet_of hD
  refine wm_pfi hr rfl rfl ps1 rfl (fun h54 hr55 => ?_)
  rw [← e53] at hr55
  cases hD
  exact wq_return rfl ⟨_, rfl, hr55⟩
def m_takeSign_140 (l3 : Int) (m : MS) : Option MS := if l3 < 0 then m_takeSign_160 (i32 ((m 8 0) + 1)) m else m_takeSign_160 (i32 ((m 8 0) + 2)) m
theorem c_m_takeSign_140_b {dd : Nat} (hd : 1 ≤ dd) {h0 : RHeap} {mF : MS} {la : RLoc} {h : RHeap} {m : MS} {l3 : Int} (k0 : rx_look la 0 = some (.ref 170)) (k3 : rx_look la 3 = some (wvi l3)) (hr : RM h0 h m) (pl3 : InI l3) (hD : m_takeSign_140 l3 m = some mF) : Wq O F (Cd O F rp_P dd) (4, 0, rw_X12_takeSign, []) (rx_at rw_X12_takeSign 140) la [] h (QN h0 mF) := by
  unfold m_takeSign_140 at hD
  refine wq_aload_n k0 rfl ?_
  refine wq_iload_n k3 rfl ?_
  refine wq_if_lt pl3 rfl rfl rfl (fun c49 => ?_) (fun c49 => ?_)
  · rw [if_pos c49] at hD
    refine wq_aload_n k0 rfl ?_
    refine wm_gfi hr rfl rfl (fun pp50 => ?_)
    refine wq_iconst rfl ?_
    refine wq_iadd rfl ?_
    exact c_m_takeSign_160_b hd hr (InI_i32 _) hD
  · rw [if_neg (Int.not_lt.mpr c49)] at hD
    refine wq_aload_n k0 rfl ?_
    refine wm_gfi hr rfl rfl (fun pp51 => ?_)
    refine wq_iconst rfl ?_
    refine wq_iadd rfl ?_
    refine wq_goto rfl rfl ?_
    exact c_m_takeSign_160_b hd hr (InI_i32 _) hD
def m_takeSign_120 (l3 : Int) (s1 : Int) (m : MS) : Option MS := wlet (mset m 10 0 s1) (fun m38 => if (m38 10 0) = (-1) then nb (m_fail 1 (m38 9 0) m38) (fun m45 => m_takeSign_140 l3 m45) else m_takeSign_140 l3 m38)
theorem c_m_takeSign_120_b {dd : Nat} (hd : 1 ≤ dd) {h0 : RHeap} {mF : MS} {la : RLoc} {h : RHeap} {m : MS} {l3 s1 : Int} (k0 : rx_look la 0 = some (.ref 170)) (k3 : rx_look la 3 = some (wvi l3)) (hr : RM h0 h m) (pl3 : InI l3) (ps1 : InI s1) (hD : m_takeSign_120 l3 s1 m = some mF) : Wq O F (Cd O F rp_P dd) (4, 0, rw_X12_takeSign, []) (rx_at rw_X12_takeSign 120) la [wvi s1, .ref 170] h (QN h0 mF) := by
  unfold m_takeSign_120 at hD
  obtain ⟨m38, e39, hD⟩ := wlet_of hD
  refine wm_pfi hr rfl rfl ps1 rfl (fun h40 hr41 => ?_)
  rw [← e39] at hr41
  refine wq_aload_n k0 rfl ?_
  refine wm_gfi hr41 rfl rfl (fun pp42 => ?_)
  refine wq_iconst rfl ?_
  refine wq_icmp_ne pp42 ⟨by decide, by decide⟩ rfl rfl rfl (fun c43 => ?_) (fun c43 => ?_)
  · rw [if_neg c43] at hD
    exact c_m_takeSign_140_b hd k0 k3 hr41 pl3 hD
  · rw [if_pos c43] at hD
    refine wq_aload_n k0 rfl ?_
    refine wq_iconst rfl ?_
    refine wq_aload_n k0 rfl ?_
    refine wm_gfi hr41 rfl rfl (fun pp44 => ?_)
    obtain ⟨m45, q48, hD⟩ := nb_of hD
    refine wm_cvN hr41 (c_fail (by omega) hr41 ⟨by decide, by decide⟩ pp44 q48) rfl rfl rfl (fun h46 hr47 => ?_)
    exact c_m_takeSign_140_b hd k0 k3 hr47 pl3 hD
def m_takeSign_106 (l1 : Int) (s0 : Int) (m : MS) : Option MS := if s0 < 0 then vb (m_oneSign l1 m) (fun v36 m32 => m_takeSign_120 s0 v36 m32) else m_takeSign_120 s0 s0 m
theorem c_m_takeSign_106_b {dd : Nat} (hd : 1 ≤ dd) {h0 : RHeap} {mF : MS} {la : RLoc} {h : RHeap} {m : MS} {l1 s0 : Int} (k0 : rx_look la 0 = some (.ref 170)) (k1 : rx_look la 1 = some (wvi l1)) (hr : RM h0 h m) (pl1 : InI l1) (ps0 : InI s0) (hD : m_takeSign_106 l1 s0 m = some mF) : Wq O F (Cd O F rp_P dd) (4, 0, rw_X12_takeSign, []) (rx_at rw_X12_takeSign 106) la [wvi s0] h (QN h0 mF) := by
  unfold m_takeSign_106 at hD
  refine wl_istore_n rfl rfl (fun la26 kk27 t28 => ?_)
  have kk29 := t28 0 _ (by decide) (Or.inr rfl) k0
  have kk30 := t28 1 _ (by decide) (Or.inr rfl) k1
  refine wq_aload_n kk29 rfl ?_
  refine wq_iload_n kk27 rfl ?_
  refine wq_if_lt ps0 rfl rfl rfl (fun c31 => ?_) (fun c31 => ?_)
  · rw [if_pos c31] at hD
    refine wq_iload_n kk30 rfl ?_
    obtain ⟨v36, m32, q35, hD⟩ := vb_of hD
    refine wm_csI (fun _ _ => rfl) (c_oneSign (by omega) hr pl1 q35) rfl rfl rfl (fun h33 hr34 pp37 => ?_)
    exact c_m_takeSign_120_b hd kk29 kk27 hr34 ps0 pp37 hD
  · rw [if_neg (Int.not_lt.mpr c31)] at hD
    refine wq_iload_n kk27 rfl ?_
    refine wq_goto rfl rfl ?_
    exact c_m_takeSign_120_b hd kk29 kk27 hr ps0 ps0 hD
def m_takeSign_105 (l1 : Int) (m : MS) : Option MS := m_takeSign_106 l1 (-1) m
theorem c_m_takeSign_105_b {dd : Nat} (hd : 1 ≤ dd) {h0 : RHeap} {mF : MS} {la : RLoc} {h : RHeap} {m : MS} {l1 : Int} (k0 : rx_look la 0 = some (.ref 170)) (k1 : rx_look la 1 = some (wvi l1)) (hr : RM h0 h m) (pl1 : InI l1) (hD : m_takeSign_105 l1 m = some mF) : Wq O F (Cd O F rp_P dd) (4, 0, rw_X12_takeSign, []) (rx_at rw_X12_takeSign 105) la [] h (QN h0 mF) := by
  unfold m_takeSign_105 at hD
  refine wq_iconst rfl ?_
  exact c_m_takeSign_106_b hd k0 k1 hr pl1 ⟨by decide, by decide⟩ hD
def m_takeSign_88 (l1 : Int) (l2 : Int) (m : MS) : Option MS := if l1 = 46 then if l2 = 46 then m_takeSign_106 l1 28 m else m_takeSign_105 l1 m else m_takeSign_105 l1 m
theorem c_m_takeSign_88_b {dd : Nat} (hd : 1 ≤ dd) {h0 : RHeap} {mF : MS} {la : RLoc} {h : RHeap} {m : MS} {l1 l2 : Int} (k0 : rx_look la 0 = some (.ref 170)) (k1 : rx_look la 1 = some (wvi l1)) (k2 : rx_look la 2 = some (wvi l2)) (hr : RM h0 h m) (pl1 : InI l1) (pl2 : InI l2) (hD : m_takeSign_88 l1 l2 m = some mF) : Wq O F (Cd O F rp_P dd) (4, 0, rw_X12_takeSign, []) (rx_at rw_X12_takeSign 88) la [] h (QN h0 mF) := by
  unfold m_takeSign_88 at hD
  refine wq_iload_n k1 rfl ?_
  refine wq_bipush (by decide) rfl ?_
  refine wq_icmp_ne pl1 ⟨by decide, by decide⟩ rfl rfl rfl (fun c62 => ?_) (fun c62 => ?_)
  · rw [if_neg c62] at hD
    exact c_m_takeSign_105_b hd k0 k1 hr pl1 hD
  · rw [if_pos c62] at hD
    refine wq_iload_n k2 rfl ?_
    refine wq_bipush (by decide) rfl ?_
    refine wq_icmp_ne pl2 ⟨by decide, by decide⟩ rfl rfl rfl (fun c63 => ?_) (fun c63 => ?_)
    · rw [if_neg c63] at hD
      exact c_m_takeSign_105_b hd k0 k1 hr pl1 hD
    · rw [if_pos c63] at hD
      refine wq_bipush (by decide) rfl ?_
      refine wq_goto rfl rfl ?_
      exact c_m_takeSign_106_b hd k0 k1 hr pl1 ⟨by decide, by decide⟩ hD
def m_takeSign_71 (l1 : Int) (l2 : Int) (m : MS) : Option MS := if l1 = 62 then if l2 = 61 then m_takeSign_106 l1 27 m else m_takeSign_88 l1 l2 m else m_takeSign_88 l1 l2 m
theorem c_m_takeSign_71_b {dd : Nat} (hd : 1 ≤ dd) {h0 : RHeap} {mF : MS} {la : RLoc} {h : RHeap} {m : MS} {l1 l2 : Int} (k0 : rx_look la 0 = some (.ref 170)) (k1 : rx_look la 1 = some (wvi l1)) (k2 : rx_look la 2 = some (wvi l2)) (hr : RM h0 h m) (pl1 : InI l1) (pl2 : InI l2) (hD : m_takeSign_71 l1 l2 m = some mF) : Wq O F (Cd O F rp_P dd) (4, 0, rw_X12_takeSign, []) (rx_at rw_X12_takeSign 71) la [] h (QN h0 mF) := by
  unfold m_takeSign_71 at hD
  refine wq_iload_n k1 rfl ?_
  refine wq_bipush (by decide) rfl ?_
  refine wq_icmp_ne pl1 ⟨by decide, by decide⟩ rfl rfl rfl (fun c60 => ?_) (fun c60 => ?_)
  · rw [if_neg c60] at hD
    exact c_m_takeSign_88_b hd k0 k1 k2 hr pl1 pl2 hD
  · rw [if_pos c60] at hD
    refine wq_iload_n k2 rfl ?_
    refine wq_bipush (by decide) rfl ?_
    refine wq_icmp_ne pl2 ⟨by decide, by decide⟩ rfl rfl rfl (fun c61 => ?_) (fun c61 => ?_)
    · rw [if_neg c61] at hD
      exact c_m_takeSign_88_b hd k0 k1 k2 hr pl1 pl2 hD
    · rw [if_pos c61] at hD
      refine wq_bipush (by decide) rfl ?_
      refine wq_goto rfl rfl ?_
      exact c_m_takeSign_106_b hd k0 k1 hr pl1 ⟨by decide, by decide⟩ hD
def m_takeSign_54 (l1 : Int) (l2 : Int) (m : MS) : Option MS := if l1 = 60 then if l2 = 61 then m_takeSign_106 l1 26 m else m_takeSign_71 l1 l2 m else m_takeSign_71 l1 l2 m
theorem c_m_takeSign_54_b {dd : Nat} (hd : 1 ≤ dd) {h0 : RHeap} {mF : MS} {la : RLoc} {h : RHeap} {m : MS} {l1 l2 : Int} (k0 : rx_look la 0 = some (.ref 170)) (k1 : rx_look la 1 = some (wvi l1)) (k2 : rx_look la 2 = some (wvi l2)) (hr : RM h0 h m) (pl1 : InI l1) (pl2 : InI l2) (hD : m_takeSign_54 l1 l2 m = some mF) : Wq O F (Cd O F rp_P dd) (4, 0, rw_X12_takeSign, []) (rx_at rw_X12_takeSign 54) la [] h (QN h0 mF) := by
  unfold m_takeSign_54 at hD
  refine wq_iload_n k1 rfl ?_
  refine wq_bipush (by decide) rfl ?_
  refine wq_icmp_ne pl1 ⟨by decide, by decide⟩ rfl rfl rfl (fun c58 => ?_) (fun c58 => ?_)
  · rw [if_neg c58] at hD
    exact c_m_takeSign_71_b hd k0 k1 k2 hr pl1 pl2 hD
  · rw [if_pos c58] at hD
    refine wq_iload_n k2 rfl ?_
    refine wq_bipush (by decide) rfl ?_
    refine wq_icmp_ne pl2 ⟨by decide, by decide⟩ rfl rfl rfl (fun c59 => ?_) (fun c59 => ?_)
    · rw [if_neg c59] at hD
      exact c_m_takeSign_71_b hd k0 k1 k2 hr pl1 pl2 hD
    · rw [if_pos c59] at hD
      refine wq_bipush (by decide) rfl ?_
      refine wq_goto rfl rfl ?_
      exact c_m_takeSign_106_b hd k0 k1 hr pl1 ⟨by decide, by decide⟩ hD
def m_takeSign_37 (l1 : Int) (l2 : Int) (m : MS) : Option MS := if l1 = 60 then if l2 = 62 then m_takeSign_106 l1 25 m else m_takeSign_54 l1 l2 m else m_takeSign_54 l1 l2 m
theorem c_m_takeSign_37_b {dd : Nat} (hd : 1 ≤ dd) {h0 : RHeap} {mF : MS} {la : RLoc} {h : RHeap} {m : MS} {l1 l2 : Int} (k0 : rx_look la 0 = some (.ref 170)) (k1 : rx_look la 1 = some (wvi l1)) (k2 : rx_look la 2 = some (wvi l2)) (hr : RM h0 h m) (pl1 : InI l1) (pl2 : InI l2) (hD : m_takeSign_37 l1 l2 m = some mF) : Wq O F (Cd O F rp_P dd) (4, 0, rw_X12_takeSign, []) (rx_at rw_X12_takeSign 37) la [] h (QN h0 mF) := by
  unfold m_takeSign_37 at hD
  refine wq_iload_n k1 rfl ?_
  refine wq_bipush (by decide) rfl ?_
  refine wq_icmp_ne pl1 ⟨by decide, by decide⟩ rfl rfl rfl (fun c56 => ?_) (fun c56 => ?_)
  · rw [if_neg c56] at hD
    exact c_m_takeSign_54_b hd k0 k1 k2 hr pl1 pl2 hD
  · rw [if_pos c56] at hD
    refine wq_iload_n k2 rfl ?_
    refine wq_bipush (by decide) rfl ?_
    refine wq_icmp_ne pl2 ⟨by decide, by decide⟩ rfl rfl rfl (fun c57 => ?_) (fun c57 => ?_)
    · rw [if_neg c57] at hD
      exact c_m_takeSign_54_b hd k0 k1 k2 hr pl1 pl2 hD
    · rw [if_pos c57] at hD
      refine wq_bipush (by decide) rfl ?_
      refine wq_goto rfl rfl ?_
      exact c_m_takeSign_106_b hd k0 k1 hr pl1 ⟨by decide, by decide⟩ hD
def m_takeSign (m : MS) : Option MS := vb (m_byteAt (m 8 0) m) (fun v6 m2 => vb (m_byteAt (i32 ((m2 8 0) + 1)) m2) (fun v17 m13 => if v6 = 58 then if v17 = 61 then m_takeSign_106 v6 24 m13 else m_takeSign_37 v6 v17 m13 else m_takeSign_37 v6 v17 m13))
theorem c_m_takeSign_b {dd : Nat} (hd : 1 ≤ dd) {h0 : RHeap} {mF : MS} {la : RLoc} {h : RHeap} {m : MS} (k0 : rx_look la 0 = some (.ref 170)) (hr : RM h0 h m) (hD : m_takeSign m = some mF) : Wq O F (Cd O F rp_P dd) (4, 0, rw_X12_takeSign, []) (rx_at rw_X12_takeSign 0) la [] h (QN h0 mF) := by
  unfold m_takeSign at hD
  refine wq_aload_n k0 rfl ?_
  refine wq_aload_n k0 rfl ?_
  refine wm_gfi hr rfl rfl (fun pp1 => ?_)
  obtain ⟨v6, m2, q5, hD⟩ := vb_of hD
  refine wm_cvI hr (c_byteAt (by omega) hr pp1 q5) rfl rfl rfl (fun h3 hr4 pp7 => ?_)
  refine wl_istore_n rfl rfl (fun la8 kk9 t10 => ?_)
  have kk11 := t10 0 _ (by decide) (Or.inr rfl) k0
  refine wq_aload_n kk11 rfl ?_
  refine wq_aload_n kk11 rfl ?_
  refine wm_gfi hr4 rfl rfl (fun pp12 => ?_)
  refine wq_iconst rfl ?_
  refine wq_iadd rfl ?_
  obtain ⟨v17, m13, q16, hD⟩ := vb_of hD
  refine wm_cvI hr4 (c_byteAt (by omega) hr4 (InI_i32 _) q16) rfl rfl rfl (fun h14 hr15 pp18 => ?_)
  refine wl_istore_n rfl rfl (fun la19 kk20 t21 => ?_)
  have kk22 := t21 0 _ (by decide) (Or.inr rfl) kk11
  have kk23 := t21 1 _ (by decide) (Or.inr rfl) kk9
  refine wq_iload_n kk23 rfl ?_
  refine wq_bipush (by decide) rfl ?_
  refine wq_icmp_ne pp7 ⟨by decide, by decide⟩ rfl rfl rfl (fun c24 => ?_) (fun c24 => ?_)
  · rw [if_neg c24] at hD
    exact c_m_takeSign_37_b hd kk22 kk23 kk20 hr15 pp7 pp18 hD
  · rw [if_pos c24] at hD
    refine wq_iload_n kk20 rfl ?_
    refine wq_bipush (by decide) rfl ?_
    refine wq_icmp_ne pp18 ⟨by decide, by decide⟩ rfl rfl rfl (fun c25 => ?_) (fun c25 => ?_)
    · rw [if_neg c25] at hD
      exact c_m_takeSign_37_b hd kk22 kk23 kk20 hr15 pp7 pp18 hD
    · rw [if_pos c25] at hD
      refine wq_bipush (by decide) rfl ?_
      refine wq_goto rfl rfl ?_
      exact c_m_takeSign_106_b hd kk22 kk23 hr15 pp7 ⟨by decide, by decide⟩ hD
theorem c_takeSign {d : Nat} (hd : 2 ≤ d) {h0 h : RHeap} {m : MS} {mF : MS} (hr : RM h0 h m) (hD : m_takeSign m = some mF) : Cq (Cd O F rp_P d) 286 [.ref 170] h (QN h0 mF) := by
  refine cq_of (I := (4, 0, rw_X12_takeSign, [])) rfl rfl (by omega) ?_
  exact c_m_takeSign_b (by omega) rfl hr hD
def m_takeString_98 (g : Nat) (l1 : Int) (m : MS) : Option MS := wlet (mset m 8 0 (i32 (l1 + 1))) (fun m48 => wlet (mset m48 10 0 3) (fun m52 => some m52))
theorem c_m_takeString_98_b {dd : Nat} (hd : 1 ≤ dd) {g : Nat} {h0 : RHeap} {mF : MS} {la : RLoc} {h : RHeap} {m : MS} {l1 : Int} (k0 : rx_look la 0 = some (.ref 170)) (k1 : rx_look la 1 = some (wvi l1)) (hr : RM h0 h m) (pl1 : InI l1) (hD : m_takeString_98 g l1 m = some mF) : Wq O F (Cd O F rp_P dd) (2, 0, rw_X12_takeString, []) (rx_at rw_X12_takeString 98) la [] h (QN h0 mF) := by
  unfold m_takeString_98 at hD
  refine wq_aload_n k0 rfl ?_
  refine wq_iload_n k1 rfl ?_
  refine wq_iconst rfl ?_
  refine wq_iadd rfl ?_
  obtain ⟨m48, e49, hD⟩ := wlet_of hD
  refine wm_pfi hr rfl rfl (InI_i32 _) rfl (fun h50 hr51 => ?_)
  rw [← e49] at hr51
  refine wq_aload_n k0 rfl ?_
  refine wq_iconst rfl ?_
  obtain ⟨m52, e53, hD⟩ := wlet_of hD
  refine wm_pfi hr51 rfl rfl ⟨by decide, by decide⟩ rfl (fun h54 hr55 => ?_)
  rw [← e53] at hr55
  cases hD
  exact wq_return rfl ⟨_, rfl, hr55⟩
def m_takeString_89 (g : Nat) (l1 : Int) (m : MS) : Option MS := nb (m_fail 1 (m 9 0) m) (fun m44 => m_takeString_98 g l1 m44)
theorem c_m_takeString_89_b {dd : Nat} (hd : 1 ≤ dd) {g : Nat} {h0 : RHeap} {mF : MS} {la : RLoc} {h : RHeap} {m : MS} {l1 : Int} (k0 : rx_look la 0 = some (.ref 170)) (k1 : rx_look la 1 = some (wvi l1)) (hr : RM h0 h m) (pl1 : InI l1) (hD : m_takeString_89 g l1 m = some mF) : Wq O F (Cd O F rp_P dd) (2, 0, rw_X12_takeString, []) (rx_at rw_X12_takeString 89) la [] h (QN h0 mF) := by
  unfold m_takeString_89 at hD
  refine wq_aload_n k0 rfl ?_
  refine wq_iconst rfl ?_
  refine wq_aload_n k0 rfl ?_
  refine wm_gfi hr rfl rfl (fun pp43 => ?_)
  obtain ⟨m44, q47, hD⟩ := nb_of hD
  refine wm_cvN hr (c_fail (by omega) hr ⟨by decide, by decide⟩ pp43 q47) rfl rfl rfl (fun h45 hr46 => ?_)
  exact c_m_takeString_98_b hd k0 k1 hr46 pl1 hD
def m_takeString_62 (g : Nat) (l1 : Int) (m : MS) : Option MS := wlet (mset m 14 0 (i32 (l1 - (m 13 0)))) (fun m30 => vb (m_byteAt l1 m30) (fun v38 m34 => if v38 = 39 then if (m34 14 0) = 0 then m_takeString_89 g l1 m34 else m_takeString_98 g l1 m34 else m_takeString_89 g l1 m34))
theorem c_m_takeString_62_b {dd : Nat} (hd : 1 ≤ dd) {g : Nat} {h0 : RHeap} {mF : MS} {la : RLoc} {h : RHeap} {m : MS} {l1 : Int} (k0 : rx_look la 0 = some (.ref 170)) (k1 : rx_look la 1 = some (wvi l1)) (hr : RM h0 h m) (pl1 : InI l1) (hD : m_takeString_62 g l1 m = some mF) : Wq O F (Cd O F rp_P dd) (2, 0, rw_X12_takeString, []) (rx_at rw_X12_takeString 62) la [] h (QN h0 mF) := by
  unfold m_takeString_62 at hD
  refine wq_aload_n k0 rfl ?_
  refine wq_iload_n k1 rfl ?_
  refine wq_aload_n k0 rfl ?_
  refine wm_gfi hr rfl rfl (fun pp29 => ?_)
  refine wq_isub rfl ?_
  obtain ⟨m30, e31, hD⟩ := wlet_of hD
  refine wm_pfi hr rfl rfl (InI_i32 _) rfl (fun h32 hr33 => ?_)
  rw [← e31] at hr33
  refine wq_aload_n k0 rfl ?_
  refine wq_iload_n k1 rfl ?_
  obtain ⟨v38, m34, q37, hD⟩ := vb_of hD
  refine wm_cvI hr33 (c_byteAt (by omega) hr33 pl1 q37) rfl rfl rfl (fun h35 hr36 pp39 => ?_)
  refine wq_bipush (by decide) rfl ?_
  refine wq_icmp_ne pp39 ⟨by decide, by decide⟩ rfl rfl rfl (fun c40 => ?_) (fun c40 => ?_)
  · rw [if_neg c40] at hD
    exact c_m_takeString_89_b hd k0 k1 hr36 pl1 hD
  · rw [if_pos c40] at hD
    refine wq_aload_n k0 rfl ?_
    refine wm_gfi hr36 rfl rfl (fun pp41 => ?_)
    refine wq_if_ne pp41 rfl rfl rfl (fun c42 => ?_) (fun c42 => ?_)
    · rw [if_neg c42] at hD
      exact c_m_takeString_98_b hd k0 k1 hr36 pl1 hD
    · rw [if_pos c42] at hD
      exact c_m_takeString_89_b hd k0 k1 hr36 pl1 hD
def m_takeString_15 (g : Nat) : Nat → Int → MS → Option MS
  | 0, _, _ => none
  | n + 1, l1, m => if l1 < (m 5 0) then ck l1 1500 (if (m 4 l1) < 32 then m_takeString_62 g l1 m else ck l1 1500 (if 126 < (m 4 l1) then m_takeString_62 g l1 m else ck l1 1500 (if (m 4 l1) = 39 then m_takeString_62 g l1 m else m_takeString_15 g n (i32 (l1 + 1)) m))) else m_takeString_62 g l1 m
theorem c_m_takeString_15 {dd : Nat} (hd : 1 ≤ dd) {g : Nat} {h0 : RHeap} {mF : MS} : ∀ (n : Nat) {la : RLoc} {h : RHeap} {m : MS} {l1 : Int}, rx_look la 0 = some (.ref 170) → rx_look la 1 = some (wvi l1) → RM h0 h m → InI l1 → m_takeString_15 g n l1 m = some mF → Wq O F (Cd O F rp_P dd) (2, 0, rw_X12_takeString, []) (rx_at rw_X12_takeString 15) la [] h (QN h0 mF) := by
  intro n
  induction n with
  | zero =>
    intro la h m l1 k0 k1 hr pl1 hD
    unfold m_takeString_15 at hD
    cases hD
  | succ n ih =>
    intro la h m l1 k0 k1 hr pl1 hD
    unfold m_takeString_15 at hD
    refine wq_iload_n k1 rfl ?_
    refine wq_aload_n k0 rfl ?_
    refine wm_gfi hr rfl rfl (fun pp11 => ?_)
    refine wq_icmp_ge pl1 pp11 rfl rfl rfl (fun c12 => ?_) (fun c12 => ?_)
    · rw [if_neg (Int.not_lt.mpr c12)] at hD
      exact c_m_takeString_62_b hd k0 k1 hr pl1 hD
    · rw [if_pos c12] at hD
      refine wq_aload_n k0 rfl ?_
      refine wm_gfa (c := 0) hr rfl rfl ?_
      refine wq_iload_n k1 rfl ?_
      obtain ⟨g13, g14, hD⟩ := ck_of hD
      refine wm_ali (f := 4) hr rfl pl1 g13 g14 rfl (fun pp15 => ?_)
      refine wq_bipush (by decide) rfl ?_
      refine wq_icmp_lt pp15 ⟨by decide, by decide⟩ rfl rfl rfl (fun c16 => ?_) (fun c16 => ?_)
      · rw [if_pos c16] at hD
        exact c_m_takeString_62_b hd k0 k1 hr pl1 hD
      · rw [if_neg (Int.not_lt.mpr c16)] at hD
        refine wq_aload_n k0 rfl ?_
        refine wm_gfa (c := 0) hr rfl rfl ?_
        refine wq_iload_n k1 rfl ?_
        obtain ⟨g17, g18, hD⟩ := ck_of hD
        refine wm_ali (f := 4) hr rfl pl1 g17 g18 rfl (fun pp19 => ?_)
        refine wq_bipush (by decide) rfl ?_
        refine wq_icmp_gt pp19 ⟨by decide, by decide⟩ rfl rfl rfl (fun c20 => ?_) (fun c20 => ?_)
        · rw [if_pos c20] at hD
          exact c_m_takeString_62_b hd k0 k1 hr pl1 hD
        · rw [if_neg (Int.not_lt.mpr c20)] at hD
          refine wq_aload_n k0 rfl ?_
          refine wm_gfa (c := 0) hr rfl rfl ?_
          refine wq_iload_n k1 rfl ?_
          obtain ⟨g21, g22, hD⟩ := ck_of hD
          refine wm_ali (f := 4) hr rfl pl1 g21 g22 rfl (fun pp23 => ?_)
          refine wq_bipush (by decide) rfl ?_
          refine wq_icmp_eq pp23 ⟨by decide, by decide⟩ rfl rfl rfl (fun c24 => ?_) (fun c24 => ?_)
          · rw [if_pos c24] at hD
            exact c_m_takeString_62_b hd k0 k1 hr pl1 hD
          · rw [if_neg c24] at hD
            refine wl_iinc k1 rfl rfl (fun la25 kk26 t27 => ?_)
            have kk28 := t27 0 _ (by decide) (Or.inr rfl) k0
            refine wq_goto rfl rfl ?_
            exact ih kk28 kk26 hr (InI_i32 _) hD
def m_takeString (g : Nat) (m : MS) : Option MS := wlet (mset m 13 0 (i32 ((m 8 0) + 1))) (fun m2 => m_takeString_15 g g (m2 13 0) m2)
theorem c_m_takeString_b {dd : Nat} (hd : 1 ≤ dd) {g : Nat} {h0 : RHeap} {mF : MS} {la : RLoc} {h : RHeap} {m : MS} (k0 : rx_look la 0 = some (.ref 170)) (hr : RM h0 h m) (hD : m_takeString g m = some mF) : Wq O F (Cd O F rp_P dd) (2, 0, rw_X12_takeString, []) (rx_at rw_X12_takeString 0) la [] h (QN h0 mF) := by
  unfold m_takeString at hD
  refine wq_aload_n k0 rfl ?_
  refine wq_aload_n k0 rfl ?_
  refine wm_gfi hr rfl rfl (fun pp1 => ?_)
  refine wq_iconst rfl ?_
  refine wq_iadd rfl ?_
  obtain ⟨m2, e3, hD⟩ := wlet_of hD
  refine wm_pfi hr rfl rfl (InI_i32 _) rfl (fun h4 hr5 => ?_)
  rw [← e3] at hr5
  refine wq_aload_n k0 rfl ?_
  refine wm_gfi hr5 rfl rfl (fun pp6 => ?_)
  refine wl_istore_n rfl rfl (fun la7 kk8 t9 => ?_)
  have kk10 := t9 0 _ (by decide) (Or.inr rfl) k0
  exact c_m_takeString_15 hd g kk10 kk8 hr5 pp6 hD
theorem c_takeString {d : Nat} (hd : 2 ≤ d) {g : Nat} {h0 h : RHeap} {m : MS} {mF : MS} (hr : RM h0 h m) (hD : m_takeString g m = some mF) : Cq (Cd O F rp_P d) 287 [.ref 170] h (QN h0 mF) := by
  refine cq_of (I := (2, 0, rw_X12_takeString, [])) rfl rfl (by omega) ?_
  exact c_m_takeString_b (by omega) rfl hr hD
def m_take_107 (g : Nat) (m : MS) : Option MS := some m
theorem c_m_take_107_b {dd : Nat} (hd : 2 ≤ dd) {g : Nat} {h0 : RHeap} {mF : MS} {la : RLoc} {h : RHeap} {m : MS} (hr : RM h0 h m) (hD : m_take_107 g m = some mF) : Wq O F (Cd O F rp_P dd) (2, 0, rw_X12_take, []) (rx_at rw_X12_take 107) la [] h (QN h0 mF) := by
  unfold m_take_107 at hD
  cases hD
  exact wq_return rfl ⟨_, rfl, hr⟩
def m_take_56 (g : Nat) (s1 : Int) (m : MS) : Option MS := wlet (mset m 9 0 s1) (fun m63 => m_take_107 g m63)
theorem c_m_take_56_b {dd : Nat} (hd : 2 ≤ dd) {g : Nat} {h0 : RHeap} {mF : MS} {la : RLoc} {h : RHeap} {m : MS} {s1 : Int} (hr : RM h0 h m) (ps1 : InI s1) (hD : m_take_56 g s1 m = some mF) : Wq O F (Cd O F rp_P dd) (2, 0, rw_X12_take, []) (rx_at rw_X12_take 56) la [wvi s1, .ref 170] h (QN h0 mF) := by
  unfold m_take_56 at hD
  obtain ⟨m63, e64, hD⟩ := wlet_of hD
  refine wm_pfi hr rfl rfl ps1 rfl (fun h65 hr66 => ?_)
  rw [← e64] at hr66
  refine wq_goto rfl rfl ?_
  exact c_m_take_107_b hd hr66 hD
def m_take_32 (g : Nat) (m : MS) : Option MS := wlet (mset m 10 0 0) (fun m55 => if 0 < (m55 6 0) then m_take_56 g (m55 9 0) m55 else m_take_56 g (m55 5 0) m55)
theorem c_m_take_32_b {dd : Nat} (hd : 2 ≤ dd) {g : Nat} {h0 : RHeap} {mF : MS} {la : RLoc} {h : RHeap} {m : MS} (k0 : rx_look la 0 = some (.ref 170)) (hr : RM h0 h m) (hD : m_take_32 g m = some mF) : Wq O F (Cd O F rp_P dd) (2, 0, rw_X12_take, []) (rx_at rw_X12_take 32) la [] h (QN h0 mF) := by
  unfold m_take_32 at hD
  refine wq_aload_n k0 rfl ?_
  refine wq_iconst rfl ?_
  obtain ⟨m55, e56, hD⟩ := wlet_of hD
  refine wm_pfi hr rfl rfl ⟨by decide, by decide⟩ rfl (fun h57 hr58 => ?_)
  rw [← e56] at hr58
  refine wq_aload_n k0 rfl ?_
  refine wq_aload_n k0 rfl ?_
  refine wm_gfi hr58 rfl rfl (fun pp59 => ?_)
  refine wq_if_le pp59 rfl rfl rfl (fun c60 => ?_) (fun c60 => ?_)
  · rw [if_neg (Int.not_lt.mpr c60)] at hD
    refine wq_aload_n k0 rfl ?_
    refine wm_gfi hr58 rfl rfl (fun pp61 => ?_)
    exact c_m_take_56_b hd hr58 pp61 hD
  · rw [if_pos c60] at hD
    refine wq_aload_n k0 rfl ?_
    refine wm_gfi hr58 rfl rfl (fun pp62 => ?_)
    refine wq_goto rfl rfl ?_
    exact c_m_take_56_b hd hr58 pp62 hD
def m_take (g : Nat) (m : MS) : Option MS := nb (m_skipBlanks g m) (fun m1 => wlet (mset m1 9 0 (m1 8 0)) (fun m6 => vb (m_byteAt (m6 8 0) m6) (fun v15 m11 => if 0 < (m11 6 0) then m_take_32 g m11 else if v15 < 0 then m_take_32 g m11 else vb (m_isLetter v15 m11) (fun v28 m24 => if v28 = 0 then vb (m_isFigure v15 m24) (fun v35 m31 => if v35 = 0 then if v15 = 39 then nb (m_takeString g m31) (fun m43 => m_take_107 g m43) else nb (m_takeSign m31) (fun m39 => m_take_107 g m39) else nb (m_takeNumber g m31) (fun m47 => m_take_107 g m47)) else nb (m_takeName g m24) (fun m51 => m_take_107 g m51)))))
theorem c_m_take_b {dd : Nat} (hd : 2 ≤ dd) {g : Nat} {h0 : RHeap} {mF : MS} {la : RLoc} {h : RHeap} {m : MS} (k0 : rx_look la 0 = some (.ref 170)) (hr : RM h0 h m) (hD : m_take g m = some mF) : Wq O F (Cd O F rp_P dd) (2, 0, rw_X12_take, []) (rx_at rw_X12_take 0) la [] h (QN h0 mF) := by
  unfold m_take at hD
  refine wq_aload_n k0 rfl ?_
  obtain ⟨m1, q4, hD⟩ := nb_of hD
  refine wm_cvN hr (c_skipBlanks (by omega) hr q4) rfl rfl rfl (fun h2 hr3 => ?_)
  refine wq_aload_n k0 rfl ?_
  refine wq_aload_n k0 rfl ?_
  refine wm_gfi hr3 rfl rfl (fun pp5 => ?_)
  obtain ⟨m6, e7, hD⟩ := wlet_of hD
  refine wm_pfi hr3 rfl rfl pp5 rfl (fun h8 hr9 => ?_)
  rw [← e7] at hr9
  refine wq_aload_n k0 rfl ?_
  refine wq_aload_n k0 rfl ?_
  refine wm_gfi hr9 rfl rfl (fun pp10 => ?_)
  obtain ⟨v15, m11, q14, hD⟩ := vb_of hD
  refine wm_cvI hr9 (c_byteAt (by omega) hr9 pp10 q14) rfl rfl rfl (fun h12 hr13 pp16 => ?_)
  refine wl_istore_n rfl rfl (fun la17 kk18 t19 => ?_)
  have kk20 := t19 0 _ (by decide) (Or.inr rfl) k0
  refine wq_aload_n kk20 rfl ?_
  refine wm_gfi hr13 rfl rfl (fun pp21 => ?_)
  refine wq_if_gt pp21 rfl rfl rfl (fun c22 => ?_) (fun c22 => ?_)
  · rw [if_pos c22] at hD
    exact c_m_take_32_b hd kk20 hr13 hD
  · rw [if_neg (Int.not_lt.mpr c22)] at hD
    refine wq_iload_n kk18 rfl ?_
    refine wq_if_ge pp16 rfl rfl rfl (fun c23 => ?_) (fun c23 => ?_)
    · rw [if_neg (Int.not_lt.mpr c23)] at hD
      refine wq_iload_n kk18 rfl ?_
      obtain ⟨v28, m24, q27, hD⟩ := vb_of hD
      refine wm_csZ (fun _ _ => rfl) (c_isLetter (by omega) hr13 pp16 q27) rfl rfl rfl (fun h25 hr26 pp29 => ?_)
      refine wq_if_eq (InI_z pp29) rfl rfl rfl (fun c30 => ?_) (fun c30 => ?_)
      · rw [if_pos c30] at hD
        refine wq_iload_n kk18 rfl ?_
        obtain ⟨v35, m31, q34, hD⟩ := vb_of hD
        refine wm_csZ (fun _ _ => rfl) (c_isFigure (by omega) hr26 pp16 q34) rfl rfl rfl (fun h32 hr33 pp36 => ?_)
        refine wq_if_eq (InI_z pp36) rfl rfl rfl (fun c37 => ?_) (fun c37 => ?_)
        · rw [if_pos c37] at hD
          refine wq_iload_n kk18 rfl ?_
          refine wq_bipush (by decide) rfl ?_
          refine wq_icmp_ne pp16 ⟨by decide, by decide⟩ rfl rfl rfl (fun c38 => ?_) (fun c38 => ?_)
          · rw [if_neg c38] at hD
            refine wq_aload_n kk20 rfl ?_
            obtain ⟨m39, q42, hD⟩ := nb_of hD
            refine wm_cvN hr33 (c_takeSign (by omega) hr33 q42) rfl rfl rfl (fun h40 hr41 => ?_)
            exact c_m_take_107_b hd hr41 hD
          · rw [if_pos c38] at hD
            refine wq_aload_n kk20 rfl ?_
            obtain ⟨m43, q46, hD⟩ := nb_of hD
            refine wm_cvN hr33 (c_takeString (by omega) hr33 q46) rfl rfl rfl (fun h44 hr45 => ?_)
            refine wq_goto rfl rfl ?_
            exact c_m_take_107_b hd hr45 hD
        · rw [if_neg c37] at hD
          refine wq_aload_n kk20 rfl ?_
          obtain ⟨m47, q50, hD⟩ := nb_of hD
          refine wm_cvN hr33 (c_takeNumber (by omega) hr33 q50) rfl rfl rfl (fun h48 hr49 => ?_)
          refine wq_goto rfl rfl ?_
          exact c_m_take_107_b hd hr49 hD
      · rw [if_neg c30] at hD
        refine wq_aload_n kk20 rfl ?_
        obtain ⟨m51, q54, hD⟩ := nb_of hD
        refine wm_cvN hr26 (c_takeName (by omega) hr26 q54) rfl rfl rfl (fun h52 hr53 => ?_)
        refine wq_goto rfl rfl ?_
        exact c_m_take_107_b hd hr53 hD
    · rw [if_pos c23] at hD
      exact c_m_take_32_b hd kk20 hr13 hD
theorem c_take {d : Nat} (hd : 3 ≤ d) {g : Nat} {h0 h : RHeap} {m : MS} {mF : MS} (hr : RM h0 h m) (hD : m_take g m = some mF) : Cq (Cd O F rp_P d) 282 [.ref 170] h (QN h0 mF) := by
  refine cq_of (I := (2, 0, rw_X12_take, [])) rfl rfl (by omega) ?_
  exact c_m_take_b (by omega) rfl hr hD
def m_declare_15 (g : Nat) (m : MS) : Option (Int × MS) := nb (m_fail 1 (m 9 0) m) (fun m15 => some (0, m15))
theorem c_m_declare_15_b {dd : Nat} (hd : 3 ≤ dd) {g : Nat} {h0 : RHeap} {vF : Int} {mF : MS} {la : RLoc} {h : RHeap} {m : MS} (k0 : rx_look la 0 = some (.ref 170)) (hr : RM h0 h m) (hD : m_declare_15 g m = some (vF, mF)) : Wq O F (Cd O F rp_P dd) (3, 1, rw_X12_declare, []) (rx_at rw_X12_declare 15) la [] h (QV 0 h0 vF mF) := by
  unfold m_declare_15 at hD
  refine wq_aload_n k0 rfl ?_
  refine wq_iconst rfl ?_
  refine wq_aload_n k0 rfl ?_
  refine wm_gfi hr rfl rfl (fun pp14 => ?_)
  obtain ⟨m15, q18, hD⟩ := nb_of hD
  refine wm_cvN hr (c_fail (by omega) hr ⟨by decide, by decide⟩ pp14 q18) rfl rfl rfl (fun h16 hr17 => ?_)
  refine wq_iconst rfl ?_
  cases hD
  exact wq_ireturn rfl ⟨_, rfl, hr17, ⟨by decide, by decide⟩⟩
def m_declare_99 (g : Nat) (l1 : Int) (m : MS) : Option (Int × MS) := if 0 < (m 6 0) then some (0, m) else wlet (mset m 15 0 (i32 ((m 15 0) + 1))) (fun m54 => ck (m 15 0) 140 (wlet (mset m54 16 (m 15 0) (m54 11 0)) (fun m61 => ck (m 15 0) 140 (wlet (mset m61 17 (m 15 0) l1) (fun m67 => ck (m 15 0) 140 (wlet (mset m67 18 (m 15 0) (m67 41 0)) (fun m74 => ck (m 15 0) 140 (wlet (mset m74 19 (m 15 0) 1) (fun m80 => ck (m 15 0) 140 (wlet (mset m80 24 (m 15 0) 0) (fun m86 => ck (m 15 0) 140 (wlet (mset m86 29 (m 15 0) 0) (fun m92 => ck (m 15 0) 140 (wlet (mset m92 21 (m 15 0) 0) (fun m98 => nb (m_take g m98) (fun m102 => some (m 15 0, m102)))))))))))))))))
theorem c_m_declare_99_b {dd : Nat} (hd : 3 ≤ dd) {g : Nat} {h0 : RHeap} {vF : Int} {mF : MS} {la : RLoc} {h : RHeap} {m : MS} {l1 : Int} (k0 : rx_look la 0 = some (.ref 170)) (k1 : rx_look la 1 = some (wvi l1)) (hr : RM h0 h m) (pl1 : InI l1) (hD : m_declare_99 g l1 m = some (vF, mF)) : Wq O F (Cd O F rp_P dd) (3, 1, rw_X12_declare, []) (rx_at rw_X12_declare 99) la [] h (QV 0 h0 vF mF) := by
  unfold m_declare_99 at hD
  refine wq_aload_n k0 rfl ?_
  refine wm_gfi hr rfl rfl (fun pp45 => ?_)
  refine wq_if_le pp45 rfl rfl rfl (fun c46 => ?_) (fun c46 => ?_)
  · rw [if_neg (Int.not_lt.mpr c46)] at hD
    refine wq_aload_n k0 rfl ?_
    refine wm_gfi hr rfl rfl (fun pp47 => ?_)
    refine wl_istore_n rfl rfl (fun la48 kk49 t50 => ?_)
    have kk51 := t50 0 _ (by decide) (Or.inr rfl) k0
    have kk52 := t50 1 _ (by decide) (Or.inr rfl) k1
    refine wq_aload_n kk51 rfl ?_
    refine wq_dup rfl rfl ?_
    refine wm_gfi hr rfl rfl (fun pp53 => ?_)
    refine wq_iconst rfl ?_
    refine wq_iadd rfl ?_
    obtain ⟨m54, e55, hD⟩ := wlet_of hD
    refine wm_pfi hr rfl rfl (InI_i32 _) rfl (fun h56 hr57 => ?_)
    rw [← e55] at hr57
    refine wq_aload_n kk51 rfl ?_
    refine wm_gfa (c := 1) hr57 rfl rfl ?_
    refine wq_iload_n kk49 rfl ?_
    refine wq_aload_n kk51 rfl ?_
    refine wm_gfl hr57 rfl rfl (fun pp58 => ?_)
    obtain ⟨g59, g60, hD⟩ := ck_of hD
    obtain ⟨m61, e62, hD⟩ := wlet_of hD
    refine wm_asl (f := 16) hr57 rfl pp47 g59 g60 pp58 rfl (fun h63 hr64 => ?_)
    rw [← e62] at hr64
    refine wq_aload_n kk51 rfl ?_
    refine wm_gfa (c := 0) hr64 rfl rfl ?_
    refine wq_iload_n kk49 rfl ?_
    refine wq_iload_n kk52 rfl ?_
    obtain ⟨g65, g66, hD⟩ := ck_of hD
    obtain ⟨m67, e68, hD⟩ := wlet_of hD
    refine wm_asi (f := 17) hr64 rfl pp47 g65 g66 pl1 rfl (fun h69 hr70 => ?_)
    rw [← e68] at hr70
    refine wq_aload_n kk51 rfl ?_
    refine wm_gfa (c := 0) hr70 rfl rfl ?_
    refine wq_iload_n kk49 rfl ?_
    refine wq_aload_n kk51 rfl ?_
    refine wm_gfi hr70 rfl rfl (fun pp71 => ?_)
    obtain ⟨g72, g73, hD⟩ := ck_of hD
    obtain ⟨m74, e75, hD⟩ := wlet_of hD
    refine wm_asi (f := 18) hr70 rfl pp47 g72 g73 pp71 rfl (fun h76 hr77 => ?_)
    rw [← e75] at hr77
    refine wq_aload_n kk51 rfl ?_
    refine wm_gfa (c := 3) hr77 rfl rfl ?_
    refine wq_iload_n kk49 rfl ?_
    refine wq_iconst rfl ?_
    obtain ⟨g78, g79, hD⟩ := ck_of hD
    obtain ⟨m80, e81, hD⟩ := wlet_of hD
    refine wm_asz (f := 19) hr77 rfl pp47 g78 g79 (Or.inr rfl) rfl (fun h82 hr83 => ?_)
    rw [← e81] at hr83
    refine wq_aload_n kk51 rfl ?_
    refine wm_gfa (c := 3) hr83 rfl rfl ?_
    refine wq_iload_n kk49 rfl ?_
    refine wq_iconst rfl ?_
    obtain ⟨g84, g85, hD⟩ := ck_of hD
    obtain ⟨m86, e87, hD⟩ := wlet_of hD
    refine wm_asz (f := 24) hr83 rfl pp47 g84 g85 (Or.inl rfl) rfl (fun h88 hr89 => ?_)
    rw [← e87] at hr89
    refine wq_aload_n kk51 rfl ?_
    refine wm_gfa (c := 3) hr89 rfl rfl ?_
    refine wq_iload_n kk49 rfl ?_
    refine wq_iconst rfl ?_
    obtain ⟨g90, g91, hD⟩ := ck_of hD
    obtain ⟨m92, e93, hD⟩ := wlet_of hD
    refine wm_asz (f := 29) hr89 rfl pp47 g90 g91 (Or.inl rfl) rfl (fun h94 hr95 => ?_)
    rw [← e93] at hr95
    refine wq_aload_n kk51 rfl ?_
    refine wm_gfa (c := 3) hr95 rfl rfl ?_
    refine wq_iload_n kk49 rfl ?_
    refine wq_iconst rfl ?_
    obtain ⟨g96, g97, hD⟩ := ck_of hD
    obtain ⟨m98, e99, hD⟩ := wlet_of hD
    refine wm_asz (f := 21) hr95 rfl pp47 g96 g97 (Or.inl rfl) rfl (fun h100 hr101 => ?_)
    rw [← e99] at hr101
    refine wq_aload_n kk51 rfl ?_
    obtain ⟨m102, q105, hD⟩ := nb_of hD
    refine wm_cvN hr101 (c_take (by omega) hr101 q105) rfl rfl rfl (fun h103 hr104 => ?_)
    refine wq_iload_n kk49 rfl ?_
    cases hD
    exact wq_ireturn rfl ⟨_, rfl, hr104, pp47⟩
  · rw [if_pos c46] at hD
    refine wq_iconst rfl ?_
    cases hD
    exact wq_ireturn rfl ⟨_, rfl, hr, ⟨by decide, by decide⟩⟩
def m_declare_90 (g : Nat) (l1 : Int) (m : MS) : Option (Int × MS) := nb (m_fail 5 (m 9 0) m) (fun m41 => m_declare_99 g l1 m41)
theorem c_m_declare_90_b {dd : Nat} (hd : 3 ≤ dd) {g : Nat} {h0 : RHeap} {vF : Int} {mF : MS} {la : RLoc} {h : RHeap} {m : MS} {l1 : Int} (k0 : rx_look la 0 = some (.ref 170)) (k1 : rx_look la 1 = some (wvi l1)) (hr : RM h0 h m) (pl1 : InI l1) (hD : m_declare_90 g l1 m = some (vF, mF)) : Wq O F (Cd O F rp_P dd) (3, 1, rw_X12_declare, []) (rx_at rw_X12_declare 90) la [] h (QV 0 h0 vF mF) := by
  unfold m_declare_90 at hD
  refine wq_aload_n k0 rfl ?_
  refine wq_iconst rfl ?_
  refine wq_aload_n k0 rfl ?_
  refine wm_gfi hr rfl rfl (fun pp40 => ?_)
  obtain ⟨m41, q44, hD⟩ := nb_of hD
  refine wm_cvN hr (c_fail (by omega) hr ⟨by decide, by decide⟩ pp40 q44) rfl rfl rfl (fun h42 hr43 => ?_)
  exact c_m_declare_99_b hd k0 k1 hr43 pl1 hD
def m_declare_67 (g : Nat) (rec36 : Int → Int → MS → Option (Int × MS)) (l1 : Int) (l2 : Int) (m : MS) : Option (Int × MS) := rec36 l1 (i32 (l2 + 1)) m
theorem c_m_declare_67_b {dd : Nat} (hd : 3 ≤ dd) {g : Nat} {h0 : RHeap} {vF : Int} {mF : MS} {rec36 : Int → Int → MS → Option (Int × MS)} (hrec36 : ∀ {la : RLoc} {h : RHeap} {m : MS} {l1 l2 : Int}, rx_look la 0 = some (.ref 170) → rx_look la 1 = some (wvi l1) → rx_look la 2 = some (wvi l2) → RM h0 h m → InI l1 → InI l2 → rec36 l1 l2 m = some (vF, mF) → Wq O F (Cd O F rp_P dd) (3, 1, rw_X12_declare, []) (rx_at rw_X12_declare 36) la [] h (QV 0 h0 vF mF)) {la : RLoc} {h : RHeap} {m : MS} {l1 l2 : Int} (k0 : rx_look la 0 = some (.ref 170)) (k1 : rx_look la 1 = some (wvi l1)) (k2 : rx_look la 2 = some (wvi l2)) (hr : RM h0 h m) (pl1 : InI l1) (pl2 : InI l2) (hD : m_declare_67 g rec36 l1 l2 m = some (vF, mF)) : Wq O F (Cd O F rp_P dd) (3, 1, rw_X12_declare, []) (rx_at rw_X12_declare 67) la [] h (QV 0 h0 vF mF) := by
  unfold m_declare_67 at hD
  refine wl_iinc k2 rfl rfl (fun la35 kk36 t37 => ?_)
  have kk38 := t37 0 _ (by decide) (Or.inr rfl) k0
  have kk39 := t37 1 _ (by decide) (Or.inr rfl) k1
  refine wq_goto rfl rfl ?_
  exact hrec36 kk38 kk39 kk36 hr pl1 (InI_i32 _) hD
def m_declare_36 (g : Nat) : Nat → Int → Int → MS → Option (Int × MS)
  | 0, _, _, _ => none
  | n + 1, l1, l2, m => if l2 < (m 15 0) then ck l2 140 (if (m 16 l2) = (m 11 0) then nb (m_fail 3 (m 9 0) m) (fun m31 => m_declare_67 g (m_declare_36 g n) l1 l2 m31) else m_declare_67 g (m_declare_36 g n) l1 l2 m) else if (m 15 0) = 134 then m_declare_90 g l1 m else if (m 56 0) = 0 then m_declare_90 g l1 m else m_declare_99 g l1 m
theorem c_m_declare_36 {dd : Nat} (hd : 3 ≤ dd) {g : Nat} {h0 : RHeap} {vF : Int} {mF : MS} : ∀ (n : Nat) {la : RLoc} {h : RHeap} {m : MS} {l1 l2 : Int}, rx_look la 0 = some (.ref 170) → rx_look la 1 = some (wvi l1) → rx_look la 2 = some (wvi l2) → RM h0 h m → InI l1 → InI l2 → m_declare_36 g n l1 l2 m = some (vF, mF) → Wq O F (Cd O F rp_P dd) (3, 1, rw_X12_declare, []) (rx_at rw_X12_declare 36) la [] h (QV 0 h0 vF mF) := by
  intro n
  induction n with
  | zero =>
    intro la h m l1 l2 k0 k1 k2 hr pl1 pl2 hD
    unfold m_declare_36 at hD
    cases hD
  | succ n ih =>
    intro la h m l1 l2 k0 k1 k2 hr pl1 pl2 hD
    unfold m_declare_36 at hD
    refine wq_iload_n k2 rfl ?_
    refine wq_aload_n k0 rfl ?_
    refine wm_gfi hr rfl rfl (fun pp19 => ?_)
    refine wq_icmp_ge pl2 pp19 rfl rfl rfl (fun c20 => ?_) (fun c20 => ?_)
    · rw [if_neg (Int.not_lt.mpr c20)] at hD
      refine wq_aload_n k0 rfl ?_
      refine wm_gfi hr rfl rfl (fun pp21 => ?_)
      refine wq_sipush (by decide) rfl ?_
      refine wq_icmp_eq pp21 ⟨by decide, by decide⟩ rfl rfl rfl (fun c22 => ?_) (fun c22 => ?_)
      · rw [if_pos c22] at hD
        exact c_m_declare_90_b hd k0 k1 hr pl1 hD
      · rw [if_neg c22] at hD
        refine wq_aload_n k0 rfl ?_
        refine wm_gfi hr rfl rfl (fun pp23 => ?_)
        refine wq_if_ne pp23 rfl rfl rfl (fun c24 => ?_) (fun c24 => ?_)
        · rw [if_neg c24] at hD
          exact c_m_declare_99_b hd k0 k1 hr pl1 hD
        · rw [if_pos c24] at hD
          exact c_m_declare_90_b hd k0 k1 hr pl1 hD
    · rw [if_pos c20] at hD
      refine wq_aload_n k0 rfl ?_
      refine wm_gfa (c := 1) hr rfl rfl ?_
      refine wq_iload_n k2 rfl ?_
      obtain ⟨g25, g26, hD⟩ := ck_of hD
      refine wm_all (f := 16) hr rfl pl2 g25 g26 rfl (fun pp27 => ?_)
      refine wq_aload_n k0 rfl ?_
      refine wm_gfl hr rfl rfl (fun pp28 => ?_)
      refine wq_lc_ne pp27 pp28 rfl rfl rfl rfl (fun c29 => ?_) (fun c29 => ?_)
      · rw [if_neg c29] at hD
        exact c_m_declare_67_b hd ih k0 k1 k2 hr pl1 pl2 hD
      · rw [if_pos c29] at hD
        refine wq_aload_n k0 rfl ?_
        refine wq_iconst rfl ?_
        refine wq_aload_n k0 rfl ?_
        refine wm_gfi hr rfl rfl (fun pp30 => ?_)
        obtain ⟨m31, q34, hD⟩ := nb_of hD
        refine wm_cvN hr (c_fail (by omega) hr ⟨by decide, by decide⟩ pp30 q34) rfl rfl rfl (fun h32 hr33 => ?_)
        exact c_m_declare_67_b hd ih k0 k1 k2 hr33 pl1 pl2 hD
def m_declare (g : Nat) (l1 : Int) (m : MS) : Option (Int × MS) := if 0 < (m 6 0) then m_declare_15 g m else if (m 10 0) = 1 then ck (m 41 0) 8 (m_declare_36 g g l1 (m 42 (m 41 0)) m) else m_declare_15 g m
theorem c_m_declare_b {dd : Nat} (hd : 3 ≤ dd) {g : Nat} {h0 : RHeap} {vF : Int} {mF : MS} {la : RLoc} {h : RHeap} {m : MS} {l1 : Int} (k0 : rx_look la 0 = some (.ref 170)) (k1 : rx_look la 1 = some (wvi l1)) (hr : RM h0 h m) (pl1 : InI l1) (hD : m_declare g l1 m = some (vF, mF)) : Wq O F (Cd O F rp_P dd) (3, 1, rw_X12_declare, []) (rx_at rw_X12_declare 0) la [] h (QV 0 h0 vF mF) := by
  unfold m_declare at hD
  refine wq_aload_n k0 rfl ?_
  refine wm_gfi hr rfl rfl (fun pp1 => ?_)
  refine wq_if_gt pp1 rfl rfl rfl (fun c2 => ?_) (fun c2 => ?_)
  · rw [if_pos c2] at hD
    exact c_m_declare_15_b hd k0 hr hD
  · rw [if_neg (Int.not_lt.mpr c2)] at hD
    refine wq_aload_n k0 rfl ?_
    refine wm_gfi hr rfl rfl (fun pp3 => ?_)
    refine wq_iconst rfl ?_
    refine wq_icmp_eq pp3 ⟨by decide, by decide⟩ rfl rfl rfl (fun c4 => ?_) (fun c4 => ?_)
    · rw [if_pos c4] at hD
      refine wq_aload_n k0 rfl ?_
      refine wm_gfa (c := 0) hr rfl rfl ?_
      refine wq_aload_n k0 rfl ?_
      refine wm_gfi hr rfl rfl (fun pp5 => ?_)
      obtain ⟨g6, g7, hD⟩ := ck_of hD
      refine wm_ali (f := 42) hr rfl pp5 g6 g7 rfl (fun pp8 => ?_)
      refine wl_istore_n rfl rfl (fun la9 kk10 t11 => ?_)
      have kk12 := t11 0 _ (by decide) (Or.inr rfl) k0
      have kk13 := t11 1 _ (by decide) (Or.inr rfl) k1
      exact c_m_declare_36 hd g kk12 kk13 kk10 hr pl1 pp8 hD
    · rw [if_neg c4] at hD
      exact c_m_declare_15_b hd k0 hr hD
theorem c_declare {d : Nat} (hd : 4 ≤ d) {g : Nat} {h0 h : RHeap} {m : MS} {l1 : Int} {vF : Int} {mF : MS} (hr : RM h0 h m) (pl1 : InI l1) (hD : m_declare g l1 m = some (vF, mF)) : Cq (Cd O F rp_P d) 220 [.ref 170, wvi l1] h (QV 0 h0 vF mF) := by
  refine cq_of (I := (3, 1, rw_X12_declare, [])) rfl rfl (by omega) ?_
  exact c_m_declare_b (by omega) rfl rfl hr pl1 hD
def m_find_33 (g : Nat) (rec7 : Int → Int → MS → Option (Int × MS)) (l1 : Int) (l3 : Int) (m : MS) : Option (Int × MS) := rec7 l1 (i32 (l3 + (-1))) m
theorem c_m_find_33_b {dd : Nat} (hd : 0 ≤ dd) {g : Nat} {h0 : RHeap} {vF : Int} {mF : MS} {rec7 : Int → Int → MS → Option (Int × MS)} (hrec7 : ∀ {la : RLoc} {h : RHeap} {m : MS} {l1 l3 : Int}, rx_look la 0 = some (.ref 170) → rx_look la 1 = some (wvl l1) → rx_look la 3 = some (wvi l3) → RM h0 h m → InL l1 → InI l3 → rec7 l1 l3 m = some (vF, mF) → Wq O F (Cd O F rp_P dd) (4, 1, rw_X12_find, []) (rx_at rw_X12_find 7) la [] h (QV 0 h0 vF mF)) {la : RLoc} {h : RHeap} {m : MS} {l1 l3 : Int} (k0 : rx_look la 0 = some (.ref 170)) (k1 : rx_look la 1 = some (wvl l1)) (k3 : rx_look la 3 = some (wvi l3)) (hr : RM h0 h m) (pl1 : InL l1) (pl3 : InI l3) (hD : m_find_33 g rec7 l1 l3 m = some (vF, mF)) : Wq O F (Cd O F rp_P dd) (4, 1, rw_X12_find, []) (rx_at rw_X12_find 33) la [] h (QV 0 h0 vF mF) := by
  unfold m_find_33 at hD
  refine wl_iinc k3 rfl rfl (fun la16 kk17 t18 => ?_)
  have kk19 := t18 0 _ (by decide) (Or.inr rfl) k0
  have kk20 := t18 1 _ (by decide) (Or.inl (by decide)) k1
  refine wq_goto rfl rfl ?_
  exact hrec7 kk19 kk20 kk17 hr pl1 (InI_i32 _) hD
def m_find_7 (g : Nat) : Nat → Int → Int → MS → Option (Int × MS)
  | 0, _, _, _ => none
  | n + 1, l1, l3, m => if l3 < 0 then some ((-1), m) else ck l3 140 (if (m 16 l3) = l1 then ck l3 140 (if (m 19 l3) = 0 then some (l3, m) else m_find_33 g (m_find_7 g n) l1 l3 m) else m_find_33 g (m_find_7 g n) l1 l3 m)
theorem c_m_find_7 {dd : Nat} (hd : 0 ≤ dd) {g : Nat} {h0 : RHeap} {vF : Int} {mF : MS} : ∀ (n : Nat) {la : RLoc} {h : RHeap} {m : MS} {l1 l3 : Int}, rx_look la 0 = some (.ref 170) → rx_look la 1 = some (wvl l1) → rx_look la 3 = some (wvi l3) → RM h0 h m → InL l1 → InI l3 → m_find_7 g n l1 l3 m = some (vF, mF) → Wq O F (Cd O F rp_P dd) (4, 1, rw_X12_find, []) (rx_at rw_X12_find 7) la [] h (QV 0 h0 vF mF) := by
  intro n
  induction n with
  | zero =>
    intro la h m l1 l3 k0 k1 k3 hr pl1 pl3 hD
    unfold m_find_7 at hD
    cases hD
  | succ n ih =>
    intro la h m l1 l3 k0 k1 k3 hr pl1 pl3 hD
    unfold m_find_7 at hD
    refine wq_iload_n k3 rfl ?_
    refine wq_if_lt pl3 rfl rfl rfl (fun c7 => ?_) (fun c7 => ?_)
    · rw [if_pos c7] at hD
      refine wq_iconst rfl ?_
      cases hD
      exact wq_ireturn rfl ⟨_, rfl, hr, ⟨by decide, by decide⟩⟩
    · rw [if_neg (Int.not_lt.mpr c7)] at hD
      refine wq_aload_n k0 rfl ?_
      refine wm_gfa (c := 1) hr rfl rfl ?_
      refine wq_iload_n k3 rfl ?_
      obtain ⟨g8, g9, hD⟩ := ck_of hD
      refine wm_all (f := 16) hr rfl pl3 g8 g9 rfl (fun pp10 => ?_)
      refine wq_lload_n k1 rfl ?_
      refine wq_lc_ne pp10 pl1 rfl rfl rfl rfl (fun c11 => ?_) (fun c11 => ?_)
      · rw [if_neg c11] at hD
        exact c_m_find_33_b hd ih k0 k1 k3 hr pl1 pl3 hD
      · rw [if_pos c11] at hD
        refine wq_aload_n k0 rfl ?_
        refine wm_gfa (c := 3) hr rfl rfl ?_
        refine wq_iload_n k3 rfl ?_
        obtain ⟨g12, g13, hD⟩ := ck_of hD
        refine wm_alz (f := 19) hr rfl pl3 g12 g13 rfl (fun pp14 => ?_)
        refine wq_if_ne (InI_z pp14) rfl rfl rfl (fun c15 => ?_) (fun c15 => ?_)
        · rw [if_neg c15] at hD
          exact c_m_find_33_b hd ih k0 k1 k3 hr pl1 pl3 hD
        · rw [if_pos c15] at hD
          refine wq_iload_n k3 rfl ?_
          cases hD
          exact wq_ireturn rfl ⟨_, rfl, hr, pl3⟩
def m_find (g : Nat) (l1 : Int) (m : MS) : Option (Int × MS) := m_find_7 g g l1 (i32 ((m 15 0) - 1)) m
theorem c_m_find_b {dd : Nat} (hd : 0 ≤ dd) {g : Nat} {h0 : RHeap} {vF : Int} {mF : MS} {la : RLoc} {h : RHeap} {m : MS} {l1 : Int} (k0 : rx_look la 0 = some (.ref 170)) (k1 : rx_look la 1 = some (wvl l1)) (hr : RM h0 h m) (pl1 : InL l1) (hD : m_find g l1 m = some (vF, mF)) : Wq O F (Cd O F rp_P dd) (4, 1, rw_X12_find, []) (rx_at rw_X12_find 0) la [] h (QV 0 h0 vF mF) := by
  unfold m_find at hD
  refine wq_aload_n k0 rfl ?_
  refine wm_gfi hr rfl rfl (fun pp1 => ?_)
  refine wq_iconst rfl ?_
  refine wq_isub rfl ?_
  refine wl_istore_n rfl rfl (fun la2 kk3 t4 => ?_)
  have kk5 := t4 0 _ (by decide) (Or.inr rfl) k0
  have kk6 := t4 1 _ (by decide) (Or.inl (by decide)) k1
  exact c_m_find_7 hd g kk5 kk6 kk3 hr pl1 (InI_i32 _) hD
theorem c_find {d : Nat} (hd : 1 ≤ d) {g : Nat} {h0 h : RHeap} {m : MS} {l1 : Int} {vF : Int} {mF : MS} (hr : RM h0 h m) (pl1 : InL l1) (hD : m_find g l1 m = some (vF, mF)) : Cq (Cd O F rp_P d) 228 [.ref 170, wvl l1] h (QV 0 h0 vF mF) := by
  refine cq_of (I := (4, 1, rw_X12_find, [])) rfl rfl (by omega) ?_
  exact c_m_find_b (by omega) rfl rfl hr pl1 hD
def m_known_53 (g : Nat) (s0 : Int) (m : MS) : Option (Int × MS) := some (s0, m)
theorem c_m_known_53_b {dd : Nat} (hd : 1 ≤ dd) {g : Nat} {h0 : RHeap} {vF : Int} {mF : MS} {la : RLoc} {h : RHeap} {m : MS} {s0 : Int} (hr : RM h0 h m) (ps0 : InI s0) (hD : m_known_53 g s0 m = some (vF, mF)) : Wq O F (Cd O F rp_P dd) (2, 1, rw_X12_known, []) (rx_at rw_X12_known 53) la [wvi s0] h (QV 0 h0 vF mF) := by
  unfold m_known_53 at hD
  cases hD
  exact wq_ireturn rfl ⟨_, rfl, hr, ps0⟩
def m_known_41 (g : Nat) (l1 : Int) (m : MS) : Option (Int × MS) := if 0 < (m 6 0) then m_known_53 g (-1) m else m_known_53 g l1 m
theorem c_m_known_41_b {dd : Nat} (hd : 1 ≤ dd) {g : Nat} {h0 : RHeap} {vF : Int} {mF : MS} {la : RLoc} {h : RHeap} {m : MS} {l1 : Int} (k0 : rx_look la 0 = some (.ref 170)) (k1 : rx_look la 1 = some (wvi l1)) (hr : RM h0 h m) (pl1 : InI l1) (hD : m_known_41 g l1 m = some (vF, mF)) : Wq O F (Cd O F rp_P dd) (2, 1, rw_X12_known, []) (rx_at rw_X12_known 41) la [] h (QV 0 h0 vF mF) := by
  unfold m_known_41 at hD
  refine wq_aload_n k0 rfl ?_
  refine wm_gfi hr rfl rfl (fun pp25 => ?_)
  refine wq_if_le pp25 rfl rfl rfl (fun c26 => ?_) (fun c26 => ?_)
  · rw [if_neg (Int.not_lt.mpr c26)] at hD
    refine wq_iload_n k1 rfl ?_
    exact c_m_known_53_b hd hr pl1 hD
  · rw [if_pos c26] at hD
    refine wq_iconst rfl ?_
    refine wq_goto rfl rfl ?_
    exact c_m_known_53_b hd hr ⟨by decide, by decide⟩ hD
def m_known (g : Nat) (m : MS) : Option (Int × MS) := if (m 10 0) = 1 then vb (m_find g (m 11 0) m) (fun v8 m4 => if v8 < 0 then nb (m_fail 2 (m4 9 0) m4) (fun m16 => m_known_41 g v8 m16) else m_known_41 g v8 m4) else nb (m_fail 1 (m 9 0) m) (fun m21 => some ((-1), m21))
theorem c_m_known_b {dd : Nat} (hd : 1 ≤ dd) {g : Nat} {h0 : RHeap} {vF : Int} {mF : MS} {la : RLoc} {h : RHeap} {m : MS} (k0 : rx_look la 0 = some (.ref 170)) (hr : RM h0 h m) (hD : m_known g m = some (vF, mF)) : Wq O F (Cd O F rp_P dd) (2, 1, rw_X12_known, []) (rx_at rw_X12_known 0) la [] h (QV 0 h0 vF mF) := by
  unfold m_known at hD
  refine wq_aload_n k0 rfl ?_
  refine wm_gfi hr rfl rfl (fun pp1 => ?_)
  refine wq_iconst rfl ?_
  refine wq_icmp_eq pp1 ⟨by decide, by decide⟩ rfl rfl rfl (fun c2 => ?_) (fun c2 => ?_)
  · rw [if_pos c2] at hD
    refine wq_aload_n k0 rfl ?_
    refine wq_aload_n k0 rfl ?_
    refine wm_gfl hr rfl rfl (fun pp3 => ?_)
    obtain ⟨v8, m4, q7, hD⟩ := vb_of hD
    refine wm_cvI hr (c_find (by omega) hr pp3 q7) rfl rfl rfl (fun h5 hr6 pp9 => ?_)
    refine wl_istore_n rfl rfl (fun la10 kk11 t12 => ?_)
    have kk13 := t12 0 _ (by decide) (Or.inr rfl) k0
    refine wq_iload_n kk11 rfl ?_
    refine wq_if_ge pp9 rfl rfl rfl (fun c14 => ?_) (fun c14 => ?_)
    · rw [if_neg (Int.not_lt.mpr c14)] at hD
      exact c_m_known_41_b hd kk13 kk11 hr6 pp9 hD
    · rw [if_pos c14] at hD
      refine wq_aload_n kk13 rfl ?_
      refine wq_iconst rfl ?_
      refine wq_aload_n kk13 rfl ?_
      refine wm_gfi hr6 rfl rfl (fun pp15 => ?_)
      obtain ⟨m16, q19, hD⟩ := nb_of hD
      refine wm_cvN hr6 (c_fail (by omega) hr6 ⟨by decide, by decide⟩ pp15 q19) rfl rfl rfl (fun h17 hr18 => ?_)
      exact c_m_known_41_b hd kk13 kk11 hr18 pp9 hD
  · rw [if_neg c2] at hD
    refine wq_aload_n k0 rfl ?_
    refine wq_iconst rfl ?_
    refine wq_aload_n k0 rfl ?_
    refine wm_gfi hr rfl rfl (fun pp20 => ?_)
    obtain ⟨m21, q24, hD⟩ := nb_of hD
    refine wm_cvN hr (c_fail (by omega) hr ⟨by decide, by decide⟩ pp20 q24) rfl rfl rfl (fun h22 hr23 => ?_)
    refine wq_iconst rfl ?_
    cases hD
    exact wq_ireturn rfl ⟨_, rfl, hr23, ⟨by decide, by decide⟩⟩
theorem c_known {d : Nat} (hd : 2 ≤ d) {g : Nat} {h0 h : RHeap} {m : MS} {vF : Int} {mF : MS} (hr : RM h0 h m) (hD : m_known g m = some (vF, mF)) : Cq (Cd O F rp_P d) 245 [.ref 170] h (QV 0 h0 vF mF) := by
  refine cq_of (I := (2, 1, rw_X12_known, [])) rfl rfl (by omega) ?_
  exact c_m_known_b (by omega) rfl hr hD
def m_nameOfType_41 (g : Nat) (l2 : Int) (m : MS) : Option MS := if 0 < (m 6 0) then some m else ck l2 140 (wlet (mset m 33 0 (m 20 l2)) (fun m32 => ck l2 140 (wlet (mset m32 34 0 (m32 21 l2)) (fun m39 => ck l2 140 (wlet (mset m39 35 0 (m39 22 l2)) (fun m46 => ck l2 140 (wlet (mset m46 36 0 (m46 23 l2)) (fun m53 => ck l2 140 (wlet (mset m53 37 0 (m53 24 l2)) (fun m60 => ck l2 140 (wlet (mset m60 38 0 (m60 25 l2)) (fun m67 => ck l2 140 (wlet (mset m67 39 0 (m67 26 l2)) (fun m74 => ck l2 140 (wlet (mset m74 40 0 (m74 27 l2)) (fun m81 => nb (m_take g m81) (fun m85 => some m85)))))))))))))))))
theorem c_m_nameOfType_41_b {dd : Nat} (hd : 3 ≤ dd) {g : Nat} {h0 : RHeap} {mF : MS} {la : RLoc} {h : RHeap} {m : MS} {l2 : Int} (k0 : rx_look la 0 = some (.ref 170)) (k2 : rx_look la 2 = some (wvi l2)) (hr : RM h0 h m) (pl2 : InI l2) (hD : m_nameOfType_41 g l2 m = some mF) : Wq O F (Cd O F rp_P dd) (3, 0, rw_X12_nameOfType, []) (rx_at rw_X12_nameOfType 41) la [] h (QN h0 mF) := by
  unfold m_nameOfType_41 at hD
  refine wq_aload_n k0 rfl ?_
  refine wm_gfi hr rfl rfl (fun pp27 => ?_)
  refine wq_if_le pp27 rfl rfl rfl (fun c28 => ?_) (fun c28 => ?_)
  · rw [if_neg (Int.not_lt.mpr c28)] at hD
    refine wq_aload_n k0 rfl ?_
    refine wq_aload_n k0 rfl ?_
    refine wm_gfa (c := 0) hr rfl rfl ?_
    refine wq_iload_n k2 rfl ?_
    obtain ⟨g29, g30, hD⟩ := ck_of hD
    refine wm_ali (f := 20) hr rfl pl2 g29 g30 rfl (fun pp31 => ?_)
    obtain ⟨m32, e33, hD⟩ := wlet_of hD
    refine wm_pfi hr rfl rfl pp31 rfl (fun h34 hr35 => ?_)
    rw [← e33] at hr35
    refine wq_aload_n k0 rfl ?_
    refine wq_aload_n k0 rfl ?_
    refine wm_gfa (c := 3) hr35 rfl rfl ?_
    refine wq_iload_n k2 rfl ?_
    obtain ⟨g36, g37, hD⟩ := ck_of hD
    refine wm_alz (f := 21) hr35 rfl pl2 g36 g37 rfl (fun pp38 => ?_)
    obtain ⟨m39, e40, hD⟩ := wlet_of hD
    refine wm_pfz hr35 rfl rfl pp38 rfl (fun h41 hr42 => ?_)
    rw [← e40] at hr42
    refine wq_aload_n k0 rfl ?_
    refine wq_aload_n k0 rfl ?_
    refine wm_gfa (c := 0) hr42 rfl rfl ?_
    refine wq_iload_n k2 rfl ?_
    obtain ⟨g43, g44, hD⟩ := ck_of hD
    refine wm_ali (f := 22) hr42 rfl pl2 g43 g44 rfl (fun pp45 => ?_)
    obtain ⟨m46, e47, hD⟩ := wlet_of hD
    refine wm_pfi hr42 rfl rfl pp45 rfl (fun h48 hr49 => ?_)
    rw [← e47] at hr49
    refine wq_aload_n k0 rfl ?_
    refine wq_aload_n k0 rfl ?_
    refine wm_gfa (c := 0) hr49 rfl rfl ?_
    refine wq_iload_n k2 rfl ?_
    obtain ⟨g50, g51, hD⟩ := ck_of hD
    refine wm_ali (f := 23) hr49 rfl pl2 g50 g51 rfl (fun pp52 => ?_)
    obtain ⟨m53, e54, hD⟩ := wlet_of hD
    refine wm_pfi hr49 rfl rfl pp52 rfl (fun h55 hr56 => ?_)
    rw [← e54] at hr56
    refine wq_aload_n k0 rfl ?_
    refine wq_aload_n k0 rfl ?_
    refine wm_gfa (c := 3) hr56 rfl rfl ?_
    refine wq_iload_n k2 rfl ?_
    obtain ⟨g57, g58, hD⟩ := ck_of hD
    refine wm_alz (f := 24) hr56 rfl pl2 g57 g58 rfl (fun pp59 => ?_)
    obtain ⟨m60, e61, hD⟩ := wlet_of hD
    refine wm_pfz hr56 rfl rfl pp59 rfl (fun h62 hr63 => ?_)
    rw [← e61] at hr63
    refine wq_aload_n k0 rfl ?_
    refine wq_aload_n k0 rfl ?_
    refine wm_gfa (c := 0) hr63 rfl rfl ?_
    refine wq_iload_n k2 rfl ?_
    obtain ⟨g64, g65, hD⟩ := ck_of hD
    refine wm_ali (f := 25) hr63 rfl pl2 g64 g65 rfl (fun pp66 => ?_)
    obtain ⟨m67, e68, hD⟩ := wlet_of hD
    refine wm_pfi hr63 rfl rfl pp66 rfl (fun h69 hr70 => ?_)
    rw [← e68] at hr70
    refine wq_aload_n k0 rfl ?_
    refine wq_aload_n k0 rfl ?_
    refine wm_gfa (c := 0) hr70 rfl rfl ?_
    refine wq_iload_n k2 rfl ?_
    obtain ⟨g71, g72, hD⟩ := ck_of hD
    refine wm_ali (f := 26) hr70 rfl pl2 g71 g72 rfl (fun pp73 => ?_)
    obtain ⟨m74, e75, hD⟩ := wlet_of hD
    refine wm_pfi hr70 rfl rfl pp73 rfl (fun h76 hr77 => ?_)
    rw [← e75] at hr77
    refine wq_aload_n k0 rfl ?_
    refine wq_aload_n k0 rfl ?_
    refine wm_gfa (c := 0) hr77 rfl rfl ?_
    refine wq_iload_n k2 rfl ?_
    obtain ⟨g78, g79, hD⟩ := ck_of hD
    refine wm_ali (f := 27) hr77 rfl pl2 g78 g79 rfl (fun pp80 => ?_)
    obtain ⟨m81, e82, hD⟩ := wlet_of hD
    refine wm_pfi hr77 rfl rfl pp80 rfl (fun h83 hr84 => ?_)
    rw [← e82] at hr84
    refine wq_aload_n k0 rfl ?_
    obtain ⟨m85, q88, hD⟩ := nb_of hD
    refine wm_cvN hr84 (c_take (by omega) hr84 q88) rfl rfl rfl (fun h86 hr87 => ?_)
    cases hD
    exact wq_return rfl ⟨_, rfl, hr87⟩
  · rw [if_pos c28] at hD
    cases hD
    exact wq_return rfl ⟨_, rfl, hr⟩
def m_nameOfType_32 (g : Nat) (l2 : Int) (m : MS) : Option MS := nb (m_fail 1 (m 9 0) m) (fun m23 => m_nameOfType_41 g l2 m23)
theorem c_m_nameOfType_32_b {dd : Nat} (hd : 3 ≤ dd) {g : Nat} {h0 : RHeap} {mF : MS} {la : RLoc} {h : RHeap} {m : MS} {l2 : Int} (k0 : rx_look la 0 = some (.ref 170)) (k2 : rx_look la 2 = some (wvi l2)) (hr : RM h0 h m) (pl2 : InI l2) (hD : m_nameOfType_32 g l2 m = some mF) : Wq O F (Cd O F rp_P dd) (3, 0, rw_X12_nameOfType, []) (rx_at rw_X12_nameOfType 32) la [] h (QN h0 mF) := by
  unfold m_nameOfType_32 at hD
  refine wq_aload_n k0 rfl ?_
  refine wq_iconst rfl ?_
  refine wq_aload_n k0 rfl ?_
  refine wm_gfi hr rfl rfl (fun pp22 => ?_)
  obtain ⟨m23, q26, hD⟩ := nb_of hD
  refine wm_cvN hr (c_fail (by omega) hr ⟨by decide, by decide⟩ pp22 q26) rfl rfl rfl (fun h24 hr25 => ?_)
  exact c_m_nameOfType_41_b hd k0 k2 hr25 pl2 hD
def m_nameOfType (g : Nat) (l1 : Int) (m : MS) : Option MS := vb (m_known g m) (fun v5 m1 => if v5 < 0 then m_nameOfType_41 g v5 m1 else ck v5 140 (if (m1 17 v5) = 1 then ck v5 140 (if (m1 24 v5) = 0 then m_nameOfType_41 g v5 m1 else if l1 = 0 then m_nameOfType_32 g v5 m1 else m_nameOfType_41 g v5 m1) else m_nameOfType_32 g v5 m1))
theorem c_m_nameOfType_b {dd : Nat} (hd : 3 ≤ dd) {g : Nat} {h0 : RHeap} {mF : MS} {la : RLoc} {h : RHeap} {m : MS} {l1 : Int} (k0 : rx_look la 0 = some (.ref 170)) (k1 : rx_look la 1 = some (wvi l1)) (hr : RM h0 h m) (pl1 : (l1 = 0 ∨ l1 = 1)) (hD : m_nameOfType g l1 m = some mF) : Wq O F (Cd O F rp_P dd) (3, 0, rw_X12_nameOfType, []) (rx_at rw_X12_nameOfType 0) la [] h (QN h0 mF) := by
  unfold m_nameOfType at hD
  refine wq_aload_n k0 rfl ?_
  obtain ⟨v5, m1, q4, hD⟩ := vb_of hD
  refine wm_cvI hr (c_known (by omega) hr q4) rfl rfl rfl (fun h2 hr3 pp6 => ?_)
  refine wl_istore_n rfl rfl (fun la7 kk8 t9 => ?_)
  have kk10 := t9 0 _ (by decide) (Or.inr rfl) k0
  have kk11 := t9 1 _ (by decide) (Or.inr rfl) k1
  refine wq_iload_n kk8 rfl ?_
  refine wq_if_lt pp6 rfl rfl rfl (fun c12 => ?_) (fun c12 => ?_)
  · rw [if_pos c12] at hD
    exact c_m_nameOfType_41_b hd kk10 kk8 hr3 pp6 hD
  · rw [if_neg (Int.not_lt.mpr c12)] at hD
    refine wq_aload_n kk10 rfl ?_
    refine wm_gfa (c := 0) hr3 rfl rfl ?_
    refine wq_iload_n kk8 rfl ?_
    obtain ⟨g13, g14, hD⟩ := ck_of hD
    refine wm_ali (f := 17) hr3 rfl pp6 g13 g14 rfl (fun pp15 => ?_)
    refine wq_iconst rfl ?_
    refine wq_icmp_ne pp15 ⟨by decide, by decide⟩ rfl rfl rfl (fun c16 => ?_) (fun c16 => ?_)
    · rw [if_neg c16] at hD
      exact c_m_nameOfType_32_b hd kk10 kk8 hr3 pp6 hD
    · rw [if_pos c16] at hD
      refine wq_aload_n kk10 rfl ?_
      refine wm_gfa (c := 3) hr3 rfl rfl ?_
      refine wq_iload_n kk8 rfl ?_
      obtain ⟨g17, g18, hD⟩ := ck_of hD
      refine wm_alz (f := 24) hr3 rfl pp6 g17 g18 rfl (fun pp19 => ?_)
      refine wq_if_eq (InI_z pp19) rfl rfl rfl (fun c20 => ?_) (fun c20 => ?_)
      · rw [if_pos c20] at hD
        exact c_m_nameOfType_41_b hd kk10 kk8 hr3 pp6 hD
      · rw [if_neg c20] at hD
        refine wq_iload_n kk11 rfl ?_
        refine wq_if_ne (InI_z pl1) rfl rfl rfl (fun c21 => ?_) (fun c21 => ?_)
        · rw [if_neg c21] at hD
          exact c_m_nameOfType_41_b hd kk10 kk8 hr3 pp6 hD
        · rw [if_pos c21] at hD
          exact c_m_nameOfType_32_b hd kk10 kk8 hr3 pp6 hD
theorem c_nameOfType {d : Nat} (hd : 4 ≤ d) {g : Nat} {h0 h : RHeap} {m : MS} {l1 : Int} {mF : MS} (hr : RM h0 h m) (pl1 : (l1 = 0 ∨ l1 = 1)) (hD : m_nameOfType g l1 m = some mF) : Cq (Cd O F rp_P d) 249 [.ref 170, wvi l1] h (QN h0 mF) := by
  refine cq_of (I := (3, 0, rw_X12_nameOfType, [])) rfl rfl (by omega) ?_
  exact c_m_nameOfType_b (by omega) rfl rfl hr pl1 hD
def m_seat_60 (s1 : Int) (s2 : Int) (s3 : Int) (m : MS) : Option MS := ck s1 8 (wlet (mset m 43 s1 (i32 (s2 + s3))) (fun m28 => some m28))
theorem c_m_seat_60_b {dd : Nat} (hd : 0 ≤ dd) {h0 : RHeap} {mF : MS} {la : RLoc} {h : RHeap} {m : MS} {s1 s2 s3 : Int} (hr : RM h0 h m) (ps1 : InI s1) (ps2 : InI s2) (ps3 : InI s3) (hD : m_seat_60 s1 s2 s3 m = some mF) : Wq O F (Cd O F rp_P dd) (2, 0, rw_X12_seat, []) (rx_at rw_X12_seat 60) la [wvi s3, wvi s2, wvi s1, .ref 191] h (QN h0 mF) := by
  unfold m_seat_60 at hD
  refine wq_iadd rfl ?_
  obtain ⟨g26, g27, hD⟩ := ck_of hD
  obtain ⟨m28, e29, hD⟩ := wlet_of hD
  refine wm_asi (f := 43) hr rfl ps1 g26 g27 (InI_i32 _) rfl (fun h30 hr31 => ?_)
  rw [← e29] at hr31
  cases hD
  exact wq_return rfl ⟨_, rfl, hr31⟩
def m_seat (l1 : Int) (m : MS) : Option MS := ck (m 41 0) 8 (ck l1 140 (wlet (mset m 28 l1 (m 43 (m 41 0))) (fun m7 => ck (m7 41 0) 8 (ck l1 140 (if (m7 24 l1) = 0 then m_seat_60 (m7 41 0) (m7 43 (m7 41 0)) 1 m7 else ck l1 140 (ck l1 140 (m_seat_60 (m7 41 0) (m7 43 (m7 41 0)) (i32 ((i32 ((m7 27 l1) - (m7 26 l1))) + 1)) m7)))))))
theorem c_m_seat_b {dd : Nat} (hd : 0 ≤ dd) {h0 : RHeap} {mF : MS} {la : RLoc} {h : RHeap} {m : MS} {l1 : Int} (k0 : rx_look la 0 = some (.ref 170)) (k1 : rx_look la 1 = some (wvi l1)) (hr : RM h0 h m) (pl1 : InI l1) (hD : m_seat l1 m = some mF) : Wq O F (Cd O F rp_P dd) (2, 0, rw_X12_seat, []) (rx_at rw_X12_seat 0) la [] h (QN h0 mF) := by
  unfold m_seat at hD
  refine wq_aload_n k0 rfl ?_
  refine wm_gfa (c := 0) hr rfl rfl ?_
  refine wq_iload_n k1 rfl ?_
  refine wq_aload_n k0 rfl ?_
  refine wm_gfa (c := 0) hr rfl rfl ?_
  refine wq_aload_n k0 rfl ?_
  refine wm_gfi hr rfl rfl (fun pp1 => ?_)
  obtain ⟨g2, g3, hD⟩ := ck_of hD
  refine wm_ali (f := 43) hr rfl pp1 g2 g3 rfl (fun pp4 => ?_)
  obtain ⟨g5, g6, hD⟩ := ck_of hD
  obtain ⟨m7, e8, hD⟩ := wlet_of hD
  refine wm_asi (f := 28) hr rfl pl1 g5 g6 pp4 rfl (fun h9 hr10 => ?_)
  rw [← e8] at hr10
  refine wq_aload_n k0 rfl ?_
  refine wm_gfa (c := 0) hr10 rfl rfl ?_
  refine wq_aload_n k0 rfl ?_
  refine wm_gfi hr10 rfl rfl (fun pp11 => ?_)
  refine wq_aload_n k0 rfl ?_
  refine wm_gfa (c := 0) hr10 rfl rfl ?_
  refine wq_aload_n k0 rfl ?_
  refine wm_gfi hr10 rfl rfl (fun pp12 => ?_)
  obtain ⟨g13, g14, hD⟩ := ck_of hD
  refine wm_ali (f := 43) hr10 rfl pp12 g13 g14 rfl (fun pp15 => ?_)
  refine wq_aload_n k0 rfl ?_
  refine wm_gfa (c := 3) hr10 rfl rfl ?_
  refine wq_iload_n k1 rfl ?_
  obtain ⟨g16, g17, hD⟩ := ck_of hD
  refine wm_alz (f := 24) hr10 rfl pl1 g16 g17 rfl (fun pp18 => ?_)
  refine wq_if_eq (InI_z pp18) rfl rfl rfl (fun c19 => ?_) (fun c19 => ?_)
  · rw [if_pos c19] at hD
    refine wq_iconst rfl ?_
    exact c_m_seat_60_b hd hr10 pp11 pp15 ⟨by decide, by decide⟩ hD
  · rw [if_neg c19] at hD
    refine wq_aload_n k0 rfl ?_
    refine wm_gfa (c := 0) hr10 rfl rfl ?_
    refine wq_iload_n k1 rfl ?_
    obtain ⟨g20, g21, hD⟩ := ck_of hD
    refine wm_ali (f := 27) hr10 rfl pl1 g20 g21 rfl (fun pp22 => ?_)
    refine wq_aload_n k0 rfl ?_
    refine wm_gfa (c := 0) hr10 rfl rfl ?_
    refine wq_iload_n k1 rfl ?_
    obtain ⟨g23, g24, hD⟩ := ck_of hD
    refine wm_ali (f := 26) hr10 rfl pl1 g23 g24 rfl (fun pp25 => ?_)
    refine wq_isub rfl ?_
    refine wq_iconst rfl ?_
    refine wq_iadd rfl ?_
    refine wq_goto rfl rfl ?_
    exact c_m_seat_60_b hd hr10 pp11 pp15 (InI_i32 _) hD
theorem c_seat {d : Nat} (hd : 1 ≤ d) {h0 h : RHeap} {m : MS} {l1 : Int} {mF : MS} (hr : RM h0 h m) (pl1 : InI l1) (hD : m_seat l1 m = some mF) : Cq (Cd O F rp_P d) 273 [.ref 170, wvi l1] h (QN h0 mF) := by
  refine cq_of (I := (2, 0, rw_X12_seat, [])) rfl rfl (by omega) ?_
  exact c_m_seat_b (by omega) rfl rfl hr pl1 hD
def m_want_31 (g : Nat) (m : MS) : Option MS := some m
theorem c_m_want_31_b {dd : Nat} (hd : 3 ≤ dd) {g : Nat} {h0 : RHeap} {mF : MS} {la : RLoc} {h : RHeap} {m : MS} (hr : RM h0 h m) (hD : m_want_31 g m = some mF) : Wq O F (Cd O F rp_P dd) (2, 0, rw_X12_want, []) (rx_at rw_X12_want 31) la [] h (QN h0 mF) := by
  unfold m_want_31 at hD
  cases hD
  exact wq_return rfl ⟨_, rfl, hr⟩
def m_want (g : Nat) (l1 : Int) (m : MS) : Option MS := if (m 6 0) = 0 then if (m 10 0) = l1 then nb (m_take g m) (fun m10 => m_want_31 g m10) else nb (m_fail 1 (m 9 0) m) (fun m6 => m_want_31 g m6) else m_want_31 g m
theorem c_m_want_b {dd : Nat} (hd : 3 ≤ dd) {g : Nat} {h0 : RHeap} {mF : MS} {la : RLoc} {h : RHeap} {m : MS} {l1 : Int} (k0 : rx_look la 0 = some (.ref 170)) (k1 : rx_look la 1 = some (wvi l1)) (hr : RM h0 h m) (pl1 : InI l1) (hD : m_want g l1 m = some mF) : Wq O F (Cd O F rp_P dd) (2, 0, rw_X12_want, []) (rx_at rw_X12_want 0) la [] h (QN h0 mF) := by
  unfold m_want at hD
  refine wq_aload_n k0 rfl ?_
  refine wm_gfi hr rfl rfl (fun pp1 => ?_)
  refine wq_if_ne pp1 rfl rfl rfl (fun c2 => ?_) (fun c2 => ?_)
  · rw [if_neg c2] at hD
    exact c_m_want_31_b hd hr hD
  · rw [if_pos c2] at hD
    refine wq_aload_n k0 rfl ?_
    refine wm_gfi hr rfl rfl (fun pp3 => ?_)
    refine wq_iload_n k1 rfl ?_
    refine wq_icmp_ne pp3 pl1 rfl rfl rfl (fun c4 => ?_) (fun c4 => ?_)
    · rw [if_neg c4] at hD
      refine wq_aload_n k0 rfl ?_
      refine wq_iconst rfl ?_
      refine wq_aload_n k0 rfl ?_
      refine wm_gfi hr rfl rfl (fun pp5 => ?_)
      obtain ⟨m6, q9, hD⟩ := nb_of hD
      refine wm_cvN hr (c_fail (by omega) hr ⟨by decide, by decide⟩ pp5 q9) rfl rfl rfl (fun h7 hr8 => ?_)
      exact c_m_want_31_b hd hr8 hD
    · rw [if_pos c4] at hD
      refine wq_aload_n k0 rfl ?_
      obtain ⟨m10, q13, hD⟩ := nb_of hD
      refine wm_cvN hr (c_take (by omega) hr q13) rfl rfl rfl (fun h11 hr12 => ?_)
      refine wq_goto rfl rfl ?_
      exact c_m_want_31_b hd hr12 hD
theorem c_want {d : Nat} (hd : 4 ≤ d) {g : Nat} {h0 h : RHeap} {m : MS} {l1 : Int} {mF : MS} (hr : RM h0 h m) (pl1 : InI l1) (hD : m_want g l1 m = some mF) : Cq (Cd O F rp_P d) 295 [.ref 170, wvi l1] h (QN h0 mF) := by
  refine cq_of (I := (2, 0, rw_X12_want, [])) rfl rfl (by omega) ?_
  exact c_m_want_b (by omega) rfl rfl hr pl1 hD
end Dec
