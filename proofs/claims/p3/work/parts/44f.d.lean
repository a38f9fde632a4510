section Dec
variable {O : ROld} {F : RFacts}
def m_work_283 (g : Nat) (m : MS) : Option MS := some m
theorem c_m_work_283_b {dd : Nat} (hd : 10 ≤ dd) {g : Nat} {h0 : RHeap} {mF : MS} {la : RLoc} {h : RHeap} {m : MS} (hr : RM h0 h m) (hD : m_work_283 g m = some mF) : Wq O F (Cd O F rp_P dd) (2, 0, rw_X12_work, []) (rx_at rw_X12_work 283) la [] h (QN h0 mF) := by
  unfold m_work_283 at hD
  cases hD
  exact wq_return rfl ⟨_, rfl, hr⟩
def m_work_210 (g : Nat) (l1 : Int) (m : MS) : Option MS := nb (m_afterCase g l1 m) (fun m71 => m_work_283 g m71)
theorem c_m_work_210_b {dd : Nat} (hd : 10 ≤ dd) {g : Nat} {h0 : RHeap} {mF : MS} {la : RLoc} {h : RHeap} {m : MS} {l1 : Int} (k0 : rx_look la 0 = some (.ref 170)) (k1 : rx_look la 1 = some (wvi l1)) (hr : RM h0 h m) (pl1 : InI l1) (hD : m_work_210 g l1 m = some mF) : Wq O F (Cd O F rp_P dd) (2, 0, rw_X12_work, []) (rx_at rw_X12_work 210) la [] h (QN h0 mF) := by
  unfold m_work_210 at hD
  refine wq_aload_n k0 rfl ?_
  refine wq_iload_n k1 rfl ?_
  obtain ⟨m71, q74, hD⟩ := nb_of hD
  refine wm_cvN hr (c_afterCase (by omega) hr pl1 q74) rfl rfl rfl (fun h72 hr73 => ?_)
  refine wq_goto rfl rfl ?_
  exact c_m_work_283_b hd hr73 hD
def m_work_230 (g : Nat) (l1 : Int) (m : MS) : Option MS := nb (m_reading g l1 m) (fun m75 => m_work_283 g m75)
theorem c_m_work_230_b {dd : Nat} (hd : 10 ≤ dd) {g : Nat} {h0 : RHeap} {mF : MS} {la : RLoc} {h : RHeap} {m : MS} {l1 : Int} (k0 : rx_look la 0 = some (.ref 170)) (k1 : rx_look la 1 = some (wvi l1)) (hr : RM h0 h m) (pl1 : InI l1) (hD : m_work_230 g l1 m = some mF) : Wq O F (Cd O F rp_P dd) (2, 0, rw_X12_work, []) (rx_at rw_X12_work 230) la [] h (QN h0 mF) := by
  unfold m_work_230 at hD
  refine wq_aload_n k0 rfl ?_
  refine wq_iload_n k1 rfl ?_
  obtain ⟨m75, q78, hD⟩ := nb_of hD
  refine wm_cvN hr (c_reading (by omega) hr pl1 q78) rfl rfl rfl (fun h76 hr77 => ?_)
  refine wq_goto rfl rfl ?_
  exact c_m_work_283_b hd hr77 hD
def m_work_270 (g : Nat) (l1 : Int) (m : MS) : Option MS := nb (m_assign g l1 m) (fun m85 => m_work_283 g m85)
theorem c_m_work_270_b {dd : Nat} (hd : 10 ≤ dd) {g : Nat} {h0 : RHeap} {mF : MS} {la : RLoc} {h : RHeap} {m : MS} {l1 : Int} (k0 : rx_look la 0 = some (.ref 170)) (k1 : rx_look la 1 = some (wvi l1)) (hr : RM h0 h m) (pl1 : InI l1) (hD : m_work_270 g l1 m = some mF) : Wq O F (Cd O F rp_P dd) (2, 0, rw_X12_work, []) (rx_at rw_X12_work 270) la [] h (QN h0 mF) := by
  unfold m_work_270 at hD
  refine wq_aload_n k0 rfl ?_
  refine wq_iload_n k1 rfl ?_
  obtain ⟨m85, q88, hD⟩ := nb_of hD
  refine wm_cvN hr (c_assign (by omega) hr pl1 q88) rfl rfl rfl (fun h86 hr87 => ?_)
  refine wq_goto rfl rfl ?_
  exact c_m_work_283_b hd hr87 hD
def m_work_258 (g : Nat) (l1 : Int) (m : MS) : Option MS := if l1 = 8 then m_work_270 g l1 m else if l1 = 9 then m_work_270 g l1 m else nb (m_workOfBlocks g l1 m) (fun m81 => m_work_283 g m81)
theorem c_m_work_258_b {dd : Nat} (hd : 10 ≤ dd) {g : Nat} {h0 : RHeap} {mF : MS} {la : RLoc} {h : RHeap} {m : MS} {l1 : Int} (k0 : rx_look la 0 = some (.ref 170)) (k1 : rx_look la 1 = some (wvi l1)) (hr : RM h0 h m) (pl1 : InI l1) (hD : m_work_258 g l1 m = some mF) : Wq O F (Cd O F rp_P dd) (2, 0, rw_X12_work, []) (rx_at rw_X12_work 258) la [] h (QN h0 mF) := by
  unfold m_work_258 at hD
  refine wq_iload_n k1 rfl ?_
  refine wq_bipush (by decide) rfl ?_
  refine wq_icmp_eq pl1 ⟨by decide, by decide⟩ rfl rfl rfl (fun c79 => ?_) (fun c79 => ?_)
  · rw [if_pos c79] at hD
    exact c_m_work_270_b hd k0 k1 hr pl1 hD
  · rw [if_neg c79] at hD
    refine wq_iload_n k1 rfl ?_
    refine wq_bipush (by decide) rfl ?_
    refine wq_icmp_ne pl1 ⟨by decide, by decide⟩ rfl rfl rfl (fun c80 => ?_) (fun c80 => ?_)
    · rw [if_neg c80] at hD
      refine wq_aload_n k0 rfl ?_
      refine wq_iload_n k1 rfl ?_
      obtain ⟨m81, q84, hD⟩ := nb_of hD
      refine wm_cvN hr (c_workOfBlocks (by omega) hr pl1 q84) rfl rfl rfl (fun h82 hr83 => ?_)
      exact c_m_work_283_b hd hr83 hD
    · rw [if_pos c80] at hD
      exact c_m_work_270_b hd k0 k1 hr pl1 hD
def m_work_179 (g : Nat) (l1 : Int) (m : MS) : Option MS := if l1 = 22 then nb (m_choice g m) (fun m67 => m_work_283 g m67) else if l1 = 21 then m_work_210 g l1 m else if l1 = 23 then m_work_210 g l1 m else if l1 = 24 then m_work_210 g l1 m else if l1 = 25 then m_work_230 g l1 m else if l1 = 26 then m_work_230 g l1 m else if l1 < 27 then m_work_258 g l1 m else if 29 < l1 then m_work_258 g l1 m else nb (m_writing g l1 m) (fun m63 => m_work_283 g m63)
theorem c_m_work_179_b {dd : Nat} (hd : 10 ≤ dd) {g : Nat} {h0 : RHeap} {mF : MS} {la : RLoc} {h : RHeap} {m : MS} {l1 : Int} (k0 : rx_look la 0 = some (.ref 170)) (k1 : rx_look la 1 = some (wvi l1)) (hr : RM h0 h m) (pl1 : InI l1) (hD : m_work_179 g l1 m = some mF) : Wq O F (Cd O F rp_P dd) (2, 0, rw_X12_work, []) (rx_at rw_X12_work 179) la [] h (QN h0 mF) := by
  unfold m_work_179 at hD
  refine wq_iload_n k1 rfl ?_
  refine wq_bipush (by decide) rfl ?_
  refine wq_icmp_ne pl1 ⟨by decide, by decide⟩ rfl rfl rfl (fun c55 => ?_) (fun c55 => ?_)
  · rw [if_neg c55] at hD
    refine wq_iload_n k1 rfl ?_
    refine wq_bipush (by decide) rfl ?_
    refine wq_icmp_eq pl1 ⟨by decide, by decide⟩ rfl rfl rfl (fun c56 => ?_) (fun c56 => ?_)
    · rw [if_pos c56] at hD
      exact c_m_work_210_b hd k0 k1 hr pl1 hD
    · rw [if_neg c56] at hD
      refine wq_iload_n k1 rfl ?_
      refine wq_bipush (by decide) rfl ?_
      refine wq_icmp_eq pl1 ⟨by decide, by decide⟩ rfl rfl rfl (fun c57 => ?_) (fun c57 => ?_)
      · rw [if_pos c57] at hD
        exact c_m_work_210_b hd k0 k1 hr pl1 hD
      · rw [if_neg c57] at hD
        refine wq_iload_n k1 rfl ?_
        refine wq_bipush (by decide) rfl ?_
        refine wq_icmp_ne pl1 ⟨by decide, by decide⟩ rfl rfl rfl (fun c58 => ?_) (fun c58 => ?_)
        · rw [if_neg c58] at hD
          refine wq_iload_n k1 rfl ?_
          refine wq_bipush (by decide) rfl ?_
          refine wq_icmp_eq pl1 ⟨by decide, by decide⟩ rfl rfl rfl (fun c59 => ?_) (fun c59 => ?_)
          · rw [if_pos c59] at hD
            exact c_m_work_230_b hd k0 k1 hr pl1 hD
          · rw [if_neg c59] at hD
            refine wq_iload_n k1 rfl ?_
            refine wq_bipush (by decide) rfl ?_
            refine wq_icmp_ne pl1 ⟨by decide, by decide⟩ rfl rfl rfl (fun c60 => ?_) (fun c60 => ?_)
            · rw [if_neg c60] at hD
              refine wq_iload_n k1 rfl ?_
              refine wq_bipush (by decide) rfl ?_
              refine wq_icmp_lt pl1 ⟨by decide, by decide⟩ rfl rfl rfl (fun c61 => ?_) (fun c61 => ?_)
              · rw [if_pos c61] at hD
                exact c_m_work_258_b hd k0 k1 hr pl1 hD
              · rw [if_neg (Int.not_lt.mpr c61)] at hD
                refine wq_iload_n k1 rfl ?_
                refine wq_bipush (by decide) rfl ?_
                refine wq_icmp_gt pl1 ⟨by decide, by decide⟩ rfl rfl rfl (fun c62 => ?_) (fun c62 => ?_)
                · rw [if_pos c62] at hD
                  exact c_m_work_258_b hd k0 k1 hr pl1 hD
                · rw [if_neg (Int.not_lt.mpr c62)] at hD
                  refine wq_aload_n k0 rfl ?_
                  refine wq_iload_n k1 rfl ?_
                  obtain ⟨m63, q66, hD⟩ := nb_of hD
                  refine wm_cvN hr (c_writing (by omega) hr pl1 q66) rfl rfl rfl (fun h64 hr65 => ?_)
                  refine wq_goto rfl rfl ?_
                  exact c_m_work_283_b hd hr65 hD
            · rw [if_pos c60] at hD
              exact c_m_work_230_b hd k0 k1 hr pl1 hD
        · rw [if_pos c58] at hD
          exact c_m_work_210_b hd k0 k1 hr pl1 hD
  · rw [if_pos c55] at hD
    refine wq_aload_n k0 rfl ?_
    obtain ⟨m67, q70, hD⟩ := nb_of hD
    refine wm_cvN hr (c_choice (by omega) hr q70) rfl rfl rfl (fun h68 hr69 => ?_)
    refine wq_goto rfl rfl ?_
    exact c_m_work_283_b hd hr69 hD
def m_work_159 (g : Nat) (l1 : Int) (m : MS) : Option MS := if l1 < 18 then m_work_179 g l1 m else if 20 < l1 then m_work_179 g l1 m else nb (m_afterFor g l1 m) (fun m51 => m_work_283 g m51)
theorem c_m_work_159_b {dd : Nat} (hd : 10 ≤ dd) {g : Nat} {h0 : RHeap} {mF : MS} {la : RLoc} {h : RHeap} {m : MS} {l1 : Int} (k0 : rx_look la 0 = some (.ref 170)) (k1 : rx_look la 1 = some (wvi l1)) (hr : RM h0 h m) (pl1 : InI l1) (hD : m_work_159 g l1 m = some mF) : Wq O F (Cd O F rp_P dd) (2, 0, rw_X12_work, []) (rx_at rw_X12_work 159) la [] h (QN h0 mF) := by
  unfold m_work_159 at hD
  refine wq_iload_n k1 rfl ?_
  refine wq_bipush (by decide) rfl ?_
  refine wq_icmp_lt pl1 ⟨by decide, by decide⟩ rfl rfl rfl (fun c49 => ?_) (fun c49 => ?_)
  · rw [if_pos c49] at hD
    exact c_m_work_179_b hd k0 k1 hr pl1 hD
  · rw [if_neg (Int.not_lt.mpr c49)] at hD
    refine wq_iload_n k1 rfl ?_
    refine wq_bipush (by decide) rfl ?_
    refine wq_icmp_gt pl1 ⟨by decide, by decide⟩ rfl rfl rfl (fun c50 => ?_) (fun c50 => ?_)
    · rw [if_pos c50] at hD
      exact c_m_work_179_b hd k0 k1 hr pl1 hD
    · rw [if_neg (Int.not_lt.mpr c50)] at hD
      refine wq_aload_n k0 rfl ?_
      refine wq_iload_n k1 rfl ?_
      obtain ⟨m51, q54, hD⟩ := nb_of hD
      refine wm_cvN hr (c_afterFor (by omega) hr pl1 q54) rfl rfl rfl (fun h52 hr53 => ?_)
      refine wq_goto rfl rfl ?_
      exact c_m_work_283_b hd hr53 hD
def m_work_139 (g : Nat) (l1 : Int) (m : MS) : Option MS := if l1 < 14 then m_work_159 g l1 m else if 17 < l1 then m_work_159 g l1 m else nb (m_afterLoop g l1 m) (fun m45 => m_work_283 g m45)
theorem c_m_work_139_b {dd : Nat} (hd : 10 ≤ dd) {g : Nat} {h0 : RHeap} {mF : MS} {la : RLoc} {h : RHeap} {m : MS} {l1 : Int} (k0 : rx_look la 0 = some (.ref 170)) (k1 : rx_look la 1 = some (wvi l1)) (hr : RM h0 h m) (pl1 : InI l1) (hD : m_work_139 g l1 m = some mF) : Wq O F (Cd O F rp_P dd) (2, 0, rw_X12_work, []) (rx_at rw_X12_work 139) la [] h (QN h0 mF) := by
  unfold m_work_139 at hD
  refine wq_iload_n k1 rfl ?_
  refine wq_bipush (by decide) rfl ?_
  refine wq_icmp_lt pl1 ⟨by decide, by decide⟩ rfl rfl rfl (fun c43 => ?_) (fun c43 => ?_)
  · rw [if_pos c43] at hD
    exact c_m_work_159_b hd k0 k1 hr pl1 hD
  · rw [if_neg (Int.not_lt.mpr c43)] at hD
    refine wq_iload_n k1 rfl ?_
    refine wq_bipush (by decide) rfl ?_
    refine wq_icmp_gt pl1 ⟨by decide, by decide⟩ rfl rfl rfl (fun c44 => ?_) (fun c44 => ?_)
    · rw [if_pos c44] at hD
      exact c_m_work_159_b hd k0 k1 hr pl1 hD
    · rw [if_neg (Int.not_lt.mpr c44)] at hD
      refine wq_aload_n k0 rfl ?_
      refine wq_iload_n k1 rfl ?_
      obtain ⟨m45, q48, hD⟩ := nb_of hD
      refine wm_cvN hr (c_afterLoop (by omega) hr pl1 q48) rfl rfl rfl (fun h46 hr47 => ?_)
      refine wq_goto rfl rfl ?_
      exact c_m_work_283_b hd hr47 hD
def m_work_119 (g : Nat) (l1 : Int) (m : MS) : Option MS := if l1 < 11 then m_work_139 g l1 m else if 13 < l1 then m_work_139 g l1 m else nb (m_afterIf g l1 m) (fun m39 => m_work_283 g m39)
theorem c_m_work_119_b {dd : Nat} (hd : 10 ≤ dd) {g : Nat} {h0 : RHeap} {mF : MS} {la : RLoc} {h : RHeap} {m : MS} {l1 : Int} (k0 : rx_look la 0 = some (.ref 170)) (k1 : rx_look la 1 = some (wvi l1)) (hr : RM h0 h m) (pl1 : InI l1) (hD : m_work_119 g l1 m = some mF) : Wq O F (Cd O F rp_P dd) (2, 0, rw_X12_work, []) (rx_at rw_X12_work 119) la [] h (QN h0 mF) := by
  unfold m_work_119 at hD
  refine wq_iload_n k1 rfl ?_
  refine wq_bipush (by decide) rfl ?_
  refine wq_icmp_lt pl1 ⟨by decide, by decide⟩ rfl rfl rfl (fun c37 => ?_) (fun c37 => ?_)
  · rw [if_pos c37] at hD
    exact c_m_work_139_b hd k0 k1 hr pl1 hD
  · rw [if_neg (Int.not_lt.mpr c37)] at hD
    refine wq_iload_n k1 rfl ?_
    refine wq_bipush (by decide) rfl ?_
    refine wq_icmp_gt pl1 ⟨by decide, by decide⟩ rfl rfl rfl (fun c38 => ?_) (fun c38 => ?_)
    · rw [if_pos c38] at hD
      exact c_m_work_139_b hd k0 k1 hr pl1 hD
    · rw [if_neg (Int.not_lt.mpr c38)] at hD
      refine wq_aload_n k0 rfl ?_
      refine wq_iload_n k1 rfl ?_
      obtain ⟨m39, q42, hD⟩ := nb_of hD
      refine wm_cvN hr (c_afterIf (by omega) hr pl1 q42) rfl rfl rfl (fun h40 hr41 => ?_)
      refine wq_goto rfl rfl ?_
      exact c_m_work_283_b hd hr41 hD
def m_work_91 (g : Nat) (l1 : Int) (m : MS) : Option MS := nb (m_afterFactor g l1 m) (fun m33 => m_work_283 g m33)
theorem c_m_work_91_b {dd : Nat} (hd : 10 ≤ dd) {g : Nat} {h0 : RHeap} {mF : MS} {la : RLoc} {h : RHeap} {m : MS} {l1 : Int} (k0 : rx_look la 0 = some (.ref 170)) (k1 : rx_look la 1 = some (wvi l1)) (hr : RM h0 h m) (pl1 : InI l1) (hD : m_work_91 g l1 m = some mF) : Wq O F (Cd O F rp_P dd) (2, 0, rw_X12_work, []) (rx_at rw_X12_work 91) la [] h (QN h0 mF) := by
  unfold m_work_91 at hD
  refine wq_aload_n k0 rfl ?_
  refine wq_iload_n k1 rfl ?_
  obtain ⟨m33, q36, hD⟩ := nb_of hD
  refine wm_cvN hr (c_afterFactor (by omega) hr pl1 q36) rfl rfl rfl (fun h34 hr35 => ?_)
  refine wq_goto rfl rfl ?_
  exact c_m_work_283_b hd hr35 hD
def m_work_85 (g : Nat) (l1 : Int) (m : MS) : Option MS := if l1 = 51 then m_work_91 g l1 m else if l1 < 48 then m_work_119 g l1 m else if 50 < l1 then m_work_119 g l1 m else nb (m_argument g l1 m) (fun m29 => m_work_283 g m29)
theorem c_m_work_85_b {dd : Nat} (hd : 10 ≤ dd) {g : Nat} {h0 : RHeap} {mF : MS} {la : RLoc} {h : RHeap} {m : MS} {l1 : Int} (k0 : rx_look la 0 = some (.ref 170)) (k1 : rx_look la 1 = some (wvi l1)) (hr : RM h0 h m) (pl1 : InI l1) (hD : m_work_85 g l1 m = some mF) : Wq O F (Cd O F rp_P dd) (2, 0, rw_X12_work, []) (rx_at rw_X12_work 85) la [] h (QN h0 mF) := by
  unfold m_work_85 at hD
  refine wq_iload_n k1 rfl ?_
  refine wq_bipush (by decide) rfl ?_
  refine wq_icmp_ne pl1 ⟨by decide, by decide⟩ rfl rfl rfl (fun c26 => ?_) (fun c26 => ?_)
  · rw [if_neg c26] at hD
    refine wq_iload_n k1 rfl ?_
    refine wq_bipush (by decide) rfl ?_
    refine wq_icmp_lt pl1 ⟨by decide, by decide⟩ rfl rfl rfl (fun c27 => ?_) (fun c27 => ?_)
    · rw [if_pos c27] at hD
      exact c_m_work_119_b hd k0 k1 hr pl1 hD
    · rw [if_neg (Int.not_lt.mpr c27)] at hD
      refine wq_iload_n k1 rfl ?_
      refine wq_bipush (by decide) rfl ?_
      refine wq_icmp_gt pl1 ⟨by decide, by decide⟩ rfl rfl rfl (fun c28 => ?_) (fun c28 => ?_)
      · rw [if_pos c28] at hD
        exact c_m_work_119_b hd k0 k1 hr pl1 hD
      · rw [if_neg (Int.not_lt.mpr c28)] at hD
        refine wq_aload_n k0 rfl ?_
        refine wq_iload_n k1 rfl ?_
        obtain ⟨m29, q32, hD⟩ := nb_of hD
        refine wm_cvN hr (c_argument (by omega) hr pl1 q32) rfl rfl rfl (fun h30 hr31 => ?_)
        refine wq_goto rfl rfl ?_
        exact c_m_work_283_b hd hr31 hD
  · rw [if_pos c26] at hD
    exact c_m_work_91_b hd k0 k1 hr pl1 hD
def m_work_60 (g : Nat) (l1 : Int) (m : MS) : Option MS := if l1 = 40 then nb (m_factor g m) (fun m22 => m_work_283 g m22) else if l1 < 41 then m_work_85 g l1 m else if 47 < l1 then m_work_85 g l1 m else m_work_91 g l1 m
theorem c_m_work_60_b {dd : Nat} (hd : 10 ≤ dd) {g : Nat} {h0 : RHeap} {mF : MS} {la : RLoc} {h : RHeap} {m : MS} {l1 : Int} (k0 : rx_look la 0 = some (.ref 170)) (k1 : rx_look la 1 = some (wvi l1)) (hr : RM h0 h m) (pl1 : InI l1) (hD : m_work_60 g l1 m = some mF) : Wq O F (Cd O F rp_P dd) (2, 0, rw_X12_work, []) (rx_at rw_X12_work 60) la [] h (QN h0 mF) := by
  unfold m_work_60 at hD
  refine wq_iload_n k1 rfl ?_
  refine wq_bipush (by decide) rfl ?_
  refine wq_icmp_ne pl1 ⟨by decide, by decide⟩ rfl rfl rfl (fun c19 => ?_) (fun c19 => ?_)
  · rw [if_neg c19] at hD
    refine wq_iload_n k1 rfl ?_
    refine wq_bipush (by decide) rfl ?_
    refine wq_icmp_lt pl1 ⟨by decide, by decide⟩ rfl rfl rfl (fun c20 => ?_) (fun c20 => ?_)
    · rw [if_pos c20] at hD
      exact c_m_work_85_b hd k0 k1 hr pl1 hD
    · rw [if_neg (Int.not_lt.mpr c20)] at hD
      refine wq_iload_n k1 rfl ?_
      refine wq_bipush (by decide) rfl ?_
      refine wq_icmp_le pl1 ⟨by decide, by decide⟩ rfl rfl rfl (fun c21 => ?_) (fun c21 => ?_)
      · rw [if_neg (Int.not_lt.mpr c21)] at hD
        exact c_m_work_91_b hd k0 k1 hr pl1 hD
      · rw [if_pos c21] at hD
        exact c_m_work_85_b hd k0 k1 hr pl1 hD
  · rw [if_pos c19] at hD
    refine wq_aload_n k0 rfl ?_
    obtain ⟨m22, q25, hD⟩ := nb_of hD
    refine wm_cvN hr (c_factor (by omega) hr q25) rfl rfl rfl (fun h23 hr24 => ?_)
    refine wq_goto rfl rfl ?_
    exact c_m_work_283_b hd hr24 hD
def m_work_40 (g : Nat) (l1 : Int) (m : MS) : Option MS := if l1 < 37 then m_work_60 g l1 m else if 39 < l1 then m_work_60 g l1 m else nb (m_product g l1 m) (fun m15 => m_work_283 g m15)
theorem c_m_work_40_b {dd : Nat} (hd : 10 ≤ dd) {g : Nat} {h0 : RHeap} {mF : MS} {la : RLoc} {h : RHeap} {m : MS} {l1 : Int} (k0 : rx_look la 0 = some (.ref 170)) (k1 : rx_look la 1 = some (wvi l1)) (hr : RM h0 h m) (pl1 : InI l1) (hD : m_work_40 g l1 m = some mF) : Wq O F (Cd O F rp_P dd) (2, 0, rw_X12_work, []) (rx_at rw_X12_work 40) la [] h (QN h0 mF) := by
  unfold m_work_40 at hD
  refine wq_iload_n k1 rfl ?_
  refine wq_bipush (by decide) rfl ?_
  refine wq_icmp_lt pl1 ⟨by decide, by decide⟩ rfl rfl rfl (fun c13 => ?_) (fun c13 => ?_)
  · rw [if_pos c13] at hD
    exact c_m_work_60_b hd k0 k1 hr pl1 hD
  · rw [if_neg (Int.not_lt.mpr c13)] at hD
    refine wq_iload_n k1 rfl ?_
    refine wq_bipush (by decide) rfl ?_
    refine wq_icmp_gt pl1 ⟨by decide, by decide⟩ rfl rfl rfl (fun c14 => ?_) (fun c14 => ?_)
    · rw [if_pos c14] at hD
      exact c_m_work_60_b hd k0 k1 hr pl1 hD
    · rw [if_neg (Int.not_lt.mpr c14)] at hD
      refine wq_aload_n k0 rfl ?_
      refine wq_iload_n k1 rfl ?_
      obtain ⟨m15, q18, hD⟩ := nb_of hD
      refine wm_cvN hr (c_product (by omega) hr pl1 q18) rfl rfl rfl (fun h16 hr17 => ?_)
      refine wq_goto rfl rfl ?_
      exact c_m_work_283_b hd hr17 hD
def m_work_20 (g : Nat) (l1 : Int) (m : MS) : Option MS := if l1 < 33 then m_work_40 g l1 m else if 36 < l1 then m_work_40 g l1 m else nb (m_sum g l1 m) (fun m9 => m_work_283 g m9)
theorem c_m_work_20_b {dd : Nat} (hd : 10 ≤ dd) {g : Nat} {h0 : RHeap} {mF : MS} {la : RLoc} {h : RHeap} {m : MS} {l1 : Int} (k0 : rx_look la 0 = some (.ref 170)) (k1 : rx_look la 1 = some (wvi l1)) (hr : RM h0 h m) (pl1 : InI l1) (hD : m_work_20 g l1 m = some mF) : Wq O F (Cd O F rp_P dd) (2, 0, rw_X12_work, []) (rx_at rw_X12_work 20) la [] h (QN h0 mF) := by
  unfold m_work_20 at hD
  refine wq_iload_n k1 rfl ?_
  refine wq_bipush (by decide) rfl ?_
  refine wq_icmp_lt pl1 ⟨by decide, by decide⟩ rfl rfl rfl (fun c7 => ?_) (fun c7 => ?_)
  · rw [if_pos c7] at hD
    exact c_m_work_40_b hd k0 k1 hr pl1 hD
  · rw [if_neg (Int.not_lt.mpr c7)] at hD
    refine wq_iload_n k1 rfl ?_
    refine wq_bipush (by decide) rfl ?_
    refine wq_icmp_gt pl1 ⟨by decide, by decide⟩ rfl rfl rfl (fun c8 => ?_) (fun c8 => ?_)
    · rw [if_pos c8] at hD
      exact c_m_work_40_b hd k0 k1 hr pl1 hD
    · rw [if_neg (Int.not_lt.mpr c8)] at hD
      refine wq_aload_n k0 rfl ?_
      refine wq_iload_n k1 rfl ?_
      obtain ⟨m9, q12, hD⟩ := nb_of hD
      refine wm_cvN hr (c_sum (by omega) hr pl1 q12) rfl rfl rfl (fun h10 hr11 => ?_)
      refine wq_goto rfl rfl ?_
      exact c_m_work_283_b hd hr11 hD
def m_work (g : Nat) (l1 : Int) (m : MS) : Option MS := if l1 < 30 then m_work_20 g l1 m else if 32 < l1 then m_work_20 g l1 m else nb (m_relation g l1 m) (fun m3 => m_work_283 g m3)
theorem c_m_work_b {dd : Nat} (hd : 10 ≤ dd) {g : Nat} {h0 : RHeap} {mF : MS} {la : RLoc} {h : RHeap} {m : MS} {l1 : Int} (k0 : rx_look la 0 = some (.ref 170)) (k1 : rx_look la 1 = some (wvi l1)) (hr : RM h0 h m) (pl1 : InI l1) (hD : m_work g l1 m = some mF) : Wq O F (Cd O F rp_P dd) (2, 0, rw_X12_work, []) (rx_at rw_X12_work 0) la [] h (QN h0 mF) := by
  unfold m_work at hD
  refine wq_iload_n k1 rfl ?_
  refine wq_bipush (by decide) rfl ?_
  refine wq_icmp_lt pl1 ⟨by decide, by decide⟩ rfl rfl rfl (fun c1 => ?_) (fun c1 => ?_)
  · rw [if_pos c1] at hD
    exact c_m_work_20_b hd k0 k1 hr pl1 hD
  · rw [if_neg (Int.not_lt.mpr c1)] at hD
    refine wq_iload_n k1 rfl ?_
    refine wq_bipush (by decide) rfl ?_
    refine wq_icmp_gt pl1 ⟨by decide, by decide⟩ rfl rfl rfl (fun c2 => ?_) (fun c2 => ?_)
    · rw [if_pos c2] at hD
      exact c_m_work_20_b hd k0 k1 hr pl1 hD
    · rw [if_neg (Int.not_lt.mpr c2)] at hD
      refine wq_aload_n k0 rfl ?_
      refine wq_iload_n k1 rfl ?_
      obtain ⟨m3, q6, hD⟩ := nb_of hD
      refine wm_cvN hr (c_relation (by omega) hr pl1 q6) rfl rfl rfl (fun h4 hr5 => ?_)
      refine wq_goto rfl rfl ?_
      exact c_m_work_283_b hd hr5 hD
theorem c_work {d : Nat} (hd : 11 ≤ d) {g : Nat} {h0 h : RHeap} {m : MS} {l1 : Int} {mF : MS} (hr : RM h0 h m) (pl1 : InI l1) (hD : m_work g l1 m = some mF) : Cq (Cd O F rp_P d) 298 [.ref 170, wvi l1] h (QN h0 mF) := by
  refine cq_of (I := (2, 0, rw_X12_work, [])) rfl rfl (by omega) ?_
  exact c_m_work_b (by omega) rfl rfl hr pl1 hD
def m_compile_79 (g : Nat) (m : MS) : Option (Int × MS) := if 0 < (m 6 0) then some ((-1), m) else nb (m_keepProgram g m) (fun m52 => some (m52 45 0, m52))
theorem c_m_compile_79_b {dd : Nat} (hd : 11 ≤ dd) {g : Nat} {h0 : RHeap} {vF : Int} {mF : MS} {la : RLoc} {h : RHeap} {m : MS} (k0 : rx_look la 0 = some (.ref 170)) (hr : RM h0 h m) (hD : m_compile_79 g m = some (vF, mF)) : Wq O F (Cd O F rp_P dd) (1, 1, rw_X12_compile, []) (rx_at rw_X12_compile 79) la [] h (QV 0 h0 vF mF) := by
  unfold m_compile_79 at hD
  refine wq_aload_n k0 rfl ?_
  refine wm_gfi hr rfl rfl (fun pp50 => ?_)
  refine wq_if_le pp50 rfl rfl rfl (fun c51 => ?_) (fun c51 => ?_)
  · rw [if_neg (Int.not_lt.mpr c51)] at hD
    refine wq_aload_n k0 rfl ?_
    obtain ⟨m52, q55, hD⟩ := nb_of hD
    refine wm_cvN hr (c_keepProgram (by omega) hr q55) rfl rfl rfl (fun h53 hr54 => ?_)
    refine wq_aload_n k0 rfl ?_
    refine wm_gfi hr54 rfl rfl (fun pp56 => ?_)
    cases hD
    exact wq_ireturn rfl ⟨_, rfl, hr54, pp56⟩
  · rw [if_pos c51] at hD
    refine wq_iconst rfl ?_
    cases hD
    exact wq_ireturn rfl ⟨_, rfl, hr, ⟨by decide, by decide⟩⟩
def m_compile_39 (g : Nat) : Nat → MS → Option (Int × MS)
  | 0, _ => none
  | n + 1, m => if 0 < (m 65 0) then if (m 6 0) = 0 then wlet (mset m 65 0 (i32 ((m 65 0) - 1))) (fun m38 => ck (m38 65 0) 4000 (nb (m_work g (m38 64 (m38 65 0)) m38) (fun m46 => m_compile_39 g n m46))) else m_compile_79 g m else m_compile_79 g m
theorem c_m_compile_39 {dd : Nat} (hd : 11 ≤ dd) {g : Nat} {h0 : RHeap} {vF : Int} {mF : MS} : ∀ (n : Nat) {la : RLoc} {h : RHeap} {m : MS}, rx_look la 0 = some (.ref 170) → RM h0 h m → m_compile_39 g n m = some (vF, mF) → Wq O F (Cd O F rp_P dd) (1, 1, rw_X12_compile, []) (rx_at rw_X12_compile 39) la [] h (QV 0 h0 vF mF) := by
  intro n
  induction n with
  | zero =>
    intro la h m k0 hr hD
    unfold m_compile_39 at hD
    cases hD
  | succ n ih =>
    intro la h m k0 hr hD
    unfold m_compile_39 at hD
    refine wq_aload_n k0 rfl ?_
    refine wm_gfi hr rfl rfl (fun pp33 => ?_)
    refine wq_if_le pp33 rfl rfl rfl (fun c34 => ?_) (fun c34 => ?_)
    · rw [if_neg (Int.not_lt.mpr c34)] at hD
      exact c_m_compile_79_b hd k0 hr hD
    · rw [if_pos c34] at hD
      refine wq_aload_n k0 rfl ?_
      refine wm_gfi hr rfl rfl (fun pp35 => ?_)
      refine wq_if_ne pp35 rfl rfl rfl (fun c36 => ?_) (fun c36 => ?_)
      · rw [if_neg c36] at hD
        exact c_m_compile_79_b hd k0 hr hD
      · rw [if_pos c36] at hD
        refine wq_aload_n k0 rfl ?_
        refine wq_dup rfl rfl ?_
        refine wm_gfi hr rfl rfl (fun pp37 => ?_)
        refine wq_iconst rfl ?_
        refine wq_isub rfl ?_
        obtain ⟨m38, e39, hD⟩ := wlet_of hD
        refine wm_pfi hr rfl rfl (InI_i32 _) rfl (fun h40 hr41 => ?_)
        rw [← e39] at hr41
        refine wq_aload_n k0 rfl ?_
        refine wq_aload_n k0 rfl ?_
        refine wm_gfa (c := 0) hr41 rfl rfl ?_
        refine wq_aload_n k0 rfl ?_
        refine wm_gfi hr41 rfl rfl (fun pp42 => ?_)
        obtain ⟨g43, g44, hD⟩ := ck_of hD
        refine wm_ali (f := 64) hr41 rfl pp42 g43 g44 rfl (fun pp45 => ?_)
        obtain ⟨m46, q49, hD⟩ := nb_of hD
        refine wm_cvN hr41 (c_work (by omega) hr41 pp45 q49) rfl rfl rfl (fun h47 hr48 => ?_)
        refine wq_goto rfl rfl ?_
        exact ih k0 hr48 hD
def m_compile (g : Nat) (m : MS) : Option (Int × MS) := wlet (mset m 3 0 0) (fun m1 => wlet (mset m1 6 0 0) (fun m5 => wlet (mset m5 7 0 (-1)) (fun m9 => wlet (mset m9 8 0 0) (fun m13 => nb (m_beginProgram m13) (fun m17 => nb (m_take g m17) (fun m21 => nb (m_later 52 m21) (fun m25 => nb (m_later 1 m25) (fun m29 => m_compile_39 g g m29))))))))
theorem c_m_compile_b {dd : Nat} (hd : 11 ≤ dd) {g : Nat} {h0 : RHeap} {vF : Int} {mF : MS} {la : RLoc} {h : RHeap} {m : MS} (k0 : rx_look la 0 = some (.ref 170)) (hr : RM h0 h m) (hD : m_compile g m = some (vF, mF)) : Wq O F (Cd O F rp_P dd) (1, 1, rw_X12_compile, []) (rx_at rw_X12_compile 0) la [] h (QV 0 h0 vF mF) := by
  unfold m_compile at hD
  refine wq_aload_n k0 rfl ?_
  refine wq_iconst rfl ?_
  obtain ⟨m1, e2, hD⟩ := wlet_of hD
  refine wm_pfi hr rfl rfl ⟨by decide, by decide⟩ rfl (fun h3 hr4 => ?_)
  rw [← e2] at hr4
  refine wq_aload_n k0 rfl ?_
  refine wq_iconst rfl ?_
  obtain ⟨m5, e6, hD⟩ := wlet_of hD
  refine wm_pfi hr4 rfl rfl ⟨by decide, by decide⟩ rfl (fun h7 hr8 => ?_)
  rw [← e6] at hr8
  refine wq_aload_n k0 rfl ?_
  refine wq_iconst rfl ?_
  obtain ⟨m9, e10, hD⟩ := wlet_of hD
  refine wm_pfi hr8 rfl rfl ⟨by decide, by decide⟩ rfl (fun h11 hr12 => ?_)
  rw [← e10] at hr12
  refine wq_aload_n k0 rfl ?_
  refine wq_iconst rfl ?_
  obtain ⟨m13, e14, hD⟩ := wlet_of hD
  refine wm_pfi hr12 rfl rfl ⟨by decide, by decide⟩ rfl (fun h15 hr16 => ?_)
  rw [← e14] at hr16
  refine wq_aload_n k0 rfl ?_
  obtain ⟨m17, q20, hD⟩ := nb_of hD
  refine wm_cvN hr16 (c_beginProgram (by omega) hr16 q20) rfl rfl rfl (fun h18 hr19 => ?_)
  refine wq_aload_n k0 rfl ?_
  obtain ⟨m21, q24, hD⟩ := nb_of hD
  refine wm_cvN hr19 (c_take (by omega) hr19 q24) rfl rfl rfl (fun h22 hr23 => ?_)
  refine wq_aload_n k0 rfl ?_
  refine wq_bipush (by decide) rfl ?_
  obtain ⟨m25, q28, hD⟩ := nb_of hD
  refine wm_cvN hr23 (c_later (by omega) hr23 ⟨by decide, by decide⟩ q28) rfl rfl rfl (fun h26 hr27 => ?_)
  refine wq_aload_n k0 rfl ?_
  refine wq_iconst rfl ?_
  obtain ⟨m29, q32, hD⟩ := nb_of hD
  refine wm_cvN hr27 (c_later (by omega) hr27 ⟨by decide, by decide⟩ q32) rfl rfl rfl (fun h30 hr31 => ?_)
  exact c_m_compile_39 hd g k0 hr31 hD
theorem c_compile {d : Nat} (hd : 12 ≤ d) {g : Nat} {h0 h : RHeap} {m : MS} {vF : Int} {mF : MS} (hr : RM h0 h m) (hD : m_compile g m = some (vF, mF)) : Cq (Cd O F rp_P d) 217 [.ref 170] h (QV 0 h0 vF mF) := by
  refine cq_of (I := (1, 1, rw_X12_compile, [])) rfl rfl (by omega) ?_
  exact c_m_compile_b (by omega) rfl hr hD
def m_fault (m : MS) : Option (Int × MS) := wlet (mset m 3 0 0) (fun m1 => some (m1 6 0, m1))
theorem c_m_fault_b {dd : Nat} (hd : 0 ≤ dd) {h0 : RHeap} {vF : Int} {mF : MS} {la : RLoc} {h : RHeap} {m : MS} (k0 : rx_look la 0 = some (.ref 170)) (hr : RM h0 h m) (hD : m_fault m = some (vF, mF)) : Wq O F (Cd O F rp_P dd) (1, 1, rw_X12_fault, []) (rx_at rw_X12_fault 0) la [] h (QV 0 h0 vF mF) := by
  unfold m_fault at hD
  refine wq_aload_n k0 rfl ?_
  refine wq_iconst rfl ?_
  obtain ⟨m1, e2, hD⟩ := wlet_of hD
  refine wm_pfi hr rfl rfl ⟨by decide, by decide⟩ rfl (fun h3 hr4 => ?_)
  rw [← e2] at hr4
  refine wq_aload_n k0 rfl ?_
  refine wm_gfi hr4 rfl rfl (fun pp5 => ?_)
  cases hD
  exact wq_ireturn rfl ⟨_, rfl, hr4, pp5⟩
theorem c_fault {d : Nat} (hd : 1 ≤ d) {h0 h : RHeap} {m : MS} {vF : Int} {mF : MS} (hr : RM h0 h m) (hD : m_fault m = some (vF, mF)) : Cq (Cd O F rp_P d) 226 [.ref 170] h (QV 0 h0 vF mF) := by
  refine cq_of (I := (1, 1, rw_X12_fault, [])) rfl rfl (by omega) ?_
  exact c_m_fault_b (by omega) rfl hr hD
def m_feed_46 (g : Nat) : Nat → Int → Int → Int → MS → Option (Int × MS)
  | 0, _, _, _, _ => none
  | n + 1, l1, l2, l4, m => if l4 < l1 then ck (m 5 0) 1500 (wlet (mset m 4 (m 5 0) (i32 (l_and (l_shr l2 (i32 (8 * l4))) 255))) (fun m22 => wlet (mset m22 5 0 (i32 ((m22 5 0) + 1))) (fun m27 => m_feed_46 g n l1 l2 (i32 (l4 + 1)) m27))) else some (m 5 0, m)
theorem c_m_feed_46 {dd : Nat} (hd : 0 ≤ dd) {g : Nat} {h0 : RHeap} {vF : Int} {mF : MS} : ∀ (n : Nat) {la : RLoc} {h : RHeap} {m : MS} {l1 l2 l4 : Int}, rx_look la 0 = some (.ref 170) → rx_look la 1 = some (wvi l1) → rx_look la 2 = some (wvl l2) → rx_look la 4 = some (wvi l4) → RM h0 h m → InI l1 → InL l2 → InI l4 → m_feed_46 g n l1 l2 l4 m = some (vF, mF) → Wq O F (Cd O F rp_P dd) (5, 1, rw_X12_feed, []) (rx_at rw_X12_feed 46) la [] h (QV 0 h0 vF mF) := by
  intro n
  induction n with
  | zero =>
    intro la h m l1 l2 l4 k0 k1 k2 k4 hr pl1 pl2 pl4 hD
    unfold m_feed_46 at hD
    cases hD
  | succ n ih =>
    intro la h m l1 l2 l4 k0 k1 k2 k4 hr pl1 pl2 pl4 hD
    unfold m_feed_46 at hD
    refine wq_iload k4 rfl ?_
    refine wq_iload_n k1 rfl ?_
    refine wq_icmp_ge pl4 pl1 rfl rfl rfl (fun c17 => ?_) (fun c17 => ?_)
    · rw [if_neg (Int.not_lt.mpr c17)] at hD
      refine wq_aload_n k0 rfl ?_
      refine wm_gfi hr rfl rfl (fun pp18 => ?_)
      cases hD
      exact wq_ireturn rfl ⟨_, rfl, hr, pp18⟩
    · rw [if_pos c17] at hD
      refine wq_aload_n k0 rfl ?_
      refine wm_gfa (c := 0) hr rfl rfl ?_
      refine wq_aload_n k0 rfl ?_
      refine wm_gfi hr rfl rfl (fun pp19 => ?_)
      refine wq_lload_n k2 rfl ?_
      refine wq_bipush (by decide) rfl ?_
      refine wq_iload k4 rfl ?_
      refine wq_imul rfl ?_
      refine wq_lshr rfl ?_
      refine wq_ldc2 (x := 255) (by decide) rfl ?_
      refine wq_land rfl ?_
      refine wq_l2i rfl ?_
      obtain ⟨g20, g21, hD⟩ := ck_of hD
      obtain ⟨m22, e23, hD⟩ := wlet_of hD
      refine wm_asi (f := 4) hr rfl pp19 g20 g21 (InI_i32 _) rfl (fun h24 hr25 => ?_)
      rw [← e23] at hr25
      refine wq_aload_n k0 rfl ?_
      refine wq_dup rfl rfl ?_
      refine wm_gfi hr25 rfl rfl (fun pp26 => ?_)
      refine wq_iconst rfl ?_
      refine wq_iadd rfl ?_
      obtain ⟨m27, e28, hD⟩ := wlet_of hD
      refine wm_pfi hr25 rfl rfl (InI_i32 _) rfl (fun h29 hr30 => ?_)
      rw [← e28] at hr30
      refine wl_iinc k4 rfl rfl (fun la31 kk32 t33 => ?_)
      have kk34 := t33 0 _ (by decide) (Or.inr rfl) k0
      have kk35 := t33 1 _ (by decide) (Or.inr rfl) k1
      have kk36 := t33 2 _ (by decide) (Or.inl (by decide)) k2
      refine wq_goto rfl rfl ?_
      exact ih kk34 kk35 kk36 kk32 hr30 pl1 pl2 (InI_i32 _) hD
def m_feed_17 (g : Nat) (l1 : Int) (l2 : Int) (s1 : Int) (m : MS) : Option (Int × MS) := wlet (mset m 3 0 s1) (fun m3 => if 0 < (m3 3 0) then some (0, m3) else if 1500 < (i32 ((m3 5 0) + l1)) then some ((-1), m3) else m_feed_46 g g l1 l2 0 m3)
theorem c_m_feed_17_b {dd : Nat} (hd : 0 ≤ dd) {g : Nat} {h0 : RHeap} {vF : Int} {mF : MS} {la : RLoc} {h : RHeap} {m : MS} {l1 l2 s1 : Int} (k0 : rx_look la 0 = some (.ref 170)) (k1 : rx_look la 1 = some (wvi l1)) (k2 : rx_look la 2 = some (wvl l2)) (hr : RM h0 h m) (pl1 : InI l1) (pl2 : InL l2) (ps1 : (s1 = 0 ∨ s1 = 1)) (hD : m_feed_17 g l1 l2 s1 m = some (vF, mF)) : Wq O F (Cd O F rp_P dd) (5, 1, rw_X12_feed, []) (rx_at rw_X12_feed 17) la [wvi s1, .ref 170] h (QV 0 h0 vF mF) := by
  unfold m_feed_17 at hD
  obtain ⟨m3, e4, hD⟩ := wlet_of hD
  refine wm_pfi hr rfl rfl (InI_z ps1) rfl (fun h5 hr6 => ?_)
  rw [← e4] at hr6
  refine wq_aload_n k0 rfl ?_
  refine wm_gfi hr6 rfl rfl (fun pp7 => ?_)
  refine wq_if_le pp7 rfl rfl rfl (fun c8 => ?_) (fun c8 => ?_)
  · rw [if_neg (Int.not_lt.mpr c8)] at hD
    refine wq_aload_n k0 rfl ?_
    refine wm_gfi hr6 rfl rfl (fun pp9 => ?_)
    refine wq_iload_n k1 rfl ?_
    refine wq_iadd rfl ?_
    refine wq_sipush (by decide) rfl ?_
    refine wq_icmp_le (InI_i32 _) ⟨by decide, by decide⟩ rfl rfl rfl (fun c10 => ?_) (fun c10 => ?_)
    · rw [if_neg (Int.not_lt.mpr c10)] at hD
      refine wq_iconst rfl ?_
      refine wl_istore rfl rfl (fun la11 kk12 t13 => ?_)
      have kk14 := t13 0 _ (by decide) (Or.inr rfl) k0
      have kk15 := t13 1 _ (by decide) (Or.inr rfl) k1
      have kk16 := t13 2 _ (by decide) (Or.inl (by decide)) k2
      exact c_m_feed_46 hd g kk14 kk15 kk16 kk12 hr6 pl1 pl2 ⟨by decide, by decide⟩ hD
    · rw [if_pos c10] at hD
      refine wq_iconst rfl ?_
      cases hD
      exact wq_ireturn rfl ⟨_, rfl, hr6, ⟨by decide, by decide⟩⟩
  · rw [if_pos c8] at hD
    refine wq_iconst rfl ?_
    cases hD
    exact wq_ireturn rfl ⟨_, rfl, hr6, ⟨by decide, by decide⟩⟩
def m_feed_12 (g : Nat) (l1 : Int) (l2 : Int) (m : MS) : Option (Int × MS) := m_feed_17 g l1 l2 1 m
theorem c_m_feed_12_b {dd : Nat} (hd : 0 ≤ dd) {g : Nat} {h0 : RHeap} {vF : Int} {mF : MS} {la : RLoc} {h : RHeap} {m : MS} {l1 l2 : Int} (k0 : rx_look la 0 = some (.ref 170)) (k1 : rx_look la 1 = some (wvi l1)) (k2 : rx_look la 2 = some (wvl l2)) (hr : RM h0 h m) (pl1 : InI l1) (pl2 : InL l2) (hD : m_feed_12 g l1 l2 m = some (vF, mF)) : Wq O F (Cd O F rp_P dd) (5, 1, rw_X12_feed, []) (rx_at rw_X12_feed 12) la [.ref 170] h (QV 0 h0 vF mF) := by
  unfold m_feed_12 at hD
  refine wq_iconst rfl ?_
  refine wq_goto rfl rfl ?_
  exact c_m_feed_17_b hd k0 k1 k2 hr pl1 pl2 (Or.inr rfl) hD
def m_feed (g : Nat) (l1 : Int) (l2 : Int) (m : MS) : Option (Int × MS) := if l1 < 1 then m_feed_12 g l1 l2 m else if 8 < l1 then m_feed_12 g l1 l2 m else m_feed_17 g l1 l2 0 m
theorem c_m_feed_b {dd : Nat} (hd : 0 ≤ dd) {g : Nat} {h0 : RHeap} {vF : Int} {mF : MS} {la : RLoc} {h : RHeap} {m : MS} {l1 l2 : Int} (k0 : rx_look la 0 = some (.ref 170)) (k1 : rx_look la 1 = some (wvi l1)) (k2 : rx_look la 2 = some (wvl l2)) (hr : RM h0 h m) (pl1 : InI l1) (pl2 : InL l2) (hD : m_feed g l1 l2 m = some (vF, mF)) : Wq O F (Cd O F rp_P dd) (5, 1, rw_X12_feed, []) (rx_at rw_X12_feed 0) la [] h (QV 0 h0 vF mF) := by
  unfold m_feed at hD
  refine wq_aload_n k0 rfl ?_
  refine wq_iload_n k1 rfl ?_
  refine wq_iconst rfl ?_
  refine wq_icmp_lt pl1 ⟨by decide, by decide⟩ rfl rfl rfl (fun c1 => ?_) (fun c1 => ?_)
  · rw [if_pos c1] at hD
    exact c_m_feed_12_b hd k0 k1 k2 hr pl1 pl2 hD
  · rw [if_neg (Int.not_lt.mpr c1)] at hD
    refine wq_iload_n k1 rfl ?_
    refine wq_bipush (by decide) rfl ?_
    refine wq_icmp_le pl1 ⟨by decide, by decide⟩ rfl rfl rfl (fun c2 => ?_) (fun c2 => ?_)
    · rw [if_neg (Int.not_lt.mpr c2)] at hD
      refine wq_iconst rfl ?_
      exact c_m_feed_17_b hd k0 k1 k2 hr pl1 pl2 (Or.inl rfl) hD
    · rw [if_pos c2] at hD
      exact c_m_feed_12_b hd k0 k1 k2 hr pl1 pl2 hD
theorem c_feed {d : Nat} (hd : 1 ≤ d) {g : Nat} {h0 h : RHeap} {m : MS} {l1 l2 : Int} {vF : Int} {mF : MS} (hr : RM h0 h m) (pl1 : InI l1) (pl2 : InL l2) (hD : m_feed g l1 l2 m = some (vF, mF)) : Cq (Cd O F rp_P d) 227 [.ref 170, wvi l1, wvl l2] h (QV 0 h0 vF mF) := by
  refine cq_of (I := (5, 1, rw_X12_feed, [])) rfl rfl (by omega) ?_
  exact c_m_feed_b (by omega) rfl rfl rfl hr pl1 pl2 hD
def m_forStep_201 (m : MS) : Option MS := some m
theorem c_m_forStep_201_b {dd : Nat} (hd : 3 ≤ dd) {h0 : RHeap} {mF : MS} {la : RLoc} {h : RHeap} {m : MS} (hr : RM h0 h m) (hD : m_forStep_201 m = some mF) : Wq O F (Cd O F rp_P dd) (7, 0, rw_X12_forStep, []) (rx_at rw_X12_forStep 201) la [] h (QN h0 mF) := by
  unfold m_forStep_201 at hD
  cases hD
  exact wq_return rfl ⟨_, rfl, hr⟩
def m_forStep_113 (s1 : Int) (m : MS) : Option MS := wlet (mset m 98 0 s1) (fun m82 => m_forStep_201 m82)
theorem c_m_forStep_113_b {dd : Nat} (hd : 3 ≤ dd) {h0 : RHeap} {mF : MS} {la : RLoc} {h : RHeap} {m : MS} {s1 : Int} (hr : RM h0 h m) (ps1 : InI s1) (hD : m_forStep_113 s1 m = some mF) : Wq O F (Cd O F rp_P dd) (7, 0, rw_X12_forStep, []) (rx_at rw_X12_forStep 113) la [wvi s1, .ref 170] h (QN h0 mF) := by
  unfold m_forStep_113 at hD
  obtain ⟨m82, e83, hD⟩ := wlet_of hD
  refine wm_pfi hr rfl rfl ps1 rfl (fun h84 hr85 => ?_)
  rw [← e83] at hr85
  refine wq_goto rfl rfl ?_
  exact c_m_forStep_201_b hd hr85 hD
def m_forStep_109 (m : MS) : Option MS := m_forStep_113 (m 98 0) m
theorem c_m_forStep_109_b {dd : Nat} (hd : 3 ≤ dd) {h0 : RHeap} {mF : MS} {la : RLoc} {h : RHeap} {m : MS} (k0 : rx_look la 0 = some (.ref 170)) (hr : RM h0 h m) (hD : m_forStep_109 m = some mF) : Wq O F (Cd O F rp_P dd) (7, 0, rw_X12_forStep, []) (rx_at rw_X12_forStep 109) la [.ref 170] h (QN h0 mF) := by
  unfold m_forStep_109 at hD
  refine wq_aload_n k0 rfl ?_
  refine wm_gfi hr rfl rfl (fun pp86 => ?_)
  exact c_m_forStep_113_b hd hr pp86 hD
def m_forStep_100 (l1 : Int) (m : MS) : Option MS := ck l1 6000 (m_forStep_113 (m 71 l1) m)
theorem c_m_forStep_100_b {dd : Nat} (hd : 3 ≤ dd) {h0 : RHeap} {mF : MS} {la : RLoc} {h : RHeap} {m : MS} {l1 : Int} (k0 : rx_look la 0 = some (.ref 170)) (k1 : rx_look la 1 = some (wvi l1)) (hr : RM h0 h m) (pl1 : InI l1) (hD : m_forStep_100 l1 m = some mF) : Wq O F (Cd O F rp_P dd) (7, 0, rw_X12_forStep, []) (rx_at rw_X12_forStep 100) la [.ref 170] h (QN h0 mF) := by
  unfold m_forStep_100 at hD
  refine wq_aload_n k0 rfl ?_
  refine wm_gfa (c := 0) hr rfl rfl ?_
  refine wq_iload_n k1 rfl ?_
  obtain ⟨g79, g80, hD⟩ := ck_of hD
  refine wm_ali (f := 71) hr rfl pl1 g79 g80 rfl (fun pp81 => ?_)
  refine wq_goto rfl rfl ?_
  exact c_m_forStep_113_b hd hr pp81 hD
def m_forStep_169 (l1 : Int) (s1 : Int) (s2 : Int) (m : MS) : Option MS := ck s1 70000 (wlet (mset m 96 s1 s2) (fun m68 => ck l1 6000 (wlet (mset m68 98 0 (m68 71 l1)) (fun m75 => m_forStep_201 m75))))
theorem c_m_forStep_169_b {dd : Nat} (hd : 3 ≤ dd) {h0 : RHeap} {mF : MS} {la : RLoc} {h : RHeap} {m : MS} {l1 s1 s2 : Int} (k0 : rx_look la 0 = some (.ref 170)) (k1 : rx_look la 1 = some (wvi l1)) (hr : RM h0 h m) (pl1 : InI l1) (ps1 : InI s1) (ps2 : InL s2) (hD : m_forStep_169 l1 s1 s2 m = some mF) : Wq O F (Cd O F rp_P dd) (7, 0, rw_X12_forStep, []) (rx_at rw_X12_forStep 169) la [wvl s2, wvi s1, .ref 229] h (QN h0 mF) := by
  unfold m_forStep_169 at hD
  obtain ⟨g66, g67, hD⟩ := ck_of hD
  obtain ⟨m68, e69, hD⟩ := wlet_of hD
  refine wm_asl (f := 96) hr rfl ps1 g66 g67 ps2 rfl (fun h70 hr71 => ?_)
  rw [← e69] at hr71
  refine wq_aload_n k0 rfl ?_
  refine wq_aload_n k0 rfl ?_
  refine wm_gfa (c := 0) hr71 rfl rfl ?_
  refine wq_iload_n k1 rfl ?_
  obtain ⟨g72, g73, hD⟩ := ck_of hD
  refine wm_ali (f := 71) hr71 rfl pl1 g72 g73 rfl (fun pp74 => ?_)
  obtain ⟨m75, e76, hD⟩ := wlet_of hD
  refine wm_pfi hr71 rfl rfl pp74 rfl (fun h77 hr78 => ?_)
  rw [← e76] at hr78
  refine wq_goto rfl rfl ?_
  exact c_m_forStep_201_b hd hr78 hD
def m_forStep_183 (l6 : Int) (m : MS) : Option MS := ck l6 3000 (wlet (mset m 86 l6 0) (fun m57 => wlet (mset m57 97 0 (i32 ((m57 97 0) - 3))) (fun m62 => m_forStep_201 m62)))
theorem c_m_forStep_183_b {dd : Nat} (hd : 3 ≤ dd) {h0 : RHeap} {mF : MS} {la : RLoc} {h : RHeap} {m : MS} {l6 : Int} (k0 : rx_look la 0 = some (.ref 170)) (k6 : rx_look la 6 = some (wvi l6)) (hr : RM h0 h m) (pl6 : InI l6) (hD : m_forStep_183 l6 m = some mF) : Wq O F (Cd O F rp_P dd) (7, 0, rw_X12_forStep, []) (rx_at rw_X12_forStep 183) la [] h (QN h0 mF) := by
  unfold m_forStep_183 at hD
  refine wq_aload_n k0 rfl ?_
  refine wm_gfa (c := 3) hr rfl rfl ?_
  refine wq_iload k6 rfl ?_
  refine wq_iconst rfl ?_
  obtain ⟨g55, g56, hD⟩ := ck_of hD
  obtain ⟨m57, e58, hD⟩ := wlet_of hD
  refine wm_asz (f := 86) hr rfl pl6 g55 g56 (Or.inl rfl) rfl (fun h59 hr60 => ?_)
  rw [← e58] at hr60
  refine wq_aload_n k0 rfl ?_
  refine wq_aload_n k0 rfl ?_
  refine wm_gfi hr60 rfl rfl (fun pp61 => ?_)
  refine wq_iconst rfl ?_
  refine wq_isub rfl ?_
  obtain ⟨m62, e63, hD⟩ := wlet_of hD
  refine wm_pfi hr60 rfl rfl (InI_i32 _) rfl (fun h64 hr65 => ?_)
  rw [← e63] at hr65
  exact c_m_forStep_201_b hd hr65 hD
def m_forStep (l1 : Int) (m : MS) : Option MS := ck (i32 ((m 97 0) - 1)) 70000 (ck (i32 ((m 97 0) - 2)) 70000 (ck (i32 ((m 97 0) - 3)) 70000 (ck l1 6000 (if (m 70 l1) = 22 then ck l1 6000 (if (m 72 l1) = 1 then if (m 96 (i32 ((m 97 0) - 2))) < (m 96 (i32 ((m 97 0) - 1))) then m_forStep_100 l1 m else m_forStep_109 m else if (m 96 (i32 ((m 97 0) - 1))) < (m 96 (i32 ((m 97 0) - 2))) then m_forStep_100 l1 m else m_forStep_109 m) else if (m 70 l1) = 23 then nb (m_putThere (i32 (m 96 (i32 ((m 97 0) - 3)))) (m 96 (i32 ((m 97 0) - 2))) l1 m) (fun m42 => m_forStep_201 m42) else if (m 70 l1) = 24 then if (m 96 (i32 ((m 97 0) - 2))) = (m 96 (i32 ((m 97 0) - 1))) then m_forStep_201 m else ck l1 6000 (if (m 72 l1) = 1 then m_forStep_169 l1 (i32 ((m 97 0) - 2)) (i64 ((m 96 (i32 ((m 97 0) - 2))) - 1)) m else m_forStep_169 l1 (i32 ((m 97 0) - 2)) (i64 ((m 96 (i32 ((m 97 0) - 2))) + 1)) m) else m_forStep_183 (i32 (m 96 (i32 ((m 97 0) - 3)))) m))))
theorem c_m_forStep_b {dd : Nat} (hd : 3 ≤ dd) {h0 : RHeap} {mF : MS} {la : RLoc} {h : RHeap} {m : MS} {l1 : Int} (k0 : rx_look la 0 = some (.ref 170)) (k1 : rx_look la 1 = some (wvi l1)) (hr : RM h0 h m) (pl1 : InI l1) (hD : m_forStep l1 m = some mF) : Wq O F (Cd O F rp_P dd) (7, 0, rw_X12_forStep, []) (rx_at rw_X12_forStep 0) la [] h (QN h0 mF) := by
  unfold m_forStep at hD
  refine wq_aload_n k0 rfl ?_
  refine wm_gfa (c := 1) hr rfl rfl ?_
  refine wq_aload_n k0 rfl ?_
  refine wm_gfi hr rfl rfl (fun pp1 => ?_)
  refine wq_iconst rfl ?_
  refine wq_isub rfl ?_
  obtain ⟨g2, g3, hD⟩ := ck_of hD
  refine wm_all (f := 96) hr rfl (InI_i32 _) g2 g3 rfl (fun pp4 => ?_)
  refine wl_lstore_n rfl rfl (fun la5 kk6 t7 => ?_)
  have kk8 := t7 0 _ ⟨by decide, by decide⟩ (Or.inr rfl) k0
  have kk9 := t7 1 _ ⟨by decide, by decide⟩ (Or.inr rfl) k1
  refine wq_aload_n kk8 rfl ?_
  refine wm_gfa (c := 1) hr rfl rfl ?_
  refine wq_aload_n kk8 rfl ?_
  refine wm_gfi hr rfl rfl (fun pp10 => ?_)
  refine wq_iconst rfl ?_
  refine wq_isub rfl ?_
  obtain ⟨g11, g12, hD⟩ := ck_of hD
  refine wm_all (f := 96) hr rfl (InI_i32 _) g11 g12 rfl (fun pp13 => ?_)
  refine wl_lstore rfl rfl (fun la14 kk15 t16 => ?_)
  have kk17 := t16 0 _ ⟨by decide, by decide⟩ (Or.inr rfl) kk8
  have kk18 := t16 1 _ ⟨by decide, by decide⟩ (Or.inr rfl) kk9
  have kk19 := t16 2 _ ⟨by decide, by decide⟩ (Or.inl (by decide)) kk6
  refine wq_aload_n kk17 rfl ?_
  refine wm_gfa (c := 1) hr rfl rfl ?_
  refine wq_aload_n kk17 rfl ?_
  refine wm_gfi hr rfl rfl (fun pp20 => ?_)
  refine wq_iconst rfl ?_
  refine wq_isub rfl ?_
  obtain ⟨g21, g22, hD⟩ := ck_of hD
  refine wm_all (f := 96) hr rfl (InI_i32 _) g21 g22 rfl (fun pp23 => ?_)
  refine wq_l2i rfl ?_
  refine wl_istore rfl rfl (fun la24 kk25 t26 => ?_)
  have kk27 := t26 0 _ (by decide) (Or.inr rfl) kk17
  have kk28 := t26 1 _ (by decide) (Or.inr rfl) kk18
  have kk29 := t26 2 _ (by decide) (Or.inl (by decide)) kk19
  have kk30 := t26 4 _ (by decide) (Or.inl (by decide)) kk15
  refine wq_aload_n kk27 rfl ?_
  refine wm_gfa (c := 0) hr rfl rfl ?_
  refine wq_iload_n kk28 rfl ?_
  obtain ⟨g31, g32, hD⟩ := ck_of hD
  refine wm_ali (f := 70) hr rfl pl1 g31 g32 rfl (fun pp33 => ?_)
  by_cases c34 : (m 70 l1) = 22
  · rw [if_pos c34] at hD
    refine wq_tsw_in (j := 0) pp33 (by omega) (by omega) (by omega) rfl rfl rfl ?_
    refine wq_aload_n kk27 rfl ?_
    refine wq_aload_n kk27 rfl ?_
    refine wm_gfa (c := 0) hr rfl rfl ?_
    refine wq_iload_n kk28 rfl ?_
    obtain ⟨g35, g36, hD⟩ := ck_of hD
    refine wm_ali (f := 72) hr rfl pl1 g35 g36 rfl (fun pp37 => ?_)
    refine wq_iconst rfl ?_
    refine wq_icmp_ne pp37 ⟨by decide, by decide⟩ rfl rfl rfl (fun c38 => ?_) (fun c38 => ?_)
    · rw [if_neg c38] at hD
      refine wq_lload kk30 rfl ?_
      refine wq_lload_n kk29 rfl ?_
      refine wq_lc_le pp13 pp4 rfl rfl rfl rfl (fun c39 => ?_) (fun c39 => ?_)
      · rw [if_neg (Int.not_lt.mpr c39)] at hD
        exact c_m_forStep_109_b hd kk27 hr hD
      · rw [if_pos c39] at hD
        exact c_m_forStep_100_b hd kk27 kk28 hr pl1 hD
    · rw [if_pos c38] at hD
      refine wq_lload kk30 rfl ?_
      refine wq_lload_n kk29 rfl ?_
      refine wq_lc_ge pp13 pp4 rfl rfl rfl rfl (fun c40 => ?_) (fun c40 => ?_)
      · rw [if_neg (Int.not_lt.mpr c40)] at hD
        exact c_m_forStep_109_b hd kk27 hr hD
      · rw [if_pos c40] at hD
        refine wq_goto rfl rfl ?_
        exact c_m_forStep_100_b hd kk27 kk28 hr pl1 hD
  rw [if_neg c34] at hD
  by_cases c41 : (m 70 l1) = 23
  · rw [if_pos c41] at hD
    refine wq_tsw_in (j := 1) pp33 (by omega) (by omega) (by omega) rfl rfl rfl ?_
    refine wq_aload_n kk27 rfl ?_
    refine wq_iload kk25 rfl ?_
    refine wq_lload kk30 rfl ?_
    refine wq_iload_n kk28 rfl ?_
    obtain ⟨m42, q45, hD⟩ := nb_of hD
    refine wm_cvN hr (c_putThere (by omega) hr (InI_i32 _) pp13 pl1 q45) rfl rfl rfl (fun h43 hr44 => ?_)
    refine wq_goto rfl rfl ?_
    exact c_m_forStep_201_b hd hr44 hD
  rw [if_neg c41] at hD
  by_cases c46 : (m 70 l1) = 24
  · rw [if_pos c46] at hD
    refine wq_tsw_in (j := 2) pp33 (by omega) (by omega) (by omega) rfl rfl rfl ?_
    refine wq_lload kk30 rfl ?_
    refine wq_lload_n kk29 rfl ?_
    refine wq_lc_eq pp13 pp4 rfl rfl rfl rfl (fun c47 => ?_) (fun c47 => ?_)
    · rw [if_pos c47] at hD
      exact c_m_forStep_201_b hd hr hD
    · rw [if_neg c47] at hD
      refine wq_aload_n kk27 rfl ?_
      refine wm_gfa (c := 1) hr rfl rfl ?_
      refine wq_aload_n kk27 rfl ?_
      refine wm_gfi hr rfl rfl (fun pp48 => ?_)
      refine wq_iconst rfl ?_
      refine wq_isub rfl ?_
      refine wq_aload_n kk27 rfl ?_
      refine wm_gfa (c := 0) hr rfl rfl ?_
      refine wq_iload_n kk28 rfl ?_
      obtain ⟨g49, g50, hD⟩ := ck_of hD
      refine wm_ali (f := 72) hr rfl pl1 g49 g50 rfl (fun pp51 => ?_)
      refine wq_iconst rfl ?_
      refine wq_icmp_ne pp51 ⟨by decide, by decide⟩ rfl rfl rfl (fun c52 => ?_) (fun c52 => ?_)
      · rw [if_neg c52] at hD
        refine wq_lload kk30 rfl ?_
        refine wq_lconst (x := 1) (by decide) rfl ?_
        refine wq_ladd rfl ?_
        exact c_m_forStep_169_b hd kk27 kk28 hr pl1 (InI_i32 _) (InL_i64 _) hD
      · rw [if_pos c52] at hD
        refine wq_lload kk30 rfl ?_
        refine wq_lconst (x := 1) (by decide) rfl ?_
        refine wq_lsub rfl ?_
        refine wq_goto rfl rfl ?_
        exact c_m_forStep_169_b hd kk27 kk28 hr pl1 (InI_i32 _) (InL_i64 _) hD
  rw [if_neg c46] at hD
  refine wq_tsw_out pp33 (by omega) rfl rfl ?_
  exact c_m_forStep_183_b hd kk27 kk25 hr (InI_i32 _) hD
theorem c_forStep {d : Nat} (hd : 4 ≤ d) {h0 h : RHeap} {m : MS} {l1 : Int} {mF : MS} (hr : RM h0 h m) (pl1 : InI l1) (hD : m_forStep l1 m = some mF) : Cq (Cd O F rp_P d) 231 [.ref 170, wvi l1] h (QN h0 mF) := by
  refine cq_of (I := (7, 0, rw_X12_forStep, [])) rfl rfl (by omega) ?_
  exact c_m_forStep_b (by omega) rfl rfl hr pl1 hD
def m_input_7 (g : Nat) : Nat → Int → MS → Option (Int × MS)
  | 0, _, _ => none
  | n + 1, l1, m => if l1 < (m 5 0) then ck l1 1500 (ck l1 1500 (wlet (mset m 80 l1 (m 4 l1)) (fun m26 => m_input_7 g n (i32 (l1 + 1)) m26))) else wlet (mset m 81 0 (m 5 0)) (fun m12 => wlet (mset m12 5 0 0) (fun m16 => some (m16 81 0, m16)))
theorem c_m_input_7 {dd : Nat} (hd : 0 ≤ dd) {g : Nat} {h0 : RHeap} {vF : Int} {mF : MS} : ∀ (n : Nat) {la : RLoc} {h : RHeap} {m : MS} {l1 : Int}, rx_look la 0 = some (.ref 170) → rx_look la 1 = some (wvi l1) → RM h0 h m → InI l1 → m_input_7 g n l1 m = some (vF, mF) → Wq O F (Cd O F rp_P dd) (2, 1, rw_X12_input, []) (rx_at rw_X12_input 7) la [] h (QV 0 h0 vF mF) := by
  intro n
  induction n with
  | zero =>
    intro la h m l1 k0 k1 hr pl1 hD
    unfold m_input_7 at hD
    cases hD
  | succ n ih =>
    intro la h m l1 k0 k1 hr pl1 hD
    unfold m_input_7 at hD
    refine wq_iload_n k1 rfl ?_
    refine wq_aload_n k0 rfl ?_
    refine wm_gfi hr rfl rfl (fun pp9 => ?_)
    refine wq_icmp_ge pl1 pp9 rfl rfl rfl (fun c10 => ?_) (fun c10 => ?_)
    · rw [if_neg (Int.not_lt.mpr c10)] at hD
      refine wq_aload_n k0 rfl ?_
      refine wq_aload_n k0 rfl ?_
      refine wm_gfi hr rfl rfl (fun pp11 => ?_)
      obtain ⟨m12, e13, hD⟩ := wlet_of hD
      refine wm_pfi hr rfl rfl pp11 rfl (fun h14 hr15 => ?_)
      rw [← e13] at hr15
      refine wq_aload_n k0 rfl ?_
      refine wq_iconst rfl ?_
      obtain ⟨m16, e17, hD⟩ := wlet_of hD
      refine wm_pfi hr15 rfl rfl ⟨by decide, by decide⟩ rfl (fun h18 hr19 => ?_)
      rw [← e17] at hr19
      refine wq_aload_n k0 rfl ?_
      refine wm_gfi hr19 rfl rfl (fun pp20 => ?_)
      cases hD
      exact wq_ireturn rfl ⟨_, rfl, hr19, pp20⟩
    · rw [if_pos c10] at hD
      refine wq_aload_n k0 rfl ?_
      refine wm_gfa (c := 0) hr rfl rfl ?_
      refine wq_iload_n k1 rfl ?_
      refine wq_aload_n k0 rfl ?_
      refine wm_gfa (c := 0) hr rfl rfl ?_
      refine wq_iload_n k1 rfl ?_
      obtain ⟨g21, g22, hD⟩ := ck_of hD
      refine wm_ali (f := 4) hr rfl pl1 g21 g22 rfl (fun pp23 => ?_)
      obtain ⟨g24, g25, hD⟩ := ck_of hD
      obtain ⟨m26, e27, hD⟩ := wlet_of hD
      refine wm_asi (f := 80) hr rfl pl1 g24 g25 pp23 rfl (fun h28 hr29 => ?_)
      rw [← e27] at hr29
      refine wl_iinc k1 rfl rfl (fun la30 kk31 t32 => ?_)
      have kk33 := t32 0 _ (by decide) (Or.inr rfl) k0
      refine wq_goto rfl rfl ?_
      exact ih kk33 kk31 hr29 (InI_i32 _) hD
def m_input (g : Nat) (m : MS) : Option (Int × MS) := wlet (mset m 3 0 0) (fun m1 => m_input_7 g g 0 m1)
theorem c_m_input_b {dd : Nat} (hd : 0 ≤ dd) {g : Nat} {h0 : RHeap} {vF : Int} {mF : MS} {la : RLoc} {h : RHeap} {m : MS} (k0 : rx_look la 0 = some (.ref 170)) (hr : RM h0 h m) (hD : m_input g m = some (vF, mF)) : Wq O F (Cd O F rp_P dd) (2, 1, rw_X12_input, []) (rx_at rw_X12_input 0) la [] h (QV 0 h0 vF mF) := by
  unfold m_input at hD
  refine wq_aload_n k0 rfl ?_
  refine wq_iconst rfl ?_
  obtain ⟨m1, e2, hD⟩ := wlet_of hD
  refine wm_pfi hr rfl rfl ⟨by decide, by decide⟩ rfl (fun h3 hr4 => ?_)
  rw [← e2] at hr4
  refine wq_iconst rfl ?_
  refine wl_istore_n rfl rfl (fun la5 kk6 t7 => ?_)
  have kk8 := t7 0 _ (by decide) (Or.inr rfl) k0
  exact c_m_input_7 hd g kk8 kk6 hr4 ⟨by decide, by decide⟩ hD
theorem c_input {d : Nat} (hd : 1 ≤ d) {g : Nat} {h0 h : RHeap} {m : MS} {vF : Int} {mF : MS} (hr : RM h0 h m) (hD : m_input g m = some (vF, mF)) : Cq (Cd O F rp_P d) 235 [.ref 170] h (QV 0 h0 vF mF) := by
  refine cq_of (I := (2, 1, rw_X12_input, [])) rfl rfl (by omega) ?_
  exact c_m_input_b (by omega) rfl hr hD
def m_joined_98 (s0 : Int) (m : MS) : Option (Int × MS) := some (s0, m)
theorem c_m_joined_98_b {dd : Nat} (hd : 0 ≤ dd) {h0 : RHeap} {vF : Int} {mF : MS} {la : RLoc} {h : RHeap} {m : MS} {s0 : Int} (hr : RM h0 h m) (ps0 : InL s0) (hD : m_joined_98 s0 m = some (vF, mF)) : Wq O F (Cd O F rp_P dd) (9, 5, rw_X12_joined, []) (rx_at rw_X12_joined 98) la [wvl s0] h (QV 1 h0 vF mF) := by
  unfold m_joined_98 at hD
  cases hD
  exact wq_lreturn rfl ⟨_, rfl, hr, ps0⟩
def m_joined_121 (s0 : Int) (m : MS) : Option (Int × MS) := some (s0, m)
theorem c_m_joined_121_b {dd : Nat} (hd : 0 ≤ dd) {h0 : RHeap} {vF : Int} {mF : MS} {la : RLoc} {h : RHeap} {m : MS} {s0 : Int} (hr : RM h0 h m) (ps0 : InL s0) (hD : m_joined_121 s0 m = some (vF, mF)) : Wq O F (Cd O F rp_P dd) (9, 5, rw_X12_joined, []) (rx_at rw_X12_joined 121) la [wvl s0] h (QV 1 h0 vF mF) := by
  unfold m_joined_121 at hD
  cases hD
  exact wq_lreturn rfl ⟨_, rfl, hr, ps0⟩
def m_joined_140 (s0 : Int) (m : MS) : Option (Int × MS) := some (s0, m)
theorem c_m_joined_140_b {dd : Nat} (hd : 0 ≤ dd) {h0 : RHeap} {vF : Int} {mF : MS} {la : RLoc} {h : RHeap} {m : MS} {s0 : Int} (hr : RM h0 h m) (ps0 : InL s0) (hD : m_joined_140 s0 m = some (vF, mF)) : Wq O F (Cd O F rp_P dd) (9, 5, rw_X12_joined, []) (rx_at rw_X12_joined 140) la [wvl s0] h (QV 1 h0 vF mF) := by
  unfold m_joined_140 at hD
  cases hD
  exact wq_lreturn rfl ⟨_, rfl, hr, ps0⟩
def m_joined_160 (l2 : Int) (l4 : Int) (m : MS) : Option (Int × MS) := some (l_or l2 l4, m)
theorem c_m_joined_160_b {dd : Nat} (hd : 0 ≤ dd) {h0 : RHeap} {vF : Int} {mF : MS} {la : RLoc} {h : RHeap} {m : MS} {l2 l4 : Int} (k2 : rx_look la 2 = some (wvl l2)) (k4 : rx_look la 4 = some (wvl l4)) (hr : RM h0 h m) (pl2 : InL l2) (pl4 : InL l4) (hD : m_joined_160 l2 l4 m = some (vF, mF)) : Wq O F (Cd O F rp_P dd) (9, 5, rw_X12_joined, []) (rx_at rw_X12_joined 160) la [] h (QV 1 h0 vF mF) := by
  unfold m_joined_160 at hD
  refine wq_lload_n k2 rfl ?_
  refine wq_lload k4 rfl ?_
  refine wq_lor rfl ?_
  cases hD
  exact wq_lreturn rfl ⟨_, rfl, hr, (InL_toInt _)⟩
def m_joined_19 (l0 : Int) (l2 : Int) (l4 : Int) (l6 : Int) (l7 : Int) (s0 : Int) (m : MS) : Option (Int × MS) := if l0 = 10 then if s0 = 0 then m_joined_98 (i32 (l6 + l7)) m else m_joined_98 (l_or l2 l4) m else if l0 = 11 then if s0 = 0 then m_joined_121 (i32 (l6 - l7)) m else m_joined_121 (l_and l2 (l_xor l4 (-1))) m else if l0 = 12 then if s0 = 0 then m_joined_140 (i32 (l6 * l7)) m else m_joined_140 (l_and l2 l4) m else if l0 = 51 then cz l7 (some (i_div l6 l7, m)) else if l0 = 52 then cz l7 (some (i_rem l6 l7, m)) else if l0 = 53 then some (l_and l2 l4, m) else m_joined_160 l2 l4 m
theorem c_m_joined_19_b {dd : Nat} (hd : 0 ≤ dd) {h0 : RHeap} {vF : Int} {mF : MS} {la : RLoc} {h : RHeap} {m : MS} {l0 l2 l4 l6 l7 s0 : Int} (k0 : rx_look la 0 = some (wvi l0)) (k2 : rx_look la 2 = some (wvl l2)) (k4 : rx_look la 4 = some (wvl l4)) (k6 : rx_look la 6 = some (wvi l6)) (k7 : rx_look la 7 = some (wvi l7)) (hr : RM h0 h m) (pl0 : InI l0) (pl2 : InL l2) (pl4 : InL l4) (pl6 : InI l6) (pl7 : InI l7) (ps0 : (s0 = 0 ∨ s0 = 1)) (hD : m_joined_19 l0 l2 l4 l6 l7 s0 m = some (vF, mF)) : Wq O F (Cd O F rp_P dd) (9, 5, rw_X12_joined, []) (rx_at rw_X12_joined 19) la [wvi s0] h (QV 1 h0 vF mF) := by
  unfold m_joined_19 at hD
  refine wl_istore rfl rfl (fun la17 kk18 t19 => ?_)
  have kk20 := t19 0 _ (by decide) (Or.inr rfl) k0
  have kk21 := t19 2 _ (by decide) (Or.inl (by decide)) k2
  have kk22 := t19 4 _ (by decide) (Or.inl (by decide)) k4
  have kk23 := t19 6 _ (by decide) (Or.inr rfl) k6
  have kk24 := t19 7 _ (by decide) (Or.inr rfl) k7
  refine wq_iload_n kk20 rfl ?_
  by_cases c25 : l0 = 10
  · rw [if_pos c25] at hD
    refine wq_lsw (off := 58) pl0 rfl (by rw [c25]; rfl) rfl rfl ?_
    refine wq_iload kk18 rfl ?_
    refine wq_if_eq (InI_z ps0) rfl rfl rfl (fun c26 => ?_) (fun c26 => ?_)
    · rw [if_pos c26] at hD
      refine wq_iload kk23 rfl ?_
      refine wq_iload kk24 rfl ?_
      refine wq_iadd rfl ?_
      refine wq_i2l (InI_i32 _) rfl ?_
      exact c_m_joined_98_b hd hr (InI.toL (InI_i32 _)) hD
    · rw [if_neg c26] at hD
      refine wq_lload_n kk21 rfl ?_
      refine wq_lload kk22 rfl ?_
      refine wq_lor rfl ?_
      refine wq_goto rfl rfl ?_
      exact c_m_joined_98_b hd hr (InL_toInt _) hD
  rw [if_neg c25] at hD
  by_cases c27 : l0 = 11
  · rw [if_pos c27] at hD
    refine wq_lsw (off := 77) pl0 rfl (by rw [c27]; rfl) rfl rfl ?_
    refine wq_iload kk18 rfl ?_
    refine wq_if_eq (InI_z ps0) rfl rfl rfl (fun c28 => ?_) (fun c28 => ?_)
    · rw [if_pos c28] at hD
      refine wq_iload kk23 rfl ?_
      refine wq_iload kk24 rfl ?_
      refine wq_isub rfl ?_
      refine wq_i2l (InI_i32 _) rfl ?_
      exact c_m_joined_121_b hd hr (InI.toL (InI_i32 _)) hD
    · rw [if_neg c28] at hD
      refine wq_lload_n kk21 rfl ?_
      refine wq_lload kk22 rfl ?_
      refine wq_ldc2 (x := (-1)) (by decide) rfl ?_
      refine wq_lxor rfl ?_
      refine wq_land rfl ?_
      refine wq_goto rfl rfl ?_
      exact c_m_joined_121_b hd hr (InL_toInt _) hD
  rw [if_neg c27] at hD
  by_cases c29 : l0 = 12
  · rw [if_pos c29] at hD
    refine wq_lsw (off := 100) pl0 rfl (by rw [c29]; rfl) rfl rfl ?_
    refine wq_iload kk18 rfl ?_
    refine wq_if_eq (InI_z ps0) rfl rfl rfl (fun c30 => ?_) (fun c30 => ?_)
    · rw [if_pos c30] at hD
      refine wq_iload kk23 rfl ?_
      refine wq_iload kk24 rfl ?_
      refine wq_imul rfl ?_
      refine wq_i2l (InI_i32 _) rfl ?_
      exact c_m_joined_140_b hd hr (InI.toL (InI_i32 _)) hD
    · rw [if_neg c30] at hD
      refine wq_lload_n kk21 rfl ?_
      refine wq_lload kk22 rfl ?_
      refine wq_land rfl ?_
      refine wq_goto rfl rfl ?_
      exact c_m_joined_140_b hd hr (InL_toInt _) hD
  rw [if_neg c29] at hD
  by_cases c31 : l0 = 51
  · rw [if_pos c31] at hD
    refine wq_lsw (off := 119) pl0 rfl (by rw [c31]; rfl) rfl rfl ?_
    refine wq_iload kk23 rfl ?_
    refine wq_iload kk24 rfl ?_
    obtain ⟨g32, hD⟩ := cz_of hD
    refine wq_idiv pl7 g32 rfl ?_
    refine wq_i2l (InI_toInt _) rfl ?_
    cases hD
    exact wq_lreturn rfl ⟨_, rfl, hr, (InI.toL (InI_toInt _))⟩
  rw [if_neg c31] at hD
  by_cases c33 : l0 = 52
  · rw [if_pos c33] at hD
    refine wq_lsw (off := 126) pl0 rfl (by rw [c33]; rfl) rfl rfl ?_
    refine wq_iload kk23 rfl ?_
    refine wq_iload kk24 rfl ?_
    obtain ⟨g34, hD⟩ := cz_of hD
    refine wq_irem pl7 g34 rfl ?_
    refine wq_i2l (InI_toInt _) rfl ?_
    cases hD
    exact wq_lreturn rfl ⟨_, rfl, hr, (InI.toL (InI_toInt _))⟩
  rw [if_neg c33] at hD
  by_cases c35 : l0 = 53
  · rw [if_pos c35] at hD
    refine wq_lsw (off := 133) pl0 rfl (by rw [c35]; rfl) rfl rfl ?_
    refine wq_lload_n kk21 rfl ?_
    refine wq_lload kk22 rfl ?_
    refine wq_land rfl ?_
    cases hD
    exact wq_lreturn rfl ⟨_, rfl, hr, (InL_toInt _)⟩
  rw [if_neg c35] at hD
  refine wq_lsw (off := 138) pl0 rfl (by simp only [lk_cons]; rw [if_neg (fun z => c25 z.symm), if_neg (fun z => c27 z.symm), if_neg (fun z => c29 z.symm), if_neg (fun z => c31 z.symm), if_neg (fun z => c33 z.symm), if_neg (fun z => c35 z.symm)]; rfl) rfl rfl ?_
  exact c_m_joined_160_b hd kk21 kk22 hr pl2 pl4 hD
def m_joined (l0 : Int) (l1 : Int) (l2 : Int) (l4 : Int) (m : MS) : Option (Int × MS) := if l1 = 3 then m_joined_19 l0 l2 l4 (i32 l2) (i32 l4) 1 m else m_joined_19 l0 l2 l4 (i32 l2) (i32 l4) 0 m
theorem c_m_joined_b {dd : Nat} (hd : 0 ≤ dd) {h0 : RHeap} {vF : Int} {mF : MS} {la : RLoc} {h : RHeap} {m : MS} {l0 l1 l2 l4 : Int} (k0 : rx_look la 0 = some (wvi l0)) (k1 : rx_look la 1 = some (wvi l1)) (k2 : rx_look la 2 = some (wvl l2)) (k4 : rx_look la 4 = some (wvl l4)) (hr : RM h0 h m) (pl0 : InI l0) (pl1 : InI l1) (pl2 : InL l2) (pl4 : InL l4) (hD : m_joined l0 l1 l2 l4 m = some (vF, mF)) : Wq O F (Cd O F rp_P dd) (9, 5, rw_X12_joined, []) (rx_at rw_X12_joined 0) la [] h (QV 1 h0 vF mF) := by
  unfold m_joined at hD
  refine wq_lload_n k2 rfl ?_
  refine wq_l2i rfl ?_
  refine wl_istore rfl rfl (fun la1 kk2 t3 => ?_)
  have kk4 := t3 0 _ (by decide) (Or.inr rfl) k0
  have kk5 := t3 1 _ (by decide) (Or.inr rfl) k1
  have kk6 := t3 2 _ (by decide) (Or.inl (by decide)) k2
  have kk7 := t3 4 _ (by decide) (Or.inl (by decide)) k4
  refine wq_lload kk7 rfl ?_
  refine wq_l2i rfl ?_
  refine wl_istore rfl rfl (fun la8 kk9 t10 => ?_)
  have kk11 := t10 0 _ (by decide) (Or.inr rfl) kk4
  have kk12 := t10 1 _ (by decide) (Or.inr rfl) kk5
  have kk13 := t10 2 _ (by decide) (Or.inl (by decide)) kk6
  have kk14 := t10 4 _ (by decide) (Or.inl (by decide)) kk7
  have kk15 := t10 6 _ (by decide) (Or.inr rfl) kk2
  refine wq_iload_n kk12 rfl ?_
  refine wq_iconst rfl ?_
  refine wq_icmp_ne pl1 ⟨by decide, by decide⟩ rfl rfl rfl (fun c16 => ?_) (fun c16 => ?_)
  · rw [if_neg c16] at hD
    refine wq_iconst rfl ?_
    exact c_m_joined_19_b hd kk11 kk13 kk14 kk15 kk9 hr pl0 pl2 pl4 (InI_i32 _) (InI_i32 _) (Or.inl rfl) hD
  · rw [if_pos c16] at hD
    refine wq_iconst rfl ?_
    refine wq_goto rfl rfl ?_
    exact c_m_joined_19_b hd kk11 kk13 kk14 kk15 kk9 hr pl0 pl2 pl4 (InI_i32 _) (InI_i32 _) (Or.inr rfl) hD
theorem c_joined {d : Nat} (hd : 1 ≤ d) {h0 h : RHeap} {m : MS} {l0 l1 l2 l4 : Int} {vF : Int} {mF : MS} (hr : RM h0 h m) (pl0 : InI l0) (pl1 : InI l1) (pl2 : InL l2) (pl4 : InL l4) (hD : m_joined l0 l1 l2 l4 m = some (vF, mF)) : Cq (Cd O F rp_P d) 242 [wvi l0, wvi l1, wvl l2, wvl l4] h (QV 1 h0 vF mF) := by
  refine cq_of (I := (9, 5, rw_X12_joined, [])) rfl rfl (by omega) ?_
  exact c_m_joined_b (by omega) rfl rfl rfl rfl hr pl0 pl1 pl2 pl4 hD
def m_join_112 (m : MS) : Option MS := some m
theorem c_m_join_112_b {dd : Nat} (hd : 2 ≤ dd) {h0 : RHeap} {mF : MS} {la : RLoc} {h : RHeap} {m : MS} (hr : RM h0 h m) (hD : m_join_112 m = some mF) : Wq O F (Cd O F rp_P dd) (7, 0, rw_X12_join, []) (rx_at rw_X12_join 112) la [] h (QN h0 mF) := by
  unfold m_join_112 at hD
  cases hD
  exact wq_return rfl ⟨_, rfl, hr⟩
def m_join_109 (s1 : Int) (m : MS) : Option MS := nb (m_push s1 m) (fun m62 => m_join_112 m62)
theorem c_m_join_109_b {dd : Nat} (hd : 2 ≤ dd) {h0 : RHeap} {mF : MS} {la : RLoc} {h : RHeap} {m : MS} {s1 : Int} (hr : RM h0 h m) (ps1 : InL s1) (hD : m_join_109 s1 m = some mF) : Wq O F (Cd O F rp_P dd) (7, 0, rw_X12_join, []) (rx_at rw_X12_join 109) la [wvl s1, .ref 170] h (QN h0 mF) := by
  unfold m_join_109 at hD
  obtain ⟨m62, q65, hD⟩ := nb_of hD
  refine wm_cvN hr (c_push (by omega) hr ps1 q65) rfl rfl rfl (fun h63 hr64 => ?_)
  exact c_m_join_112_b hd hr64 hD
def m_join_77 (s1 : Int) (m : MS) : Option MS := nb (m_push s1 m) (fun m58 => m_join_112 m58)
theorem c_m_join_77_b {dd : Nat} (hd : 2 ≤ dd) {h0 : RHeap} {mF : MS} {la : RLoc} {h : RHeap} {m : MS} {s1 : Int} (hr : RM h0 h m) (ps1 : InL s1) (hD : m_join_77 s1 m = some mF) : Wq O F (Cd O F rp_P dd) (7, 0, rw_X12_join, []) (rx_at rw_X12_join 77) la [wvl s1, .ref 170] h (QN h0 mF) := by
  unfold m_join_77 at hD
  obtain ⟨m58, q61, hD⟩ := nb_of hD
  refine wm_cvN hr (c_push (by omega) hr ps1 q61) rfl rfl rfl (fun h59 hr60 => ?_)
  refine wq_goto rfl rfl ?_
  exact c_m_join_112_b hd hr60 hD
def m_join_76 (m : MS) : Option MS := m_join_77 0 m
theorem c_m_join_76_b {dd : Nat} (hd : 2 ≤ dd) {h0 : RHeap} {mF : MS} {la : RLoc} {h : RHeap} {m : MS} (hr : RM h0 h m) (hD : m_join_76 m = some mF) : Wq O F (Cd O F rp_P dd) (7, 0, rw_X12_join, []) (rx_at rw_X12_join 76) la [.ref 170] h (QN h0 mF) := by
  unfold m_join_76 at hD
  refine wq_lconst (x := 0) (by decide) rfl ?_
  exact c_m_join_77_b hd hr ⟨by decide, by decide⟩ hD
def m_join_35 (l1 : Int) (l2 : Int) (l3 : Int) (l5 : Int) (s1 : Int) (m : MS) : Option MS := vb (m_isWrong s1 2 m) (fun v33 m29 => if v33 = 0 then if l1 = 56 then if l5 < 0 then m_join_76 m29 else if l5 < 64 then m_join_77 (l_and (l_shr l3 (i32 l5)) 1) m29 else m_join_76 m29 else vb (m_compares l1 m29) (fun v41 m37 => if v41 = 0 then vb (m_joined l1 l2 l5 l3 m37) (fun v48 m44 => m_join_109 v48 m44) else vb (m_compared l1 l5 l3 m37) (fun v54 m50 => m_join_109 v54 m50)) else some m29)
theorem c_m_join_35_b {dd : Nat} (hd : 2 ≤ dd) {h0 : RHeap} {mF : MS} {la : RLoc} {h : RHeap} {m : MS} {l1 l2 l3 l5 s1 : Int} (k0 : rx_look la 0 = some (.ref 170)) (k1 : rx_look la 1 = some (wvi l1)) (k2 : rx_look la 2 = some (wvi l2)) (k3 : rx_look la 3 = some (wvl l3)) (k5 : rx_look la 5 = some (wvl l5)) (hr : RM h0 h m) (pl1 : InI l1) (pl2 : InI l2) (pl3 : InL l3) (pl5 : InL l5) (ps1 : (s1 = 0 ∨ s1 = 1)) (hD : m_join_35 l1 l2 l3 l5 s1 m = some mF) : Wq O F (Cd O F rp_P dd) (7, 0, rw_X12_join, []) (rx_at rw_X12_join 35) la [wvi s1, .ref 170] h (QN h0 mF) := by
  unfold m_join_35 at hD
  refine wq_iconst rfl ?_
  obtain ⟨v33, m29, q32, hD⟩ := vb_of hD
  refine wm_cvZ hr (c_isWrong (by omega) hr ps1 ⟨by decide, by decide⟩ q32) rfl rfl rfl (fun h30 hr31 pp34 => ?_)
  refine wq_if_eq (InI_z pp34) rfl rfl rfl (fun c35 => ?_) (fun c35 => ?_)
  · rw [if_pos c35] at hD
    refine wq_iload_n k1 rfl ?_
    refine wq_bipush (by decide) rfl ?_
    refine wq_icmp_ne pl1 ⟨by decide, by decide⟩ rfl rfl rfl (fun c36 => ?_) (fun c36 => ?_)
    · rw [if_neg c36] at hD
      refine wq_aload_n k0 rfl ?_
      refine wq_iload_n k1 rfl ?_
      obtain ⟨v41, m37, q40, hD⟩ := vb_of hD
      refine wm_csZ (fun _ _ => rfl) (c_compares (by omega) hr31 pl1 q40) rfl rfl rfl (fun h38 hr39 pp42 => ?_)
      refine wq_if_eq (InI_z pp42) rfl rfl rfl (fun c43 => ?_) (fun c43 => ?_)
      · rw [if_pos c43] at hD
        refine wq_iload_n k1 rfl ?_
        refine wq_iload_n k2 rfl ?_
        refine wq_lload k5 rfl ?_
        refine wq_lload_n k3 rfl ?_
        obtain ⟨v48, m44, q47, hD⟩ := vb_of hD
        refine wm_csL (fun _ _ => rfl) (c_joined (by omega) hr39 pl1 pl2 pl5 pl3 q47) rfl rfl rfl (fun h45 hr46 pp49 => ?_)
        exact c_m_join_109_b hd hr46 pp49 hD
      · rw [if_neg c43] at hD
        refine wq_iload_n k1 rfl ?_
        refine wq_lload k5 rfl ?_
        refine wq_lload_n k3 rfl ?_
        obtain ⟨v54, m50, q53, hD⟩ := vb_of hD
        refine wm_csL (fun _ _ => rfl) (c_compared (by omega) hr39 pl1 pl5 pl3 q53) rfl rfl rfl (fun h51 hr52 pp55 => ?_)
        refine wq_goto rfl rfl ?_
        exact c_m_join_109_b hd hr52 pp55 hD
    · rw [if_pos c36] at hD
      refine wq_aload_n k0 rfl ?_
      refine wq_lload k5 rfl ?_
      refine wq_lconst (x := 0) (by decide) rfl ?_
      refine wq_lc_lt pl5 ⟨by decide, by decide⟩ rfl rfl rfl rfl (fun c56 => ?_) (fun c56 => ?_)
      · rw [if_pos c56] at hD
        exact c_m_join_76_b hd hr31 hD
      · rw [if_neg (Int.not_lt.mpr c56)] at hD
        refine wq_lload k5 rfl ?_
        refine wq_ldc2 (x := 64) (by decide) rfl ?_
        refine wq_lc_ge pl5 ⟨by decide, by decide⟩ rfl rfl rfl rfl (fun c57 => ?_) (fun c57 => ?_)
        · rw [if_neg (Int.not_lt.mpr c57)] at hD
          exact c_m_join_76_b hd hr31 hD
        · rw [if_pos c57] at hD
          refine wq_lload_n k3 rfl ?_
          refine wq_lload k5 rfl ?_
          refine wq_l2i rfl ?_
          refine wq_lshr rfl ?_
          refine wq_lconst (x := 1) (by decide) rfl ?_
          refine wq_land rfl ?_
          refine wq_goto rfl rfl ?_
          exact c_m_join_77_b hd hr31 (InL_toInt _) hD
  · rw [if_neg c35] at hD
    cases hD
    exact wq_return rfl ⟨_, rfl, hr31⟩
def m_join_34 (l1 : Int) (l2 : Int) (l3 : Int) (l5 : Int) (m : MS) : Option MS := m_join_35 l1 l2 l3 l5 0 m
theorem c_m_join_34_b {dd : Nat} (hd : 2 ≤ dd) {h0 : RHeap} {mF : MS} {la : RLoc} {h : RHeap} {m : MS} {l1 l2 l3 l5 : Int} (k0 : rx_look la 0 = some (.ref 170)) (k1 : rx_look la 1 = some (wvi l1)) (k2 : rx_look la 2 = some (wvi l2)) (k3 : rx_look la 3 = some (wvl l3)) (k5 : rx_look la 5 = some (wvl l5)) (hr : RM h0 h m) (pl1 : InI l1) (pl2 : InI l2) (pl3 : InL l3) (pl5 : InL l5) (hD : m_join_34 l1 l2 l3 l5 m = some mF) : Wq O F (Cd O F rp_P dd) (7, 0, rw_X12_join, []) (rx_at rw_X12_join 34) la [.ref 170] h (QN h0 mF) := by
  unfold m_join_34 at hD
  refine wq_iconst rfl ?_
  exact c_m_join_35_b hd k0 k1 k2 k3 k5 hr pl1 pl2 pl3 pl5 (Or.inl rfl) hD
def m_join_24 (l1 : Int) (l2 : Int) (l3 : Int) (l5 : Int) (m : MS) : Option MS := if l3 = 0 then m_join_35 l1 l2 l3 l5 1 m else m_join_34 l1 l2 l3 l5 m
theorem c_m_join_24_b {dd : Nat} (hd : 2 ≤ dd) {h0 : RHeap} {mF : MS} {la : RLoc} {h : RHeap} {m : MS} {l1 l2 l3 l5 : Int} (k0 : rx_look la 0 = some (.ref 170)) (k1 : rx_look la 1 = some (wvi l1)) (k2 : rx_look la 2 = some (wvi l2)) (k3 : rx_look la 3 = some (wvl l3)) (k5 : rx_look la 5 = some (wvl l5)) (hr : RM h0 h m) (pl1 : InI l1) (pl2 : InI l2) (pl3 : InL l3) (pl5 : InL l5) (hD : m_join_24 l1 l2 l3 l5 m = some mF) : Wq O F (Cd O F rp_P dd) (7, 0, rw_X12_join, []) (rx_at rw_X12_join 24) la [.ref 170] h (QN h0 mF) := by
  unfold m_join_24 at hD
  refine wq_lload_n k3 rfl ?_
  refine wq_lconst (x := 0) (by decide) rfl ?_
  refine wq_lc_ne pl3 ⟨by decide, by decide⟩ rfl rfl rfl rfl (fun c28 => ?_) (fun c28 => ?_)
  · rw [if_neg c28] at hD
    exact c_m_join_34_b hd k0 k1 k2 k3 k5 hr pl1 pl2 pl3 pl5 hD
  · rw [if_pos c28] at hD
    refine wq_iconst rfl ?_
    refine wq_goto rfl rfl ?_
    exact c_m_join_35_b hd k0 k1 k2 k3 k5 hr pl1 pl2 pl3 pl5 (Or.inr rfl) hD
def m_join (l1 : Int) (l2 : Int) (m : MS) : Option MS := vb (m_pop m) (fun v5 m1 => vb (m_pop m1) (fun v17 m13 => if l1 = 51 then m_join_24 l1 l2 v5 v17 m13 else if l1 = 52 then m_join_24 l1 l2 v5 v17 m13 else m_join_34 l1 l2 v5 v17 m13))
theorem c_m_join_b {dd : Nat} (hd : 2 ≤ dd) {h0 : RHeap} {mF : MS} {la : RLoc} {h : RHeap} {m : MS} {l1 l2 : Int} (k0 : rx_look la 0 = some (.ref 170)) (k1 : rx_look la 1 = some (wvi l1)) (k2 : rx_look la 2 = some (wvi l2)) (hr : RM h0 h m) (pl1 : InI l1) (pl2 : InI l2) (hD : m_join l1 l2 m = some mF) : Wq O F (Cd O F rp_P dd) (7, 0, rw_X12_join, []) (rx_at rw_X12_join 0) la [] h (QN h0 mF) := by
  unfold m_join at hD
  refine wq_aload_n k0 rfl ?_
  obtain ⟨v5, m1, q4, hD⟩ := vb_of hD
  refine wm_cvL hr (c_pop (by omega) hr q4) rfl rfl rfl (fun h2 hr3 pp6 => ?_)
  refine wl_lstore_n rfl rfl (fun la7 kk8 t9 => ?_)
  have kk10 := t9 0 _ ⟨by decide, by decide⟩ (Or.inr rfl) k0
  have kk11 := t9 1 _ ⟨by decide, by decide⟩ (Or.inr rfl) k1
  have kk12 := t9 2 _ ⟨by decide, by decide⟩ (Or.inr rfl) k2
  refine wq_aload_n kk10 rfl ?_
  obtain ⟨v17, m13, q16, hD⟩ := vb_of hD
  refine wm_cvL hr3 (c_pop (by omega) hr3 q16) rfl rfl rfl (fun h14 hr15 pp18 => ?_)
  refine wl_lstore rfl rfl (fun la19 kk20 t21 => ?_)
  have kk22 := t21 0 _ ⟨by decide, by decide⟩ (Or.inr rfl) kk10
  have kk23 := t21 1 _ ⟨by decide, by decide⟩ (Or.inr rfl) kk11
  have kk24 := t21 2 _ ⟨by decide, by decide⟩ (Or.inr rfl) kk12
  have kk25 := t21 3 _ ⟨by decide, by decide⟩ (Or.inl (by decide)) kk8
  refine wq_aload_n kk22 rfl ?_
  refine wq_iload_n kk23 rfl ?_
  refine wq_bipush (by decide) rfl ?_
  refine wq_icmp_eq pl1 ⟨by decide, by decide⟩ rfl rfl rfl (fun c26 => ?_) (fun c26 => ?_)
  · rw [if_pos c26] at hD
    exact c_m_join_24_b hd kk22 kk23 kk24 kk25 kk20 hr15 pl1 pl2 pp6 pp18 hD
  · rw [if_neg c26] at hD
    refine wq_iload_n kk23 rfl ?_
    refine wq_bipush (by decide) rfl ?_
    refine wq_icmp_ne pl1 ⟨by decide, by decide⟩ rfl rfl rfl (fun c27 => ?_) (fun c27 => ?_)
    · rw [if_neg c27] at hD
      exact c_m_join_34_b hd kk22 kk23 kk24 kk25 kk20 hr15 pl1 pl2 pp6 pp18 hD
    · rw [if_pos c27] at hD
      exact c_m_join_24_b hd kk22 kk23 kk24 kk25 kk20 hr15 pl1 pl2 pp6 pp18 hD
theorem c_join {d : Nat} (hd : 3 ≤ d) {h0 h : RHeap} {m : MS} {l1 l2 : Int} {mF : MS} (hr : RM h0 h m) (pl1 : InI l1) (pl2 : InI l2) (hD : m_join l1 l2 m = some mF) : Cq (Cd O F rp_P d) 241 [.ref 170, wvi l1, wvi l2] h (QN h0 mF) := by
  refine cq_of (I := (7, 0, rw_X12_join, [])) rfl rfl (by omega) ?_
  exact c_m_join_b (by omega) rfl rfl rfl hr pl1 pl2 hD
def m_leave_91 (m : MS) : Option MS := some m
theorem c_m_leave_91_b {dd : Nat} (hd : 2 ≤ dd) {h0 : RHeap} {mF : MS} {la : RLoc} {h : RHeap} {m : MS} (hr : RM h0 h m) (hD : m_leave_91 m = some mF) : Wq O F (Cd O F rp_P dd) (3, 0, rw_X12_leave, []) (rx_at rw_X12_leave 91) la [] h (QN h0 mF) := by
  unfold m_leave_91 at hD
  cases hD
  exact wq_return rfl ⟨_, rfl, hr⟩
def m_leave_74 (l2 : Int) (s1 : Int) (m : MS) : Option MS := vb (m_isWrong s1 1 m) (fun v44 m40 => if v44 = 0 then ck l2 3000 (nb (m_push (m40 85 l2) m40) (fun m50 => m_leave_91 m50)) else m_leave_91 m40)
theorem c_m_leave_74_b {dd : Nat} (hd : 2 ≤ dd) {h0 : RHeap} {mF : MS} {la : RLoc} {h : RHeap} {m : MS} {l2 s1 : Int} (k0 : rx_look la 0 = some (.ref 170)) (k2 : rx_look la 2 = some (wvi l2)) (hr : RM h0 h m) (pl2 : InI l2) (ps1 : (s1 = 0 ∨ s1 = 1)) (hD : m_leave_74 l2 s1 m = some mF) : Wq O F (Cd O F rp_P dd) (3, 0, rw_X12_leave, []) (rx_at rw_X12_leave 74) la [wvi s1, .ref 170] h (QN h0 mF) := by
  unfold m_leave_74 at hD
  refine wq_iconst rfl ?_
  obtain ⟨v44, m40, q43, hD⟩ := vb_of hD
  refine wm_cvZ hr (c_isWrong (by omega) hr ps1 ⟨by decide, by decide⟩ q43) rfl rfl rfl (fun h41 hr42 pp45 => ?_)
  refine wq_if_ne (InI_z pp45) rfl rfl rfl (fun c46 => ?_) (fun c46 => ?_)
  · rw [if_neg c46] at hD
    exact c_m_leave_91_b hd hr42 hD
  · rw [if_pos c46] at hD
    refine wq_aload_n k0 rfl ?_
    refine wq_aload_n k0 rfl ?_
    refine wm_gfa (c := 1) hr42 rfl rfl ?_
    refine wq_iload_n k2 rfl ?_
    obtain ⟨g47, g48, hD⟩ := ck_of hD
    refine wm_all (f := 85) hr42 rfl pl2 g47 g48 rfl (fun pp49 => ?_)
    obtain ⟨m50, q53, hD⟩ := nb_of hD
    refine wm_cvN hr42 (c_push (by omega) hr42 pp49 q53) rfl rfl rfl (fun h51 hr52 => ?_)
    exact c_m_leave_91_b hd hr52 hD
def m_leave (l1 : Int) (m : MS) : Option MS := wlet (mset m 89 0 (i32 ((m 89 0) - 1))) (fun m2 => ck (m2 89 0) 200 (wlet (mset m2 87 0 (m2 91 (m2 89 0))) (fun m15 => ck (m15 89 0) 200 (wlet (mset m15 98 0 (m15 94 (m15 89 0))) (fun m23 => if l1 = 0 then wlet (mset m23 101 0 0) (fun m36 => m_leave_91 m36) else ck l1 240 (if (m23 78 l1) = 0 then m_leave_91 m23 else ck (m2 91 (m2 89 0)) 3000 (if (m23 86 (m2 91 (m2 89 0))) = 0 then m_leave_74 (m2 91 (m2 89 0)) 1 m23 else m_leave_74 (m2 91 (m2 89 0)) 0 m23)))))))
theorem c_m_leave_b {dd : Nat} (hd : 2 ≤ dd) {h0 : RHeap} {mF : MS} {la : RLoc} {h : RHeap} {m : MS} {l1 : Int} (k0 : rx_look la 0 = some (.ref 170)) (k1 : rx_look la 1 = some (wvi l1)) (hr : RM h0 h m) (pl1 : InI l1) (hD : m_leave l1 m = some mF) : Wq O F (Cd O F rp_P dd) (3, 0, rw_X12_leave, []) (rx_at rw_X12_leave 0) la [] h (QN h0 mF) := by
  unfold m_leave at hD
  refine wq_aload_n k0 rfl ?_
  refine wq_dup rfl rfl ?_
  refine wm_gfi hr rfl rfl (fun pp1 => ?_)
  refine wq_iconst rfl ?_
  refine wq_isub rfl ?_
  obtain ⟨m2, e3, hD⟩ := wlet_of hD
  refine wm_pfi hr rfl rfl (InI_i32 _) rfl (fun h4 hr5 => ?_)
  rw [← e3] at hr5
  refine wq_aload_n k0 rfl ?_
  refine wm_gfa (c := 0) hr5 rfl rfl ?_
  refine wq_aload_n k0 rfl ?_
  refine wm_gfi hr5 rfl rfl (fun pp6 => ?_)
  obtain ⟨g7, g8, hD⟩ := ck_of hD
  refine wm_ali (f := 91) hr5 rfl pp6 g7 g8 rfl (fun pp9 => ?_)
  refine wl_istore_n rfl rfl (fun la10 kk11 t12 => ?_)
  have kk13 := t12 0 _ (by decide) (Or.inr rfl) k0
  have kk14 := t12 1 _ (by decide) (Or.inr rfl) k1
  refine wq_aload_n kk13 rfl ?_
  refine wq_iload_n kk11 rfl ?_
  obtain ⟨m15, e16, hD⟩ := wlet_of hD
  refine wm_pfi hr5 rfl rfl pp9 rfl (fun h17 hr18 => ?_)
  rw [← e16] at hr18
  refine wq_aload_n kk13 rfl ?_
  refine wq_aload_n kk13 rfl ?_
  refine wm_gfa (c := 0) hr18 rfl rfl ?_
  refine wq_aload_n kk13 rfl ?_
  refine wm_gfi hr18 rfl rfl (fun pp19 => ?_)
  obtain ⟨g20, g21, hD⟩ := ck_of hD
  refine wm_ali (f := 94) hr18 rfl pp19 g20 g21 rfl (fun pp22 => ?_)
  obtain ⟨m23, e24, hD⟩ := wlet_of hD
  refine wm_pfi hr18 rfl rfl pp22 rfl (fun h25 hr26 => ?_)
  rw [← e24] at hr26
  refine wq_iload_n kk14 rfl ?_
  refine wq_if_ne pl1 rfl rfl rfl (fun c27 => ?_) (fun c27 => ?_)
  · rw [if_neg c27] at hD
    refine wq_aload_n kk13 rfl ?_
    refine wm_gfa (c := 3) hr26 rfl rfl ?_
    refine wq_iload_n kk14 rfl ?_
    obtain ⟨g28, g29, hD⟩ := ck_of hD
    refine wm_alz (f := 78) hr26 rfl pl1 g28 g29 rfl (fun pp30 => ?_)
    refine wq_if_eq (InI_z pp30) rfl rfl rfl (fun c31 => ?_) (fun c31 => ?_)
    · rw [if_pos c31] at hD
      exact c_m_leave_91_b hd hr26 hD
    · rw [if_neg c31] at hD
      refine wq_aload_n kk13 rfl ?_
      refine wq_aload_n kk13 rfl ?_
      refine wm_gfa (c := 3) hr26 rfl rfl ?_
      refine wq_iload_n kk11 rfl ?_
      obtain ⟨g32, g33, hD⟩ := ck_of hD
      refine wm_alz (f := 86) hr26 rfl pp9 g32 g33 rfl (fun pp34 => ?_)
      refine wq_if_ne (InI_z pp34) rfl rfl rfl (fun c35 => ?_) (fun c35 => ?_)
      · rw [if_neg c35] at hD
        refine wq_iconst rfl ?_
        exact c_m_leave_74_b hd kk13 kk11 hr26 pp9 (Or.inl rfl) hD
      · rw [if_pos c35] at hD
        refine wq_iconst rfl ?_
        refine wq_goto rfl rfl ?_
        exact c_m_leave_74_b hd kk13 kk11 hr26 pp9 (Or.inr rfl) hD
  · rw [if_pos c27] at hD
    refine wq_aload_n kk13 rfl ?_
    refine wq_iconst rfl ?_
    obtain ⟨m36, e37, hD⟩ := wlet_of hD
    refine wm_pfi hr26 rfl rfl ⟨by decide, by decide⟩ rfl (fun h38 hr39 => ?_)
    rw [← e37] at hr39
    refine wq_goto rfl rfl ?_
    exact c_m_leave_91_b hd hr39 hD
theorem c_leave {d : Nat} (hd : 3 ≤ d) {h0 h : RHeap} {m : MS} {l1 : Int} {mF : MS} (hr : RM h0 h m) (pl1 : InI l1) (hD : m_leave l1 m = some mF) : Cq (Cd O F rp_P d) 247 [.ref 170, wvi l1] h (QN h0 mF) := by
  refine cq_of (I := (3, 0, rw_X12_leave, [])) rfl rfl (by omega) ?_
  exact c_m_leave_b (by omega) rfl rfl hr pl1 hD
def m_putByte_51 (m : MS) : Option MS := some m
theorem c_m_putByte_51_b {dd : Nat} (hd : 2 ≤ dd) {h0 : RHeap} {mF : MS} {la : RLoc} {h : RHeap} {m : MS} (hr : RM h0 h m) (hD : m_putByte_51 m = some mF) : Wq O F (Cd O F rp_P dd) (2, 0, rw_X12_putByte, []) (rx_at rw_X12_putByte 51) la [] h (QN h0 mF) := by
  unfold m_putByte_51 at hD
  cases hD
  exact wq_return rfl ⟨_, rfl, hr⟩
def m_putByte_23 (l1 : Int) (s1 : Int) (m : MS) : Option MS := vb (m_isWrong s1 6 m) (fun v9 m5 => if v9 = 0 then ck (m5 84 0) 1500 (wlet (mset m5 83 (m5 84 0) l1) (fun m15 => wlet (mset m15 84 0 (i32 ((m15 84 0) + 1))) (fun m20 => m_putByte_51 m20))) else m_putByte_51 m5)
theorem c_m_putByte_23_b {dd : Nat} (hd : 2 ≤ dd) {h0 : RHeap} {mF : MS} {la : RLoc} {h : RHeap} {m : MS} {l1 s1 : Int} (k0 : rx_look la 0 = some (.ref 170)) (k1 : rx_look la 1 = some (wvi l1)) (hr : RM h0 h m) (pl1 : InI l1) (ps1 : (s1 = 0 ∨ s1 = 1)) (hD : m_putByte_23 l1 s1 m = some mF) : Wq O F (Cd O F rp_P dd) (2, 0, rw_X12_putByte, []) (rx_at rw_X12_putByte 23) la [wvi s1, .ref 170] h (QN h0 mF) := by
  unfold m_putByte_23 at hD
  refine wq_bipush (by decide) rfl ?_
  obtain ⟨v9, m5, q8, hD⟩ := vb_of hD
  refine wm_cvZ hr (c_isWrong (by omega) hr ps1 ⟨by decide, by decide⟩ q8) rfl rfl rfl (fun h6 hr7 pp10 => ?_)
  refine wq_if_ne (InI_z pp10) rfl rfl rfl (fun c11 => ?_) (fun c11 => ?_)
  · rw [if_neg c11] at hD
    exact c_m_putByte_51_b hd hr7 hD
  · rw [if_pos c11] at hD
    refine wq_aload_n k0 rfl ?_
    refine wm_gfa (c := 0) hr7 rfl rfl ?_
    refine wq_aload_n k0 rfl ?_
    refine wm_gfi hr7 rfl rfl (fun pp12 => ?_)
    refine wq_iload_n k1 rfl ?_
    obtain ⟨g13, g14, hD⟩ := ck_of hD
    obtain ⟨m15, e16, hD⟩ := wlet_of hD
    refine wm_asi (f := 83) hr7 rfl pp12 g13 g14 pl1 rfl (fun h17 hr18 => ?_)
    rw [← e16] at hr18
    refine wq_aload_n k0 rfl ?_
    refine wq_dup rfl rfl ?_
    refine wm_gfi hr18 rfl rfl (fun pp19 => ?_)
    refine wq_iconst rfl ?_
    refine wq_iadd rfl ?_
    obtain ⟨m20, e21, hD⟩ := wlet_of hD
    refine wm_pfi hr18 rfl rfl (InI_i32 _) rfl (fun h22 hr23 => ?_)
    rw [← e21] at hr23
    exact c_m_putByte_51_b hd hr23 hD
def m_putByte (l1 : Int) (m : MS) : Option MS := if (m 101 0) < 0 then if (m 84 0) = 1500 then m_putByte_23 l1 1 m else m_putByte_23 l1 0 m else m_putByte_51 m
theorem c_m_putByte_b {dd : Nat} (hd : 2 ≤ dd) {h0 : RHeap} {mF : MS} {la : RLoc} {h : RHeap} {m : MS} {l1 : Int} (k0 : rx_look la 0 = some (.ref 170)) (k1 : rx_look la 1 = some (wvi l1)) (hr : RM h0 h m) (pl1 : InI l1) (hD : m_putByte l1 m = some mF) : Wq O F (Cd O F rp_P dd) (2, 0, rw_X12_putByte, []) (rx_at rw_X12_putByte 0) la [] h (QN h0 mF) := by
  unfold m_putByte at hD
  refine wq_aload_n k0 rfl ?_
  refine wm_gfi hr rfl rfl (fun pp1 => ?_)
  refine wq_if_ge pp1 rfl rfl rfl (fun c2 => ?_) (fun c2 => ?_)
  · rw [if_neg (Int.not_lt.mpr c2)] at hD
    exact c_m_putByte_51_b hd hr hD
  · rw [if_pos c2] at hD
    refine wq_aload_n k0 rfl ?_
    refine wq_aload_n k0 rfl ?_
    refine wm_gfi hr rfl rfl (fun pp3 => ?_)
    refine wq_sipush (by decide) rfl ?_
    refine wq_icmp_ne pp3 ⟨by decide, by decide⟩ rfl rfl rfl (fun c4 => ?_) (fun c4 => ?_)
    · rw [if_neg c4] at hD
      refine wq_iconst rfl ?_
      exact c_m_putByte_23_b hd k0 k1 hr pl1 (Or.inl rfl) hD
    · rw [if_pos c4] at hD
      refine wq_iconst rfl ?_
      refine wq_goto rfl rfl ?_
      exact c_m_putByte_23_b hd k0 k1 hr pl1 (Or.inr rfl) hD
theorem c_putByte {d : Nat} (hd : 3 ≤ d) {h0 h : RHeap} {m : MS} {l1 : Int} {mF : MS} (hr : RM h0 h m) (pl1 : InI l1) (hD : m_putByte l1 m = some mF) : Cq (Cd O F rp_P d) 264 [.ref 170, wvi l1] h (QN h0 mF) := by
  refine cq_of (I := (2, 0, rw_X12_putByte, [])) rfl rfl (by omega) ?_
  exact c_m_putByte_b (by omega) rfl rfl hr pl1 hD
def m_outsideAt_4 (g : Nat) : Nat → Int → Int → Int → MS → Option (Int × MS)
  | 0, _, _, _, _ => none
  | n + 1, l1, l2, l3, m => if l3 < l1 then ck l2 71 (m_outsideAt_4 g n l1 (i32 ((i32 (l2 + (m 1 l2))) + 1)) (i32 (l3 + 1)) m) else some (l2, m)
theorem c_m_outsideAt_4 {dd : Nat} (hd : 0 ≤ dd) {g : Nat} {h0 : RHeap} {vF : Int} {mF : MS} : ∀ (n : Nat) {la : RLoc} {h : RHeap} {m : MS} {l1 l2 l3 : Int}, rx_look la 0 = some (.ref 170) → rx_look la 1 = some (wvi l1) → rx_look la 2 = some (wvi l2) → rx_look la 3 = some (wvi l3) → RM h0 h m → InI l1 → InI l2 → InI l3 → m_outsideAt_4 g n l1 l2 l3 m = some (vF, mF) → Wq O F (Cd O F rp_P dd) (4, 1, rw_X12_outsideAt, []) (rx_at rw_X12_outsideAt 4) la [] h (QV 0 h0 vF mF) := by
  intro n
  induction n with
  | zero =>
    intro la h m l1 l2 l3 k0 k1 k2 k3 hr pl1 pl2 pl3 hD
    unfold m_outsideAt_4 at hD
    cases hD
  | succ n ih =>
    intro la h m l1 l2 l3 k0 k1 k2 k3 hr pl1 pl2 pl3 hD
    unfold m_outsideAt_4 at hD
    refine wq_iload_n k3 rfl ?_
    refine wq_iload_n k1 rfl ?_
    refine wq_icmp_ge pl3 pl1 rfl rfl rfl (fun c12 => ?_) (fun c12 => ?_)
    · rw [if_neg (Int.not_lt.mpr c12)] at hD
      refine wq_iload_n k2 rfl ?_
      cases hD
      exact wq_ireturn rfl ⟨_, rfl, hr, pl2⟩
    · rw [if_pos c12] at hD
      refine wq_iload_n k2 rfl ?_
      refine wq_aload_n k0 rfl ?_
      refine wm_gfa (c := 0) hr rfl rfl ?_
      refine wq_iload_n k2 rfl ?_
      obtain ⟨g13, g14, hD⟩ := ck_of hD
      refine wm_ali (f := 1) hr rfl pl2 g13 g14 rfl (fun pp15 => ?_)
      refine wq_iadd rfl ?_
      refine wq_iconst rfl ?_
      refine wq_iadd rfl ?_
      refine wl_istore_n rfl rfl (fun la16 kk17 t18 => ?_)
      have kk19 := t18 0 _ (by decide) (Or.inr rfl) k0
      have kk20 := t18 1 _ (by decide) (Or.inr rfl) k1
      have kk21 := t18 3 _ (by decide) (Or.inr rfl) k3
      refine wl_iinc kk21 rfl rfl (fun la22 kk23 t24 => ?_)
      have kk25 := t24 0 _ (by decide) (Or.inr rfl) kk19
      have kk26 := t24 1 _ (by decide) (Or.inr rfl) kk20
      have kk27 := t24 2 _ (by decide) (Or.inr rfl) kk17
      refine wq_goto rfl rfl ?_
      exact ih kk25 kk26 kk27 kk23 hr pl1 (InI_i32 _) (InI_i32 _) hD
def m_outsideAt (g : Nat) (l1 : Int) (m : MS) : Option (Int × MS) := m_outsideAt_4 g g l1 0 0 m
theorem c_m_outsideAt_b {dd : Nat} (hd : 0 ≤ dd) {g : Nat} {h0 : RHeap} {vF : Int} {mF : MS} {la : RLoc} {h : RHeap} {m : MS} {l1 : Int} (k0 : rx_look la 0 = some (.ref 170)) (k1 : rx_look la 1 = some (wvi l1)) (hr : RM h0 h m) (pl1 : InI l1) (hD : m_outsideAt g l1 m = some (vF, mF)) : Wq O F (Cd O F rp_P dd) (4, 1, rw_X12_outsideAt, []) (rx_at rw_X12_outsideAt 0) la [] h (QV 0 h0 vF mF) := by
  unfold m_outsideAt at hD
  refine wq_iconst rfl ?_
  refine wl_istore_n rfl rfl (fun la1 kk2 t3 => ?_)
  have kk4 := t3 0 _ (by decide) (Or.inr rfl) k0
  have kk5 := t3 1 _ (by decide) (Or.inr rfl) k1
  refine wq_iconst rfl ?_
  refine wl_istore_n rfl rfl (fun la6 kk7 t8 => ?_)
  have kk9 := t8 0 _ (by decide) (Or.inr rfl) kk4
  have kk10 := t8 1 _ (by decide) (Or.inr rfl) kk5
  have kk11 := t8 2 _ (by decide) (Or.inr rfl) kk2
  exact c_m_outsideAt_4 hd g kk9 kk10 kk11 kk7 hr pl1 ⟨by decide, by decide⟩ ⟨by decide, by decide⟩ hD
theorem c_outsideAt {d : Nat} (hd : 1 ≤ d) {g : Nat} {h0 h : RHeap} {m : MS} {l1 : Int} {vF : Int} {mF : MS} (hr : RM h0 h m) (pl1 : InI l1) (hD : m_outsideAt g l1 m = some (vF, mF)) : Cq (Cd O F rp_P d) 258 [.ref 170, wvi l1] h (QV 0 h0 vF mF) := by
  refine cq_of (I := (4, 1, rw_X12_outsideAt, [])) rfl rfl (by omega) ?_
  exact c_m_outsideAt_b (by omega) rfl rfl hr pl1 hD
def m_putNumber_42 (g : Nat) : Nat → Int → Int → MS → Option MS
  | 0, _, _, _ => none
  | n + 1, l3, l5, m => if 0 < l5 then cz l5 (cz 10 (nb (m_putByte (i32 (48 + (i32 (l_rem (l_div l3 l5) 10)))) m) (fun m29 => cz 10 (m_putNumber_42 g n l3 (l_div l5 10) m29)))) else some m
theorem c_m_putNumber_42 {dd : Nat} (hd : 3 ≤ dd) {g : Nat} {h0 : RHeap} {mF : MS} : ∀ (n : Nat) {la : RLoc} {h : RHeap} {m : MS} {l3 l5 : Int}, rx_look la 0 = some (.ref 170) → rx_look la 3 = some (wvl l3) → rx_look la 5 = some (wvl l5) → RM h0 h m → InL l3 → InL l5 → m_putNumber_42 g n l3 l5 m = some mF → Wq O F (Cd O F rp_P dd) (7, 0, rw_X12_putNumber, []) (rx_at rw_X12_putNumber 42) la [] h (QN h0 mF) := by
  intro n
  induction n with
  | zero =>
    intro la h m l3 l5 k0 k3 k5 hr pl3 pl5 hD
    unfold m_putNumber_42 at hD
    cases hD
  | succ n ih =>
    intro la h m l3 l5 k0 k3 k5 hr pl3 pl5 hD
    unfold m_putNumber_42 at hD
    refine wq_lload k5 rfl ?_
    refine wq_lconst (x := 0) (by decide) rfl ?_
    refine wq_lc_le pl5 ⟨by decide, by decide⟩ rfl rfl rfl rfl (fun c26 => ?_) (fun c26 => ?_)
    · rw [if_neg (Int.not_lt.mpr c26)] at hD
      cases hD
      exact wq_return rfl ⟨_, rfl, hr⟩
    · rw [if_pos c26] at hD
      refine wq_aload_n k0 rfl ?_
      refine wq_bipush (by decide) rfl ?_
      refine wq_lload_n k3 rfl ?_
      refine wq_lload k5 rfl ?_
      obtain ⟨g27, hD⟩ := cz_of hD
      refine wq_ldiv pl5 g27 rfl ?_
      refine wq_ldc2 (x := 10) (by decide) rfl ?_
      obtain ⟨g28, hD⟩ := cz_of hD
      refine wq_lrem ⟨by decide, by decide⟩ g28 rfl ?_
      refine wq_l2i rfl ?_
      refine wq_iadd rfl ?_
      obtain ⟨m29, q32, hD⟩ := nb_of hD
      refine wm_cvN hr (c_putByte (by omega) hr (InI_i32 _) q32) rfl rfl rfl (fun h30 hr31 => ?_)
      refine wq_lload k5 rfl ?_
      refine wq_ldc2 (x := 10) (by decide) rfl ?_
      obtain ⟨g33, hD⟩ := cz_of hD
      refine wq_ldiv ⟨by decide, by decide⟩ g33 rfl ?_
      refine wl_lstore rfl rfl (fun la34 kk35 t36 => ?_)
      have kk37 := t36 0 _ ⟨by decide, by decide⟩ (Or.inr rfl) k0
      have kk38 := t36 3 _ ⟨by decide, by decide⟩ (Or.inl (by decide)) k3
      refine wq_goto rfl rfl ?_
      exact ih kk37 kk38 kk35 hr31 pl3 (InL_toInt _) hD
def m_putNumber_20 (g : Nat) : Nat → Int → Int → MS → Option MS
  | 0, _, _, _ => none
  | n + 1, l3, l5, m => if l3 < (i64 (l5 * 10)) then m_putNumber_42 g g l3 l5 m else m_putNumber_20 g n l3 (i64 (l5 * 10)) m
theorem c_m_putNumber_20 {dd : Nat} (hd : 3 ≤ dd) {g : Nat} {h0 : RHeap} {mF : MS} : ∀ (n : Nat) {la : RLoc} {h : RHeap} {m : MS} {l3 l5 : Int}, rx_look la 0 = some (.ref 170) → rx_look la 3 = some (wvl l3) → rx_look la 5 = some (wvl l5) → RM h0 h m → InL l3 → InL l5 → m_putNumber_20 g n l3 l5 m = some mF → Wq O F (Cd O F rp_P dd) (7, 0, rw_X12_putNumber, []) (rx_at rw_X12_putNumber 20) la [] h (QN h0 mF) := by
  intro n
  induction n with
  | zero =>
    intro la h m l3 l5 k0 k3 k5 hr pl3 pl5 hD
    unfold m_putNumber_20 at hD
    cases hD
  | succ n ih =>
    intro la h m l3 l5 k0 k3 k5 hr pl3 pl5 hD
    unfold m_putNumber_20 at hD
    refine wq_lload k5 rfl ?_
    refine wq_ldc2 (x := 10) (by decide) rfl ?_
    refine wq_lmul rfl ?_
    refine wq_lload_n k3 rfl ?_
    refine wq_lc_gt (InL_i64 _) pl3 rfl rfl rfl rfl (fun c20 => ?_) (fun c20 => ?_)
    · rw [if_pos c20] at hD
      exact c_m_putNumber_42 hd g k0 k3 k5 hr pl3 pl5 hD
    · rw [if_neg (Int.not_lt.mpr c20)] at hD
      refine wq_lload k5 rfl ?_
      refine wq_ldc2 (x := 10) (by decide) rfl ?_
      refine wq_lmul rfl ?_
      refine wl_lstore rfl rfl (fun la21 kk22 t23 => ?_)
      have kk24 := t23 0 _ ⟨by decide, by decide⟩ (Or.inr rfl) k0
      have kk25 := t23 3 _ ⟨by decide, by decide⟩ (Or.inl (by decide)) k3
      refine wq_goto rfl rfl ?_
      exact ih kk24 kk25 kk22 hr pl3 (InL_i64 _) hD
def m_putNumber_17 (g : Nat) (l3 : Int) (m : MS) : Option MS := m_putNumber_20 g g l3 1 m
theorem c_m_putNumber_17_b {dd : Nat} (hd : 3 ≤ dd) {g : Nat} {h0 : RHeap} {mF : MS} {la : RLoc} {h : RHeap} {m : MS} {l3 : Int} (k0 : rx_look la 0 = some (.ref 170)) (k3 : rx_look la 3 = some (wvl l3)) (hr : RM h0 h m) (pl3 : InL l3) (hD : m_putNumber_17 g l3 m = some mF) : Wq O F (Cd O F rp_P dd) (7, 0, rw_X12_putNumber, []) (rx_at rw_X12_putNumber 17) la [] h (QN h0 mF) := by
  unfold m_putNumber_17 at hD
  refine wq_lconst (x := 1) (by decide) rfl ?_
  refine wl_lstore rfl rfl (fun la15 kk16 t17 => ?_)
  have kk18 := t17 0 _ ⟨by decide, by decide⟩ (Or.inr rfl) k0
  have kk19 := t17 3 _ ⟨by decide, by decide⟩ (Or.inl (by decide)) k3
  exact c_m_putNumber_20 hd g kk18 kk19 kk16 hr pl3 ⟨by decide, by decide⟩ hD
def m_putNumber (g : Nat) (l1 : Int) (m : MS) : Option MS := if l1 < 0 then nb (m_putByte 45 m) (fun m7 => m_putNumber_17 g (i64 (-l1)) m7) else m_putNumber_17 g l1 m
theorem c_m_putNumber_b {dd : Nat} (hd : 3 ≤ dd) {g : Nat} {h0 : RHeap} {mF : MS} {la : RLoc} {h : RHeap} {m : MS} {l1 : Int} (k0 : rx_look la 0 = some (.ref 170)) (k1 : rx_look la 1 = some (wvl l1)) (hr : RM h0 h m) (pl1 : InL l1) (hD : m_putNumber g l1 m = some mF) : Wq O F (Cd O F rp_P dd) (7, 0, rw_X12_putNumber, []) (rx_at rw_X12_putNumber 0) la [] h (QN h0 mF) := by
  unfold m_putNumber at hD
  refine wq_lload_n k1 rfl ?_
  refine wl_lstore_n rfl rfl (fun la1 kk2 t3 => ?_)
  have kk4 := t3 0 _ ⟨by decide, by decide⟩ (Or.inr rfl) k0
  have kk5 := t3 1 _ ⟨by decide, by decide⟩ (Or.inl (by decide)) k1
  refine wq_lload_n kk5 rfl ?_
  refine wq_lconst (x := 0) (by decide) rfl ?_
  refine wq_lc_ge pl1 ⟨by decide, by decide⟩ rfl rfl rfl rfl (fun c6 => ?_) (fun c6 => ?_)
  · rw [if_neg (Int.not_lt.mpr c6)] at hD
    exact c_m_putNumber_17_b hd kk4 kk2 hr pl1 hD
  · rw [if_pos c6] at hD
    refine wq_aload_n kk4 rfl ?_
    refine wq_bipush (by decide) rfl ?_
    obtain ⟨m7, q10, hD⟩ := nb_of hD
    refine wm_cvN hr (c_putByte (by omega) hr ⟨by decide, by decide⟩ q10) rfl rfl rfl (fun h8 hr9 => ?_)
    refine wq_lload_n kk2 rfl ?_
    refine wq_lneg rfl ?_
    refine wl_lstore_n rfl rfl (fun la11 kk12 t13 => ?_)
    have kk14 := t13 0 _ ⟨by decide, by decide⟩ (Or.inr rfl) kk4
    exact c_m_putNumber_17_b hd kk14 kk12 hr9 (InL_i64 _) hD
theorem c_putNumber {d : Nat} (hd : 4 ≤ d) {g : Nat} {h0 h : RHeap} {m : MS} {l1 : Int} {mF : MS} (hr : RM h0 h m) (pl1 : InL l1) (hD : m_putNumber g l1 m = some mF) : Cq (Cd O F rp_P d) 265 [.ref 170, wvl l1] h (QN h0 mF) := by
  refine cq_of (I := (7, 0, rw_X12_putNumber, [])) rfl rfl (by omega) ?_
  exact c_m_putNumber_b (by omega) rfl rfl hr pl1 hD
def m_putWord_2 (g : Nat) : Nat → Int → Int → MS → Option MS
  | 0, _, _, _ => none
  | n + 1, l1, l2, m => ck l1 71 (if (m 1 l1) < l2 then some m else ck (i32 (l1 + l2)) 71 (nb (m_putByte (i32 (96 + (m 1 (i32 (l1 + l2))))) m) (fun m13 => m_putWord_2 g n l1 (i32 (l2 + 1)) m13)))
theorem c_m_putWord_2 {dd : Nat} (hd : 3 ≤ dd) {g : Nat} {h0 : RHeap} {mF : MS} : ∀ (n : Nat) {la : RLoc} {h : RHeap} {m : MS} {l1 l2 : Int}, rx_look la 0 = some (.ref 170) → rx_look la 1 = some (wvi l1) → rx_look la 2 = some (wvi l2) → RM h0 h m → InI l1 → InI l2 → m_putWord_2 g n l1 l2 m = some mF → Wq O F (Cd O F rp_P dd) (3, 0, rw_X12_putWord, []) (rx_at rw_X12_putWord 2) la [] h (QN h0 mF) := by
  intro n
  induction n with
  | zero =>
    intro la h m l1 l2 k0 k1 k2 hr pl1 pl2 hD
    unfold m_putWord_2 at hD
    cases hD
  | succ n ih =>
    intro la h m l1 l2 k0 k1 k2 hr pl1 pl2 hD
    unfold m_putWord_2 at hD
    refine wq_iload_n k2 rfl ?_
    refine wq_aload_n k0 rfl ?_
    refine wm_gfa (c := 0) hr rfl rfl ?_
    refine wq_iload_n k1 rfl ?_
    obtain ⟨g6, g7, hD⟩ := ck_of hD
    refine wm_ali (f := 1) hr rfl pl1 g6 g7 rfl (fun pp8 => ?_)
    refine wq_icmp_gt pl2 pp8 rfl rfl rfl (fun c9 => ?_) (fun c9 => ?_)
    · rw [if_pos c9] at hD
      cases hD
      exact wq_return rfl ⟨_, rfl, hr⟩
    · rw [if_neg (Int.not_lt.mpr c9)] at hD
      refine wq_aload_n k0 rfl ?_
      refine wq_bipush (by decide) rfl ?_
      refine wq_aload_n k0 rfl ?_
      refine wm_gfa (c := 0) hr rfl rfl ?_
      refine wq_iload_n k1 rfl ?_
      refine wq_iload_n k2 rfl ?_
      refine wq_iadd rfl ?_
      obtain ⟨g10, g11, hD⟩ := ck_of hD
      refine wm_ali (f := 1) hr rfl (InI_i32 _) g10 g11 rfl (fun pp12 => ?_)
      refine wq_iadd rfl ?_
      obtain ⟨m13, q16, hD⟩ := nb_of hD
      refine wm_cvN hr (c_putByte (by omega) hr (InI_i32 _) q16) rfl rfl rfl (fun h14 hr15 => ?_)
      refine wl_iinc k2 rfl rfl (fun la17 kk18 t19 => ?_)
      have kk20 := t19 0 _ (by decide) (Or.inr rfl) k0
      have kk21 := t19 1 _ (by decide) (Or.inr rfl) k1
      refine wq_goto rfl rfl ?_
      exact ih kk20 kk21 kk18 hr15 pl1 (InI_i32 _) hD
def m_putWord (g : Nat) (l1 : Int) (m : MS) : Option MS := m_putWord_2 g g l1 1 m
theorem c_m_putWord_b {dd : Nat} (hd : 3 ≤ dd) {g : Nat} {h0 : RHeap} {mF : MS} {la : RLoc} {h : RHeap} {m : MS} {l1 : Int} (k0 : rx_look la 0 = some (.ref 170)) (k1 : rx_look la 1 = some (wvi l1)) (hr : RM h0 h m) (pl1 : InI l1) (hD : m_putWord g l1 m = some mF) : Wq O F (Cd O F rp_P dd) (3, 0, rw_X12_putWord, []) (rx_at rw_X12_putWord 0) la [] h (QN h0 mF) := by
  unfold m_putWord at hD
  refine wq_iconst rfl ?_
  refine wl_istore_n rfl rfl (fun la1 kk2 t3 => ?_)
  have kk4 := t3 0 _ (by decide) (Or.inr rfl) k0
  have kk5 := t3 1 _ (by decide) (Or.inr rfl) k1
  exact c_m_putWord_2 hd g kk4 kk5 kk2 hr pl1 ⟨by decide, by decide⟩ hD
theorem c_putWord {d : Nat} (hd : 4 ≤ d) {g : Nat} {h0 h : RHeap} {m : MS} {l1 : Int} {mF : MS} (hr : RM h0 h m) (pl1 : InI l1) (hD : m_putWord g l1 m = some mF) : Cq (Cd O F rp_P d) 268 [.ref 170, wvi l1] h (QN h0 mF) := by
  refine cq_of (I := (3, 0, rw_X12_putWord, [])) rfl rfl (by omega) ?_
  exact c_m_putWord_b (by omega) rfl rfl hr pl1 hD
def m_putOut_45 (g : Nat) (m : MS) : Option MS := some m
theorem c_m_putOut_45_b {dd : Nat} (hd : 4 ≤ dd) {g : Nat} {h0 : RHeap} {mF : MS} {la : RLoc} {h : RHeap} {m : MS} (hr : RM h0 h m) (hD : m_putOut_45 g m = some mF) : Wq O F (Cd O F rp_P dd) (4, 0, rw_X12_putOut, []) (rx_at rw_X12_putOut 45) la [] h (QN h0 mF) := by
  unfold m_putOut_45 at hD
  cases hD
  exact wq_return rfl ⟨_, rfl, hr⟩
def m_putOut_39 (g : Nat) (s2 : Int) (m : MS) : Option MS := vb (m_outsideAt g s2 m) (fun v16 m12 => nb (m_putWord g v16 m12) (fun m18 => m_putOut_45 g m18))
theorem c_m_putOut_39_b {dd : Nat} (hd : 4 ≤ dd) {g : Nat} {h0 : RHeap} {mF : MS} {la : RLoc} {h : RHeap} {m : MS} {s2 : Int} (hr : RM h0 h m) (ps2 : InI s2) (hD : m_putOut_39 g s2 m = some mF) : Wq O F (Cd O F rp_P dd) (4, 0, rw_X12_putOut, []) (rx_at rw_X12_putOut 39) la [wvi s2, .ref 170, .ref 170] h (QN h0 mF) := by
  unfold m_putOut_39 at hD
  obtain ⟨v16, m12, q15, hD⟩ := vb_of hD
  refine wm_cvI hr (c_outsideAt (by omega) hr ps2 q15) rfl rfl rfl (fun h13 hr14 pp17 => ?_)
  obtain ⟨m18, q21, hD⟩ := nb_of hD
  refine wm_cvN hr14 (c_putWord (by omega) hr14 pp17 q21) rfl rfl rfl (fun h19 hr20 => ?_)
  exact c_m_putOut_45_b hd hr20 hD
def m_putOut (g : Nat) (l1 : Int) (l2 : Int) (m : MS) : Option MS := if l1 = 0 then nb (m_putNumber g l2 m) (fun m8 => m_putOut_45 g m8) else if l1 = 1 then nb (m_putByte (i32 l2) m) (fun m4 => m_putOut_45 g m4) else if l2 = 0 then m_putOut_39 g 3 m else m_putOut_39 g 4 m
theorem c_m_putOut_b {dd : Nat} (hd : 4 ≤ dd) {g : Nat} {h0 : RHeap} {mF : MS} {la : RLoc} {h : RHeap} {m : MS} {l1 l2 : Int} (k0 : rx_look la 0 = some (.ref 170)) (k1 : rx_look la 1 = some (wvi l1)) (k2 : rx_look la 2 = some (wvl l2)) (hr : RM h0 h m) (pl1 : InI l1) (pl2 : InL l2) (hD : m_putOut g l1 l2 m = some mF) : Wq O F (Cd O F rp_P dd) (4, 0, rw_X12_putOut, []) (rx_at rw_X12_putOut 0) la [] h (QN h0 mF) := by
  unfold m_putOut at hD
  refine wq_iload_n k1 rfl ?_
  refine wq_if_ne pl1 rfl rfl rfl (fun c1 => ?_) (fun c1 => ?_)
  · rw [if_neg c1] at hD
    refine wq_iload_n k1 rfl ?_
    refine wq_iconst rfl ?_
    refine wq_icmp_ne pl1 ⟨by decide, by decide⟩ rfl rfl rfl (fun c2 => ?_) (fun c2 => ?_)
    · rw [if_neg c2] at hD
      refine wq_aload_n k0 rfl ?_
      refine wq_aload_n k0 rfl ?_
      refine wq_lload_n k2 rfl ?_
      refine wq_lconst (x := 0) (by decide) rfl ?_
      refine wq_lc_ne pl2 ⟨by decide, by decide⟩ rfl rfl rfl rfl (fun c3 => ?_) (fun c3 => ?_)
      · rw [if_neg c3] at hD
        refine wq_iconst rfl ?_
        exact c_m_putOut_39_b hd hr ⟨by decide, by decide⟩ hD
      · rw [if_pos c3] at hD
        refine wq_iconst rfl ?_
        refine wq_goto rfl rfl ?_
        exact c_m_putOut_39_b hd hr ⟨by decide, by decide⟩ hD
    · rw [if_pos c2] at hD
      refine wq_aload_n k0 rfl ?_
      refine wq_lload_n k2 rfl ?_
      refine wq_l2i rfl ?_
      obtain ⟨m4, q7, hD⟩ := nb_of hD
      refine wm_cvN hr (c_putByte (by omega) hr (InI_i32 _) q7) rfl rfl rfl (fun h5 hr6 => ?_)
      refine wq_goto rfl rfl ?_
      exact c_m_putOut_45_b hd hr6 hD
  · rw [if_pos c1] at hD
    refine wq_aload_n k0 rfl ?_
    refine wq_lload_n k2 rfl ?_
    obtain ⟨m8, q11, hD⟩ := nb_of hD
    refine wm_cvN hr (c_putNumber (by omega) hr pl2 q11) rfl rfl rfl (fun h9 hr10 => ?_)
    refine wq_goto rfl rfl ?_
    exact c_m_putOut_45_b hd hr10 hD
theorem c_putOut {d : Nat} (hd : 5 ≤ d) {g : Nat} {h0 h : RHeap} {m : MS} {l1 l2 : Int} {mF : MS} (hr : RM h0 h m) (pl1 : InI l1) (pl2 : InL l2) (hD : m_putOut g l1 l2 m = some mF) : Cq (Cd O F rp_P d) 266 [.ref 170, wvi l1, wvl l2] h (QN h0 mF) := by
  refine cq_of (I := (4, 0, rw_X12_putOut, [])) rfl rfl (by omega) ?_
  exact c_m_putOut_b (by omega) rfl rfl rfl hr pl1 pl2 hD
def m_takeIn_302 (g : Nat) (m : MS) : Option MS := some m
theorem c_m_takeIn_302_b {dd : Nat} (hd : 2 ≤ dd) {g : Nat} {h0 : RHeap} {mF : MS} {la : RLoc} {h : RHeap} {m : MS} (hr : RM h0 h m) (hD : m_takeIn_302 g m = some mF) : Wq O F (Cd O F rp_P dd) (6, 0, rw_X12_takeIn, []) (rx_at rw_X12_takeIn 302) la [] h (QN h0 mF) := by
  unfold m_takeIn_302 at hD
  cases hD
  exact wq_return rfl ⟨_, rfl, hr⟩
def m_takeIn_299 (g : Nat) (s1 : Int) (m : MS) : Option MS := nb (m_push s1 m) (fun m132 => m_takeIn_302 g m132)
theorem c_m_takeIn_299_b {dd : Nat} (hd : 2 ≤ dd) {g : Nat} {h0 : RHeap} {mF : MS} {la : RLoc} {h : RHeap} {m : MS} {s1 : Int} (hr : RM h0 h m) (ps1 : InL s1) (hD : m_takeIn_299 g s1 m = some mF) : Wq O F (Cd O F rp_P dd) (6, 0, rw_X12_takeIn, []) (rx_at rw_X12_takeIn 299) la [wvl s1, .ref 170] h (QN h0 mF) := by
  unfold m_takeIn_299 at hD
  obtain ⟨m132, q135, hD⟩ := nb_of hD
  refine wm_cvN hr (c_push (by omega) hr ps1 q135) rfl rfl rfl (fun h133 hr134 => ?_)
  exact c_m_takeIn_302_b hd hr134 hD
def m_takeIn_279 (g : Nat) (l2 : Int) (l4 : Int) (s1 : Int) (m : MS) : Option MS := vb (m_isWrong s1 5 m) (fun v128 m124 => if v128 = 0 then if l2 = 0 then m_takeIn_299 g l4 m124 else m_takeIn_299 g (i64 (-l4)) m124 else m_takeIn_302 g m124)
theorem c_m_takeIn_279_b {dd : Nat} (hd : 2 ≤ dd) {g : Nat} {h0 : RHeap} {mF : MS} {la : RLoc} {h : RHeap} {m : MS} {l2 l4 s1 : Int} (k0 : rx_look la 0 = some (.ref 170)) (k2 : rx_look la 2 = some (wvi l2)) (k4 : rx_look la 4 = some (wvl l4)) (hr : RM h0 h m) (pl2 : (l2 = 0 ∨ l2 = 1)) (pl4 : InL l4) (ps1 : (s1 = 0 ∨ s1 = 1)) (hD : m_takeIn_279 g l2 l4 s1 m = some mF) : Wq O F (Cd O F rp_P dd) (6, 0, rw_X12_takeIn, []) (rx_at rw_X12_takeIn 279) la [wvi s1, .ref 170] h (QN h0 mF) := by
  unfold m_takeIn_279 at hD
  refine wq_iconst rfl ?_
  obtain ⟨v128, m124, q127, hD⟩ := vb_of hD
  refine wm_cvZ hr (c_isWrong (by omega) hr ps1 ⟨by decide, by decide⟩ q127) rfl rfl rfl (fun h125 hr126 pp129 => ?_)
  refine wq_if_ne (InI_z pp129) rfl rfl rfl (fun c130 => ?_) (fun c130 => ?_)
  · rw [if_neg c130] at hD
    exact c_m_takeIn_302_b hd hr126 hD
  · rw [if_pos c130] at hD
    refine wq_aload_n k0 rfl ?_
    refine wq_iload_n k2 rfl ?_
    refine wq_if_eq (InI_z pl2) rfl rfl rfl (fun c131 => ?_) (fun c131 => ?_)
    · rw [if_pos c131] at hD
      refine wq_lload k4 rfl ?_
      exact c_m_takeIn_299_b hd hr126 pl4 hD
    · rw [if_neg c131] at hD
      refine wq_lload k4 rfl ?_
      refine wq_lneg rfl ?_
      refine wq_goto rfl rfl ?_
      exact c_m_takeIn_299_b hd hr126 (InL_i64 _) hD
def m_takeIn_274 (g : Nat) (l2 : Int) (l4 : Int) (m : MS) : Option MS := m_takeIn_279 g l2 l4 1 m
theorem c_m_takeIn_274_b {dd : Nat} (hd : 2 ≤ dd) {g : Nat} {h0 : RHeap} {mF : MS} {la : RLoc} {h : RHeap} {m : MS} {l2 l4 : Int} (k0 : rx_look la 0 = some (.ref 170)) (k2 : rx_look la 2 = some (wvi l2)) (k4 : rx_look la 4 = some (wvl l4)) (hr : RM h0 h m) (pl2 : (l2 = 0 ∨ l2 = 1)) (pl4 : InL l4) (hD : m_takeIn_274 g l2 l4 m = some mF) : Wq O F (Cd O F rp_P dd) (6, 0, rw_X12_takeIn, []) (rx_at rw_X12_takeIn 274) la [.ref 170] h (QN h0 mF) := by
  unfold m_takeIn_274 at hD
  refine wq_iconst rfl ?_
  refine wq_goto rfl rfl ?_
  exact c_m_takeIn_279_b hd k0 k2 k4 hr pl2 pl4 (Or.inr rfl) hD
def m_takeIn_260 (g : Nat) (l2 : Int) (l3 : Int) (l4 : Int) (m : MS) : Option MS := if l3 = 0 then m_takeIn_274 g l2 l4 m else if 2147483647 < l4 then m_takeIn_274 g l2 l4 m else m_takeIn_279 g l2 l4 0 m
theorem c_m_takeIn_260_b {dd : Nat} (hd : 2 ≤ dd) {g : Nat} {h0 : RHeap} {mF : MS} {la : RLoc} {h : RHeap} {m : MS} {l2 l3 l4 : Int} (k0 : rx_look la 0 = some (.ref 170)) (k2 : rx_look la 2 = some (wvi l2)) (k3 : rx_look la 3 = some (wvi l3)) (k4 : rx_look la 4 = some (wvl l4)) (hr : RM h0 h m) (pl2 : (l2 = 0 ∨ l2 = 1)) (pl3 : (l3 = 0 ∨ l3 = 1)) (pl4 : InL l4) (hD : m_takeIn_260 g l2 l3 l4 m = some mF) : Wq O F (Cd O F rp_P dd) (6, 0, rw_X12_takeIn, []) (rx_at rw_X12_takeIn 260) la [] h (QN h0 mF) := by
  unfold m_takeIn_260 at hD
  refine wq_aload_n k0 rfl ?_
  refine wq_iload_n k3 rfl ?_
  refine wq_if_eq (InI_z pl3) rfl rfl rfl (fun c122 => ?_) (fun c122 => ?_)
  · rw [if_pos c122] at hD
    exact c_m_takeIn_274_b hd k0 k2 k4 hr pl2 pl4 hD
  · rw [if_neg c122] at hD
    refine wq_lload k4 rfl ?_
    refine wq_ldc2 (x := 2147483647) (by decide) rfl ?_
    refine wq_lc_le pl4 ⟨by decide, by decide⟩ rfl rfl rfl rfl (fun c123 => ?_) (fun c123 => ?_)
    · rw [if_neg (Int.not_lt.mpr c123)] at hD
      refine wq_iconst rfl ?_
      exact c_m_takeIn_279_b hd k0 k2 k4 hr pl2 pl4 (Or.inl rfl) hD
    · rw [if_pos c123] at hD
      exact c_m_takeIn_274_b hd k0 k2 k4 hr pl2 pl4 hD
def m_takeIn_243 (g : Nat) (rec177 : Int → Int → Int → MS → Option MS) (l2 : Int) (s0 : Int) (m : MS) : Option MS := wlet (mset m 82 0 (i32 ((m 82 0) + 1))) (fun m118 => rec177 l2 1 s0 m118)
theorem c_m_takeIn_243_b {dd : Nat} (hd : 2 ≤ dd) {g : Nat} {h0 : RHeap} {mF : MS} {rec177 : Int → Int → Int → MS → Option MS} (hrec177 : ∀ {la : RLoc} {h : RHeap} {m : MS} {l2 l3 l4 : Int}, rx_look la 0 = some (.ref 170) → rx_look la 2 = some (wvi l2) → rx_look la 3 = some (wvi l3) → rx_look la 4 = some (wvl l4) → RM h0 h m → (l2 = 0 ∨ l2 = 1) → (l3 = 0 ∨ l3 = 1) → InL l4 → rec177 l2 l3 l4 m = some mF → Wq O F (Cd O F rp_P dd) (6, 0, rw_X12_takeIn, []) (rx_at rw_X12_takeIn 177) la [] h (QN h0 mF)) {la : RLoc} {h : RHeap} {m : MS} {l2 s0 : Int} (k0 : rx_look la 0 = some (.ref 170)) (k2 : rx_look la 2 = some (wvi l2)) (hr : RM h0 h m) (pl2 : (l2 = 0 ∨ l2 = 1)) (ps0 : InL s0) (hD : m_takeIn_243 g rec177 l2 s0 m = some mF) : Wq O F (Cd O F rp_P dd) (6, 0, rw_X12_takeIn, []) (rx_at rw_X12_takeIn 243) la [wvl s0] h (QN h0 mF) := by
  unfold m_takeIn_243 at hD
  refine wl_lstore rfl rfl (fun la106 kk107 t108 => ?_)
  have kk109 := t108 0 _ ⟨by decide, by decide⟩ (Or.inr rfl) k0
  have kk110 := t108 2 _ ⟨by decide, by decide⟩ (Or.inr rfl) k2
  refine wq_iconst rfl ?_
  refine wl_istore_n rfl rfl (fun la111 kk112 t113 => ?_)
  have kk114 := t113 0 _ (by decide) (Or.inr rfl) kk109
  have kk115 := t113 2 _ (by decide) (Or.inr rfl) kk110
  have kk116 := t113 4 _ (by decide) (Or.inl (by decide)) kk107
  refine wq_aload_n kk114 rfl ?_
  refine wq_dup rfl rfl ?_
  refine wm_gfi hr rfl rfl (fun pp117 => ?_)
  refine wq_iconst rfl ?_
  refine wq_iadd rfl ?_
  obtain ⟨m118, e119, hD⟩ := wlet_of hD
  refine wm_pfi hr rfl rfl (InI_i32 _) rfl (fun h120 hr121 => ?_)
  rw [← e119] at hr121
  refine wq_goto rfl rfl ?_
  exact hrec177 kk114 kk115 kk112 kk116 hr121 pl2 (Or.inr rfl) ps0 hD
def m_takeIn_177 (g : Nat) : Nat → Int → Int → Int → MS → Option MS
  | 0, _, _, _, _ => none
  | n + 1, l2, l3, l4, m => if (m 82 0) < (m 81 0) then ck (m 82 0) 1500 (vb (m_isFigure (m 80 (m 82 0)) m) (fun v90 m86 => if v90 = 0 then m_takeIn_260 g l2 l3 l4 m86 else ck (m86 82 0) 1500 (wlet (i64 ((i64 ((i64 (l4 * 10)) + (m86 80 (m86 82 0)))) - 48)) (fun y97 => if 9999999999 < y97 then m_takeIn_243 g (m_takeIn_177 g n) l2 9999999999 m86 else m_takeIn_243 g (m_takeIn_177 g n) l2 y97 m86)))) else m_takeIn_260 g l2 l3 l4 m
theorem c_m_takeIn_177 {dd : Nat} (hd : 2 ≤ dd) {g : Nat} {h0 : RHeap} {mF : MS} : ∀ (n : Nat) {la : RLoc} {h : RHeap} {m : MS} {l2 l3 l4 : Int}, rx_look la 0 = some (.ref 170) → rx_look la 2 = some (wvi l2) → rx_look la 3 = some (wvi l3) → rx_look la 4 = some (wvl l4) → RM h0 h m → (l2 = 0 ∨ l2 = 1) → (l3 = 0 ∨ l3 = 1) → InL l4 → m_takeIn_177 g n l2 l3 l4 m = some mF → Wq O F (Cd O F rp_P dd) (6, 0, rw_X12_takeIn, []) (rx_at rw_X12_takeIn 177) la [] h (QN h0 mF) := by
  intro n
  induction n with
  | zero =>
    intro la h m l2 l3 l4 k0 k2 k3 k4 hr pl2 pl3 pl4 hD
    unfold m_takeIn_177 at hD
    cases hD
  | succ n ih =>
    intro la h m l2 l3 l4 k0 k2 k3 k4 hr pl2 pl3 pl4 hD
    unfold m_takeIn_177 at hD
    refine wq_aload_n k0 rfl ?_
    refine wm_gfi hr rfl rfl (fun pp79 => ?_)
    refine wq_aload_n k0 rfl ?_
    refine wm_gfi hr rfl rfl (fun pp80 => ?_)
    refine wq_icmp_ge pp79 pp80 rfl rfl rfl (fun c81 => ?_) (fun c81 => ?_)
    · rw [if_neg (Int.not_lt.mpr c81)] at hD
      exact c_m_takeIn_260_b hd k0 k2 k3 k4 hr pl2 pl3 pl4 hD
    · rw [if_pos c81] at hD
      refine wq_aload_n k0 rfl ?_
      refine wm_gfa (c := 0) hr rfl rfl ?_
      refine wq_aload_n k0 rfl ?_
      refine wm_gfi hr rfl rfl (fun pp82 => ?_)
      obtain ⟨g83, g84, hD⟩ := ck_of hD
      refine wm_ali (f := 80) hr rfl pp82 g83 g84 rfl (fun pp85 => ?_)
      obtain ⟨v90, m86, q89, hD⟩ := vb_of hD
      refine wm_csZ (fun _ _ => rfl) (c_isFigure (by omega) hr pp85 q89) rfl rfl rfl (fun h87 hr88 pp91 => ?_)
      refine wq_if_eq (InI_z pp91) rfl rfl rfl (fun c92 => ?_) (fun c92 => ?_)
      · rw [if_pos c92] at hD
        exact c_m_takeIn_260_b hd k0 k2 k3 k4 hr88 pl2 pl3 pl4 hD
      · rw [if_neg c92] at hD
        refine wq_lload k4 rfl ?_
        refine wq_ldc2 (x := 10) (by decide) rfl ?_
        refine wq_lmul rfl ?_
        refine wq_aload_n k0 rfl ?_
        refine wm_gfa (c := 0) hr88 rfl rfl ?_
        refine wq_aload_n k0 rfl ?_
        refine wm_gfi hr88 rfl rfl (fun pp93 => ?_)
        obtain ⟨g94, g95, hD⟩ := ck_of hD
        refine wm_ali (f := 80) hr88 rfl pp93 g94 g95 rfl (fun pp96 => ?_)
        refine wq_i2l pp96 rfl ?_
        refine wq_ladd rfl ?_
        refine wq_ldc2 (x := 48) (by decide) rfl ?_
        refine wq_lsub rfl ?_
        obtain ⟨y97, e98, hD⟩ := wlet_of hD
        rw [← e98]
        have q99 : InL y97 := (by rw [e98]; exact (InL_i64 _))
        refine wl_lstore rfl rfl (fun la100 kk101 t102 => ?_)
        have kk103 := t102 0 _ ⟨by decide, by decide⟩ (Or.inr rfl) k0
        have kk104 := t102 2 _ ⟨by decide, by decide⟩ (Or.inr rfl) k2
        refine wq_lload kk101 rfl ?_
        refine wq_ldc2 (x := 9999999999) (by decide) rfl ?_
        refine wq_lc_le q99 ⟨by decide, by decide⟩ rfl rfl rfl rfl (fun c105 => ?_) (fun c105 => ?_)
        · rw [if_neg (Int.not_lt.mpr c105)] at hD
          refine wq_lload kk101 rfl ?_
          exact c_m_takeIn_243_b hd ih kk103 kk104 hr88 pl2 q99 hD
        · rw [if_pos c105] at hD
          refine wq_ldc2 (x := 9999999999) (by decide) rfl ?_
          refine wq_goto rfl rfl ?_
          exact c_m_takeIn_243_b hd ih kk103 kk104 hr88 pl2 ⟨by decide, by decide⟩ hD
def m_takeIn_172 (g : Nat) (l2 : Int) (m : MS) : Option MS := m_takeIn_177 g g l2 0 0 m
theorem c_m_takeIn_172_b {dd : Nat} (hd : 2 ≤ dd) {g : Nat} {h0 : RHeap} {mF : MS} {la : RLoc} {h : RHeap} {m : MS} {l2 : Int} (k0 : rx_look la 0 = some (.ref 170)) (k2 : rx_look la 2 = some (wvi l2)) (hr : RM h0 h m) (pl2 : (l2 = 0 ∨ l2 = 1)) (hD : m_takeIn_172 g l2 m = some mF) : Wq O F (Cd O F rp_P dd) (6, 0, rw_X12_takeIn, []) (rx_at rw_X12_takeIn 172) la [] h (QN h0 mF) := by
  unfold m_takeIn_172 at hD
  refine wq_iconst rfl ?_
  refine wl_istore_n rfl rfl (fun la68 kk69 t70 => ?_)
  have kk71 := t70 0 _ (by decide) (Or.inr rfl) k0
  have kk72 := t70 2 _ (by decide) (Or.inr rfl) k2
  refine wq_lconst (x := 0) (by decide) rfl ?_
  refine wl_lstore rfl rfl (fun la73 kk74 t75 => ?_)
  have kk76 := t75 0 _ ⟨by decide, by decide⟩ (Or.inr rfl) kk71
  have kk77 := t75 2 _ ⟨by decide, by decide⟩ (Or.inr rfl) kk72
  have kk78 := t75 3 _ ⟨by decide, by decide⟩ (Or.inr rfl) kk69
  exact c_m_takeIn_177 hd g kk76 kk77 kk78 kk74 hr pl2 (Or.inl rfl) ⟨by decide, by decide⟩ hD
def m_takeIn_162 (g : Nat) (l2 : Int) (m : MS) : Option MS := wlet (mset m 82 0 (i32 ((m 82 0) + 1))) (fun m64 => m_takeIn_172 g l2 m64)
theorem c_m_takeIn_162_b {dd : Nat} (hd : 2 ≤ dd) {g : Nat} {h0 : RHeap} {mF : MS} {la : RLoc} {h : RHeap} {m : MS} {l2 : Int} (k0 : rx_look la 0 = some (.ref 170)) (k2 : rx_look la 2 = some (wvi l2)) (hr : RM h0 h m) (pl2 : (l2 = 0 ∨ l2 = 1)) (hD : m_takeIn_162 g l2 m = some mF) : Wq O F (Cd O F rp_P dd) (6, 0, rw_X12_takeIn, []) (rx_at rw_X12_takeIn 162) la [] h (QN h0 mF) := by
  unfold m_takeIn_162 at hD
  refine wq_aload_n k0 rfl ?_
  refine wq_dup rfl rfl ?_
  refine wm_gfi hr rfl rfl (fun pp63 => ?_)
  refine wq_iconst rfl ?_
  refine wq_iadd rfl ?_
  obtain ⟨m64, e65, hD⟩ := wlet_of hD
  refine wm_pfi hr rfl rfl (InI_i32 _) rfl (fun h66 hr67 => ?_)
  rw [← e65] at hr67
  exact c_m_takeIn_172_b hd k0 k2 hr67 pl2 hD
def m_takeIn_122 (g : Nat) (s0 : Int) (m : MS) : Option MS := if (m 82 0) < (m 81 0) then ck (m 82 0) 1500 (if (m 80 (m 82 0)) = 45 then m_takeIn_162 g s0 m else ck (m 82 0) 1500 (if (m 80 (m 82 0)) = 43 then m_takeIn_162 g s0 m else m_takeIn_172 g s0 m)) else m_takeIn_172 g s0 m
theorem c_m_takeIn_122_b {dd : Nat} (hd : 2 ≤ dd) {g : Nat} {h0 : RHeap} {mF : MS} {la : RLoc} {h : RHeap} {m : MS} {s0 : Int} (k0 : rx_look la 0 = some (.ref 170)) (hr : RM h0 h m) (ps0 : (s0 = 0 ∨ s0 = 1)) (hD : m_takeIn_122 g s0 m = some mF) : Wq O F (Cd O F rp_P dd) (6, 0, rw_X12_takeIn, []) (rx_at rw_X12_takeIn 122) la [wvi s0] h (QN h0 mF) := by
  unfold m_takeIn_122 at hD
  refine wl_istore_n rfl rfl (fun la46 kk47 t48 => ?_)
  have kk49 := t48 0 _ (by decide) (Or.inr rfl) k0
  refine wq_aload_n kk49 rfl ?_
  refine wm_gfi hr rfl rfl (fun pp50 => ?_)
  refine wq_aload_n kk49 rfl ?_
  refine wm_gfi hr rfl rfl (fun pp51 => ?_)
  refine wq_icmp_ge pp50 pp51 rfl rfl rfl (fun c52 => ?_) (fun c52 => ?_)
  · rw [if_neg (Int.not_lt.mpr c52)] at hD
    exact c_m_takeIn_172_b hd kk49 kk47 hr ps0 hD
  · rw [if_pos c52] at hD
    refine wq_aload_n kk49 rfl ?_
    refine wm_gfa (c := 0) hr rfl rfl ?_
    refine wq_aload_n kk49 rfl ?_
    refine wm_gfi hr rfl rfl (fun pp53 => ?_)
    obtain ⟨g54, g55, hD⟩ := ck_of hD
    refine wm_ali (f := 80) hr rfl pp53 g54 g55 rfl (fun pp56 => ?_)
    refine wq_bipush (by decide) rfl ?_
    refine wq_icmp_eq pp56 ⟨by decide, by decide⟩ rfl rfl rfl (fun c57 => ?_) (fun c57 => ?_)
    · rw [if_pos c57] at hD
      exact c_m_takeIn_162_b hd kk49 kk47 hr ps0 hD
    · rw [if_neg c57] at hD
      refine wq_aload_n kk49 rfl ?_
      refine wm_gfa (c := 0) hr rfl rfl ?_
      refine wq_aload_n kk49 rfl ?_
      refine wm_gfi hr rfl rfl (fun pp58 => ?_)
      obtain ⟨g59, g60, hD⟩ := ck_of hD
      refine wm_ali (f := 80) hr rfl pp58 g59 g60 rfl (fun pp61 => ?_)
      refine wq_bipush (by decide) rfl ?_
      refine wq_icmp_ne pp61 ⟨by decide, by decide⟩ rfl rfl rfl (fun c62 => ?_) (fun c62 => ?_)
      · rw [if_neg c62] at hD
        exact c_m_takeIn_172_b hd kk49 kk47 hr ps0 hD
      · rw [if_pos c62] at hD
        exact c_m_takeIn_162_b hd kk49 kk47 hr ps0 hD
def m_takeIn_121 (g : Nat) (m : MS) : Option MS := m_takeIn_122 g 0 m
theorem c_m_takeIn_121_b {dd : Nat} (hd : 2 ≤ dd) {g : Nat} {h0 : RHeap} {mF : MS} {la : RLoc} {h : RHeap} {m : MS} (k0 : rx_look la 0 = some (.ref 170)) (hr : RM h0 h m) (hD : m_takeIn_121 g m = some mF) : Wq O F (Cd O F rp_P dd) (6, 0, rw_X12_takeIn, []) (rx_at rw_X12_takeIn 121) la [] h (QN h0 mF) := by
  unfold m_takeIn_121 at hD
  refine wq_iconst rfl ?_
  exact c_m_takeIn_122_b hd k0 hr (Or.inl rfl) hD
def m_takeIn_92 (g : Nat) (m : MS) : Option MS := if (m 82 0) < (m 81 0) then ck (m 82 0) 1500 (if (m 80 (m 82 0)) = 45 then m_takeIn_122 g 1 m else m_takeIn_121 g m) else m_takeIn_121 g m
theorem c_m_takeIn_92_b {dd : Nat} (hd : 2 ≤ dd) {g : Nat} {h0 : RHeap} {mF : MS} {la : RLoc} {h : RHeap} {m : MS} (k0 : rx_look la 0 = some (.ref 170)) (hr : RM h0 h m) (hD : m_takeIn_92 g m = some mF) : Wq O F (Cd O F rp_P dd) (6, 0, rw_X12_takeIn, []) (rx_at rw_X12_takeIn 92) la [] h (QN h0 mF) := by
  unfold m_takeIn_92 at hD
  refine wq_aload_n k0 rfl ?_
  refine wm_gfi hr rfl rfl (fun pp38 => ?_)
  refine wq_aload_n k0 rfl ?_
  refine wm_gfi hr rfl rfl (fun pp39 => ?_)
  refine wq_icmp_ge pp38 pp39 rfl rfl rfl (fun c40 => ?_) (fun c40 => ?_)
  · rw [if_neg (Int.not_lt.mpr c40)] at hD
    exact c_m_takeIn_121_b hd k0 hr hD
  · rw [if_pos c40] at hD
    refine wq_aload_n k0 rfl ?_
    refine wm_gfa (c := 0) hr rfl rfl ?_
    refine wq_aload_n k0 rfl ?_
    refine wm_gfi hr rfl rfl (fun pp41 => ?_)
    obtain ⟨g42, g43, hD⟩ := ck_of hD
    refine wm_ali (f := 80) hr rfl pp41 g42 g43 rfl (fun pp44 => ?_)
    refine wq_bipush (by decide) rfl ?_
    refine wq_icmp_ne pp44 ⟨by decide, by decide⟩ rfl rfl rfl (fun c45 => ?_) (fun c45 => ?_)
    · rw [if_neg c45] at hD
      exact c_m_takeIn_121_b hd k0 hr hD
    · rw [if_pos c45] at hD
      refine wq_iconst rfl ?_
      refine wq_goto rfl rfl ?_
      exact c_m_takeIn_122_b hd k0 hr (Or.inr rfl) hD
def m_takeIn_54 (g : Nat) : Nat → MS → Option MS
  | 0, _ => none
  | n + 1, m => if (m 82 0) < (m 81 0) then ck (m 82 0) 1500 (if 32 < (m 80 (m 82 0)) then m_takeIn_92 g m else wlet (mset m 82 0 (i32 ((m 82 0) + 1))) (fun m34 => m_takeIn_54 g n m34)) else m_takeIn_92 g m
theorem c_m_takeIn_54 {dd : Nat} (hd : 2 ≤ dd) {g : Nat} {h0 : RHeap} {mF : MS} : ∀ (n : Nat) {la : RLoc} {h : RHeap} {m : MS}, rx_look la 0 = some (.ref 170) → RM h0 h m → m_takeIn_54 g n m = some mF → Wq O F (Cd O F rp_P dd) (6, 0, rw_X12_takeIn, []) (rx_at rw_X12_takeIn 54) la [] h (QN h0 mF) := by
  intro n
  induction n with
  | zero =>
    intro la h m k0 hr hD
    unfold m_takeIn_54 at hD
    cases hD
  | succ n ih =>
    intro la h m k0 hr hD
    unfold m_takeIn_54 at hD
    refine wq_aload_n k0 rfl ?_
    refine wm_gfi hr rfl rfl (fun pp25 => ?_)
    refine wq_aload_n k0 rfl ?_
    refine wm_gfi hr rfl rfl (fun pp26 => ?_)
    refine wq_icmp_ge pp25 pp26 rfl rfl rfl (fun c27 => ?_) (fun c27 => ?_)
    · rw [if_neg (Int.not_lt.mpr c27)] at hD
      exact c_m_takeIn_92_b hd k0 hr hD
    · rw [if_pos c27] at hD
      refine wq_aload_n k0 rfl ?_
      refine wm_gfa (c := 0) hr rfl rfl ?_
      refine wq_aload_n k0 rfl ?_
      refine wm_gfi hr rfl rfl (fun pp28 => ?_)
      obtain ⟨g29, g30, hD⟩ := ck_of hD
      refine wm_ali (f := 80) hr rfl pp28 g29 g30 rfl (fun pp31 => ?_)
      refine wq_bipush (by decide) rfl ?_
      refine wq_icmp_gt pp31 ⟨by decide, by decide⟩ rfl rfl rfl (fun c32 => ?_) (fun c32 => ?_)
      · rw [if_pos c32] at hD
        exact c_m_takeIn_92_b hd k0 hr hD
      · rw [if_neg (Int.not_lt.mpr c32)] at hD
        refine wq_aload_n k0 rfl ?_
        refine wq_dup rfl rfl ?_
        refine wm_gfi hr rfl rfl (fun pp33 => ?_)
        refine wq_iconst rfl ?_
        refine wq_iadd rfl ?_
        obtain ⟨m34, e35, hD⟩ := wlet_of hD
        refine wm_pfi hr rfl rfl (InI_i32 _) rfl (fun h36 hr37 => ?_)
        rw [← e35] at hr37
        refine wq_goto rfl rfl ?_
        exact ih k0 hr37 hD
def m_takeIn_53 (g : Nat) (m : MS) : Option MS := some m
theorem c_m_takeIn_53_b {dd : Nat} (hd : 2 ≤ dd) {g : Nat} {h0 : RHeap} {mF : MS} {la : RLoc} {h : RHeap} {m : MS} (hr : RM h0 h m) (hD : m_takeIn_53 g m = some mF) : Wq O F (Cd O F rp_P dd) (6, 0, rw_X12_takeIn, []) (rx_at rw_X12_takeIn 53) la [] h (QN h0 mF) := by
  unfold m_takeIn_53 at hD
  cases hD
  exact wq_return rfl ⟨_, rfl, hr⟩
def m_takeIn_22 (g : Nat) (s1 : Int) (m : MS) : Option MS := vb (m_isWrong s1 5 m) (fun v9 m5 => if v9 = 0 then ck (m5 82 0) 1500 (nb (m_push (m5 80 (m5 82 0)) m5) (fun m16 => wlet (mset m16 82 0 (i32 ((m16 82 0) + 1))) (fun m21 => m_takeIn_53 g m21))) else m_takeIn_53 g m5)
theorem c_m_takeIn_22_b {dd : Nat} (hd : 2 ≤ dd) {g : Nat} {h0 : RHeap} {mF : MS} {la : RLoc} {h : RHeap} {m : MS} {s1 : Int} (k0 : rx_look la 0 = some (.ref 170)) (hr : RM h0 h m) (ps1 : (s1 = 0 ∨ s1 = 1)) (hD : m_takeIn_22 g s1 m = some mF) : Wq O F (Cd O F rp_P dd) (6, 0, rw_X12_takeIn, []) (rx_at rw_X12_takeIn 22) la [wvi s1, .ref 170] h (QN h0 mF) := by
  unfold m_takeIn_22 at hD
  refine wq_iconst rfl ?_
  obtain ⟨v9, m5, q8, hD⟩ := vb_of hD
  refine wm_cvZ hr (c_isWrong (by omega) hr ps1 ⟨by decide, by decide⟩ q8) rfl rfl rfl (fun h6 hr7 pp10 => ?_)
  refine wq_if_ne (InI_z pp10) rfl rfl rfl (fun c11 => ?_) (fun c11 => ?_)
  · rw [if_neg c11] at hD
    exact c_m_takeIn_53_b hd hr7 hD
  · rw [if_pos c11] at hD
    refine wq_aload_n k0 rfl ?_
    refine wq_aload_n k0 rfl ?_
    refine wm_gfa (c := 0) hr7 rfl rfl ?_
    refine wq_aload_n k0 rfl ?_
    refine wm_gfi hr7 rfl rfl (fun pp12 => ?_)
    obtain ⟨g13, g14, hD⟩ := ck_of hD
    refine wm_ali (f := 80) hr7 rfl pp12 g13 g14 rfl (fun pp15 => ?_)
    refine wq_i2l pp15 rfl ?_
    obtain ⟨m16, q19, hD⟩ := nb_of hD
    refine wm_cvN hr7 (c_push (by omega) hr7 (InI.toL pp15) q19) rfl rfl rfl (fun h17 hr18 => ?_)
    refine wq_aload_n k0 rfl ?_
    refine wq_dup rfl rfl ?_
    refine wm_gfi hr18 rfl rfl (fun pp20 => ?_)
    refine wq_iconst rfl ?_
    refine wq_iadd rfl ?_
    obtain ⟨m21, e22, hD⟩ := wlet_of hD
    refine wm_pfi hr18 rfl rfl (InI_i32 _) rfl (fun h23 hr24 => ?_)
    rw [← e22] at hr24
    exact c_m_takeIn_53_b hd hr24 hD
def m_takeIn (g : Nat) (l1 : Int) (m : MS) : Option MS := if l1 = 1 then if (m 82 0) = (m 81 0) then m_takeIn_22 g 1 m else m_takeIn_22 g 0 m else m_takeIn_54 g g m
theorem c_m_takeIn_b {dd : Nat} (hd : 2 ≤ dd) {g : Nat} {h0 : RHeap} {mF : MS} {la : RLoc} {h : RHeap} {m : MS} {l1 : Int} (k0 : rx_look la 0 = some (.ref 170)) (k1 : rx_look la 1 = some (wvi l1)) (hr : RM h0 h m) (pl1 : InI l1) (hD : m_takeIn g l1 m = some mF) : Wq O F (Cd O F rp_P dd) (6, 0, rw_X12_takeIn, []) (rx_at rw_X12_takeIn 0) la [] h (QN h0 mF) := by
  unfold m_takeIn at hD
  refine wq_iload_n k1 rfl ?_
  refine wq_iconst rfl ?_
  refine wq_icmp_ne pl1 ⟨by decide, by decide⟩ rfl rfl rfl (fun c1 => ?_) (fun c1 => ?_)
  · rw [if_neg c1] at hD
    exact c_m_takeIn_54 hd g k0 hr hD
  · rw [if_pos c1] at hD
    refine wq_aload_n k0 rfl ?_
    refine wq_aload_n k0 rfl ?_
    refine wm_gfi hr rfl rfl (fun pp2 => ?_)
    refine wq_aload_n k0 rfl ?_
    refine wm_gfi hr rfl rfl (fun pp3 => ?_)
    refine wq_icmp_ne pp2 pp3 rfl rfl rfl (fun c4 => ?_) (fun c4 => ?_)
    · rw [if_neg c4] at hD
      refine wq_iconst rfl ?_
      exact c_m_takeIn_22_b hd k0 hr (Or.inl rfl) hD
    · rw [if_pos c4] at hD
      refine wq_iconst rfl ?_
      refine wq_goto rfl rfl ?_
      exact c_m_takeIn_22_b hd k0 hr (Or.inr rfl) hD
theorem c_takeIn {d : Nat} (hd : 3 ≤ d) {g : Nat} {h0 h : RHeap} {m : MS} {l1 : Int} {mF : MS} (hr : RM h0 h m) (pl1 : InI l1) (hD : m_takeIn g l1 m = some mF) : Cq (Cd O F rp_P d) 283 [.ref 170, wvi l1] h (QN h0 mF) := by
  refine cq_of (I := (6, 0, rw_X12_takeIn, [])) rfl rfl (by omega) ?_
  exact c_m_takeIn_b (by omega) rfl rfl hr pl1 hD
end Dec
