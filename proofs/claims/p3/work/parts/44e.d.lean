section Dec
variable {O : ROld} {F : RFacts}
def m_factor_217 (g : Nat) (m : MS) : Option MS := some m
theorem c_m_factor_217_b {dd : Nat} (hd : 6 ≤ dd) {g : Nat} {h0 : RHeap} {mF : MS} {la : RLoc} {h : RHeap} {m : MS} (hr : RM h0 h m) (hD : m_factor_217 g m = some mF) : Wq O F (Cd O F rp_P dd) (1, 0, rw_X12_factor, []) (rx_at rw_X12_factor 217) la [] h (QN h0 mF) := by
  unfold m_factor_217 at hD
  cases hD
  exact wq_return rfl ⟨_, rfl, hr⟩
def m_factor_138 (g : Nat) (m : MS) : Option MS := nb (m_later 42 m) (fun m101 => nb (m_later 40 m101) (fun m105 => m_factor_217 g m105))
theorem c_m_factor_138_b {dd : Nat} (hd : 6 ≤ dd) {g : Nat} {h0 : RHeap} {mF : MS} {la : RLoc} {h : RHeap} {m : MS} (k0 : rx_look la 0 = some (.ref 170)) (hr : RM h0 h m) (hD : m_factor_138 g m = some mF) : Wq O F (Cd O F rp_P dd) (1, 0, rw_X12_factor, []) (rx_at rw_X12_factor 138) la [] h (QN h0 mF) := by
  unfold m_factor_138 at hD
  refine wq_aload_n k0 rfl ?_
  refine wq_bipush (by decide) rfl ?_
  obtain ⟨m101, q104, hD⟩ := nb_of hD
  refine wm_cvN hr (c_later (by omega) hr ⟨by decide, by decide⟩ q104) rfl rfl rfl (fun h102 hr103 => ?_)
  refine wq_aload_n k0 rfl ?_
  refine wq_bipush (by decide) rfl ?_
  obtain ⟨m105, q108, hD⟩ := nb_of hD
  refine wm_cvN hr103 (c_later (by omega) hr103 ⟨by decide, by decide⟩ q108) rfl rfl rfl (fun h106 hr107 => ?_)
  refine wq_goto rfl rfl ?_
  exact c_m_factor_217_b hd hr107 hD
def m_factor_71 (g : Nat) (m : MS) : Option MS := if (m 10 0) = 1 then nb (m_nameFactor g m) (fun m97 => m_factor_217 g m97) else if (m 10 0) = 16 then nb (m_take g m) (fun m85 => nb (m_later 41 m85) (fun m89 => nb (m_later 30 m89) (fun m93 => m_factor_217 g m93))) else if (m 10 0) = 55 then nb (m_take g m) (fun m75 => if (m75 6 0) = 0 then nb (m_deeper m75) (fun m81 => m_factor_138 g m81) else m_factor_138 g m75) else if (m 10 0) = 18 then nb (m_take g m) (fun m49 => nb (m_write0 12 m49) (fun m53 => if (m53 10 0) = 19 then nb (m_take g m53) (fun m67 => wlet (mset m67 62 0 3) (fun m71 => m_factor_217 g m71)) else nb (m_later 43 m53) (fun m59 => nb (m_later 30 m59) (fun m63 => m_factor_217 g m63)))) else nb (m_fail 1 (m 9 0) m) (fun m45 => m_factor_217 g m45)
theorem c_m_factor_71_b {dd : Nat} (hd : 6 ≤ dd) {g : Nat} {h0 : RHeap} {mF : MS} {la : RLoc} {h : RHeap} {m : MS} (k0 : rx_look la 0 = some (.ref 170)) (hr : RM h0 h m) (hD : m_factor_71 g m = some mF) : Wq O F (Cd O F rp_P dd) (1, 0, rw_X12_factor, []) (rx_at rw_X12_factor 71) la [] h (QN h0 mF) := by
  unfold m_factor_71 at hD
  refine wq_aload_n k0 rfl ?_
  refine wm_gfi hr rfl rfl (fun pp36 => ?_)
  refine wq_iconst rfl ?_
  refine wq_icmp_ne pp36 ⟨by decide, by decide⟩ rfl rfl rfl (fun c37 => ?_) (fun c37 => ?_)
  · rw [if_neg c37] at hD
    refine wq_aload_n k0 rfl ?_
    refine wm_gfi hr rfl rfl (fun pp38 => ?_)
    refine wq_bipush (by decide) rfl ?_
    refine wq_icmp_ne pp38 ⟨by decide, by decide⟩ rfl rfl rfl (fun c39 => ?_) (fun c39 => ?_)
    · rw [if_neg c39] at hD
      refine wq_aload_n k0 rfl ?_
      refine wm_gfi hr rfl rfl (fun pp40 => ?_)
      refine wq_bipush (by decide) rfl ?_
      refine wq_icmp_ne pp40 ⟨by decide, by decide⟩ rfl rfl rfl (fun c41 => ?_) (fun c41 => ?_)
      · rw [if_neg c41] at hD
        refine wq_aload_n k0 rfl ?_
        refine wm_gfi hr rfl rfl (fun pp42 => ?_)
        refine wq_bipush (by decide) rfl ?_
        refine wq_icmp_ne pp42 ⟨by decide, by decide⟩ rfl rfl rfl (fun c43 => ?_) (fun c43 => ?_)
        · rw [if_neg c43] at hD
          refine wq_aload_n k0 rfl ?_
          refine wq_iconst rfl ?_
          refine wq_aload_n k0 rfl ?_
          refine wm_gfi hr rfl rfl (fun pp44 => ?_)
          obtain ⟨m45, q48, hD⟩ := nb_of hD
          refine wm_cvN hr (c_fail (by omega) hr ⟨by decide, by decide⟩ pp44 q48) rfl rfl rfl (fun h46 hr47 => ?_)
          exact c_m_factor_217_b hd hr47 hD
        · rw [if_pos c43] at hD
          refine wq_aload_n k0 rfl ?_
          obtain ⟨m49, q52, hD⟩ := nb_of hD
          refine wm_cvN hr (c_take (by omega) hr q52) rfl rfl rfl (fun h50 hr51 => ?_)
          refine wq_aload_n k0 rfl ?_
          refine wq_bipush (by decide) rfl ?_
          obtain ⟨m53, q56, hD⟩ := nb_of hD
          refine wm_cvN hr51 (c_write0 (by omega) hr51 ⟨by decide, by decide⟩ q56) rfl rfl rfl (fun h54 hr55 => ?_)
          refine wq_aload_n k0 rfl ?_
          refine wm_gfi hr55 rfl rfl (fun pp57 => ?_)
          refine wq_bipush (by decide) rfl ?_
          refine wq_icmp_ne pp57 ⟨by decide, by decide⟩ rfl rfl rfl (fun c58 => ?_) (fun c58 => ?_)
          · rw [if_neg c58] at hD
            refine wq_aload_n k0 rfl ?_
            refine wq_bipush (by decide) rfl ?_
            obtain ⟨m59, q62, hD⟩ := nb_of hD
            refine wm_cvN hr55 (c_later (by omega) hr55 ⟨by decide, by decide⟩ q62) rfl rfl rfl (fun h60 hr61 => ?_)
            refine wq_aload_n k0 rfl ?_
            refine wq_bipush (by decide) rfl ?_
            obtain ⟨m63, q66, hD⟩ := nb_of hD
            refine wm_cvN hr61 (c_later (by omega) hr61 ⟨by decide, by decide⟩ q66) rfl rfl rfl (fun h64 hr65 => ?_)
            refine wq_goto rfl rfl ?_
            exact c_m_factor_217_b hd hr65 hD
          · rw [if_pos c58] at hD
            refine wq_aload_n k0 rfl ?_
            obtain ⟨m67, q70, hD⟩ := nb_of hD
            refine wm_cvN hr55 (c_take (by omega) hr55 q70) rfl rfl rfl (fun h68 hr69 => ?_)
            refine wq_aload_n k0 rfl ?_
            refine wq_iconst rfl ?_
            obtain ⟨m71, e72, hD⟩ := wlet_of hD
            refine wm_pfi hr69 rfl rfl ⟨by decide, by decide⟩ rfl (fun h73 hr74 => ?_)
            rw [← e72] at hr74
            refine wq_goto rfl rfl ?_
            exact c_m_factor_217_b hd hr74 hD
      · rw [if_pos c41] at hD
        refine wq_aload_n k0 rfl ?_
        obtain ⟨m75, q78, hD⟩ := nb_of hD
        refine wm_cvN hr (c_take (by omega) hr q78) rfl rfl rfl (fun h76 hr77 => ?_)
        refine wq_aload_n k0 rfl ?_
        refine wm_gfi hr77 rfl rfl (fun pp79 => ?_)
        refine wq_if_ne pp79 rfl rfl rfl (fun c80 => ?_) (fun c80 => ?_)
        · rw [if_neg c80] at hD
          exact c_m_factor_138_b hd k0 hr77 hD
        · rw [if_pos c80] at hD
          refine wq_aload_n k0 rfl ?_
          obtain ⟨m81, q84, hD⟩ := nb_of hD
          refine wm_cvN hr77 (c_deeper (by omega) hr77 q84) rfl rfl rfl (fun h82 hr83 => ?_)
          exact c_m_factor_138_b hd k0 hr83 hD
    · rw [if_pos c39] at hD
      refine wq_aload_n k0 rfl ?_
      obtain ⟨m85, q88, hD⟩ := nb_of hD
      refine wm_cvN hr (c_take (by omega) hr q88) rfl rfl rfl (fun h86 hr87 => ?_)
      refine wq_aload_n k0 rfl ?_
      refine wq_bipush (by decide) rfl ?_
      obtain ⟨m89, q92, hD⟩ := nb_of hD
      refine wm_cvN hr87 (c_later (by omega) hr87 ⟨by decide, by decide⟩ q92) rfl rfl rfl (fun h90 hr91 => ?_)
      refine wq_aload_n k0 rfl ?_
      refine wq_bipush (by decide) rfl ?_
      obtain ⟨m93, q96, hD⟩ := nb_of hD
      refine wm_cvN hr91 (c_later (by omega) hr91 ⟨by decide, by decide⟩ q96) rfl rfl rfl (fun h94 hr95 => ?_)
      refine wq_goto rfl rfl ?_
      exact c_m_factor_217_b hd hr95 hD
  · rw [if_pos c37] at hD
    refine wq_aload_n k0 rfl ?_
    obtain ⟨m97, q100, hD⟩ := nb_of hD
    refine wm_cvN hr (c_nameFactor (by omega) hr q100) rfl rfl rfl (fun h98 hr99 => ?_)
    refine wq_goto rfl rfl ?_
    exact c_m_factor_217_b hd hr99 hD
def m_factor (g : Nat) (m : MS) : Option MS := if (m 10 0) = 2 then wlet (mset m 62 0 0) (fun m23 => nb (m_write1 2 (m23 12 0) m23) (fun m28 => nb (m_take g m28) (fun m32 => m_factor_217 g m32))) else if (m 10 0) = 3 then if (m 14 0) = 1 then wlet (mset m 62 0 1) (fun m7 => ck (m7 13 0) 1500 (nb (m_write1 2 (m7 4 (m7 13 0)) m7) (fun m15 => nb (m_take g m15) (fun m19 => m_factor_217 g m19)))) else m_factor_71 g m else m_factor_71 g m
theorem c_m_factor_b {dd : Nat} (hd : 6 ≤ dd) {g : Nat} {h0 : RHeap} {mF : MS} {la : RLoc} {h : RHeap} {m : MS} (k0 : rx_look la 0 = some (.ref 170)) (hr : RM h0 h m) (hD : m_factor g m = some mF) : Wq O F (Cd O F rp_P dd) (1, 0, rw_X12_factor, []) (rx_at rw_X12_factor 0) la [] h (QN h0 mF) := by
  unfold m_factor at hD
  refine wq_aload_n k0 rfl ?_
  refine wm_gfi hr rfl rfl (fun pp1 => ?_)
  refine wq_iconst rfl ?_
  refine wq_icmp_ne pp1 ⟨by decide, by decide⟩ rfl rfl rfl (fun c2 => ?_) (fun c2 => ?_)
  · rw [if_neg c2] at hD
    refine wq_aload_n k0 rfl ?_
    refine wm_gfi hr rfl rfl (fun pp3 => ?_)
    refine wq_iconst rfl ?_
    refine wq_icmp_ne pp3 ⟨by decide, by decide⟩ rfl rfl rfl (fun c4 => ?_) (fun c4 => ?_)
    · rw [if_neg c4] at hD
      exact c_m_factor_71_b hd k0 hr hD
    · rw [if_pos c4] at hD
      refine wq_aload_n k0 rfl ?_
      refine wm_gfi hr rfl rfl (fun pp5 => ?_)
      refine wq_iconst rfl ?_
      refine wq_icmp_ne pp5 ⟨by decide, by decide⟩ rfl rfl rfl (fun c6 => ?_) (fun c6 => ?_)
      · rw [if_neg c6] at hD
        exact c_m_factor_71_b hd k0 hr hD
      · rw [if_pos c6] at hD
        refine wq_aload_n k0 rfl ?_
        refine wq_iconst rfl ?_
        obtain ⟨m7, e8, hD⟩ := wlet_of hD
        refine wm_pfi hr rfl rfl ⟨by decide, by decide⟩ rfl (fun h9 hr10 => ?_)
        rw [← e8] at hr10
        refine wq_aload_n k0 rfl ?_
        refine wq_iconst rfl ?_
        refine wq_aload_n k0 rfl ?_
        refine wm_gfa (c := 0) hr10 rfl rfl ?_
        refine wq_aload_n k0 rfl ?_
        refine wm_gfi hr10 rfl rfl (fun pp11 => ?_)
        obtain ⟨g12, g13, hD⟩ := ck_of hD
        refine wm_ali (f := 4) hr10 rfl pp11 g12 g13 rfl (fun pp14 => ?_)
        obtain ⟨m15, q18, hD⟩ := nb_of hD
        refine wm_cvN hr10 (c_write1 (by omega) hr10 ⟨by decide, by decide⟩ pp14 q18) rfl rfl rfl (fun h16 hr17 => ?_)
        refine wq_aload_n k0 rfl ?_
        obtain ⟨m19, q22, hD⟩ := nb_of hD
        refine wm_cvN hr17 (c_take (by omega) hr17 q22) rfl rfl rfl (fun h20 hr21 => ?_)
        refine wq_goto rfl rfl ?_
        exact c_m_factor_217_b hd hr21 hD
  · rw [if_pos c2] at hD
    refine wq_aload_n k0 rfl ?_
    refine wq_iconst rfl ?_
    obtain ⟨m23, e24, hD⟩ := wlet_of hD
    refine wm_pfi hr rfl rfl ⟨by decide, by decide⟩ rfl (fun h25 hr26 => ?_)
    rw [← e24] at hr26
    refine wq_aload_n k0 rfl ?_
    refine wq_iconst rfl ?_
    refine wq_aload_n k0 rfl ?_
    refine wm_gfi hr26 rfl rfl (fun pp27 => ?_)
    obtain ⟨m28, q31, hD⟩ := nb_of hD
    refine wm_cvN hr26 (c_write1 (by omega) hr26 ⟨by decide, by decide⟩ pp27 q31) rfl rfl rfl (fun h29 hr30 => ?_)
    refine wq_aload_n k0 rfl ?_
    obtain ⟨m32, q35, hD⟩ := nb_of hD
    refine wm_cvN hr30 (c_take (by omega) hr30 q35) rfl rfl rfl (fun h33 hr34 => ?_)
    refine wq_goto rfl rfl ?_
    exact c_m_factor_217_b hd hr34 hD
theorem c_factor {d : Nat} (hd : 7 ≤ d) {g : Nat} {h0 h : RHeap} {m : MS} {mF : MS} (hr : RM h0 h m) (hD : m_factor g m = some mF) : Cq (Cd O F rp_P d) 224 [.ref 170] h (QN h0 mF) := by
  refine cq_of (I := (1, 0, rw_X12_factor, [])) rfl rfl (by omega) ?_
  exact c_m_factor_b (by omega) rfl hr hD
def m_product_193 (g : Nat) (m : MS) : Option MS := some m
theorem c_m_product_193_b {dd : Nat} (hd : 3 ≤ dd) {g : Nat} {h0 : RHeap} {mF : MS} {la : RLoc} {h : RHeap} {m : MS} (hr : RM h0 h m) (hD : m_product_193 g m = some mF) : Wq O F (Cd O F rp_P dd) (5, 0, rw_X12_product, []) (rx_at rw_X12_product 193) la [] h (QN h0 mF) := by
  unfold m_product_193 at hD
  cases hD
  exact wq_return rfl ⟨_, rfl, hr⟩
def m_product_170 (g : Nat) (l3 : Int) (s1 : Int) (m : MS) : Option MS := nb (m_fits s1 m) (fun m74 => vb (m_emit 10 l3 (m74 62 0) 0 m74) (fun v83 m79 => nb (m_later 38 m79) (fun m89 => m_product_193 g m89)))
theorem c_m_product_170_b {dd : Nat} (hd : 3 ≤ dd) {g : Nat} {h0 : RHeap} {mF : MS} {la : RLoc} {h : RHeap} {m : MS} {l3 s1 : Int} (k0 : rx_look la 0 = some (.ref 170)) (k3 : rx_look la 3 = some (wvi l3)) (hr : RM h0 h m) (pl3 : InI l3) (ps1 : (s1 = 0 ∨ s1 = 1)) (hD : m_product_170 g l3 s1 m = some mF) : Wq O F (Cd O F rp_P dd) (5, 0, rw_X12_product, []) (rx_at rw_X12_product 170) la [wvi s1, .ref 170] h (QN h0 mF) := by
  unfold m_product_170 at hD
  obtain ⟨m74, q77, hD⟩ := nb_of hD
  refine wm_cvN hr (c_fits (by omega) hr ps1 q77) rfl rfl rfl (fun h75 hr76 => ?_)
  refine wq_aload_n k0 rfl ?_
  refine wq_bipush (by decide) rfl ?_
  refine wq_iload_n k3 rfl ?_
  refine wq_aload_n k0 rfl ?_
  refine wm_gfi hr76 rfl rfl (fun pp78 => ?_)
  refine wq_iconst rfl ?_
  obtain ⟨v83, m79, q82, hD⟩ := vb_of hD
  refine wm_cvI hr76 (c_emit (by omega) hr76 ⟨by decide, by decide⟩ pl3 pp78 ⟨by decide, by decide⟩ q82) rfl rfl rfl (fun h80 hr81 pp84 => ?_)
  refine wl_istore rfl rfl (fun la85 kk86 t87 => ?_)
  have kk88 := t87 0 _ (by decide) (Or.inr rfl) k0
  refine wq_aload_n kk88 rfl ?_
  refine wq_bipush (by decide) rfl ?_
  obtain ⟨m89, q92, hD⟩ := nb_of hD
  refine wm_cvN hr81 (c_later (by omega) hr81 ⟨by decide, by decide⟩ q92) rfl rfl rfl (fun h90 hr91 => ?_)
  exact c_m_product_193_b hd hr91 hD
def m_product_169 (g : Nat) (l3 : Int) (m : MS) : Option MS := m_product_170 g l3 0 m
theorem c_m_product_169_b {dd : Nat} (hd : 3 ≤ dd) {g : Nat} {h0 : RHeap} {mF : MS} {la : RLoc} {h : RHeap} {m : MS} {l3 : Int} (k0 : rx_look la 0 = some (.ref 170)) (k3 : rx_look la 3 = some (wvi l3)) (hr : RM h0 h m) (pl3 : InI l3) (hD : m_product_169 g l3 m = some mF) : Wq O F (Cd O F rp_P dd) (5, 0, rw_X12_product, []) (rx_at rw_X12_product 169) la [.ref 170] h (QN h0 mF) := by
  unfold m_product_169 at hD
  refine wq_iconst rfl ?_
  exact c_m_product_170_b hd k0 k3 hr pl3 (Or.inl rfl) hD
def m_product_165 (g : Nat) (l3 : Int) (m : MS) : Option MS := m_product_170 g l3 1 m
theorem c_m_product_165_b {dd : Nat} (hd : 3 ≤ dd) {g : Nat} {h0 : RHeap} {mF : MS} {la : RLoc} {h : RHeap} {m : MS} {l3 : Int} (k0 : rx_look la 0 = some (.ref 170)) (k3 : rx_look la 3 = some (wvi l3)) (hr : RM h0 h m) (pl3 : InI l3) (hD : m_product_165 g l3 m = some mF) : Wq O F (Cd O F rp_P dd) (5, 0, rw_X12_product, []) (rx_at rw_X12_product 165) la [.ref 170] h (QN h0 mF) := by
  unfold m_product_165 at hD
  refine wq_iconst rfl ?_
  refine wq_goto rfl rfl ?_
  exact c_m_product_170_b hd k0 k3 hr pl3 (Or.inr rfl) hD
def m_product_63 (g : Nat) (m : MS) : Option MS := nb (m_keep (m 10 0) m) (fun m53 => nb (m_keep (m53 62 0) m53) (fun m58 => nb (m_take g m58) (fun m62 => nb (m_later 39 m62) (fun m66 => nb (m_later 40 m66) (fun m70 => m_product_193 g m70)))))
theorem c_m_product_63_b {dd : Nat} (hd : 3 ≤ dd) {g : Nat} {h0 : RHeap} {mF : MS} {la : RLoc} {h : RHeap} {m : MS} (k0 : rx_look la 0 = some (.ref 170)) (hr : RM h0 h m) (hD : m_product_63 g m = some mF) : Wq O F (Cd O F rp_P dd) (5, 0, rw_X12_product, []) (rx_at rw_X12_product 63) la [] h (QN h0 mF) := by
  unfold m_product_63 at hD
  refine wq_aload_n k0 rfl ?_
  refine wq_aload_n k0 rfl ?_
  refine wm_gfi hr rfl rfl (fun pp52 => ?_)
  obtain ⟨m53, q56, hD⟩ := nb_of hD
  refine wm_cvN hr (c_keep (by omega) hr pp52 q56) rfl rfl rfl (fun h54 hr55 => ?_)
  refine wq_aload_n k0 rfl ?_
  refine wq_aload_n k0 rfl ?_
  refine wm_gfi hr55 rfl rfl (fun pp57 => ?_)
  obtain ⟨m58, q61, hD⟩ := nb_of hD
  refine wm_cvN hr55 (c_keep (by omega) hr55 pp57 q61) rfl rfl rfl (fun h59 hr60 => ?_)
  refine wq_aload_n k0 rfl ?_
  obtain ⟨m62, q65, hD⟩ := nb_of hD
  refine wm_cvN hr60 (c_take (by omega) hr60 q65) rfl rfl rfl (fun h63 hr64 => ?_)
  refine wq_aload_n k0 rfl ?_
  refine wq_bipush (by decide) rfl ?_
  obtain ⟨m66, q69, hD⟩ := nb_of hD
  refine wm_cvN hr64 (c_later (by omega) hr64 ⟨by decide, by decide⟩ q69) rfl rfl rfl (fun h67 hr68 => ?_)
  refine wq_aload_n k0 rfl ?_
  refine wq_bipush (by decide) rfl ?_
  obtain ⟨m70, q73, hD⟩ := nb_of hD
  refine wm_cvN hr68 (c_later (by omega) hr68 ⟨by decide, by decide⟩ q73) rfl rfl rfl (fun h71 hr72 => ?_)
  refine wq_goto rfl rfl ?_
  exact c_m_product_193_b hd hr72 hD
def m_product (g : Nat) (l1 : Int) (m : MS) : Option MS := if l1 = 37 then nb (m_later 38 m) (fun m44 => nb (m_later 40 m44) (fun m48 => m_product_193 g m48)) else if l1 = 38 then if (m 10 0) = 12 then m_product_63 g m else if (m 10 0) = 51 then m_product_63 g m else if (m 10 0) = 52 then m_product_63 g m else if (m 10 0) = 53 then m_product_63 g m else m_product_193 g m else vb (m_back m) (fun v7 m3 => vb (m_back m3) (fun v17 m13 => if v7 = (m13 62 0) then if v17 = 53 then if (m13 62 0) = 2 then m_product_165 g v17 m13 else m_product_169 g v17 m13 else if v17 = 12 then if (m13 62 0) = 0 then m_product_165 g v17 m13 else if (m13 62 0) = 3 then m_product_165 g v17 m13 else m_product_169 g v17 m13 else if (m13 62 0) = 0 then m_product_165 g v17 m13 else m_product_169 g v17 m13 else m_product_169 g v17 m13))
theorem c_m_product_b {dd : Nat} (hd : 3 ≤ dd) {g : Nat} {h0 : RHeap} {mF : MS} {la : RLoc} {h : RHeap} {m : MS} {l1 : Int} (k0 : rx_look la 0 = some (.ref 170)) (k1 : rx_look la 1 = some (wvi l1)) (hr : RM h0 h m) (pl1 : InI l1) (hD : m_product g l1 m = some mF) : Wq O F (Cd O F rp_P dd) (5, 0, rw_X12_product, []) (rx_at rw_X12_product 0) la [] h (QN h0 mF) := by
  unfold m_product at hD
  refine wq_iload_n k1 rfl ?_
  refine wq_bipush (by decide) rfl ?_
  refine wq_icmp_ne pl1 ⟨by decide, by decide⟩ rfl rfl rfl (fun c1 => ?_) (fun c1 => ?_)
  · rw [if_neg c1] at hD
    refine wq_iload_n k1 rfl ?_
    refine wq_bipush (by decide) rfl ?_
    refine wq_icmp_ne pl1 ⟨by decide, by decide⟩ rfl rfl rfl (fun c2 => ?_) (fun c2 => ?_)
    · rw [if_neg c2] at hD
      refine wq_aload_n k0 rfl ?_
      obtain ⟨v7, m3, q6, hD⟩ := vb_of hD
      refine wm_cvI hr (c_back (by omega) hr q6) rfl rfl rfl (fun h4 hr5 pp8 => ?_)
      refine wl_istore_n rfl rfl (fun la9 kk10 t11 => ?_)
      have kk12 := t11 0 _ (by decide) (Or.inr rfl) k0
      refine wq_aload_n kk12 rfl ?_
      obtain ⟨v17, m13, q16, hD⟩ := vb_of hD
      refine wm_cvI hr5 (c_back (by omega) hr5 q16) rfl rfl rfl (fun h14 hr15 pp18 => ?_)
      refine wl_istore_n rfl rfl (fun la19 kk20 t21 => ?_)
      have kk22 := t21 0 _ (by decide) (Or.inr rfl) kk12
      have kk23 := t21 2 _ (by decide) (Or.inr rfl) kk10
      refine wq_aload_n kk22 rfl ?_
      refine wq_iload_n kk23 rfl ?_
      refine wq_aload_n kk22 rfl ?_
      refine wm_gfi hr15 rfl rfl (fun pp24 => ?_)
      refine wq_icmp_ne pp8 pp24 rfl rfl rfl (fun c25 => ?_) (fun c25 => ?_)
      · rw [if_neg c25] at hD
        exact c_m_product_169_b hd kk22 kk20 hr15 pp18 hD
      · rw [if_pos c25] at hD
        refine wq_iload_n kk20 rfl ?_
        refine wq_bipush (by decide) rfl ?_
        refine wq_icmp_ne pp18 ⟨by decide, by decide⟩ rfl rfl rfl (fun c26 => ?_) (fun c26 => ?_)
        · rw [if_neg c26] at hD
          refine wq_iload_n kk20 rfl ?_
          refine wq_bipush (by decide) rfl ?_
          refine wq_icmp_ne pp18 ⟨by decide, by decide⟩ rfl rfl rfl (fun c27 => ?_) (fun c27 => ?_)
          · rw [if_neg c27] at hD
            refine wq_aload_n kk22 rfl ?_
            refine wm_gfi hr15 rfl rfl (fun pp28 => ?_)
            refine wq_if_ne pp28 rfl rfl rfl (fun c29 => ?_) (fun c29 => ?_)
            · rw [if_neg c29] at hD
              exact c_m_product_169_b hd kk22 kk20 hr15 pp18 hD
            · rw [if_pos c29] at hD
              exact c_m_product_165_b hd kk22 kk20 hr15 pp18 hD
          · rw [if_pos c27] at hD
            refine wq_aload_n kk22 rfl ?_
            refine wm_gfi hr15 rfl rfl (fun pp30 => ?_)
            refine wq_if_eq pp30 rfl rfl rfl (fun c31 => ?_) (fun c31 => ?_)
            · rw [if_pos c31] at hD
              exact c_m_product_165_b hd kk22 kk20 hr15 pp18 hD
            · rw [if_neg c31] at hD
              refine wq_aload_n kk22 rfl ?_
              refine wm_gfi hr15 rfl rfl (fun pp32 => ?_)
              refine wq_iconst rfl ?_
              refine wq_icmp_ne pp32 ⟨by decide, by decide⟩ rfl rfl rfl (fun c33 => ?_) (fun c33 => ?_)
              · rw [if_neg c33] at hD
                exact c_m_product_169_b hd kk22 kk20 hr15 pp18 hD
              · rw [if_pos c33] at hD
                refine wq_goto rfl rfl ?_
                exact c_m_product_165_b hd kk22 kk20 hr15 pp18 hD
        · rw [if_pos c26] at hD
          refine wq_aload_n kk22 rfl ?_
          refine wm_gfi hr15 rfl rfl (fun pp34 => ?_)
          refine wq_iconst rfl ?_
          refine wq_icmp_ne pp34 ⟨by decide, by decide⟩ rfl rfl rfl (fun c35 => ?_) (fun c35 => ?_)
          · rw [if_neg c35] at hD
            exact c_m_product_169_b hd kk22 kk20 hr15 pp18 hD
          · rw [if_pos c35] at hD
            refine wq_goto rfl rfl ?_
            exact c_m_product_165_b hd kk22 kk20 hr15 pp18 hD
    · rw [if_pos c2] at hD
      refine wq_aload_n k0 rfl ?_
      refine wm_gfi hr rfl rfl (fun pp36 => ?_)
      refine wq_bipush (by decide) rfl ?_
      refine wq_icmp_eq pp36 ⟨by decide, by decide⟩ rfl rfl rfl (fun c37 => ?_) (fun c37 => ?_)
      · rw [if_pos c37] at hD
        exact c_m_product_63_b hd k0 hr hD
      · rw [if_neg c37] at hD
        refine wq_aload_n k0 rfl ?_
        refine wm_gfi hr rfl rfl (fun pp38 => ?_)
        refine wq_bipush (by decide) rfl ?_
        refine wq_icmp_eq pp38 ⟨by decide, by decide⟩ rfl rfl rfl (fun c39 => ?_) (fun c39 => ?_)
        · rw [if_pos c39] at hD
          exact c_m_product_63_b hd k0 hr hD
        · rw [if_neg c39] at hD
          refine wq_aload_n k0 rfl ?_
          refine wm_gfi hr rfl rfl (fun pp40 => ?_)
          refine wq_bipush (by decide) rfl ?_
          refine wq_icmp_eq pp40 ⟨by decide, by decide⟩ rfl rfl rfl (fun c41 => ?_) (fun c41 => ?_)
          · rw [if_pos c41] at hD
            exact c_m_product_63_b hd k0 hr hD
          · rw [if_neg c41] at hD
            refine wq_aload_n k0 rfl ?_
            refine wm_gfi hr rfl rfl (fun pp42 => ?_)
            refine wq_bipush (by decide) rfl ?_
            refine wq_icmp_ne pp42 ⟨by decide, by decide⟩ rfl rfl rfl (fun c43 => ?_) (fun c43 => ?_)
            · rw [if_neg c43] at hD
              exact c_m_product_193_b hd hr hD
            · rw [if_pos c43] at hD
              exact c_m_product_63_b hd k0 hr hD
  · rw [if_pos c1] at hD
    refine wq_aload_n k0 rfl ?_
    refine wq_bipush (by decide) rfl ?_
    obtain ⟨m44, q47, hD⟩ := nb_of hD
    refine wm_cvN hr (c_later (by omega) hr ⟨by decide, by decide⟩ q47) rfl rfl rfl (fun h45 hr46 => ?_)
    refine wq_aload_n k0 rfl ?_
    refine wq_bipush (by decide) rfl ?_
    obtain ⟨m48, q51, hD⟩ := nb_of hD
    refine wm_cvN hr46 (c_later (by omega) hr46 ⟨by decide, by decide⟩ q51) rfl rfl rfl (fun h49 hr50 => ?_)
    refine wq_goto rfl rfl ?_
    exact c_m_product_193_b hd hr50 hD
theorem c_product {d : Nat} (hd : 4 ≤ d) {g : Nat} {h0 h : RHeap} {m : MS} {l1 : Int} {mF : MS} (hr : RM h0 h m) (pl1 : InI l1) (hD : m_product g l1 m = some mF) : Cq (Cd O F rp_P d) 262 [.ref 170, wvi l1] h (QN h0 mF) := by
  refine cq_of (I := (5, 0, rw_X12_product, [])) rfl rfl (by omega) ?_
  exact c_m_product_b (by omega) rfl rfl hr pl1 hD
def m_reading_136 (g : Nat) (m : MS) : Option MS := some m
theorem c_m_reading_136_b {dd : Nat} (hd : 5 ≤ dd) {g : Nat} {h0 : RHeap} {mF : MS} {la : RLoc} {h : RHeap} {m : MS} (hr : RM h0 h m) (hD : m_reading_136 g m = some mF) : Wq O F (Cd O F rp_P dd) (3, 0, rw_X12_reading, []) (rx_at rw_X12_reading 136) la [] h (QN h0 mF) := by
  unfold m_reading_136 at hD
  cases hD
  exact wq_return rfl ⟨_, rfl, hr⟩
def m_reading_88 (g : Nat) (l2 : Int) (s1 : Int) (m : MS) : Option MS := nb (m_fits s1 m) (fun m54 => ck l2 140 (nb (m_write1 29 (m54 20 l2) m54) (fun m61 => nb (m_store l2 m61) (fun m65 => if (m65 10 0) = 20 then nb (m_take g m65) (fun m75 => nb (m_later 25 m75) (fun m79 => m_reading_136 g m79)) else nb (m_want g 17 m65) (fun m71 => m_reading_136 g m71)))))
theorem c_m_reading_88_b {dd : Nat} (hd : 5 ≤ dd) {g : Nat} {h0 : RHeap} {mF : MS} {la : RLoc} {h : RHeap} {m : MS} {l2 s1 : Int} (k0 : rx_look la 0 = some (.ref 170)) (k2 : rx_look la 2 = some (wvi l2)) (hr : RM h0 h m) (pl2 : InI l2) (ps1 : (s1 = 0 ∨ s1 = 1)) (hD : m_reading_88 g l2 s1 m = some mF) : Wq O F (Cd O F rp_P dd) (3, 0, rw_X12_reading, []) (rx_at rw_X12_reading 88) la [wvi s1, .ref 170] h (QN h0 mF) := by
  unfold m_reading_88 at hD
  obtain ⟨m54, q57, hD⟩ := nb_of hD
  refine wm_cvN hr (c_fits (by omega) hr ps1 q57) rfl rfl rfl (fun h55 hr56 => ?_)
  refine wq_aload_n k0 rfl ?_
  refine wq_bipush (by decide) rfl ?_
  refine wq_aload_n k0 rfl ?_
  refine wm_gfa (c := 0) hr56 rfl rfl ?_
  refine wq_iload_n k2 rfl ?_
  obtain ⟨g58, g59, hD⟩ := ck_of hD
  refine wm_ali (f := 20) hr56 rfl pl2 g58 g59 rfl (fun pp60 => ?_)
  obtain ⟨m61, q64, hD⟩ := nb_of hD
  refine wm_cvN hr56 (c_write1 (by omega) hr56 ⟨by decide, by decide⟩ pp60 q64) rfl rfl rfl (fun h62 hr63 => ?_)
  refine wq_aload_n k0 rfl ?_
  refine wq_iload_n k2 rfl ?_
  obtain ⟨m65, q68, hD⟩ := nb_of hD
  refine wm_cvN hr63 (c_store (by omega) hr63 pl2 q68) rfl rfl rfl (fun h66 hr67 => ?_)
  refine wq_aload_n k0 rfl ?_
  refine wm_gfi hr67 rfl rfl (fun pp69 => ?_)
  refine wq_bipush (by decide) rfl ?_
  refine wq_icmp_ne pp69 ⟨by decide, by decide⟩ rfl rfl rfl (fun c70 => ?_) (fun c70 => ?_)
  · rw [if_neg c70] at hD
    refine wq_aload_n k0 rfl ?_
    refine wq_bipush (by decide) rfl ?_
    obtain ⟨m71, q74, hD⟩ := nb_of hD
    refine wm_cvN hr67 (c_want (by omega) hr67 ⟨by decide, by decide⟩ q74) rfl rfl rfl (fun h72 hr73 => ?_)
    exact c_m_reading_136_b hd hr73 hD
  · rw [if_pos c70] at hD
    refine wq_aload_n k0 rfl ?_
    obtain ⟨m75, q78, hD⟩ := nb_of hD
    refine wm_cvN hr67 (c_take (by omega) hr67 q78) rfl rfl rfl (fun h76 hr77 => ?_)
    refine wq_aload_n k0 rfl ?_
    refine wq_bipush (by decide) rfl ?_
    obtain ⟨m79, q82, hD⟩ := nb_of hD
    refine wm_cvN hr77 (c_later (by omega) hr77 ⟨by decide, by decide⟩ q82) rfl rfl rfl (fun h80 hr81 => ?_)
    refine wq_goto rfl rfl ?_
    exact c_m_reading_136_b hd hr81 hD
def m_reading_83 (g : Nat) (l2 : Int) (m : MS) : Option MS := m_reading_88 g l2 1 m
theorem c_m_reading_83_b {dd : Nat} (hd : 5 ≤ dd) {g : Nat} {h0 : RHeap} {mF : MS} {la : RLoc} {h : RHeap} {m : MS} {l2 : Int} (k0 : rx_look la 0 = some (.ref 170)) (k2 : rx_look la 2 = some (wvi l2)) (hr : RM h0 h m) (pl2 : InI l2) (hD : m_reading_83 g l2 m = some mF) : Wq O F (Cd O F rp_P dd) (3, 0, rw_X12_reading, []) (rx_at rw_X12_reading 83) la [.ref 170] h (QN h0 mF) := by
  unfold m_reading_83 at hD
  refine wq_iconst rfl ?_
  refine wq_goto rfl rfl ?_
  exact c_m_reading_88_b hd k0 k2 hr pl2 (Or.inr rfl) hD
def m_reading_57 (g : Nat) (m : MS) : Option MS := some m
theorem c_m_reading_57_b {dd : Nat} (hd : 5 ≤ dd) {g : Nat} {h0 : RHeap} {mF : MS} {la : RLoc} {h : RHeap} {m : MS} (hr : RM h0 h m) (hD : m_reading_57 g m = some mF) : Wq O F (Cd O F rp_P dd) (3, 0, rw_X12_reading, []) (rx_at rw_X12_reading 57) la [] h (QN h0 mF) := by
  unfold m_reading_57 at hD
  cases hD
  exact wq_return rfl ⟨_, rfl, hr⟩
def m_reading_34 (g : Nat) (l2 : Int) (m : MS) : Option MS := if (m 6 0) = 0 then nb (m_keep l2 m) (fun m42 => nb (m_later 26 m42) (fun m46 => nb (m_variable g l2 m46) (fun m50 => m_reading_57 g m50))) else m_reading_57 g m
theorem c_m_reading_34_b {dd : Nat} (hd : 5 ≤ dd) {g : Nat} {h0 : RHeap} {mF : MS} {la : RLoc} {h : RHeap} {m : MS} {l2 : Int} (k0 : rx_look la 0 = some (.ref 170)) (k2 : rx_look la 2 = some (wvi l2)) (hr : RM h0 h m) (pl2 : InI l2) (hD : m_reading_34 g l2 m = some mF) : Wq O F (Cd O F rp_P dd) (3, 0, rw_X12_reading, []) (rx_at rw_X12_reading 34) la [] h (QN h0 mF) := by
  unfold m_reading_34 at hD
  refine wq_aload_n k0 rfl ?_
  refine wm_gfi hr rfl rfl (fun pp40 => ?_)
  refine wq_if_ne pp40 rfl rfl rfl (fun c41 => ?_) (fun c41 => ?_)
  · rw [if_neg c41] at hD
    exact c_m_reading_57_b hd hr hD
  · rw [if_pos c41] at hD
    refine wq_aload_n k0 rfl ?_
    refine wq_iload_n k2 rfl ?_
    obtain ⟨m42, q45, hD⟩ := nb_of hD
    refine wm_cvN hr (c_keep (by omega) hr pl2 q45) rfl rfl rfl (fun h43 hr44 => ?_)
    refine wq_aload_n k0 rfl ?_
    refine wq_bipush (by decide) rfl ?_
    obtain ⟨m46, q49, hD⟩ := nb_of hD
    refine wm_cvN hr44 (c_later (by omega) hr44 ⟨by decide, by decide⟩ q49) rfl rfl rfl (fun h47 hr48 => ?_)
    refine wq_aload_n k0 rfl ?_
    refine wq_iload_n k2 rfl ?_
    obtain ⟨m50, q53, hD⟩ := nb_of hD
    refine wm_cvN hr48 (c_variable (by omega) hr48 pl2 q53) rfl rfl rfl (fun h51 hr52 => ?_)
    exact c_m_reading_57_b hd hr52 hD
def m_reading (g : Nat) (l1 : Int) (m : MS) : Option MS := if l1 = 25 then vb (m_known g m) (fun v24 m20 => if v24 < 0 then m_reading_34 g v24 m20 else ck v24 140 (if (m20 17 v24) = 2 then m_reading_34 g v24 m20 else nb (m_fail 1 (m20 9 0) m20) (fun m36 => m_reading_34 g v24 m36))) else vb (m_back m) (fun v6 m2 => ck v6 140 (if (m2 20 v6) = 0 then m_reading_83 g v6 m2 else ck v6 140 (if (m2 20 v6) = 1 then m_reading_83 g v6 m2 else m_reading_88 g v6 0 m2)))
theorem c_m_reading_b {dd : Nat} (hd : 5 ≤ dd) {g : Nat} {h0 : RHeap} {mF : MS} {la : RLoc} {h : RHeap} {m : MS} {l1 : Int} (k0 : rx_look la 0 = some (.ref 170)) (k1 : rx_look la 1 = some (wvi l1)) (hr : RM h0 h m) (pl1 : InI l1) (hD : m_reading g l1 m = some mF) : Wq O F (Cd O F rp_P dd) (3, 0, rw_X12_reading, []) (rx_at rw_X12_reading 0) la [] h (QN h0 mF) := by
  unfold m_reading at hD
  refine wq_iload_n k1 rfl ?_
  refine wq_bipush (by decide) rfl ?_
  refine wq_icmp_ne pl1 ⟨by decide, by decide⟩ rfl rfl rfl (fun c1 => ?_) (fun c1 => ?_)
  · rw [if_neg c1] at hD
    refine wq_aload_n k0 rfl ?_
    obtain ⟨v6, m2, q5, hD⟩ := vb_of hD
    refine wm_cvI hr (c_back (by omega) hr q5) rfl rfl rfl (fun h3 hr4 pp7 => ?_)
    refine wl_istore_n rfl rfl (fun la8 kk9 t10 => ?_)
    have kk11 := t10 0 _ (by decide) (Or.inr rfl) k0
    refine wq_aload_n kk11 rfl ?_
    refine wq_aload_n kk11 rfl ?_
    refine wm_gfa (c := 0) hr4 rfl rfl ?_
    refine wq_iload_n kk9 rfl ?_
    obtain ⟨g12, g13, hD⟩ := ck_of hD
    refine wm_ali (f := 20) hr4 rfl pp7 g12 g13 rfl (fun pp14 => ?_)
    refine wq_if_eq pp14 rfl rfl rfl (fun c15 => ?_) (fun c15 => ?_)
    · rw [if_pos c15] at hD
      exact c_m_reading_83_b hd kk11 kk9 hr4 pp7 hD
    · rw [if_neg c15] at hD
      refine wq_aload_n kk11 rfl ?_
      refine wm_gfa (c := 0) hr4 rfl rfl ?_
      refine wq_iload_n kk9 rfl ?_
      obtain ⟨g16, g17, hD⟩ := ck_of hD
      refine wm_ali (f := 20) hr4 rfl pp7 g16 g17 rfl (fun pp18 => ?_)
      refine wq_iconst rfl ?_
      refine wq_icmp_ne pp18 ⟨by decide, by decide⟩ rfl rfl rfl (fun c19 => ?_) (fun c19 => ?_)
      · rw [if_neg c19] at hD
        refine wq_iconst rfl ?_
        exact c_m_reading_88_b hd kk11 kk9 hr4 pp7 (Or.inl rfl) hD
      · rw [if_pos c19] at hD
        exact c_m_reading_83_b hd kk11 kk9 hr4 pp7 hD
  · rw [if_pos c1] at hD
    refine wq_aload_n k0 rfl ?_
    obtain ⟨v24, m20, q23, hD⟩ := vb_of hD
    refine wm_cvI hr (c_known (by omega) hr q23) rfl rfl rfl (fun h21 hr22 pp25 => ?_)
    refine wl_istore_n rfl rfl (fun la26 kk27 t28 => ?_)
    have kk29 := t28 0 _ (by decide) (Or.inr rfl) k0
    refine wq_iload_n kk27 rfl ?_
    refine wq_if_lt pp25 rfl rfl rfl (fun c30 => ?_) (fun c30 => ?_)
    · rw [if_pos c30] at hD
      exact c_m_reading_34_b hd kk29 kk27 hr22 pp25 hD
    · rw [if_neg (Int.not_lt.mpr c30)] at hD
      refine wq_aload_n kk29 rfl ?_
      refine wm_gfa (c := 0) hr22 rfl rfl ?_
      refine wq_iload_n kk27 rfl ?_
      obtain ⟨g31, g32, hD⟩ := ck_of hD
      refine wm_ali (f := 17) hr22 rfl pp25 g31 g32 rfl (fun pp33 => ?_)
      refine wq_iconst rfl ?_
      refine wq_icmp_eq pp33 ⟨by decide, by decide⟩ rfl rfl rfl (fun c34 => ?_) (fun c34 => ?_)
      · rw [if_pos c34] at hD
        exact c_m_reading_34_b hd kk29 kk27 hr22 pp25 hD
      · rw [if_neg c34] at hD
        refine wq_aload_n kk29 rfl ?_
        refine wq_iconst rfl ?_
        refine wq_aload_n kk29 rfl ?_
        refine wm_gfi hr22 rfl rfl (fun pp35 => ?_)
        obtain ⟨m36, q39, hD⟩ := nb_of hD
        refine wm_cvN hr22 (c_fail (by omega) hr22 ⟨by decide, by decide⟩ pp35 q39) rfl rfl rfl (fun h37 hr38 => ?_)
        exact c_m_reading_34_b hd kk29 kk27 hr38 pp25 hD
theorem c_reading {d : Nat} (hd : 6 ≤ d) {g : Nat} {h0 h : RHeap} {m : MS} {l1 : Int} {mF : MS} (hr : RM h0 h m) (pl1 : InI l1) (hD : m_reading g l1 m = some mF) : Cq (Cd O F rp_P d) 270 [.ref 170, wvi l1] h (QN h0 mF) := by
  refine cq_of (I := (3, 0, rw_X12_reading, [])) rfl rfl (by omega) ?_
  exact c_m_reading_b (by omega) rfl rfl hr pl1 hD
def m_relation_188 (g : Nat) (m : MS) : Option MS := some m
theorem c_m_relation_188_b {dd : Nat} (hd : 3 ≤ dd) {g : Nat} {h0 : RHeap} {mF : MS} {la : RLoc} {h : RHeap} {m : MS} (hr : RM h0 h m) (hD : m_relation_188 g m = some mF) : Wq O F (Cd O F rp_P dd) (5, 0, rw_X12_relation, []) (rx_at rw_X12_relation 188) la [] h (QN h0 mF) := by
  unfold m_relation_188 at hD
  cases hD
  exact wq_return rfl ⟨_, rfl, hr⟩
def m_relation_159 (g : Nat) (l2 : Int) (l3 : Int) (s1 : Int) (m : MS) : Option MS := nb (m_fits s1 m) (fun m81 => vb (m_emit 10 l3 l2 0 m81) (fun v89 m85 => wlet (mset m85 62 0 2) (fun m95 => wlet (mset m95 63 0 (i32 ((m95 63 0) - 1))) (fun m100 => m_relation_188 g m100))))
theorem c_m_relation_159_b {dd : Nat} (hd : 3 ≤ dd) {g : Nat} {h0 : RHeap} {mF : MS} {la : RLoc} {h : RHeap} {m : MS} {l2 l3 s1 : Int} (k0 : rx_look la 0 = some (.ref 170)) (k2 : rx_look la 2 = some (wvi l2)) (k3 : rx_look la 3 = some (wvi l3)) (hr : RM h0 h m) (pl2 : InI l2) (pl3 : InI l3) (ps1 : (s1 = 0 ∨ s1 = 1)) (hD : m_relation_159 g l2 l3 s1 m = some mF) : Wq O F (Cd O F rp_P dd) (5, 0, rw_X12_relation, []) (rx_at rw_X12_relation 159) la [wvi s1, .ref 170] h (QN h0 mF) := by
  unfold m_relation_159 at hD
  obtain ⟨m81, q84, hD⟩ := nb_of hD
  refine wm_cvN hr (c_fits (by omega) hr ps1 q84) rfl rfl rfl (fun h82 hr83 => ?_)
  refine wq_aload_n k0 rfl ?_
  refine wq_bipush (by decide) rfl ?_
  refine wq_iload_n k3 rfl ?_
  refine wq_iload_n k2 rfl ?_
  refine wq_iconst rfl ?_
  obtain ⟨v89, m85, q88, hD⟩ := vb_of hD
  refine wm_cvI hr83 (c_emit (by omega) hr83 ⟨by decide, by decide⟩ pl3 pl2 ⟨by decide, by decide⟩ q88) rfl rfl rfl (fun h86 hr87 pp90 => ?_)
  refine wl_istore rfl rfl (fun la91 kk92 t93 => ?_)
  have kk94 := t93 0 _ (by decide) (Or.inr rfl) k0
  refine wq_aload_n kk94 rfl ?_
  refine wq_iconst rfl ?_
  obtain ⟨m95, e96, hD⟩ := wlet_of hD
  refine wm_pfi hr87 rfl rfl ⟨by decide, by decide⟩ rfl (fun h97 hr98 => ?_)
  rw [← e96] at hr98
  refine wq_aload_n kk94 rfl ?_
  refine wq_dup rfl rfl ?_
  refine wm_gfi hr98 rfl rfl (fun pp99 => ?_)
  refine wq_iconst rfl ?_
  refine wq_isub rfl ?_
  obtain ⟨m100, e101, hD⟩ := wlet_of hD
  refine wm_pfi hr98 rfl rfl (InI_i32 _) rfl (fun h102 hr103 => ?_)
  rw [← e101] at hr103
  exact c_m_relation_188_b hd hr103 hD
def m_relation_158 (g : Nat) (l2 : Int) (l3 : Int) (m : MS) : Option MS := m_relation_159 g l2 l3 0 m
theorem c_m_relation_158_b {dd : Nat} (hd : 3 ≤ dd) {g : Nat} {h0 : RHeap} {mF : MS} {la : RLoc} {h : RHeap} {m : MS} {l2 l3 : Int} (k0 : rx_look la 0 = some (.ref 170)) (k2 : rx_look la 2 = some (wvi l2)) (k3 : rx_look la 3 = some (wvi l3)) (hr : RM h0 h m) (pl2 : InI l2) (pl3 : InI l3) (hD : m_relation_158 g l2 l3 m = some mF) : Wq O F (Cd O F rp_P dd) (5, 0, rw_X12_relation, []) (rx_at rw_X12_relation 158) la [.ref 170] h (QN h0 mF) := by
  unfold m_relation_158 at hD
  refine wq_iconst rfl ?_
  exact c_m_relation_159_b hd k0 k2 k3 hr pl2 pl3 (Or.inl rfl) hD
def m_relation_154 (g : Nat) (l2 : Int) (l3 : Int) (m : MS) : Option MS := m_relation_159 g l2 l3 1 m
theorem c_m_relation_154_b {dd : Nat} (hd : 3 ≤ dd) {g : Nat} {h0 : RHeap} {mF : MS} {la : RLoc} {h : RHeap} {m : MS} {l2 l3 : Int} (k0 : rx_look la 0 = some (.ref 170)) (k2 : rx_look la 2 = some (wvi l2)) (k3 : rx_look la 3 = some (wvi l3)) (hr : RM h0 h m) (pl2 : InI l2) (pl3 : InI l3) (hD : m_relation_154 g l2 l3 m = some mF) : Wq O F (Cd O F rp_P dd) (5, 0, rw_X12_relation, []) (rx_at rw_X12_relation 154) la [.ref 170] h (QN h0 mF) := by
  unfold m_relation_154 at hD
  refine wq_iconst rfl ?_
  refine wq_goto rfl rfl ?_
  exact c_m_relation_159_b hd k0 k2 k3 hr pl2 pl3 (Or.inr rfl) hD
def m_relation_122 (g : Nat) (l2 : Int) (l3 : Int) (m : MS) : Option MS := m_relation_159 g l2 l3 0 m
theorem c_m_relation_122_b {dd : Nat} (hd : 3 ≤ dd) {g : Nat} {h0 : RHeap} {mF : MS} {la : RLoc} {h : RHeap} {m : MS} {l2 l3 : Int} (k0 : rx_look la 0 = some (.ref 170)) (k2 : rx_look la 2 = some (wvi l2)) (k3 : rx_look la 3 = some (wvi l3)) (hr : RM h0 h m) (pl2 : InI l2) (pl3 : InI l3) (hD : m_relation_122 g l2 l3 m = some mF) : Wq O F (Cd O F rp_P dd) (5, 0, rw_X12_relation, []) (rx_at rw_X12_relation 122) la [.ref 170] h (QN h0 mF) := by
  unfold m_relation_122 at hD
  refine wq_iconst rfl ?_
  refine wq_goto rfl rfl ?_
  exact c_m_relation_159_b hd k0 k2 k3 hr pl2 pl3 (Or.inl rfl) hD
def m_relation (g : Nat) (l1 : Int) (m : MS) : Option MS := if l1 = 30 then nb (m_deeper m) (fun m69 => nb (m_later 31 m69) (fun m73 => nb (m_later 33 m73) (fun m77 => m_relation_188 g m77))) else if l1 = 31 then vb (m_compares (m 10 0) m) (fun v39 m35 => if v39 = 0 then wlet (mset m35 63 0 (i32 ((m35 63 0) - 1))) (fun m43 => m_relation_188 g m43) else nb (m_keep (m35 10 0) m35) (fun m48 => nb (m_keep (m48 62 0) m48) (fun m53 => nb (m_take g m53) (fun m57 => nb (m_later 32 m57) (fun m61 => nb (m_later 33 m61) (fun m65 => m_relation_188 g m65)))))) else vb (m_back m) (fun v7 m3 => vb (m_back m3) (fun v17 m13 => if v17 = 56 then if v7 = 0 then if (m13 62 0) = 3 then m_relation_159 g v7 v17 1 m13 else m_relation_122 g v7 v17 m13 else m_relation_122 g v7 v17 m13 else if v7 = (m13 62 0) then if (m13 62 0) = 3 then if v17 = 13 then m_relation_154 g v7 v17 m13 else if v17 = 25 then m_relation_154 g v7 v17 m13 else m_relation_158 g v7 v17 m13 else m_relation_154 g v7 v17 m13 else m_relation_158 g v7 v17 m13))
theorem c_m_relation_b {dd : Nat} (hd : 3 ≤ dd) {g : Nat} {h0 : RHeap} {mF : MS} {la : RLoc} {h : RHeap} {m : MS} {l1 : Int} (k0 : rx_look la 0 = some (.ref 170)) (k1 : rx_look la 1 = some (wvi l1)) (hr : RM h0 h m) (pl1 : InI l1) (hD : m_relation g l1 m = some mF) : Wq O F (Cd O F rp_P dd) (5, 0, rw_X12_relation, []) (rx_at rw_X12_relation 0) la [] h (QN h0 mF) := by
  unfold m_relation at hD
  refine wq_iload_n k1 rfl ?_
  refine wq_bipush (by decide) rfl ?_
  refine wq_icmp_ne pl1 ⟨by decide, by decide⟩ rfl rfl rfl (fun c1 => ?_) (fun c1 => ?_)
  · rw [if_neg c1] at hD
    refine wq_iload_n k1 rfl ?_
    refine wq_bipush (by decide) rfl ?_
    refine wq_icmp_ne pl1 ⟨by decide, by decide⟩ rfl rfl rfl (fun c2 => ?_) (fun c2 => ?_)
    · rw [if_neg c2] at hD
      refine wq_aload_n k0 rfl ?_
      obtain ⟨v7, m3, q6, hD⟩ := vb_of hD
      refine wm_cvI hr (c_back (by omega) hr q6) rfl rfl rfl (fun h4 hr5 pp8 => ?_)
      refine wl_istore_n rfl rfl (fun la9 kk10 t11 => ?_)
      have kk12 := t11 0 _ (by decide) (Or.inr rfl) k0
      refine wq_aload_n kk12 rfl ?_
      obtain ⟨v17, m13, q16, hD⟩ := vb_of hD
      refine wm_cvI hr5 (c_back (by omega) hr5 q16) rfl rfl rfl (fun h14 hr15 pp18 => ?_)
      refine wl_istore_n rfl rfl (fun la19 kk20 t21 => ?_)
      have kk22 := t21 0 _ (by decide) (Or.inr rfl) kk12
      have kk23 := t21 2 _ (by decide) (Or.inr rfl) kk10
      refine wq_aload_n kk22 rfl ?_
      refine wq_iload_n kk20 rfl ?_
      refine wq_bipush (by decide) rfl ?_
      refine wq_icmp_ne pp18 ⟨by decide, by decide⟩ rfl rfl rfl (fun c24 => ?_) (fun c24 => ?_)
      · rw [if_neg c24] at hD
        refine wq_iload_n kk23 rfl ?_
        refine wq_aload_n kk22 rfl ?_
        refine wm_gfi hr15 rfl rfl (fun pp25 => ?_)
        refine wq_icmp_ne pp8 pp25 rfl rfl rfl (fun c26 => ?_) (fun c26 => ?_)
        · rw [if_neg c26] at hD
          exact c_m_relation_158_b hd kk22 kk23 kk20 hr15 pp8 pp18 hD
        · rw [if_pos c26] at hD
          refine wq_aload_n kk22 rfl ?_
          refine wm_gfi hr15 rfl rfl (fun pp27 => ?_)
          refine wq_iconst rfl ?_
          refine wq_icmp_ne pp27 ⟨by decide, by decide⟩ rfl rfl rfl (fun c28 => ?_) (fun c28 => ?_)
          · rw [if_neg c28] at hD
            exact c_m_relation_154_b hd kk22 kk23 kk20 hr15 pp8 pp18 hD
          · rw [if_pos c28] at hD
            refine wq_iload_n kk20 rfl ?_
            refine wq_bipush (by decide) rfl ?_
            refine wq_icmp_eq pp18 ⟨by decide, by decide⟩ rfl rfl rfl (fun c29 => ?_) (fun c29 => ?_)
            · rw [if_pos c29] at hD
              exact c_m_relation_154_b hd kk22 kk23 kk20 hr15 pp8 pp18 hD
            · rw [if_neg c29] at hD
              refine wq_iload_n kk20 rfl ?_
              refine wq_bipush (by decide) rfl ?_
              refine wq_icmp_ne pp18 ⟨by decide, by decide⟩ rfl rfl rfl (fun c30 => ?_) (fun c30 => ?_)
              · rw [if_neg c30] at hD
                exact c_m_relation_158_b hd kk22 kk23 kk20 hr15 pp8 pp18 hD
              · rw [if_pos c30] at hD
                exact c_m_relation_154_b hd kk22 kk23 kk20 hr15 pp8 pp18 hD
      · rw [if_pos c24] at hD
        refine wq_iload_n kk23 rfl ?_
        refine wq_if_ne pp8 rfl rfl rfl (fun c31 => ?_) (fun c31 => ?_)
        · rw [if_neg c31] at hD
          exact c_m_relation_122_b hd kk22 kk23 kk20 hr15 pp8 pp18 hD
        · rw [if_pos c31] at hD
          refine wq_aload_n kk22 rfl ?_
          refine wm_gfi hr15 rfl rfl (fun pp32 => ?_)
          refine wq_iconst rfl ?_
          refine wq_icmp_ne pp32 ⟨by decide, by decide⟩ rfl rfl rfl (fun c33 => ?_) (fun c33 => ?_)
          · rw [if_neg c33] at hD
            exact c_m_relation_122_b hd kk22 kk23 kk20 hr15 pp8 pp18 hD
          · rw [if_pos c33] at hD
            refine wq_iconst rfl ?_
            refine wq_goto rfl rfl ?_
            exact c_m_relation_159_b hd kk22 kk23 kk20 hr15 pp8 pp18 (Or.inr rfl) hD
    · rw [if_pos c2] at hD
      refine wq_aload_n k0 rfl ?_
      refine wm_gfi hr rfl rfl (fun pp34 => ?_)
      obtain ⟨v39, m35, q38, hD⟩ := vb_of hD
      refine wm_csZ (fun _ _ => rfl) (c_compares (by omega) hr pp34 q38) rfl rfl rfl (fun h36 hr37 pp40 => ?_)
      refine wq_if_eq (InI_z pp40) rfl rfl rfl (fun c41 => ?_) (fun c41 => ?_)
      · rw [if_pos c41] at hD
        refine wq_aload_n k0 rfl ?_
        refine wq_dup rfl rfl ?_
        refine wm_gfi hr37 rfl rfl (fun pp42 => ?_)
        refine wq_iconst rfl ?_
        refine wq_isub rfl ?_
        obtain ⟨m43, e44, hD⟩ := wlet_of hD
        refine wm_pfi hr37 rfl rfl (InI_i32 _) rfl (fun h45 hr46 => ?_)
        rw [← e44] at hr46
        refine wq_goto rfl rfl ?_
        exact c_m_relation_188_b hd hr46 hD
      · rw [if_neg c41] at hD
        refine wq_aload_n k0 rfl ?_
        refine wq_aload_n k0 rfl ?_
        refine wm_gfi hr37 rfl rfl (fun pp47 => ?_)
        obtain ⟨m48, q51, hD⟩ := nb_of hD
        refine wm_cvN hr37 (c_keep (by omega) hr37 pp47 q51) rfl rfl rfl (fun h49 hr50 => ?_)
        refine wq_aload_n k0 rfl ?_
        refine wq_aload_n k0 rfl ?_
        refine wm_gfi hr50 rfl rfl (fun pp52 => ?_)
        obtain ⟨m53, q56, hD⟩ := nb_of hD
        refine wm_cvN hr50 (c_keep (by omega) hr50 pp52 q56) rfl rfl rfl (fun h54 hr55 => ?_)
        refine wq_aload_n k0 rfl ?_
        obtain ⟨m57, q60, hD⟩ := nb_of hD
        refine wm_cvN hr55 (c_take (by omega) hr55 q60) rfl rfl rfl (fun h58 hr59 => ?_)
        refine wq_aload_n k0 rfl ?_
        refine wq_bipush (by decide) rfl ?_
        obtain ⟨m61, q64, hD⟩ := nb_of hD
        refine wm_cvN hr59 (c_later (by omega) hr59 ⟨by decide, by decide⟩ q64) rfl rfl rfl (fun h62 hr63 => ?_)
        refine wq_aload_n k0 rfl ?_
        refine wq_bipush (by decide) rfl ?_
        obtain ⟨m65, q68, hD⟩ := nb_of hD
        refine wm_cvN hr63 (c_later (by omega) hr63 ⟨by decide, by decide⟩ q68) rfl rfl rfl (fun h66 hr67 => ?_)
        refine wq_goto rfl rfl ?_
        exact c_m_relation_188_b hd hr67 hD
  · rw [if_pos c1] at hD
    refine wq_aload_n k0 rfl ?_
    obtain ⟨m69, q72, hD⟩ := nb_of hD
    refine wm_cvN hr (c_deeper (by omega) hr q72) rfl rfl rfl (fun h70 hr71 => ?_)
    refine wq_aload_n k0 rfl ?_
    refine wq_bipush (by decide) rfl ?_
    obtain ⟨m73, q76, hD⟩ := nb_of hD
    refine wm_cvN hr71 (c_later (by omega) hr71 ⟨by decide, by decide⟩ q76) rfl rfl rfl (fun h74 hr75 => ?_)
    refine wq_aload_n k0 rfl ?_
    refine wq_bipush (by decide) rfl ?_
    obtain ⟨m77, q80, hD⟩ := nb_of hD
    refine wm_cvN hr75 (c_later (by omega) hr75 ⟨by decide, by decide⟩ q80) rfl rfl rfl (fun h78 hr79 => ?_)
    refine wq_goto rfl rfl ?_
    exact c_m_relation_188_b hd hr79 hD
theorem c_relation {d : Nat} (hd : 4 ≤ d) {g : Nat} {h0 h : RHeap} {m : MS} {l1 : Int} {mF : MS} (hr : RM h0 h m) (pl1 : InI l1) (hD : m_relation g l1 m = some mF) : Cq (Cd O F rp_P d) 271 [.ref 170, wvi l1] h (QN h0 mF) := by
  refine cq_of (I := (5, 0, rw_X12_relation, [])) rfl rfl (by omega) ?_
  exact c_m_relation_b (by omega) rfl rfl hr pl1 hD
def m_sum_265 (g : Nat) (m : MS) : Option MS := some m
theorem c_m_sum_265_b {dd : Nat} (hd : 3 ≤ dd) {g : Nat} {h0 : RHeap} {mF : MS} {la : RLoc} {h : RHeap} {m : MS} (hr : RM h0 h m) (hD : m_sum_265 g m = some mF) : Wq O F (Cd O F rp_P dd) (5, 0, rw_X12_sum, []) (rx_at rw_X12_sum 265) la [] h (QN h0 mF) := by
  unfold m_sum_265 at hD
  cases hD
  exact wq_return rfl ⟨_, rfl, hr⟩
def m_sum_242 (g : Nat) (l3 : Int) (s1 : Int) (m : MS) : Option MS := nb (m_fits s1 m) (fun m114 => vb (m_emit 10 l3 (m114 62 0) 0 m114) (fun v123 m119 => nb (m_later 35 m119) (fun m129 => m_sum_265 g m129)))
theorem c_m_sum_242_b {dd : Nat} (hd : 3 ≤ dd) {g : Nat} {h0 : RHeap} {mF : MS} {la : RLoc} {h : RHeap} {m : MS} {l3 s1 : Int} (k0 : rx_look la 0 = some (.ref 170)) (k3 : rx_look la 3 = some (wvi l3)) (hr : RM h0 h m) (pl3 : InI l3) (ps1 : (s1 = 0 ∨ s1 = 1)) (hD : m_sum_242 g l3 s1 m = some mF) : Wq O F (Cd O F rp_P dd) (5, 0, rw_X12_sum, []) (rx_at rw_X12_sum 242) la [wvi s1, .ref 170] h (QN h0 mF) := by
  unfold m_sum_242 at hD
  obtain ⟨m114, q117, hD⟩ := nb_of hD
  refine wm_cvN hr (c_fits (by omega) hr ps1 q117) rfl rfl rfl (fun h115 hr116 => ?_)
  refine wq_aload_n k0 rfl ?_
  refine wq_bipush (by decide) rfl ?_
  refine wq_iload_n k3 rfl ?_
  refine wq_aload_n k0 rfl ?_
  refine wm_gfi hr116 rfl rfl (fun pp118 => ?_)
  refine wq_iconst rfl ?_
  obtain ⟨v123, m119, q122, hD⟩ := vb_of hD
  refine wm_cvI hr116 (c_emit (by omega) hr116 ⟨by decide, by decide⟩ pl3 pp118 ⟨by decide, by decide⟩ q122) rfl rfl rfl (fun h120 hr121 pp124 => ?_)
  refine wl_istore rfl rfl (fun la125 kk126 t127 => ?_)
  have kk128 := t127 0 _ (by decide) (Or.inr rfl) k0
  refine wq_aload_n kk128 rfl ?_
  refine wq_bipush (by decide) rfl ?_
  obtain ⟨m129, q132, hD⟩ := nb_of hD
  refine wm_cvN hr121 (c_later (by omega) hr121 ⟨by decide, by decide⟩ q132) rfl rfl rfl (fun h130 hr131 => ?_)
  exact c_m_sum_265_b hd hr131 hD
def m_sum_241 (g : Nat) (l3 : Int) (m : MS) : Option MS := m_sum_242 g l3 0 m
theorem c_m_sum_241_b {dd : Nat} (hd : 3 ≤ dd) {g : Nat} {h0 : RHeap} {mF : MS} {la : RLoc} {h : RHeap} {m : MS} {l3 : Int} (k0 : rx_look la 0 = some (.ref 170)) (k3 : rx_look la 3 = some (wvi l3)) (hr : RM h0 h m) (pl3 : InI l3) (hD : m_sum_241 g l3 m = some mF) : Wq O F (Cd O F rp_P dd) (5, 0, rw_X12_sum, []) (rx_at rw_X12_sum 241) la [.ref 170] h (QN h0 mF) := by
  unfold m_sum_241 at hD
  refine wq_iconst rfl ?_
  exact c_m_sum_242_b hd k0 k3 hr pl3 (Or.inl rfl) hD
def m_sum_237 (g : Nat) (l3 : Int) (m : MS) : Option MS := m_sum_242 g l3 1 m
theorem c_m_sum_237_b {dd : Nat} (hd : 3 ≤ dd) {g : Nat} {h0 : RHeap} {mF : MS} {la : RLoc} {h : RHeap} {m : MS} {l3 : Int} (k0 : rx_look la 0 = some (.ref 170)) (k3 : rx_look la 3 = some (wvi l3)) (hr : RM h0 h m) (pl3 : InI l3) (hD : m_sum_237 g l3 m = some mF) : Wq O F (Cd O F rp_P dd) (5, 0, rw_X12_sum, []) (rx_at rw_X12_sum 237) la [.ref 170] h (QN h0 mF) := by
  unfold m_sum_237 at hD
  refine wq_iconst rfl ?_
  refine wq_goto rfl rfl ?_
  exact c_m_sum_242_b hd k0 k3 hr pl3 (Or.inr rfl) hD
def m_sum_151 (g : Nat) (m : MS) : Option MS := nb (m_keep (m 10 0) m) (fun m93 => nb (m_keep (m93 62 0) m93) (fun m98 => nb (m_take g m98) (fun m102 => nb (m_later 36 m102) (fun m106 => nb (m_later 37 m106) (fun m110 => m_sum_265 g m110)))))
theorem c_m_sum_151_b {dd : Nat} (hd : 3 ≤ dd) {g : Nat} {h0 : RHeap} {mF : MS} {la : RLoc} {h : RHeap} {m : MS} (k0 : rx_look la 0 = some (.ref 170)) (hr : RM h0 h m) (hD : m_sum_151 g m = some mF) : Wq O F (Cd O F rp_P dd) (5, 0, rw_X12_sum, []) (rx_at rw_X12_sum 151) la [] h (QN h0 mF) := by
  unfold m_sum_151 at hD
  refine wq_aload_n k0 rfl ?_
  refine wq_aload_n k0 rfl ?_
  refine wm_gfi hr rfl rfl (fun pp92 => ?_)
  obtain ⟨m93, q96, hD⟩ := nb_of hD
  refine wm_cvN hr (c_keep (by omega) hr pp92 q96) rfl rfl rfl (fun h94 hr95 => ?_)
  refine wq_aload_n k0 rfl ?_
  refine wq_aload_n k0 rfl ?_
  refine wm_gfi hr95 rfl rfl (fun pp97 => ?_)
  obtain ⟨m98, q101, hD⟩ := nb_of hD
  refine wm_cvN hr95 (c_keep (by omega) hr95 pp97 q101) rfl rfl rfl (fun h99 hr100 => ?_)
  refine wq_aload_n k0 rfl ?_
  obtain ⟨m102, q105, hD⟩ := nb_of hD
  refine wm_cvN hr100 (c_take (by omega) hr100 q105) rfl rfl rfl (fun h103 hr104 => ?_)
  refine wq_aload_n k0 rfl ?_
  refine wq_bipush (by decide) rfl ?_
  obtain ⟨m106, q109, hD⟩ := nb_of hD
  refine wm_cvN hr104 (c_later (by omega) hr104 ⟨by decide, by decide⟩ q109) rfl rfl rfl (fun h107 hr108 => ?_)
  refine wq_aload_n k0 rfl ?_
  refine wq_bipush (by decide) rfl ?_
  obtain ⟨m110, q113, hD⟩ := nb_of hD
  refine wm_cvN hr108 (c_later (by omega) hr108 ⟨by decide, by decide⟩ q113) rfl rfl rfl (fun h111 hr112 => ?_)
  refine wq_goto rfl rfl ?_
  exact c_m_sum_265_b hd hr112 hD
def m_sum_109 (g : Nat) (m : MS) : Option MS := nb (m_later 35 m) (fun m88 => m_sum_265 g m88)
theorem c_m_sum_109_b {dd : Nat} (hd : 3 ≤ dd) {g : Nat} {h0 : RHeap} {mF : MS} {la : RLoc} {h : RHeap} {m : MS} (k0 : rx_look la 0 = some (.ref 170)) (hr : RM h0 h m) (hD : m_sum_109 g m = some mF) : Wq O F (Cd O F rp_P dd) (5, 0, rw_X12_sum, []) (rx_at rw_X12_sum 109) la [] h (QN h0 mF) := by
  unfold m_sum_109 at hD
  refine wq_aload_n k0 rfl ?_
  refine wq_bipush (by decide) rfl ?_
  obtain ⟨m88, q91, hD⟩ := nb_of hD
  refine wm_cvN hr (c_later (by omega) hr ⟨by decide, by decide⟩ q91) rfl rfl rfl (fun h89 hr90 => ?_)
  refine wq_goto rfl rfl ?_
  exact c_m_sum_265_b hd hr90 hD
def m_sum_94 (g : Nat) (l2 : Int) (s1 : Int) (m : MS) : Option MS := nb (m_fits s1 m) (fun m79 => if l2 = 11 then nb (m_write0 9 m79) (fun m84 => m_sum_109 g m84) else m_sum_109 g m79)
theorem c_m_sum_94_b {dd : Nat} (hd : 3 ≤ dd) {g : Nat} {h0 : RHeap} {mF : MS} {la : RLoc} {h : RHeap} {m : MS} {l2 s1 : Int} (k0 : rx_look la 0 = some (.ref 170)) (k2 : rx_look la 2 = some (wvi l2)) (hr : RM h0 h m) (pl2 : InI l2) (ps1 : (s1 = 0 ∨ s1 = 1)) (hD : m_sum_94 g l2 s1 m = some mF) : Wq O F (Cd O F rp_P dd) (5, 0, rw_X12_sum, []) (rx_at rw_X12_sum 94) la [wvi s1, .ref 170] h (QN h0 mF) := by
  unfold m_sum_94 at hD
  obtain ⟨m79, q82, hD⟩ := nb_of hD
  refine wm_cvN hr (c_fits (by omega) hr ps1 q82) rfl rfl rfl (fun h80 hr81 => ?_)
  refine wq_iload_n k2 rfl ?_
  refine wq_bipush (by decide) rfl ?_
  refine wq_icmp_ne pl2 ⟨by decide, by decide⟩ rfl rfl rfl (fun c83 => ?_) (fun c83 => ?_)
  · rw [if_neg c83] at hD
    exact c_m_sum_109_b hd k0 hr81 hD
  · rw [if_pos c83] at hD
    refine wq_aload_n k0 rfl ?_
    refine wq_bipush (by decide) rfl ?_
    obtain ⟨m84, q87, hD⟩ := nb_of hD
    refine wm_cvN hr81 (c_write0 (by omega) hr81 ⟨by decide, by decide⟩ q87) rfl rfl rfl (fun h85 hr86 => ?_)
    exact c_m_sum_109_b hd k0 hr86 hD
def m_sum_58 (g : Nat) (s1 : Int) (m : MS) : Option MS := nb (m_later s1 m) (fun m71 => nb (m_later 37 m71) (fun m75 => m_sum_265 g m75))
theorem c_m_sum_58_b {dd : Nat} (hd : 3 ≤ dd) {g : Nat} {h0 : RHeap} {mF : MS} {la : RLoc} {h : RHeap} {m : MS} {s1 : Int} (k0 : rx_look la 0 = some (.ref 170)) (hr : RM h0 h m) (ps1 : InI s1) (hD : m_sum_58 g s1 m = some mF) : Wq O F (Cd O F rp_P dd) (5, 0, rw_X12_sum, []) (rx_at rw_X12_sum 58) la [wvi s1, .ref 170] h (QN h0 mF) := by
  unfold m_sum_58 at hD
  obtain ⟨m71, q74, hD⟩ := nb_of hD
  refine wm_cvN hr (c_later (by omega) hr ps1 q74) rfl rfl rfl (fun h72 hr73 => ?_)
  refine wq_aload_n k0 rfl ?_
  refine wq_bipush (by decide) rfl ?_
  obtain ⟨m75, q78, hD⟩ := nb_of hD
  refine wm_cvN hr73 (c_later (by omega) hr73 ⟨by decide, by decide⟩ q78) rfl rfl rfl (fun h76 hr77 => ?_)
  refine wq_goto rfl rfl ?_
  exact c_m_sum_265_b hd hr77 hD
def m_sum_46 (g : Nat) (l2 : Int) (m : MS) : Option MS := if l2 = 0 then m_sum_58 g 35 m else m_sum_58 g 34 m
theorem c_m_sum_46_b {dd : Nat} (hd : 3 ≤ dd) {g : Nat} {h0 : RHeap} {mF : MS} {la : RLoc} {h : RHeap} {m : MS} {l2 : Int} (k0 : rx_look la 0 = some (.ref 170)) (k2 : rx_look la 2 = some (wvi l2)) (hr : RM h0 h m) (pl2 : (l2 = 0 ∨ l2 = 1)) (hD : m_sum_46 g l2 m = some mF) : Wq O F (Cd O F rp_P dd) (5, 0, rw_X12_sum, []) (rx_at rw_X12_sum 46) la [] h (QN h0 mF) := by
  unfold m_sum_46 at hD
  refine wq_aload_n k0 rfl ?_
  refine wq_iload_n k2 rfl ?_
  refine wq_if_eq (InI_z pl2) rfl rfl rfl (fun c70 => ?_) (fun c70 => ?_)
  · rw [if_pos c70] at hD
    refine wq_bipush (by decide) rfl ?_
    exact c_m_sum_58_b hd k0 hr ⟨by decide, by decide⟩ hD
  · rw [if_neg c70] at hD
    refine wq_bipush (by decide) rfl ?_
    refine wq_goto rfl rfl ?_
    exact c_m_sum_58_b hd k0 hr ⟨by decide, by decide⟩ hD
def m_sum_29 (g : Nat) (s0 : Int) (m : MS) : Option MS := if s0 = 0 then m_sum_46 g s0 m else nb (m_keep (m 10 0) m) (fun m62 => nb (m_take g m62) (fun m66 => m_sum_46 g s0 m66))
theorem c_m_sum_29_b {dd : Nat} (hd : 3 ≤ dd) {g : Nat} {h0 : RHeap} {mF : MS} {la : RLoc} {h : RHeap} {m : MS} {s0 : Int} (k0 : rx_look la 0 = some (.ref 170)) (hr : RM h0 h m) (ps0 : (s0 = 0 ∨ s0 = 1)) (hD : m_sum_29 g s0 m = some mF) : Wq O F (Cd O F rp_P dd) (5, 0, rw_X12_sum, []) (rx_at rw_X12_sum 29) la [wvi s0] h (QN h0 mF) := by
  unfold m_sum_29 at hD
  refine wl_istore_n rfl rfl (fun la56 kk57 t58 => ?_)
  have kk59 := t58 0 _ (by decide) (Or.inr rfl) k0
  refine wq_iload_n kk57 rfl ?_
  refine wq_if_eq (InI_z ps0) rfl rfl rfl (fun c60 => ?_) (fun c60 => ?_)
  · rw [if_pos c60] at hD
    exact c_m_sum_46_b hd kk59 kk57 hr ps0 hD
  · rw [if_neg c60] at hD
    refine wq_aload_n kk59 rfl ?_
    refine wq_aload_n kk59 rfl ?_
    refine wm_gfi hr rfl rfl (fun pp61 => ?_)
    obtain ⟨m62, q65, hD⟩ := nb_of hD
    refine wm_cvN hr (c_keep (by omega) hr pp61 q65) rfl rfl rfl (fun h63 hr64 => ?_)
    refine wq_aload_n kk59 rfl ?_
    obtain ⟨m66, q69, hD⟩ := nb_of hD
    refine wm_cvN hr64 (c_take (by omega) hr64 q69) rfl rfl rfl (fun h67 hr68 => ?_)
    exact c_m_sum_46_b hd kk59 kk57 hr68 ps0 hD
def m_sum_24 (g : Nat) (m : MS) : Option MS := m_sum_29 g 1 m
theorem c_m_sum_24_b {dd : Nat} (hd : 3 ≤ dd) {g : Nat} {h0 : RHeap} {mF : MS} {la : RLoc} {h : RHeap} {m : MS} (k0 : rx_look la 0 = some (.ref 170)) (hr : RM h0 h m) (hD : m_sum_24 g m = some mF) : Wq O F (Cd O F rp_P dd) (5, 0, rw_X12_sum, []) (rx_at rw_X12_sum 24) la [] h (QN h0 mF) := by
  unfold m_sum_24 at hD
  refine wq_iconst rfl ?_
  refine wq_goto rfl rfl ?_
  exact c_m_sum_29_b hd k0 hr (Or.inr rfl) hD
def m_sum (g : Nat) (l1 : Int) (m : MS) : Option MS := if l1 = 33 then if (m 10 0) = 10 then m_sum_24 g m else if (m 10 0) = 11 then m_sum_24 g m else m_sum_29 g 0 m else if l1 = 34 then vb (m_back m) (fun v44 m40 => if (m40 62 0) = 0 then m_sum_94 g v44 1 m40 else m_sum_94 g v44 0 m40) else if l1 = 35 then if (m 10 0) = 10 then m_sum_151 g m else if (m 10 0) = 11 then m_sum_151 g m else if (m 10 0) = 54 then m_sum_151 g m else m_sum_265 g m else vb (m_back m) (fun v8 m4 => vb (m_back m4) (fun v18 m14 => if v8 = (m14 62 0) then if v18 = 54 then if (m14 62 0) = 2 then m_sum_237 g v18 m14 else m_sum_241 g v18 m14 else if (m14 62 0) = 0 then m_sum_237 g v18 m14 else if (m14 62 0) = 3 then m_sum_237 g v18 m14 else m_sum_241 g v18 m14 else m_sum_241 g v18 m14))
theorem c_m_sum_b {dd : Nat} (hd : 3 ≤ dd) {g : Nat} {h0 : RHeap} {mF : MS} {la : RLoc} {h : RHeap} {m : MS} {l1 : Int} (k0 : rx_look la 0 = some (.ref 170)) (k1 : rx_look la 1 = some (wvi l1)) (hr : RM h0 h m) (pl1 : InI l1) (hD : m_sum g l1 m = some mF) : Wq O F (Cd O F rp_P dd) (5, 0, rw_X12_sum, []) (rx_at rw_X12_sum 0) la [] h (QN h0 mF) := by
  unfold m_sum at hD
  refine wq_iload_n k1 rfl ?_
  refine wq_bipush (by decide) rfl ?_
  refine wq_icmp_ne pl1 ⟨by decide, by decide⟩ rfl rfl rfl (fun c1 => ?_) (fun c1 => ?_)
  · rw [if_neg c1] at hD
    refine wq_iload_n k1 rfl ?_
    refine wq_bipush (by decide) rfl ?_
    refine wq_icmp_ne pl1 ⟨by decide, by decide⟩ rfl rfl rfl (fun c2 => ?_) (fun c2 => ?_)
    · rw [if_neg c2] at hD
      refine wq_iload_n k1 rfl ?_
      refine wq_bipush (by decide) rfl ?_
      refine wq_icmp_ne pl1 ⟨by decide, by decide⟩ rfl rfl rfl (fun c3 => ?_) (fun c3 => ?_)
      · rw [if_neg c3] at hD
        refine wq_aload_n k0 rfl ?_
        obtain ⟨v8, m4, q7, hD⟩ := vb_of hD
        refine wm_cvI hr (c_back (by omega) hr q7) rfl rfl rfl (fun h5 hr6 pp9 => ?_)
        refine wl_istore_n rfl rfl (fun la10 kk11 t12 => ?_)
        have kk13 := t12 0 _ (by decide) (Or.inr rfl) k0
        refine wq_aload_n kk13 rfl ?_
        obtain ⟨v18, m14, q17, hD⟩ := vb_of hD
        refine wm_cvI hr6 (c_back (by omega) hr6 q17) rfl rfl rfl (fun h15 hr16 pp19 => ?_)
        refine wl_istore_n rfl rfl (fun la20 kk21 t22 => ?_)
        have kk23 := t22 0 _ (by decide) (Or.inr rfl) kk13
        have kk24 := t22 2 _ (by decide) (Or.inr rfl) kk11
        refine wq_aload_n kk23 rfl ?_
        refine wq_iload_n kk24 rfl ?_
        refine wq_aload_n kk23 rfl ?_
        refine wm_gfi hr16 rfl rfl (fun pp25 => ?_)
        refine wq_icmp_ne pp9 pp25 rfl rfl rfl (fun c26 => ?_) (fun c26 => ?_)
        · rw [if_neg c26] at hD
          exact c_m_sum_241_b hd kk23 kk21 hr16 pp19 hD
        · rw [if_pos c26] at hD
          refine wq_iload_n kk21 rfl ?_
          refine wq_bipush (by decide) rfl ?_
          refine wq_icmp_ne pp19 ⟨by decide, by decide⟩ rfl rfl rfl (fun c27 => ?_) (fun c27 => ?_)
          · rw [if_neg c27] at hD
            refine wq_aload_n kk23 rfl ?_
            refine wm_gfi hr16 rfl rfl (fun pp28 => ?_)
            refine wq_if_eq pp28 rfl rfl rfl (fun c29 => ?_) (fun c29 => ?_)
            · rw [if_pos c29] at hD
              exact c_m_sum_237_b hd kk23 kk21 hr16 pp19 hD
            · rw [if_neg c29] at hD
              refine wq_aload_n kk23 rfl ?_
              refine wm_gfi hr16 rfl rfl (fun pp30 => ?_)
              refine wq_iconst rfl ?_
              refine wq_icmp_ne pp30 ⟨by decide, by decide⟩ rfl rfl rfl (fun c31 => ?_) (fun c31 => ?_)
              · rw [if_neg c31] at hD
                exact c_m_sum_241_b hd kk23 kk21 hr16 pp19 hD
              · rw [if_pos c31] at hD
                exact c_m_sum_237_b hd kk23 kk21 hr16 pp19 hD
          · rw [if_pos c27] at hD
            refine wq_aload_n kk23 rfl ?_
            refine wm_gfi hr16 rfl rfl (fun pp32 => ?_)
            refine wq_iconst rfl ?_
            refine wq_icmp_ne pp32 ⟨by decide, by decide⟩ rfl rfl rfl (fun c33 => ?_) (fun c33 => ?_)
            · rw [if_neg c33] at hD
              exact c_m_sum_241_b hd kk23 kk21 hr16 pp19 hD
            · rw [if_pos c33] at hD
              refine wq_goto rfl rfl ?_
              exact c_m_sum_237_b hd kk23 kk21 hr16 pp19 hD
      · rw [if_pos c3] at hD
        refine wq_aload_n k0 rfl ?_
        refine wm_gfi hr rfl rfl (fun pp34 => ?_)
        refine wq_bipush (by decide) rfl ?_
        refine wq_icmp_eq pp34 ⟨by decide, by decide⟩ rfl rfl rfl (fun c35 => ?_) (fun c35 => ?_)
        · rw [if_pos c35] at hD
          exact c_m_sum_151_b hd k0 hr hD
        · rw [if_neg c35] at hD
          refine wq_aload_n k0 rfl ?_
          refine wm_gfi hr rfl rfl (fun pp36 => ?_)
          refine wq_bipush (by decide) rfl ?_
          refine wq_icmp_eq pp36 ⟨by decide, by decide⟩ rfl rfl rfl (fun c37 => ?_) (fun c37 => ?_)
          · rw [if_pos c37] at hD
            exact c_m_sum_151_b hd k0 hr hD
          · rw [if_neg c37] at hD
            refine wq_aload_n k0 rfl ?_
            refine wm_gfi hr rfl rfl (fun pp38 => ?_)
            refine wq_bipush (by decide) rfl ?_
            refine wq_icmp_ne pp38 ⟨by decide, by decide⟩ rfl rfl rfl (fun c39 => ?_) (fun c39 => ?_)
            · rw [if_neg c39] at hD
              exact c_m_sum_265_b hd hr hD
            · rw [if_pos c39] at hD
              exact c_m_sum_151_b hd k0 hr hD
    · rw [if_pos c2] at hD
      refine wq_aload_n k0 rfl ?_
      obtain ⟨v44, m40, q43, hD⟩ := vb_of hD
      refine wm_cvI hr (c_back (by omega) hr q43) rfl rfl rfl (fun h41 hr42 pp45 => ?_)
      refine wl_istore_n rfl rfl (fun la46 kk47 t48 => ?_)
      have kk49 := t48 0 _ (by decide) (Or.inr rfl) k0
      refine wq_aload_n kk49 rfl ?_
      refine wq_aload_n kk49 rfl ?_
      refine wm_gfi hr42 rfl rfl (fun pp50 => ?_)
      refine wq_if_ne pp50 rfl rfl rfl (fun c51 => ?_) (fun c51 => ?_)
      · rw [if_neg c51] at hD
        refine wq_iconst rfl ?_
        exact c_m_sum_94_b hd kk49 kk47 hr42 pp45 (Or.inl rfl) hD
      · rw [if_pos c51] at hD
        refine wq_iconst rfl ?_
        refine wq_goto rfl rfl ?_
        exact c_m_sum_94_b hd kk49 kk47 hr42 pp45 (Or.inr rfl) hD
  · rw [if_pos c1] at hD
    refine wq_aload_n k0 rfl ?_
    refine wm_gfi hr rfl rfl (fun pp52 => ?_)
    refine wq_bipush (by decide) rfl ?_
    refine wq_icmp_eq pp52 ⟨by decide, by decide⟩ rfl rfl rfl (fun c53 => ?_) (fun c53 => ?_)
    · rw [if_pos c53] at hD
      exact c_m_sum_24_b hd k0 hr hD
    · rw [if_neg c53] at hD
      refine wq_aload_n k0 rfl ?_
      refine wm_gfi hr rfl rfl (fun pp54 => ?_)
      refine wq_bipush (by decide) rfl ?_
      refine wq_icmp_ne pp54 ⟨by decide, by decide⟩ rfl rfl rfl (fun c55 => ?_) (fun c55 => ?_)
      · rw [if_neg c55] at hD
        refine wq_iconst rfl ?_
        exact c_m_sum_29_b hd k0 hr (Or.inl rfl) hD
      · rw [if_pos c55] at hD
        exact c_m_sum_24_b hd k0 hr hD
theorem c_sum {d : Nat} (hd : 4 ≤ d) {g : Nat} {h0 h : RHeap} {m : MS} {l1 : Int} {mF : MS} (hr : RM h0 h m) (pl1 : InI l1) (hD : m_sum g l1 m = some mF) : Cq (Cd O F rp_P d) 281 [.ref 170, wvi l1] h (QN h0 mF) := by
  refine cq_of (I := (5, 0, rw_X12_sum, [])) rfl rfl (by omega) ?_
  exact c_m_sum_b (by omega) rfl rfl hr pl1 hD
def m_nextStatement_17 (g : Nat) (m : MS) : Option MS := some m
theorem c_m_nextStatement_17_b {dd : Nat} (hd : 3 ≤ dd) {g : Nat} {h0 : RHeap} {mF : MS} {la : RLoc} {h : RHeap} {m : MS} (hr : RM h0 h m) (hD : m_nextStatement_17 g m = some mF) : Wq O F (Cd O F rp_P dd) (1, 0, rw_X12_nextStatement, []) (rx_at rw_X12_nextStatement 17) la [] h (QN h0 mF) := by
  unfold m_nextStatement_17 at hD
  cases hD
  exact wq_return rfl ⟨_, rfl, hr⟩
def m_nextStatement (g : Nat) (m : MS) : Option MS := if (m 10 0) = 21 then nb (m_take g m) (fun m3 => nb (m_statements m3) (fun m7 => m_nextStatement_17 g m7)) else m_nextStatement_17 g m
theorem c_m_nextStatement_b {dd : Nat} (hd : 3 ≤ dd) {g : Nat} {h0 : RHeap} {mF : MS} {la : RLoc} {h : RHeap} {m : MS} (k0 : rx_look la 0 = some (.ref 170)) (hr : RM h0 h m) (hD : m_nextStatement g m = some mF) : Wq O F (Cd O F rp_P dd) (1, 0, rw_X12_nextStatement, []) (rx_at rw_X12_nextStatement 0) la [] h (QN h0 mF) := by
  unfold m_nextStatement at hD
  refine wq_aload_n k0 rfl ?_
  refine wm_gfi hr rfl rfl (fun pp1 => ?_)
  refine wq_bipush (by decide) rfl ?_
  refine wq_icmp_ne pp1 ⟨by decide, by decide⟩ rfl rfl rfl (fun c2 => ?_) (fun c2 => ?_)
  · rw [if_neg c2] at hD
    exact c_m_nextStatement_17_b hd hr hD
  · rw [if_pos c2] at hD
    refine wq_aload_n k0 rfl ?_
    obtain ⟨m3, q6, hD⟩ := nb_of hD
    refine wm_cvN hr (c_take (by omega) hr q6) rfl rfl rfl (fun h4 hr5 => ?_)
    refine wq_aload_n k0 rfl ?_
    obtain ⟨m7, q10, hD⟩ := nb_of hD
    refine wm_cvN hr5 (c_statements (by omega) hr5 q10) rfl rfl rfl (fun h8 hr9 => ?_)
    exact c_m_nextStatement_17_b hd hr9 hD
theorem c_nextStatement {d : Nat} (hd : 4 ≤ d) {g : Nat} {h0 h : RHeap} {m : MS} {mF : MS} (hr : RM h0 h m) (hD : m_nextStatement g m = some mF) : Cq (Cd O F rp_P d) 254 [.ref 170] h (QN h0 mF) := by
  refine cq_of (I := (1, 0, rw_X12_nextStatement, [])) rfl rfl (by omega) ?_
  exact c_m_nextStatement_b (by omega) rfl hr hD
def m_forStatement_68 (g : Nat) (l1 : Int) (l2 : Int) (m : MS) : Option MS := if 0 < (m 6 0) then some m else nb (m_variable g l2 m) (fun m47 => nb (m_want g 24 m47) (fun m51 => nb (m_keep l1 m51) (fun m55 => nb (m_keep l2 m55) (fun m59 => nb (m_later 18 m59) (fun m63 => nb (m_later 30 m63) (fun m67 => some m67))))))
theorem c_m_forStatement_68_b {dd : Nat} (hd : 5 ≤ dd) {g : Nat} {h0 : RHeap} {mF : MS} {la : RLoc} {h : RHeap} {m : MS} {l1 l2 : Int} (k0 : rx_look la 0 = some (.ref 170)) (k1 : rx_look la 1 = some (wvi l1)) (k2 : rx_look la 2 = some (wvi l2)) (hr : RM h0 h m) (pl1 : InI l1) (pl2 : InI l2) (hD : m_forStatement_68 g l1 l2 m = some mF) : Wq O F (Cd O F rp_P dd) (3, 0, rw_X12_forStatement, []) (rx_at rw_X12_forStatement 68) la [] h (QN h0 mF) := by
  unfold m_forStatement_68 at hD
  refine wq_aload_n k0 rfl ?_
  refine wm_gfi hr rfl rfl (fun pp45 => ?_)
  refine wq_if_le pp45 rfl rfl rfl (fun c46 => ?_) (fun c46 => ?_)
  · rw [if_neg (Int.not_lt.mpr c46)] at hD
    refine wq_aload_n k0 rfl ?_
    refine wq_iload_n k2 rfl ?_
    obtain ⟨m47, q50, hD⟩ := nb_of hD
    refine wm_cvN hr (c_variable (by omega) hr pl2 q50) rfl rfl rfl (fun h48 hr49 => ?_)
    refine wq_aload_n k0 rfl ?_
    refine wq_bipush (by decide) rfl ?_
    obtain ⟨m51, q54, hD⟩ := nb_of hD
    refine wm_cvN hr49 (c_want (by omega) hr49 ⟨by decide, by decide⟩ q54) rfl rfl rfl (fun h52 hr53 => ?_)
    refine wq_aload_n k0 rfl ?_
    refine wq_iload_n k1 rfl ?_
    obtain ⟨m55, q58, hD⟩ := nb_of hD
    refine wm_cvN hr53 (c_keep (by omega) hr53 pl1 q58) rfl rfl rfl (fun h56 hr57 => ?_)
    refine wq_aload_n k0 rfl ?_
    refine wq_iload_n k2 rfl ?_
    obtain ⟨m59, q62, hD⟩ := nb_of hD
    refine wm_cvN hr57 (c_keep (by omega) hr57 pl2 q62) rfl rfl rfl (fun h60 hr61 => ?_)
    refine wq_aload_n k0 rfl ?_
    refine wq_bipush (by decide) rfl ?_
    obtain ⟨m63, q66, hD⟩ := nb_of hD
    refine wm_cvN hr61 (c_later (by omega) hr61 ⟨by decide, by decide⟩ q66) rfl rfl rfl (fun h64 hr65 => ?_)
    refine wq_aload_n k0 rfl ?_
    refine wq_bipush (by decide) rfl ?_
    obtain ⟨m67, q70, hD⟩ := nb_of hD
    refine wm_cvN hr65 (c_later (by omega) hr65 ⟨by decide, by decide⟩ q70) rfl rfl rfl (fun h68 hr69 => ?_)
    cases hD
    exact wq_return rfl ⟨_, rfl, hr69⟩
  · rw [if_pos c46] at hD
    cases hD
    exact wq_return rfl ⟨_, rfl, hr⟩
def m_forStatement_59 (g : Nat) (l1 : Int) (l2 : Int) (m : MS) : Option MS := nb (m_fail 1 (m 9 0) m) (fun m41 => m_forStatement_68 g l1 l2 m41)
theorem c_m_forStatement_59_b {dd : Nat} (hd : 5 ≤ dd) {g : Nat} {h0 : RHeap} {mF : MS} {la : RLoc} {h : RHeap} {m : MS} {l1 l2 : Int} (k0 : rx_look la 0 = some (.ref 170)) (k1 : rx_look la 1 = some (wvi l1)) (k2 : rx_look la 2 = some (wvi l2)) (hr : RM h0 h m) (pl1 : InI l1) (pl2 : InI l2) (hD : m_forStatement_59 g l1 l2 m = some mF) : Wq O F (Cd O F rp_P dd) (3, 0, rw_X12_forStatement, []) (rx_at rw_X12_forStatement 59) la [] h (QN h0 mF) := by
  unfold m_forStatement_59 at hD
  refine wq_aload_n k0 rfl ?_
  refine wq_iconst rfl ?_
  refine wq_aload_n k0 rfl ?_
  refine wm_gfi hr rfl rfl (fun pp40 => ?_)
  obtain ⟨m41, q44, hD⟩ := nb_of hD
  refine wm_cvN hr (c_fail (by omega) hr ⟨by decide, by decide⟩ pp40 q44) rfl rfl rfl (fun h42 hr43 => ?_)
  exact c_m_forStatement_68_b hd k0 k1 k2 hr43 pl1 pl2 hD
def m_forStatement (g : Nat) (m : MS) : Option MS := nb (m_begins m) (fun m6 => nb (m_take g m6) (fun m10 => if 0 < (m10 6 0) then some m10 else vb (m_known g m10) (fun v20 m16 => if v20 < 0 then m_forStatement_68 g (m 9 0) v20 m16 else ck v20 140 (if (m16 17 v20) = 2 then ck v20 140 (if (m16 24 v20) = 0 then ck v20 140 (if (m16 20 v20) = 3 then m_forStatement_59 g (m 9 0) v20 m16 else m_forStatement_68 g (m 9 0) v20 m16) else m_forStatement_59 g (m 9 0) v20 m16) else m_forStatement_59 g (m 9 0) v20 m16))))
theorem c_m_forStatement_b {dd : Nat} (hd : 5 ≤ dd) {g : Nat} {h0 : RHeap} {mF : MS} {la : RLoc} {h : RHeap} {m : MS} (k0 : rx_look la 0 = some (.ref 170)) (hr : RM h0 h m) (hD : m_forStatement g m = some mF) : Wq O F (Cd O F rp_P dd) (3, 0, rw_X12_forStatement, []) (rx_at rw_X12_forStatement 0) la [] h (QN h0 mF) := by
  unfold m_forStatement at hD
  refine wq_aload_n k0 rfl ?_
  refine wm_gfi hr rfl rfl (fun pp1 => ?_)
  refine wl_istore_n rfl rfl (fun la2 kk3 t4 => ?_)
  have kk5 := t4 0 _ (by decide) (Or.inr rfl) k0
  refine wq_aload_n kk5 rfl ?_
  obtain ⟨m6, q9, hD⟩ := nb_of hD
  refine wm_cvN hr (c_begins (by omega) hr q9) rfl rfl rfl (fun h7 hr8 => ?_)
  refine wq_aload_n kk5 rfl ?_
  obtain ⟨m10, q13, hD⟩ := nb_of hD
  refine wm_cvN hr8 (c_take (by omega) hr8 q13) rfl rfl rfl (fun h11 hr12 => ?_)
  refine wq_aload_n kk5 rfl ?_
  refine wm_gfi hr12 rfl rfl (fun pp14 => ?_)
  refine wq_if_le pp14 rfl rfl rfl (fun c15 => ?_) (fun c15 => ?_)
  · rw [if_neg (Int.not_lt.mpr c15)] at hD
    refine wq_aload_n kk5 rfl ?_
    obtain ⟨v20, m16, q19, hD⟩ := vb_of hD
    refine wm_cvI hr12 (c_known (by omega) hr12 q19) rfl rfl rfl (fun h17 hr18 pp21 => ?_)
    refine wl_istore_n rfl rfl (fun la22 kk23 t24 => ?_)
    have kk25 := t24 0 _ (by decide) (Or.inr rfl) kk5
    have kk26 := t24 1 _ (by decide) (Or.inr rfl) kk3
    refine wq_iload_n kk23 rfl ?_
    refine wq_if_lt pp21 rfl rfl rfl (fun c27 => ?_) (fun c27 => ?_)
    · rw [if_pos c27] at hD
      exact c_m_forStatement_68_b hd kk25 kk26 kk23 hr18 pp1 pp21 hD
    · rw [if_neg (Int.not_lt.mpr c27)] at hD
      refine wq_aload_n kk25 rfl ?_
      refine wm_gfa (c := 0) hr18 rfl rfl ?_
      refine wq_iload_n kk23 rfl ?_
      obtain ⟨g28, g29, hD⟩ := ck_of hD
      refine wm_ali (f := 17) hr18 rfl pp21 g28 g29 rfl (fun pp30 => ?_)
      refine wq_iconst rfl ?_
      refine wq_icmp_ne pp30 ⟨by decide, by decide⟩ rfl rfl rfl (fun c31 => ?_) (fun c31 => ?_)
      · rw [if_neg c31] at hD
        exact c_m_forStatement_59_b hd kk25 kk26 kk23 hr18 pp1 pp21 hD
      · rw [if_pos c31] at hD
        refine wq_aload_n kk25 rfl ?_
        refine wm_gfa (c := 3) hr18 rfl rfl ?_
        refine wq_iload_n kk23 rfl ?_
        obtain ⟨g32, g33, hD⟩ := ck_of hD
        refine wm_alz (f := 24) hr18 rfl pp21 g32 g33 rfl (fun pp34 => ?_)
        refine wq_if_ne (InI_z pp34) rfl rfl rfl (fun c35 => ?_) (fun c35 => ?_)
        · rw [if_neg c35] at hD
          exact c_m_forStatement_59_b hd kk25 kk26 kk23 hr18 pp1 pp21 hD
        · rw [if_pos c35] at hD
          refine wq_aload_n kk25 rfl ?_
          refine wm_gfa (c := 0) hr18 rfl rfl ?_
          refine wq_iload_n kk23 rfl ?_
          obtain ⟨g36, g37, hD⟩ := ck_of hD
          refine wm_ali (f := 20) hr18 rfl pp21 g36 g37 rfl (fun pp38 => ?_)
          refine wq_iconst rfl ?_
          refine wq_icmp_ne pp38 ⟨by decide, by decide⟩ rfl rfl rfl (fun c39 => ?_) (fun c39 => ?_)
          · rw [if_neg c39] at hD
            exact c_m_forStatement_68_b hd kk25 kk26 kk23 hr18 pp1 pp21 hD
          · rw [if_pos c39] at hD
            exact c_m_forStatement_59_b hd kk25 kk26 kk23 hr18 pp1 pp21 hD
  · rw [if_pos c15] at hD
    cases hD
    exact wq_return rfl ⟨_, rfl, hr12⟩
theorem c_forStatement {d : Nat} (hd : 6 ≤ d) {g : Nat} {h0 h : RHeap} {m : MS} {mF : MS} (hr : RM h0 h m) (hD : m_forStatement g m = some mF) : Cq (Cd O F rp_P d) 230 [.ref 170] h (QN h0 mF) := by
  refine cq_of (I := (3, 0, rw_X12_forStatement, [])) rfl rfl (by omega) ?_
  exact c_m_forStatement_b (by omega) rfl hr hD
def m_isWithin_37 (s0 : Int) (m : MS) : Option (Int × MS) := some (s0, m)
theorem c_m_isWithin_37_b {dd : Nat} (hd : 0 ≤ dd) {h0 : RHeap} {vF : Int} {mF : MS} {la : RLoc} {h : RHeap} {m : MS} {s0 : Int} (hr : RM h0 h m) (ps0 : (s0 = 0 ∨ s0 = 1)) (hD : m_isWithin_37 s0 m = some (vF, mF)) : Wq O F (Cd O F rp_P dd) (3, 2, rw_X12_isWithin, []) (rx_at rw_X12_isWithin 37) la [wvi s0] h (QV 3 h0 vF mF) := by
  unfold m_isWithin_37 at hD
  cases hD
  exact wq_zreturn rfl ps0 ⟨_, rfl, hr, ps0⟩
def m_isWithin_36 (m : MS) : Option (Int × MS) := m_isWithin_37 0 m
theorem c_m_isWithin_36_b {dd : Nat} (hd : 0 ≤ dd) {h0 : RHeap} {vF : Int} {mF : MS} {la : RLoc} {h : RHeap} {m : MS} (hr : RM h0 h m) (hD : m_isWithin_36 m = some (vF, mF)) : Wq O F (Cd O F rp_P dd) (3, 2, rw_X12_isWithin, []) (rx_at rw_X12_isWithin 36) la [] h (QV 3 h0 vF mF) := by
  unfold m_isWithin_36 at hD
  refine wq_iconst rfl ?_
  exact c_m_isWithin_37_b hd hr (Or.inl rfl) hD
def m_isWithin (l1 : Int) (m : MS) : Option (Int × MS) := ck l1 140 (if (m 41 0) < (i32 ((m 18 l1) + 1)) then m_isWithin_36 m else ck (i32 ((m 18 l1) + 1)) 8 (ck l1 140 (if (m 44 (i32 ((m 18 l1) + 1))) = (m 30 l1) then m_isWithin_37 1 m else m_isWithin_36 m)))
theorem c_m_isWithin_b {dd : Nat} (hd : 0 ≤ dd) {h0 : RHeap} {vF : Int} {mF : MS} {la : RLoc} {h : RHeap} {m : MS} {l1 : Int} (k0 : rx_look la 0 = some (.ref 170)) (k1 : rx_look la 1 = some (wvi l1)) (hr : RM h0 h m) (pl1 : InI l1) (hD : m_isWithin l1 m = some (vF, mF)) : Wq O F (Cd O F rp_P dd) (3, 2, rw_X12_isWithin, []) (rx_at rw_X12_isWithin 0) la [] h (QV 3 h0 vF mF) := by
  unfold m_isWithin at hD
  refine wq_aload_n k0 rfl ?_
  refine wm_gfa (c := 0) hr rfl rfl ?_
  refine wq_iload_n k1 rfl ?_
  obtain ⟨g1, g2, hD⟩ := ck_of hD
  refine wm_ali (f := 18) hr rfl pl1 g1 g2 rfl (fun pp3 => ?_)
  refine wq_iconst rfl ?_
  refine wq_iadd rfl ?_
  refine wl_istore_n rfl rfl (fun la4 kk5 t6 => ?_)
  have kk7 := t6 0 _ (by decide) (Or.inr rfl) k0
  have kk8 := t6 1 _ (by decide) (Or.inr rfl) k1
  refine wq_aload_n kk7 rfl ?_
  refine wm_gfi hr rfl rfl (fun pp9 => ?_)
  refine wq_iload_n kk5 rfl ?_
  refine wq_icmp_lt pp9 (InI_i32 _) rfl rfl rfl (fun c10 => ?_) (fun c10 => ?_)
  · rw [if_pos c10] at hD
    exact c_m_isWithin_36_b hd hr hD
  · rw [if_neg (Int.not_lt.mpr c10)] at hD
    refine wq_aload_n kk7 rfl ?_
    refine wm_gfa (c := 0) hr rfl rfl ?_
    refine wq_iload_n kk5 rfl ?_
    obtain ⟨g11, g12, hD⟩ := ck_of hD
    refine wm_ali (f := 44) hr rfl (InI_i32 _) g11 g12 rfl (fun pp13 => ?_)
    refine wq_aload_n kk7 rfl ?_
    refine wm_gfa (c := 0) hr rfl rfl ?_
    refine wq_iload_n kk8 rfl ?_
    obtain ⟨g14, g15, hD⟩ := ck_of hD
    refine wm_ali (f := 30) hr rfl pl1 g14 g15 rfl (fun pp16 => ?_)
    refine wq_icmp_ne pp13 pp16 rfl rfl rfl (fun c17 => ?_) (fun c17 => ?_)
    · rw [if_neg c17] at hD
      exact c_m_isWithin_36_b hd hr hD
    · rw [if_pos c17] at hD
      refine wq_iconst rfl ?_
      refine wq_goto rfl rfl ?_
      exact c_m_isWithin_37_b hd hr (Or.inr rfl) hD
theorem c_isWithin {d : Nat} (hd : 1 ≤ d) {h0 h : RHeap} {m : MS} {l1 : Int} {vF : Int} {mF : MS} (hr : RM h0 h m) (pl1 : InI l1) (hD : m_isWithin l1 m = some (vF, mF)) : Cq (Cd O F rp_P d) 239 [.ref 170, wvi l1] h (QV 3 h0 vF mF) := by
  refine cq_of (I := (3, 2, rw_X12_isWithin, [])) rfl rfl (by omega) ?_
  exact c_m_isWithin_b (by omega) rfl rfl hr pl1 hD
def m_nameStatement_127 (g : Nat) (m : MS) : Option MS := some m
theorem c_m_nameStatement_127_b {dd : Nat} (hd : 5 ≤ dd) {g : Nat} {h0 : RHeap} {mF : MS} {la : RLoc} {h : RHeap} {m : MS} (hr : RM h0 h m) (hD : m_nameStatement_127 g m = some mF) : Wq O F (Cd O F rp_P dd) (3, 0, rw_X12_nameStatement, []) (rx_at rw_X12_nameStatement 127) la [] h (QN h0 mF) := by
  unfold m_nameStatement_127 at hD
  cases hD
  exact wq_return rfl ⟨_, rfl, hr⟩
def m_nameStatement_95 (g : Nat) (l1 : Int) (m : MS) : Option MS := ck l1 140 (if (m 17 l1) = 3 then ck l1 140 (nb (m_call g (m 30 l1) m) (fun m81 => m_nameStatement_127 g m81)) else nb (m_fail 1 (m 9 0) m) (fun m74 => m_nameStatement_127 g m74))
theorem c_m_nameStatement_95_b {dd : Nat} (hd : 5 ≤ dd) {g : Nat} {h0 : RHeap} {mF : MS} {la : RLoc} {h : RHeap} {m : MS} {l1 : Int} (k0 : rx_look la 0 = some (.ref 170)) (k1 : rx_look la 1 = some (wvi l1)) (hr : RM h0 h m) (pl1 : InI l1) (hD : m_nameStatement_95 g l1 m = some mF) : Wq O F (Cd O F rp_P dd) (3, 0, rw_X12_nameStatement, []) (rx_at rw_X12_nameStatement 95) la [] h (QN h0 mF) := by
  unfold m_nameStatement_95 at hD
  refine wq_aload_n k0 rfl ?_
  refine wm_gfa (c := 0) hr rfl rfl ?_
  refine wq_iload_n k1 rfl ?_
  obtain ⟨g69, g70, hD⟩ := ck_of hD
  refine wm_ali (f := 17) hr rfl pl1 g69 g70 rfl (fun pp71 => ?_)
  refine wq_iconst rfl ?_
  refine wq_icmp_ne pp71 ⟨by decide, by decide⟩ rfl rfl rfl (fun c72 => ?_) (fun c72 => ?_)
  · rw [if_neg c72] at hD
    refine wq_aload_n k0 rfl ?_
    refine wq_iconst rfl ?_
    refine wq_aload_n k0 rfl ?_
    refine wm_gfi hr rfl rfl (fun pp73 => ?_)
    obtain ⟨m74, q77, hD⟩ := nb_of hD
    refine wm_cvN hr (c_fail (by omega) hr ⟨by decide, by decide⟩ pp73 q77) rfl rfl rfl (fun h75 hr76 => ?_)
    exact c_m_nameStatement_127_b hd hr76 hD
  · rw [if_pos c72] at hD
    refine wq_aload_n k0 rfl ?_
    refine wq_aload_n k0 rfl ?_
    refine wm_gfa (c := 0) hr rfl rfl ?_
    refine wq_iload_n k1 rfl ?_
    obtain ⟨g78, g79, hD⟩ := ck_of hD
    refine wm_ali (f := 30) hr rfl pl1 g78 g79 rfl (fun pp80 => ?_)
    obtain ⟨m81, q84, hD⟩ := nb_of hD
    refine wm_cvN hr (c_call (by omega) hr pp80 q84) rfl rfl rfl (fun h82 hr83 => ?_)
    refine wq_goto rfl rfl ?_
    exact c_m_nameStatement_127_b hd hr83 hD
def m_nameStatement (g : Nat) (m : MS) : Option MS := vb (m_known g m) (fun v5 m1 => if v5 < 0 then some m1 else nb (m_begins m1) (fun m12 => ck v5 140 (if (m12 17 v5) = 2 then nb (m_keep v5 m12) (fun m57 => nb (m_later 8 m57) (fun m61 => nb (m_variable g v5 m61) (fun m65 => m_nameStatement_127 g m65))) else ck v5 140 (if (m12 17 v5) = 4 then vb (m_isWithin v5 m12) (fun v28 m24 => if v28 = 0 then m_nameStatement_95 g v5 m24 else ck v5 140 (vb (m_emit 3 (i32 ((m24 18 v5) + 1)) 0 0 m24) (fun v38 m34 => nb (m_keep v5 m34) (fun m45 => nb (m_later 8 m45) (fun m49 => nb (m_take g m49) (fun m53 => m_nameStatement_127 g m53)))))) else m_nameStatement_95 g v5 m12))))
theorem c_m_nameStatement_b {dd : Nat} (hd : 5 ≤ dd) {g : Nat} {h0 : RHeap} {mF : MS} {la : RLoc} {h : RHeap} {m : MS} (k0 : rx_look la 0 = some (.ref 170)) (hr : RM h0 h m) (hD : m_nameStatement g m = some mF) : Wq O F (Cd O F rp_P dd) (3, 0, rw_X12_nameStatement, []) (rx_at rw_X12_nameStatement 0) la [] h (QN h0 mF) := by
  unfold m_nameStatement at hD
  refine wq_aload_n k0 rfl ?_
  obtain ⟨v5, m1, q4, hD⟩ := vb_of hD
  refine wm_cvI hr (c_known (by omega) hr q4) rfl rfl rfl (fun h2 hr3 pp6 => ?_)
  refine wl_istore_n rfl rfl (fun la7 kk8 t9 => ?_)
  have kk10 := t9 0 _ (by decide) (Or.inr rfl) k0
  refine wq_iload_n kk8 rfl ?_
  refine wq_if_ge pp6 rfl rfl rfl (fun c11 => ?_) (fun c11 => ?_)
  · rw [if_neg (Int.not_lt.mpr c11)] at hD
    refine wq_aload_n kk10 rfl ?_
    obtain ⟨m12, q15, hD⟩ := nb_of hD
    refine wm_cvN hr3 (c_begins (by omega) hr3 q15) rfl rfl rfl (fun h13 hr14 => ?_)
    refine wq_aload_n kk10 rfl ?_
    refine wm_gfa (c := 0) hr14 rfl rfl ?_
    refine wq_iload_n kk8 rfl ?_
    obtain ⟨g16, g17, hD⟩ := ck_of hD
    refine wm_ali (f := 17) hr14 rfl pp6 g16 g17 rfl (fun pp18 => ?_)
    refine wq_iconst rfl ?_
    refine wq_icmp_ne pp18 ⟨by decide, by decide⟩ rfl rfl rfl (fun c19 => ?_) (fun c19 => ?_)
    · rw [if_neg c19] at hD
      refine wq_aload_n kk10 rfl ?_
      refine wm_gfa (c := 0) hr14 rfl rfl ?_
      refine wq_iload_n kk8 rfl ?_
      obtain ⟨g20, g21, hD⟩ := ck_of hD
      refine wm_ali (f := 17) hr14 rfl pp6 g20 g21 rfl (fun pp22 => ?_)
      refine wq_iconst rfl ?_
      refine wq_icmp_ne pp22 ⟨by decide, by decide⟩ rfl rfl rfl (fun c23 => ?_) (fun c23 => ?_)
      · rw [if_neg c23] at hD
        exact c_m_nameStatement_95_b hd kk10 kk8 hr14 pp6 hD
      · rw [if_pos c23] at hD
        refine wq_aload_n kk10 rfl ?_
        refine wq_iload_n kk8 rfl ?_
        obtain ⟨v28, m24, q27, hD⟩ := vb_of hD
        refine wm_cvZ hr14 (c_isWithin (by omega) hr14 pp6 q27) rfl rfl rfl (fun h25 hr26 pp29 => ?_)
        refine wq_if_eq (InI_z pp29) rfl rfl rfl (fun c30 => ?_) (fun c30 => ?_)
        · rw [if_pos c30] at hD
          exact c_m_nameStatement_95_b hd kk10 kk8 hr26 pp6 hD
        · rw [if_neg c30] at hD
          refine wq_aload_n kk10 rfl ?_
          refine wq_iconst rfl ?_
          refine wq_aload_n kk10 rfl ?_
          refine wm_gfa (c := 0) hr26 rfl rfl ?_
          refine wq_iload_n kk8 rfl ?_
          obtain ⟨g31, g32, hD⟩ := ck_of hD
          refine wm_ali (f := 18) hr26 rfl pp6 g31 g32 rfl (fun pp33 => ?_)
          refine wq_iconst rfl ?_
          refine wq_iadd rfl ?_
          refine wq_iconst rfl ?_
          refine wq_iconst rfl ?_
          obtain ⟨v38, m34, q37, hD⟩ := vb_of hD
          refine wm_cvI hr26 (c_emit (by omega) hr26 ⟨by decide, by decide⟩ (InI_i32 _) ⟨by decide, by decide⟩ ⟨by decide, by decide⟩ q37) rfl rfl rfl (fun h35 hr36 pp39 => ?_)
          refine wl_istore_n rfl rfl (fun la40 kk41 t42 => ?_)
          have kk43 := t42 0 _ (by decide) (Or.inr rfl) kk10
          have kk44 := t42 1 _ (by decide) (Or.inr rfl) kk8
          refine wq_aload_n kk43 rfl ?_
          refine wq_iload_n kk44 rfl ?_
          obtain ⟨m45, q48, hD⟩ := nb_of hD
          refine wm_cvN hr36 (c_keep (by omega) hr36 pp6 q48) rfl rfl rfl (fun h46 hr47 => ?_)
          refine wq_aload_n kk43 rfl ?_
          refine wq_bipush (by decide) rfl ?_
          obtain ⟨m49, q52, hD⟩ := nb_of hD
          refine wm_cvN hr47 (c_later (by omega) hr47 ⟨by decide, by decide⟩ q52) rfl rfl rfl (fun h50 hr51 => ?_)
          refine wq_aload_n kk43 rfl ?_
          obtain ⟨m53, q56, hD⟩ := nb_of hD
          refine wm_cvN hr51 (c_take (by omega) hr51 q56) rfl rfl rfl (fun h54 hr55 => ?_)
          refine wq_goto rfl rfl ?_
          exact c_m_nameStatement_127_b hd hr55 hD
    · rw [if_pos c19] at hD
      refine wq_aload_n kk10 rfl ?_
      refine wq_iload_n kk8 rfl ?_
      obtain ⟨m57, q60, hD⟩ := nb_of hD
      refine wm_cvN hr14 (c_keep (by omega) hr14 pp6 q60) rfl rfl rfl (fun h58 hr59 => ?_)
      refine wq_aload_n kk10 rfl ?_
      refine wq_bipush (by decide) rfl ?_
      obtain ⟨m61, q64, hD⟩ := nb_of hD
      refine wm_cvN hr59 (c_later (by omega) hr59 ⟨by decide, by decide⟩ q64) rfl rfl rfl (fun h62 hr63 => ?_)
      refine wq_aload_n kk10 rfl ?_
      refine wq_iload_n kk8 rfl ?_
      obtain ⟨m65, q68, hD⟩ := nb_of hD
      refine wm_cvN hr63 (c_variable (by omega) hr63 pp6 q68) rfl rfl rfl (fun h66 hr67 => ?_)
      refine wq_goto rfl rfl ?_
      exact c_m_nameStatement_127_b hd hr67 hD
  · rw [if_pos c11] at hD
    cases hD
    exact wq_return rfl ⟨_, rfl, hr3⟩
theorem c_nameStatement {d : Nat} (hd : 6 ≤ d) {g : Nat} {h0 h : RHeap} {m : MS} {mF : MS} (hr : RM h0 h m) (hD : m_nameStatement g m = some mF) : Cq (Cd O F rp_P d) 251 [.ref 170] h (QN h0 mF) := by
  refine cq_of (I := (3, 0, rw_X12_nameStatement, [])) rfl rfl (by omega) ?_
  exact c_m_nameStatement_b (by omega) rfl hr hD
def m_writeStatement_59 (g : Nat) (s1 : Int) (m : MS) : Option MS := nb (m_keep s1 m) (fun m27 => nb (m_later 27 m27) (fun m31 => some m31))
theorem c_m_writeStatement_59_b {dd : Nat} (hd : 4 ≤ dd) {g : Nat} {h0 : RHeap} {mF : MS} {la : RLoc} {h : RHeap} {m : MS} {s1 : Int} (k0 : rx_look la 0 = some (.ref 170)) (hr : RM h0 h m) (ps1 : (s1 = 0 ∨ s1 = 1)) (hD : m_writeStatement_59 g s1 m = some mF) : Wq O F (Cd O F rp_P dd) (2, 0, rw_X12_writeStatement, []) (rx_at rw_X12_writeStatement 59) la [wvi s1, .ref 170] h (QN h0 mF) := by
  unfold m_writeStatement_59 at hD
  obtain ⟨m27, q30, hD⟩ := nb_of hD
  refine wm_cvN hr (c_keep (by omega) hr (InI_z ps1) q30) rfl rfl rfl (fun h28 hr29 => ?_)
  refine wq_aload_n k0 rfl ?_
  refine wq_bipush (by decide) rfl ?_
  obtain ⟨m31, q34, hD⟩ := nb_of hD
  refine wm_cvN hr29 (c_later (by omega) hr29 ⟨by decide, by decide⟩ q34) rfl rfl rfl (fun h32 hr33 => ?_)
  cases hD
  exact wq_return rfl ⟨_, rfl, hr33⟩
def m_writeStatement_43 (g : Nat) (l1 : Int) (m : MS) : Option MS := nb (m_want g 16 m) (fun m22 => if l1 = 0 then m_writeStatement_59 g 0 m22 else m_writeStatement_59 g 1 m22)
theorem c_m_writeStatement_43_b {dd : Nat} (hd : 4 ≤ dd) {g : Nat} {h0 : RHeap} {mF : MS} {la : RLoc} {h : RHeap} {m : MS} {l1 : Int} (k0 : rx_look la 0 = some (.ref 170)) (k1 : rx_look la 1 = some (wvi l1)) (hr : RM h0 h m) (pl1 : (l1 = 0 ∨ l1 = 1)) (hD : m_writeStatement_43 g l1 m = some mF) : Wq O F (Cd O F rp_P dd) (2, 0, rw_X12_writeStatement, []) (rx_at rw_X12_writeStatement 43) la [] h (QN h0 mF) := by
  unfold m_writeStatement_43 at hD
  refine wq_aload_n k0 rfl ?_
  refine wq_bipush (by decide) rfl ?_
  obtain ⟨m22, q25, hD⟩ := nb_of hD
  refine wm_cvN hr (c_want (by omega) hr ⟨by decide, by decide⟩ q25) rfl rfl rfl (fun h23 hr24 => ?_)
  refine wq_aload_n k0 rfl ?_
  refine wq_iload_n k1 rfl ?_
  refine wq_if_eq (InI_z pl1) rfl rfl rfl (fun c26 => ?_) (fun c26 => ?_)
  · rw [if_pos c26] at hD
    refine wq_iconst rfl ?_
    exact c_m_writeStatement_59_b hd k0 hr24 (Or.inl rfl) hD
  · rw [if_neg c26] at hD
    refine wq_iconst rfl ?_
    refine wq_goto rfl rfl ?_
    exact c_m_writeStatement_59_b hd k0 hr24 (Or.inr rfl) hD
def m_writeStatement_14 (g : Nat) (s0 : Int) (m : MS) : Option MS := nb (m_begins m) (fun m7 => nb (m_take g m7) (fun m11 => if s0 = 0 then m_writeStatement_43 g s0 m11 else if (m11 10 0) = 16 then m_writeStatement_43 g s0 m11 else nb (m_write0 32 m11) (fun m18 => some m18)))
theorem c_m_writeStatement_14_b {dd : Nat} (hd : 4 ≤ dd) {g : Nat} {h0 : RHeap} {mF : MS} {la : RLoc} {h : RHeap} {m : MS} {s0 : Int} (k0 : rx_look la 0 = some (.ref 170)) (hr : RM h0 h m) (ps0 : (s0 = 0 ∨ s0 = 1)) (hD : m_writeStatement_14 g s0 m = some mF) : Wq O F (Cd O F rp_P dd) (2, 0, rw_X12_writeStatement, []) (rx_at rw_X12_writeStatement 14) la [wvi s0] h (QN h0 mF) := by
  unfold m_writeStatement_14 at hD
  refine wl_istore_n rfl rfl (fun la3 kk4 t5 => ?_)
  have kk6 := t5 0 _ (by decide) (Or.inr rfl) k0
  refine wq_aload_n kk6 rfl ?_
  obtain ⟨m7, q10, hD⟩ := nb_of hD
  refine wm_cvN hr (c_begins (by omega) hr q10) rfl rfl rfl (fun h8 hr9 => ?_)
  refine wq_aload_n kk6 rfl ?_
  obtain ⟨m11, q14, hD⟩ := nb_of hD
  refine wm_cvN hr9 (c_take (by omega) hr9 q14) rfl rfl rfl (fun h12 hr13 => ?_)
  refine wq_iload_n kk4 rfl ?_
  refine wq_if_eq (InI_z ps0) rfl rfl rfl (fun c15 => ?_) (fun c15 => ?_)
  · rw [if_pos c15] at hD
    exact c_m_writeStatement_43_b hd kk6 kk4 hr13 ps0 hD
  · rw [if_neg c15] at hD
    refine wq_aload_n kk6 rfl ?_
    refine wm_gfi hr13 rfl rfl (fun pp16 => ?_)
    refine wq_bipush (by decide) rfl ?_
    refine wq_icmp_eq pp16 ⟨by decide, by decide⟩ rfl rfl rfl (fun c17 => ?_) (fun c17 => ?_)
    · rw [if_pos c17] at hD
      exact c_m_writeStatement_43_b hd kk6 kk4 hr13 ps0 hD
    · rw [if_neg c17] at hD
      refine wq_aload_n kk6 rfl ?_
      refine wq_bipush (by decide) rfl ?_
      obtain ⟨m18, q21, hD⟩ := nb_of hD
      refine wm_cvN hr13 (c_write0 (by omega) hr13 ⟨by decide, by decide⟩ q21) rfl rfl rfl (fun h19 hr20 => ?_)
      cases hD
      exact wq_return rfl ⟨_, rfl, hr20⟩
def m_writeStatement (g : Nat) (m : MS) : Option MS := if (m 10 0) = 59 then m_writeStatement_14 g 1 m else m_writeStatement_14 g 0 m
theorem c_m_writeStatement_b {dd : Nat} (hd : 4 ≤ dd) {g : Nat} {h0 : RHeap} {mF : MS} {la : RLoc} {h : RHeap} {m : MS} (k0 : rx_look la 0 = some (.ref 170)) (hr : RM h0 h m) (hD : m_writeStatement g m = some mF) : Wq O F (Cd O F rp_P dd) (2, 0, rw_X12_writeStatement, []) (rx_at rw_X12_writeStatement 0) la [] h (QN h0 mF) := by
  unfold m_writeStatement at hD
  refine wq_aload_n k0 rfl ?_
  refine wm_gfi hr rfl rfl (fun pp1 => ?_)
  refine wq_bipush (by decide) rfl ?_
  refine wq_icmp_ne pp1 ⟨by decide, by decide⟩ rfl rfl rfl (fun c2 => ?_) (fun c2 => ?_)
  · rw [if_neg c2] at hD
    refine wq_iconst rfl ?_
    exact c_m_writeStatement_14_b hd k0 hr (Or.inl rfl) hD
  · rw [if_pos c2] at hD
    refine wq_iconst rfl ?_
    refine wq_goto rfl rfl ?_
    exact c_m_writeStatement_14_b hd k0 hr (Or.inr rfl) hD
theorem c_writeStatement {d : Nat} (hd : 5 ≤ d) {g : Nat} {h0 h : RHeap} {m : MS} {mF : MS} (hr : RM h0 h m) (hD : m_writeStatement g m = some mF) : Cq (Cd O F rp_P d) 302 [.ref 170] h (QN h0 mF) := by
  refine cq_of (I := (2, 0, rw_X12_writeStatement, [])) rfl rfl (by omega) ?_
  exact c_m_writeStatement_b (by omega) rfl hr hD
def m_statement_299 (g : Nat) (m : MS) : Option MS := some m
theorem c_m_statement_299_b {dd : Nat} (hd : 6 ≤ dd) {g : Nat} {h0 : RHeap} {mF : MS} {la : RLoc} {h : RHeap} {m : MS} (hr : RM h0 h m) (hD : m_statement_299 g m = some mF) : Wq O F (Cd O F rp_P dd) (2, 0, rw_X12_statement, []) (rx_at rw_X12_statement 299) la [] h (QN h0 mF) := by
  unfold m_statement_299 at hD
  cases hD
  exact wq_return rfl ⟨_, rfl, hr⟩
def m_statement (g : Nat) (m : MS) : Option MS := nb (m_deeper m) (fun m1 => nb (m_later 7 m1) (fun m5 => if 0 < (m5 6 0) then some m5 else if (m5 10 0) = 1 then nb (m_nameStatement g m5) (fun m18 => m_statement_299 g m18) else if (m5 10 0) = 35 then nb (m_take g m5) (fun m23 => nb (m_later 10 m23) (fun m27 => nb (m_statements m27) (fun m31 => m_statement_299 g m31))) else if (m5 10 0) = 37 then nb (m_begins m5) (fun m36 => nb (m_take g m36) (fun m40 => nb (m_later 11 m40) (fun m44 => nb (m_later 30 m44) (fun m48 => m_statement_299 g m48)))) else if (m5 10 0) = 40 then nb (m_begins m5) (fun m53 => nb (m_take g m53) (fun m57 => nb (m_keep (m57 57 0) m57) (fun m62 => nb (m_write1 0 (m5 9 0) m62) (fun m66 => nb (m_later 14 m66) (fun m70 => nb (m_later 30 m70) (fun m74 => m_statement_299 g m74)))))) else if (m5 10 0) = 42 then nb (m_begins m5) (fun m79 => nb (m_take g m79) (fun m83 => nb (m_keep (m5 9 0) m83) (fun m87 => nb (m_keep (m87 57 0) m87) (fun m92 => nb (m_write0 1 m92) (fun m96 => nb (m_later 16 m96) (fun m100 => nb (m_statements m100) (fun m104 => m_statement_299 g m104))))))) else if (m5 10 0) = 44 then nb (m_forStatement g m5) (fun m109 => m_statement_299 g m109) else if (m5 10 0) = 47 then nb (m_begins m5) (fun m114 => nb (m_take g m114) (fun m118 => nb (m_later 21 m118) (fun m122 => nb (m_later 30 m122) (fun m126 => m_statement_299 g m126)))) else if (m5 10 0) = 57 then nb (m_begins m5) (fun m131 => nb (m_take g m131) (fun m135 => nb (m_want g 16 m135) (fun m139 => nb (m_later 25 m139) (fun m143 => m_statement_299 g m143)))) else if (m5 10 0) = 58 then nb (m_writeStatement g m5) (fun m148 => m_statement_299 g m148) else if (m5 10 0) = 59 then nb (m_writeStatement g m5) (fun m153 => m_statement_299 g m153) else m_statement_299 g m5))
theorem c_m_statement_b {dd : Nat} (hd : 6 ≤ dd) {g : Nat} {h0 : RHeap} {mF : MS} {la : RLoc} {h : RHeap} {m : MS} (k0 : rx_look la 0 = some (.ref 170)) (hr : RM h0 h m) (hD : m_statement g m = some mF) : Wq O F (Cd O F rp_P dd) (2, 0, rw_X12_statement, []) (rx_at rw_X12_statement 0) la [] h (QN h0 mF) := by
  unfold m_statement at hD
  refine wq_aload_n k0 rfl ?_
  obtain ⟨m1, q4, hD⟩ := nb_of hD
  refine wm_cvN hr (c_deeper (by omega) hr q4) rfl rfl rfl (fun h2 hr3 => ?_)
  refine wq_aload_n k0 rfl ?_
  refine wq_bipush (by decide) rfl ?_
  obtain ⟨m5, q8, hD⟩ := nb_of hD
  refine wm_cvN hr3 (c_later (by omega) hr3 ⟨by decide, by decide⟩ q8) rfl rfl rfl (fun h6 hr7 => ?_)
  refine wq_aload_n k0 rfl ?_
  refine wm_gfi hr7 rfl rfl (fun pp9 => ?_)
  refine wq_if_le pp9 rfl rfl rfl (fun c10 => ?_) (fun c10 => ?_)
  · rw [if_neg (Int.not_lt.mpr c10)] at hD
    refine wq_aload_n k0 rfl ?_
    refine wm_gfi hr7 rfl rfl (fun pp11 => ?_)
    refine wl_istore_n rfl rfl (fun la12 kk13 t14 => ?_)
    have kk15 := t14 0 _ (by decide) (Or.inr rfl) k0
    refine wq_aload_n kk15 rfl ?_
    refine wm_gfi hr7 rfl rfl (fun pp16 => ?_)
    by_cases c17 : (m5 10 0) = 1
    · rw [if_pos c17] at hD
      refine wq_lsw (off := 89) pp16 rfl (by rw [c17]; rfl) rfl rfl ?_
      refine wq_aload_n kk15 rfl ?_
      obtain ⟨m18, q21, hD⟩ := nb_of hD
      refine wm_cvN hr7 (c_nameStatement (by omega) hr7 q21) rfl rfl rfl (fun h19 hr20 => ?_)
      refine wq_goto rfl rfl ?_
      exact c_m_statement_299_b hd hr20 hD
    rw [if_neg c17] at hD
    by_cases c22 : (m5 10 0) = 35
    · rw [if_pos c22] at hD
      refine wq_lsw (off := 96) pp16 rfl (by rw [c22]; rfl) rfl rfl ?_
      refine wq_aload_n kk15 rfl ?_
      obtain ⟨m23, q26, hD⟩ := nb_of hD
      refine wm_cvN hr7 (c_take (by omega) hr7 q26) rfl rfl rfl (fun h24 hr25 => ?_)
      refine wq_aload_n kk15 rfl ?_
      refine wq_bipush (by decide) rfl ?_
      obtain ⟨m27, q30, hD⟩ := nb_of hD
      refine wm_cvN hr25 (c_later (by omega) hr25 ⟨by decide, by decide⟩ q30) rfl rfl rfl (fun h28 hr29 => ?_)
      refine wq_aload_n kk15 rfl ?_
      obtain ⟨m31, q34, hD⟩ := nb_of hD
      refine wm_cvN hr29 (c_statements (by omega) hr29 q34) rfl rfl rfl (fun h32 hr33 => ?_)
      refine wq_goto rfl rfl ?_
      exact c_m_statement_299_b hd hr33 hD
    rw [if_neg c22] at hD
    by_cases c35 : (m5 10 0) = 37
    · rw [if_pos c35] at hD
      refine wq_lsw (off := 113) pp16 rfl (by rw [c35]; rfl) rfl rfl ?_
      refine wq_aload_n kk15 rfl ?_
      obtain ⟨m36, q39, hD⟩ := nb_of hD
      refine wm_cvN hr7 (c_begins (by omega) hr7 q39) rfl rfl rfl (fun h37 hr38 => ?_)
      refine wq_aload_n kk15 rfl ?_
      obtain ⟨m40, q43, hD⟩ := nb_of hD
      refine wm_cvN hr38 (c_take (by omega) hr38 q43) rfl rfl rfl (fun h41 hr42 => ?_)
      refine wq_aload_n kk15 rfl ?_
      refine wq_bipush (by decide) rfl ?_
      obtain ⟨m44, q47, hD⟩ := nb_of hD
      refine wm_cvN hr42 (c_later (by omega) hr42 ⟨by decide, by decide⟩ q47) rfl rfl rfl (fun h45 hr46 => ?_)
      refine wq_aload_n kk15 rfl ?_
      refine wq_bipush (by decide) rfl ?_
      obtain ⟨m48, q51, hD⟩ := nb_of hD
      refine wm_cvN hr46 (c_later (by omega) hr46 ⟨by decide, by decide⟩ q51) rfl rfl rfl (fun h49 hr50 => ?_)
      refine wq_goto rfl rfl ?_
      exact c_m_statement_299_b hd hr50 hD
    rw [if_neg c35] at hD
    by_cases c52 : (m5 10 0) = 40
    · rw [if_pos c52] at hD
      refine wq_lsw (off := 136) pp16 rfl (by rw [c52]; rfl) rfl rfl ?_
      refine wq_aload_n kk15 rfl ?_
      obtain ⟨m53, q56, hD⟩ := nb_of hD
      refine wm_cvN hr7 (c_begins (by omega) hr7 q56) rfl rfl rfl (fun h54 hr55 => ?_)
      refine wq_aload_n kk15 rfl ?_
      obtain ⟨m57, q60, hD⟩ := nb_of hD
      refine wm_cvN hr55 (c_take (by omega) hr55 q60) rfl rfl rfl (fun h58 hr59 => ?_)
      refine wq_aload_n kk15 rfl ?_
      refine wq_aload_n kk15 rfl ?_
      refine wm_gfi hr59 rfl rfl (fun pp61 => ?_)
      obtain ⟨m62, q65, hD⟩ := nb_of hD
      refine wm_cvN hr59 (c_keep (by omega) hr59 pp61 q65) rfl rfl rfl (fun h63 hr64 => ?_)
      refine wq_aload_n kk15 rfl ?_
      refine wq_iconst rfl ?_
      refine wq_iload_n kk13 rfl ?_
      obtain ⟨m66, q69, hD⟩ := nb_of hD
      refine wm_cvN hr64 (c_write1 (by omega) hr64 ⟨by decide, by decide⟩ pp11 q69) rfl rfl rfl (fun h67 hr68 => ?_)
      refine wq_aload_n kk15 rfl ?_
      refine wq_bipush (by decide) rfl ?_
      obtain ⟨m70, q73, hD⟩ := nb_of hD
      refine wm_cvN hr68 (c_later (by omega) hr68 ⟨by decide, by decide⟩ q73) rfl rfl rfl (fun h71 hr72 => ?_)
      refine wq_aload_n kk15 rfl ?_
      refine wq_bipush (by decide) rfl ?_
      obtain ⟨m74, q77, hD⟩ := nb_of hD
      refine wm_cvN hr72 (c_later (by omega) hr72 ⟨by decide, by decide⟩ q77) rfl rfl rfl (fun h75 hr76 => ?_)
      refine wq_goto rfl rfl ?_
      exact c_m_statement_299_b hd hr76 hD
    rw [if_neg c52] at hD
    by_cases c78 : (m5 10 0) = 42
    · rw [if_pos c78] at hD
      refine wq_lsw (off := 173) pp16 rfl (by rw [c78]; rfl) rfl rfl ?_
      refine wq_aload_n kk15 rfl ?_
      obtain ⟨m79, q82, hD⟩ := nb_of hD
      refine wm_cvN hr7 (c_begins (by omega) hr7 q82) rfl rfl rfl (fun h80 hr81 => ?_)
      refine wq_aload_n kk15 rfl ?_
      obtain ⟨m83, q86, hD⟩ := nb_of hD
      refine wm_cvN hr81 (c_take (by omega) hr81 q86) rfl rfl rfl (fun h84 hr85 => ?_)
      refine wq_aload_n kk15 rfl ?_
      refine wq_iload_n kk13 rfl ?_
      obtain ⟨m87, q90, hD⟩ := nb_of hD
      refine wm_cvN hr85 (c_keep (by omega) hr85 pp11 q90) rfl rfl rfl (fun h88 hr89 => ?_)
      refine wq_aload_n kk15 rfl ?_
      refine wq_aload_n kk15 rfl ?_
      refine wm_gfi hr89 rfl rfl (fun pp91 => ?_)
      obtain ⟨m92, q95, hD⟩ := nb_of hD
      refine wm_cvN hr89 (c_keep (by omega) hr89 pp91 q95) rfl rfl rfl (fun h93 hr94 => ?_)
      refine wq_aload_n kk15 rfl ?_
      refine wq_iconst rfl ?_
      obtain ⟨m96, q99, hD⟩ := nb_of hD
      refine wm_cvN hr94 (c_write0 (by omega) hr94 ⟨by decide, by decide⟩ q99) rfl rfl rfl (fun h97 hr98 => ?_)
      refine wq_aload_n kk15 rfl ?_
      refine wq_bipush (by decide) rfl ?_
      obtain ⟨m100, q103, hD⟩ := nb_of hD
      refine wm_cvN hr98 (c_later (by omega) hr98 ⟨by decide, by decide⟩ q103) rfl rfl rfl (fun h101 hr102 => ?_)
      refine wq_aload_n kk15 rfl ?_
      obtain ⟨m104, q107, hD⟩ := nb_of hD
      refine wm_cvN hr102 (c_statements (by omega) hr102 q107) rfl rfl rfl (fun h105 hr106 => ?_)
      refine wq_goto rfl rfl ?_
      exact c_m_statement_299_b hd hr106 hD
    rw [if_neg c78] at hD
    by_cases c108 : (m5 10 0) = 44
    · rw [if_pos c108] at hD
      refine wq_lsw (off := 212) pp16 rfl (by rw [c108]; rfl) rfl rfl ?_
      refine wq_aload_n kk15 rfl ?_
      obtain ⟨m109, q112, hD⟩ := nb_of hD
      refine wm_cvN hr7 (c_forStatement (by omega) hr7 q112) rfl rfl rfl (fun h110 hr111 => ?_)
      refine wq_goto rfl rfl ?_
      exact c_m_statement_299_b hd hr111 hD
    rw [if_neg c108] at hD
    by_cases c113 : (m5 10 0) = 47
    · rw [if_pos c113] at hD
      refine wq_lsw (off := 219) pp16 rfl (by rw [c113]; rfl) rfl rfl ?_
      refine wq_aload_n kk15 rfl ?_
      obtain ⟨m114, q117, hD⟩ := nb_of hD
      refine wm_cvN hr7 (c_begins (by omega) hr7 q117) rfl rfl rfl (fun h115 hr116 => ?_)
      refine wq_aload_n kk15 rfl ?_
      obtain ⟨m118, q121, hD⟩ := nb_of hD
      refine wm_cvN hr116 (c_take (by omega) hr116 q121) rfl rfl rfl (fun h119 hr120 => ?_)
      refine wq_aload_n kk15 rfl ?_
      refine wq_bipush (by decide) rfl ?_
      obtain ⟨m122, q125, hD⟩ := nb_of hD
      refine wm_cvN hr120 (c_later (by omega) hr120 ⟨by decide, by decide⟩ q125) rfl rfl rfl (fun h123 hr124 => ?_)
      refine wq_aload_n kk15 rfl ?_
      refine wq_bipush (by decide) rfl ?_
      obtain ⟨m126, q129, hD⟩ := nb_of hD
      refine wm_cvN hr124 (c_later (by omega) hr124 ⟨by decide, by decide⟩ q129) rfl rfl rfl (fun h127 hr128 => ?_)
      refine wq_goto rfl rfl ?_
      exact c_m_statement_299_b hd hr128 hD
    rw [if_neg c113] at hD
    by_cases c130 : (m5 10 0) = 57
    · rw [if_pos c130] at hD
      refine wq_lsw (off := 242) pp16 rfl (by rw [c130]; rfl) rfl rfl ?_
      refine wq_aload_n kk15 rfl ?_
      obtain ⟨m131, q134, hD⟩ := nb_of hD
      refine wm_cvN hr7 (c_begins (by omega) hr7 q134) rfl rfl rfl (fun h132 hr133 => ?_)
      refine wq_aload_n kk15 rfl ?_
      obtain ⟨m135, q138, hD⟩ := nb_of hD
      refine wm_cvN hr133 (c_take (by omega) hr133 q138) rfl rfl rfl (fun h136 hr137 => ?_)
      refine wq_aload_n kk15 rfl ?_
      refine wq_bipush (by decide) rfl ?_
      obtain ⟨m139, q142, hD⟩ := nb_of hD
      refine wm_cvN hr137 (c_want (by omega) hr137 ⟨by decide, by decide⟩ q142) rfl rfl rfl (fun h140 hr141 => ?_)
      refine wq_aload_n kk15 rfl ?_
      refine wq_bipush (by decide) rfl ?_
      obtain ⟨m143, q146, hD⟩ := nb_of hD
      refine wm_cvN hr141 (c_later (by omega) hr141 ⟨by decide, by decide⟩ q146) rfl rfl rfl (fun h144 hr145 => ?_)
      refine wq_goto rfl rfl ?_
      exact c_m_statement_299_b hd hr145 hD
    rw [if_neg c130] at hD
    by_cases c147 : (m5 10 0) = 58
    · rw [if_pos c147] at hD
      refine wq_lsw (off := 265) pp16 rfl (by rw [c147]; rfl) rfl rfl ?_
      refine wq_aload_n kk15 rfl ?_
      obtain ⟨m148, q151, hD⟩ := nb_of hD
      refine wm_cvN hr7 (c_writeStatement (by omega) hr7 q151) rfl rfl rfl (fun h149 hr150 => ?_)
      refine wq_goto rfl rfl ?_
      exact c_m_statement_299_b hd hr150 hD
    rw [if_neg c147] at hD
    by_cases c152 : (m5 10 0) = 59
    · rw [if_pos c152] at hD
      refine wq_lsw (off := 265) pp16 rfl (by rw [c152]; rfl) rfl rfl ?_
      refine wq_aload_n kk15 rfl ?_
      obtain ⟨m153, q156, hD⟩ := nb_of hD
      refine wm_cvN hr7 (c_writeStatement (by omega) hr7 q156) rfl rfl rfl (fun h154 hr155 => ?_)
      refine wq_goto rfl rfl ?_
      exact c_m_statement_299_b hd hr155 hD
    rw [if_neg c152] at hD
    refine wq_lsw (off := 272) pp16 rfl (by simp only [lk_cons]; rw [if_neg (fun z => c17 z.symm), if_neg (fun z => c22 z.symm), if_neg (fun z => c35 z.symm), if_neg (fun z => c52 z.symm), if_neg (fun z => c78 z.symm), if_neg (fun z => c108 z.symm), if_neg (fun z => c113 z.symm), if_neg (fun z => c130 z.symm), if_neg (fun z => c147 z.symm), if_neg (fun z => c152 z.symm)]; rfl) rfl rfl ?_
    exact c_m_statement_299_b hd hr7 hD
  · rw [if_pos c10] at hD
    cases hD
    exact wq_return rfl ⟨_, rfl, hr7⟩
theorem c_statement {d : Nat} (hd : 7 ≤ d) {g : Nat} {h0 h : RHeap} {m : MS} {mF : MS} (hr : RM h0 h m) (hD : m_statement g m = some mF) : Cq (Cd O F rp_P d) 276 [.ref 170] h (QN h0 mF) := by
  refine cq_of (I := (2, 0, rw_X12_statement, [])) rfl rfl (by omega) ?_
  exact c_m_statement_b (by omega) rfl hr hD
def m_workOfBlocks_166 (g : Nat) (m : MS) : Option MS := some m
theorem c_m_workOfBlocks_166_b {dd : Nat} (hd : 9 ≤ dd) {g : Nat} {h0 : RHeap} {mF : MS} {la : RLoc} {h : RHeap} {m : MS} (hr : RM h0 h m) (hD : m_workOfBlocks_166 g m = some mF) : Wq O F (Cd O F rp_P dd) (2, 0, rw_X12_workOfBlocks, []) (rx_at rw_X12_workOfBlocks 166) la [] h (QN h0 mF) := by
  unfold m_workOfBlocks_166 at hD
  cases hD
  exact wq_return rfl ⟨_, rfl, hr⟩
def m_workOfBlocks_137 (g : Nat) (m : MS) : Option MS := nb (m_want g 23 m) (fun m52 => if (m52 6 0) = 0 then if (m52 10 0) = 0 then m_workOfBlocks_166 g m52 else nb (m_fail 1 (m52 9 0) m52) (fun m61 => m_workOfBlocks_166 g m61) else m_workOfBlocks_166 g m52)
theorem c_m_workOfBlocks_137_b {dd : Nat} (hd : 9 ≤ dd) {g : Nat} {h0 : RHeap} {mF : MS} {la : RLoc} {h : RHeap} {m : MS} (k0 : rx_look la 0 = some (.ref 170)) (hr : RM h0 h m) (hD : m_workOfBlocks_137 g m = some mF) : Wq O F (Cd O F rp_P dd) (2, 0, rw_X12_workOfBlocks, []) (rx_at rw_X12_workOfBlocks 137) la [] h (QN h0 mF) := by
  unfold m_workOfBlocks_137 at hD
  refine wq_aload_n k0 rfl ?_
  refine wq_bipush (by decide) rfl ?_
  obtain ⟨m52, q55, hD⟩ := nb_of hD
  refine wm_cvN hr (c_want (by omega) hr ⟨by decide, by decide⟩ q55) rfl rfl rfl (fun h53 hr54 => ?_)
  refine wq_aload_n k0 rfl ?_
  refine wm_gfi hr54 rfl rfl (fun pp56 => ?_)
  refine wq_if_ne pp56 rfl rfl rfl (fun c57 => ?_) (fun c57 => ?_)
  · rw [if_neg c57] at hD
    exact c_m_workOfBlocks_166_b hd hr54 hD
  · rw [if_pos c57] at hD
    refine wq_aload_n k0 rfl ?_
    refine wm_gfi hr54 rfl rfl (fun pp58 => ?_)
    refine wq_if_eq pp58 rfl rfl rfl (fun c59 => ?_) (fun c59 => ?_)
    · rw [if_pos c59] at hD
      exact c_m_workOfBlocks_166_b hd hr54 hD
    · rw [if_neg c59] at hD
      refine wq_aload_n k0 rfl ?_
      refine wq_iconst rfl ?_
      refine wq_aload_n k0 rfl ?_
      refine wm_gfi hr54 rfl rfl (fun pp60 => ?_)
      obtain ⟨m61, q64, hD⟩ := nb_of hD
      refine wm_cvN hr54 (c_fail (by omega) hr54 ⟨by decide, by decide⟩ pp60 q64) rfl rfl rfl (fun h62 hr63 => ?_)
      exact c_m_workOfBlocks_166_b hd hr63 hD
def m_workOfBlocks (g : Nat) (l1 : Int) (m : MS) : Option MS := if l1 = 1 then nb (m_block g m) (fun m2 => m_workOfBlocks_166 g m2) else if l1 = 2 then nb (m_actionsOrBody g m) (fun m7 => m_workOfBlocks_166 g m7) else if l1 = 3 then nb (m_afterBlock g m) (fun m12 => m_workOfBlocks_166 g m12) else if l1 = 4 then nb (m_want g 36 m) (fun m17 => ck (m17 41 0) 8 (nb (m_write1 19 (m17 44 (m17 41 0)) m17) (fun m25 => m_workOfBlocks_166 g m25))) else if l1 = 5 then nb (m_nextStatement g m) (fun m30 => m_workOfBlocks_166 g m30) else if l1 = 6 then nb (m_statement g m) (fun m35 => m_workOfBlocks_166 g m35) else if l1 = 7 then wlet (mset m 63 0 (i32 ((m 63 0) - 1))) (fun m41 => m_workOfBlocks_166 g m41) else if l1 = 10 then nb (m_want g 36 m) (fun m46 => m_workOfBlocks_166 g m46) else m_workOfBlocks_137 g m
theorem c_m_workOfBlocks_b {dd : Nat} (hd : 9 ≤ dd) {g : Nat} {h0 : RHeap} {mF : MS} {la : RLoc} {h : RHeap} {m : MS} {l1 : Int} (k0 : rx_look la 0 = some (.ref 170)) (k1 : rx_look la 1 = some (wvi l1)) (hr : RM h0 h m) (pl1 : InI l1) (hD : m_workOfBlocks g l1 m = some mF) : Wq O F (Cd O F rp_P dd) (2, 0, rw_X12_workOfBlocks, []) (rx_at rw_X12_workOfBlocks 0) la [] h (QN h0 mF) := by
  unfold m_workOfBlocks at hD
  refine wq_iload_n k1 rfl ?_
  by_cases c1 : l1 = 1
  · rw [if_pos c1] at hD
    refine wq_tsw_in (j := 0) pl1 (by omega) (by omega) (by omega) rfl rfl rfl ?_
    refine wq_aload_n k0 rfl ?_
    obtain ⟨m2, q5, hD⟩ := nb_of hD
    refine wm_cvN hr (c_block (by omega) hr q5) rfl rfl rfl (fun h3 hr4 => ?_)
    refine wq_goto rfl rfl ?_
    exact c_m_workOfBlocks_166_b hd hr4 hD
  rw [if_neg c1] at hD
  by_cases c6 : l1 = 2
  · rw [if_pos c6] at hD
    refine wq_tsw_in (j := 1) pl1 (by omega) (by omega) (by omega) rfl rfl rfl ?_
    refine wq_aload_n k0 rfl ?_
    obtain ⟨m7, q10, hD⟩ := nb_of hD
    refine wm_cvN hr (c_actionsOrBody (by omega) hr q10) rfl rfl rfl (fun h8 hr9 => ?_)
    refine wq_goto rfl rfl ?_
    exact c_m_workOfBlocks_166_b hd hr9 hD
  rw [if_neg c6] at hD
  by_cases c11 : l1 = 3
  · rw [if_pos c11] at hD
    refine wq_tsw_in (j := 2) pl1 (by omega) (by omega) (by omega) rfl rfl rfl ?_
    refine wq_aload_n k0 rfl ?_
    obtain ⟨m12, q15, hD⟩ := nb_of hD
    refine wm_cvN hr (c_afterBlock (by omega) hr q15) rfl rfl rfl (fun h13 hr14 => ?_)
    refine wq_goto rfl rfl ?_
    exact c_m_workOfBlocks_166_b hd hr14 hD
  rw [if_neg c11] at hD
  by_cases c16 : l1 = 4
  · rw [if_pos c16] at hD
    refine wq_tsw_in (j := 3) pl1 (by omega) (by omega) (by omega) rfl rfl rfl ?_
    refine wq_aload_n k0 rfl ?_
    refine wq_bipush (by decide) rfl ?_
    obtain ⟨m17, q20, hD⟩ := nb_of hD
    refine wm_cvN hr (c_want (by omega) hr ⟨by decide, by decide⟩ q20) rfl rfl rfl (fun h18 hr19 => ?_)
    refine wq_aload_n k0 rfl ?_
    refine wq_bipush (by decide) rfl ?_
    refine wq_aload_n k0 rfl ?_
    refine wm_gfa (c := 0) hr19 rfl rfl ?_
    refine wq_aload_n k0 rfl ?_
    refine wm_gfi hr19 rfl rfl (fun pp21 => ?_)
    obtain ⟨g22, g23, hD⟩ := ck_of hD
    refine wm_ali (f := 44) hr19 rfl pp21 g22 g23 rfl (fun pp24 => ?_)
    obtain ⟨m25, q28, hD⟩ := nb_of hD
    refine wm_cvN hr19 (c_write1 (by omega) hr19 ⟨by decide, by decide⟩ pp24 q28) rfl rfl rfl (fun h26 hr27 => ?_)
    refine wq_goto rfl rfl ?_
    exact c_m_workOfBlocks_166_b hd hr27 hD
  rw [if_neg c16] at hD
  by_cases c29 : l1 = 5
  · rw [if_pos c29] at hD
    refine wq_tsw_in (j := 4) pl1 (by omega) (by omega) (by omega) rfl rfl rfl ?_
    refine wq_aload_n k0 rfl ?_
    obtain ⟨m30, q33, hD⟩ := nb_of hD
    refine wm_cvN hr (c_nextStatement (by omega) hr q33) rfl rfl rfl (fun h31 hr32 => ?_)
    refine wq_goto rfl rfl ?_
    exact c_m_workOfBlocks_166_b hd hr32 hD
  rw [if_neg c29] at hD
  by_cases c34 : l1 = 6
  · rw [if_pos c34] at hD
    refine wq_tsw_in (j := 5) pl1 (by omega) (by omega) (by omega) rfl rfl rfl ?_
    refine wq_aload_n k0 rfl ?_
    obtain ⟨m35, q38, hD⟩ := nb_of hD
    refine wm_cvN hr (c_statement (by omega) hr q38) rfl rfl rfl (fun h36 hr37 => ?_)
    refine wq_goto rfl rfl ?_
    exact c_m_workOfBlocks_166_b hd hr37 hD
  rw [if_neg c34] at hD
  by_cases c39 : l1 = 7
  · rw [if_pos c39] at hD
    refine wq_tsw_in (j := 6) pl1 (by omega) (by omega) (by omega) rfl rfl rfl ?_
    refine wq_aload_n k0 rfl ?_
    refine wq_dup rfl rfl ?_
    refine wm_gfi hr rfl rfl (fun pp40 => ?_)
    refine wq_iconst rfl ?_
    refine wq_isub rfl ?_
    obtain ⟨m41, e42, hD⟩ := wlet_of hD
    refine wm_pfi hr rfl rfl (InI_i32 _) rfl (fun h43 hr44 => ?_)
    rw [← e42] at hr44
    refine wq_goto rfl rfl ?_
    exact c_m_workOfBlocks_166_b hd hr44 hD
  rw [if_neg c39] at hD
  by_cases c45 : l1 = 10
  · rw [if_pos c45] at hD
    refine wq_tsw_in (j := 9) pl1 (by omega) (by omega) (by omega) rfl rfl rfl ?_
    refine wq_aload_n k0 rfl ?_
    refine wq_bipush (by decide) rfl ?_
    obtain ⟨m46, q49, hD⟩ := nb_of hD
    refine wm_cvN hr (c_want (by omega) hr ⟨by decide, by decide⟩ q49) rfl rfl rfl (fun h47 hr48 => ?_)
    refine wq_goto rfl rfl ?_
    exact c_m_workOfBlocks_166_b hd hr48 hD
  rw [if_neg c45] at hD
  rcases (show l1 < 1 ∨ 10 < l1 ∨ l1 = 8 ∨ l1 = 9 by omega) with c51 | c51 | c51 | c51
  · refine wq_tsw_out pl1 (by omega) rfl rfl ?_
    exact c_m_workOfBlocks_137_b hd k0 hr hD
  · refine wq_tsw_out pl1 (by omega) rfl rfl ?_
    exact c_m_workOfBlocks_137_b hd k0 hr hD
  · refine wq_tsw_in (j := 7) pl1 (by omega) (by omega) (by omega) rfl rfl rfl ?_
    exact c_m_workOfBlocks_137_b hd k0 hr hD
  · refine wq_tsw_in (j := 8) pl1 (by omega) (by omega) (by omega) rfl rfl rfl ?_
    exact c_m_workOfBlocks_137_b hd k0 hr hD
theorem c_workOfBlocks {d : Nat} (hd : 10 ≤ d) {g : Nat} {h0 h : RHeap} {m : MS} {l1 : Int} {mF : MS} (hr : RM h0 h m) (pl1 : InI l1) (hD : m_workOfBlocks g l1 m = some mF) : Cq (Cd O F rp_P d) 299 [.ref 170, wvi l1] h (QN h0 mF) := by
  refine cq_of (I := (2, 0, rw_X12_workOfBlocks, [])) rfl rfl (by omega) ?_
  exact c_m_workOfBlocks_b (by omega) rfl rfl hr pl1 hD
def m_writing_150 (g : Nat) (m : MS) : Option MS := some m
theorem c_m_writing_150_b {dd : Nat} (hd : 4 ≤ dd) {g : Nat} {h0 : RHeap} {mF : MS} {la : RLoc} {h : RHeap} {m : MS} (hr : RM h0 h m) (hD : m_writing_150 g m = some mF) : Wq O F (Cd O F rp_P dd) (3, 0, rw_X12_writing, []) (rx_at rw_X12_writing 150) la [] h (QN h0 mF) := by
  unfold m_writing_150 at hD
  cases hD
  exact wq_return rfl ⟨_, rfl, hr⟩
def m_writing_86 (g : Nat) (s1 : Int) (m : MS) : Option MS := nb (m_fits s1 m) (fun m62 => nb (m_write1 30 (m62 62 0) m62) (fun m67 => nb (m_later 29 m67) (fun m71 => m_writing_150 g m71)))
theorem c_m_writing_86_b {dd : Nat} (hd : 4 ≤ dd) {g : Nat} {h0 : RHeap} {mF : MS} {la : RLoc} {h : RHeap} {m : MS} {s1 : Int} (k0 : rx_look la 0 = some (.ref 170)) (hr : RM h0 h m) (ps1 : (s1 = 0 ∨ s1 = 1)) (hD : m_writing_86 g s1 m = some mF) : Wq O F (Cd O F rp_P dd) (3, 0, rw_X12_writing, []) (rx_at rw_X12_writing 86) la [wvi s1, .ref 170] h (QN h0 mF) := by
  unfold m_writing_86 at hD
  obtain ⟨m62, q65, hD⟩ := nb_of hD
  refine wm_cvN hr (c_fits (by omega) hr ps1 q65) rfl rfl rfl (fun h63 hr64 => ?_)
  refine wq_aload_n k0 rfl ?_
  refine wq_bipush (by decide) rfl ?_
  refine wq_aload_n k0 rfl ?_
  refine wm_gfi hr64 rfl rfl (fun pp66 => ?_)
  obtain ⟨m67, q70, hD⟩ := nb_of hD
  refine wm_cvN hr64 (c_write1 (by omega) hr64 ⟨by decide, by decide⟩ pp66 q70) rfl rfl rfl (fun h68 hr69 => ?_)
  refine wq_aload_n k0 rfl ?_
  refine wq_bipush (by decide) rfl ?_
  obtain ⟨m71, q74, hD⟩ := nb_of hD
  refine wm_cvN hr69 (c_later (by omega) hr69 ⟨by decide, by decide⟩ q74) rfl rfl rfl (fun h72 hr73 => ?_)
  refine wq_goto rfl rfl ?_
  exact c_m_writing_150_b hd hr73 hD
def m_writing_51 (g : Nat) (m : MS) : Option MS := nb (m_later 28 m) (fun m54 => nb (m_later 30 m54) (fun m58 => m_writing_150 g m58))
theorem c_m_writing_51_b {dd : Nat} (hd : 4 ≤ dd) {g : Nat} {h0 : RHeap} {mF : MS} {la : RLoc} {h : RHeap} {m : MS} (k0 : rx_look la 0 = some (.ref 170)) (hr : RM h0 h m) (hD : m_writing_51 g m = some mF) : Wq O F (Cd O F rp_P dd) (3, 0, rw_X12_writing, []) (rx_at rw_X12_writing 51) la [] h (QN h0 mF) := by
  unfold m_writing_51 at hD
  refine wq_aload_n k0 rfl ?_
  refine wq_bipush (by decide) rfl ?_
  obtain ⟨m54, q57, hD⟩ := nb_of hD
  refine wm_cvN hr (c_later (by omega) hr ⟨by decide, by decide⟩ q57) rfl rfl rfl (fun h55 hr56 => ?_)
  refine wq_aload_n k0 rfl ?_
  refine wq_bipush (by decide) rfl ?_
  obtain ⟨m58, q61, hD⟩ := nb_of hD
  refine wm_cvN hr56 (c_later (by omega) hr56 ⟨by decide, by decide⟩ q61) rfl rfl rfl (fun h59 hr60 => ?_)
  refine wq_goto rfl rfl ?_
  exact c_m_writing_150_b hd hr60 hD
def m_writing (g : Nat) (l1 : Int) (m : MS) : Option MS := if l1 = 27 then if (m 10 0) = 3 then if 1 < (m 14 0) then vb (m_emit 31 (m 13 0) (m 14 0) 0 m) (fun v40 m36 => nb (m_take g m36) (fun m46 => nb (m_later 29 m46) (fun m50 => m_writing_150 g m50))) else m_writing_51 g m else m_writing_51 g m else if l1 = 28 then if (m 62 0) = 3 then m_writing_86 g 0 m else m_writing_86 g 1 m else if (m 10 0) = 20 then nb (m_take g m) (fun m20 => nb (m_later 27 m20) (fun m24 => m_writing_150 g m24)) else nb (m_want g 17 m) (fun m5 => vb (m_back m5) (fun v13 m9 => if v13 = 1 then nb (m_write0 32 m9) (fun m16 => m_writing_150 g m16) else m_writing_150 g m9))
theorem c_m_writing_b {dd : Nat} (hd : 4 ≤ dd) {g : Nat} {h0 : RHeap} {mF : MS} {la : RLoc} {h : RHeap} {m : MS} {l1 : Int} (k0 : rx_look la 0 = some (.ref 170)) (k1 : rx_look la 1 = some (wvi l1)) (hr : RM h0 h m) (pl1 : InI l1) (hD : m_writing g l1 m = some mF) : Wq O F (Cd O F rp_P dd) (3, 0, rw_X12_writing, []) (rx_at rw_X12_writing 0) la [] h (QN h0 mF) := by
  unfold m_writing at hD
  refine wq_iload_n k1 rfl ?_
  refine wq_bipush (by decide) rfl ?_
  refine wq_icmp_ne pl1 ⟨by decide, by decide⟩ rfl rfl rfl (fun c1 => ?_) (fun c1 => ?_)
  · rw [if_neg c1] at hD
    refine wq_iload_n k1 rfl ?_
    refine wq_bipush (by decide) rfl ?_
    refine wq_icmp_ne pl1 ⟨by decide, by decide⟩ rfl rfl rfl (fun c2 => ?_) (fun c2 => ?_)
    · rw [if_neg c2] at hD
      refine wq_aload_n k0 rfl ?_
      refine wm_gfi hr rfl rfl (fun pp3 => ?_)
      refine wq_bipush (by decide) rfl ?_
      refine wq_icmp_ne pp3 ⟨by decide, by decide⟩ rfl rfl rfl (fun c4 => ?_) (fun c4 => ?_)
      · rw [if_neg c4] at hD
        refine wq_aload_n k0 rfl ?_
        refine wq_bipush (by decide) rfl ?_
        obtain ⟨m5, q8, hD⟩ := nb_of hD
        refine wm_cvN hr (c_want (by omega) hr ⟨by decide, by decide⟩ q8) rfl rfl rfl (fun h6 hr7 => ?_)
        refine wq_aload_n k0 rfl ?_
        obtain ⟨v13, m9, q12, hD⟩ := vb_of hD
        refine wm_cvI hr7 (c_back (by omega) hr7 q12) rfl rfl rfl (fun h10 hr11 pp14 => ?_)
        refine wq_iconst rfl ?_
        refine wq_icmp_ne pp14 ⟨by decide, by decide⟩ rfl rfl rfl (fun c15 => ?_) (fun c15 => ?_)
        · rw [if_neg c15] at hD
          exact c_m_writing_150_b hd hr11 hD
        · rw [if_pos c15] at hD
          refine wq_aload_n k0 rfl ?_
          refine wq_bipush (by decide) rfl ?_
          obtain ⟨m16, q19, hD⟩ := nb_of hD
          refine wm_cvN hr11 (c_write0 (by omega) hr11 ⟨by decide, by decide⟩ q19) rfl rfl rfl (fun h17 hr18 => ?_)
          exact c_m_writing_150_b hd hr18 hD
      · rw [if_pos c4] at hD
        refine wq_aload_n k0 rfl ?_
        obtain ⟨m20, q23, hD⟩ := nb_of hD
        refine wm_cvN hr (c_take (by omega) hr q23) rfl rfl rfl (fun h21 hr22 => ?_)
        refine wq_aload_n k0 rfl ?_
        refine wq_bipush (by decide) rfl ?_
        obtain ⟨m24, q27, hD⟩ := nb_of hD
        refine wm_cvN hr22 (c_later (by omega) hr22 ⟨by decide, by decide⟩ q27) rfl rfl rfl (fun h25 hr26 => ?_)
        refine wq_goto rfl rfl ?_
        exact c_m_writing_150_b hd hr26 hD
    · rw [if_pos c2] at hD
      refine wq_aload_n k0 rfl ?_
      refine wq_aload_n k0 rfl ?_
      refine wm_gfi hr rfl rfl (fun pp28 => ?_)
      refine wq_iconst rfl ?_
      refine wq_icmp_eq pp28 ⟨by decide, by decide⟩ rfl rfl rfl (fun c29 => ?_) (fun c29 => ?_)
      · rw [if_pos c29] at hD
        refine wq_iconst rfl ?_
        exact c_m_writing_86_b hd k0 hr (Or.inl rfl) hD
      · rw [if_neg c29] at hD
        refine wq_iconst rfl ?_
        refine wq_goto rfl rfl ?_
        exact c_m_writing_86_b hd k0 hr (Or.inr rfl) hD
  · rw [if_pos c1] at hD
    refine wq_aload_n k0 rfl ?_
    refine wm_gfi hr rfl rfl (fun pp30 => ?_)
    refine wq_iconst rfl ?_
    refine wq_icmp_ne pp30 ⟨by decide, by decide⟩ rfl rfl rfl (fun c31 => ?_) (fun c31 => ?_)
    · rw [if_neg c31] at hD
      exact c_m_writing_51_b hd k0 hr hD
    · rw [if_pos c31] at hD
      refine wq_aload_n k0 rfl ?_
      refine wm_gfi hr rfl rfl (fun pp32 => ?_)
      refine wq_iconst rfl ?_
      refine wq_icmp_le pp32 ⟨by decide, by decide⟩ rfl rfl rfl (fun c33 => ?_) (fun c33 => ?_)
      · rw [if_neg (Int.not_lt.mpr c33)] at hD
        exact c_m_writing_51_b hd k0 hr hD
      · rw [if_pos c33] at hD
        refine wq_aload_n k0 rfl ?_
        refine wq_bipush (by decide) rfl ?_
        refine wq_aload_n k0 rfl ?_
        refine wm_gfi hr rfl rfl (fun pp34 => ?_)
        refine wq_aload_n k0 rfl ?_
        refine wm_gfi hr rfl rfl (fun pp35 => ?_)
        refine wq_iconst rfl ?_
        obtain ⟨v40, m36, q39, hD⟩ := vb_of hD
        refine wm_cvI hr (c_emit (by omega) hr ⟨by decide, by decide⟩ pp34 pp35 ⟨by decide, by decide⟩ q39) rfl rfl rfl (fun h37 hr38 pp41 => ?_)
        refine wl_istore_n rfl rfl (fun la42 kk43 t44 => ?_)
        have kk45 := t44 0 _ (by decide) (Or.inr rfl) k0
        refine wq_aload_n kk45 rfl ?_
        obtain ⟨m46, q49, hD⟩ := nb_of hD
        refine wm_cvN hr38 (c_take (by omega) hr38 q49) rfl rfl rfl (fun h47 hr48 => ?_)
        refine wq_aload_n kk45 rfl ?_
        refine wq_bipush (by decide) rfl ?_
        obtain ⟨m50, q53, hD⟩ := nb_of hD
        refine wm_cvN hr48 (c_later (by omega) hr48 ⟨by decide, by decide⟩ q53) rfl rfl rfl (fun h51 hr52 => ?_)
        refine wq_goto rfl rfl ?_
        exact c_m_writing_150_b hd hr52 hD
theorem c_writing {d : Nat} (hd : 5 ≤ d) {g : Nat} {h0 h : RHeap} {m : MS} {l1 : Int} {mF : MS} (hr : RM h0 h m) (pl1 : InI l1) (hD : m_writing g l1 m = some mF) : Cq (Cd O F rp_P d) 303 [.ref 170, wvi l1] h (QN h0 mF) := by
  refine cq_of (I := (3, 0, rw_X12_writing, [])) rfl rfl (by omega) ?_
  exact c_m_writing_b (by omega) rfl rfl hr pl1 hD
end Dec
