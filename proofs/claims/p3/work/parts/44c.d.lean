section Dec
variable {O : ROld} {F : RFacts}
def m_afterIf_132 (g : Nat) (m : MS) : Option MS := some m
theorem c_m_afterIf_132_b {dd : Nat} (hd : 4 ≤ dd) {g : Nat} {h0 : RHeap} {mF : MS} {la : RLoc} {h : RHeap} {m : MS} (hr : RM h0 h m) (hD : m_afterIf_132 g m = some mF) : Wq O F (Cd O F rp_P dd) (3, 0, rw_X12_afterIf, []) (rx_at rw_X12_afterIf 132) la [] h (QN h0 mF) := by
  unfold m_afterIf_132 at hD
  cases hD
  exact wq_return rfl ⟨_, rfl, hr⟩
def m_afterIf_106 (g : Nat) (l2 : Int) (m : MS) : Option MS := ck l2 6000 (wlet (mset m 59 l2 (m 57 0)) (fun m81 => m_afterIf_132 g m81))
theorem c_m_afterIf_106_b {dd : Nat} (hd : 4 ≤ dd) {g : Nat} {h0 : RHeap} {mF : MS} {la : RLoc} {h : RHeap} {m : MS} {l2 : Int} (k0 : rx_look la 0 = some (.ref 170)) (k2 : rx_look la 2 = some (wvi l2)) (hr : RM h0 h m) (pl2 : InI l2) (hD : m_afterIf_106 g l2 m = some mF) : Wq O F (Cd O F rp_P dd) (3, 0, rw_X12_afterIf, []) (rx_at rw_X12_afterIf 106) la [] h (QN h0 mF) := by
  unfold m_afterIf_106 at hD
  refine wq_aload_n k0 rfl ?_
  refine wm_gfa (c := 0) hr rfl rfl ?_
  refine wq_iload_n k2 rfl ?_
  refine wq_aload_n k0 rfl ?_
  refine wm_gfi hr rfl rfl (fun pp78 => ?_)
  obtain ⟨g79, g80, hD⟩ := ck_of hD
  obtain ⟨m81, e82, hD⟩ := wlet_of hD
  refine wm_asi (f := 59) hr rfl pl2 g79 g80 pp78 rfl (fun h83 hr84 => ?_)
  rw [← e82] at hr84
  refine wq_goto rfl rfl ?_
  exact c_m_afterIf_132_b hd hr84 hD
def m_afterIf_20 (g : Nat) (s1 : Int) (m : MS) : Option MS := nb (m_fits s1 m) (fun m52 => nb (m_want g 38 m52) (fun m56 => vb (m_emit 21 0 0 0 m56) (fun v64 m60 => nb (m_keep v64 m60) (fun m66 => nb (m_later 12 m66) (fun m70 => nb (m_later 6 m70) (fun m74 => m_afterIf_132 g m74))))))
theorem c_m_afterIf_20_b {dd : Nat} (hd : 4 ≤ dd) {g : Nat} {h0 : RHeap} {mF : MS} {la : RLoc} {h : RHeap} {m : MS} {s1 : Int} (k0 : rx_look la 0 = some (.ref 170)) (hr : RM h0 h m) (ps1 : (s1 = 0 ∨ s1 = 1)) (hD : m_afterIf_20 g s1 m = some mF) : Wq O F (Cd O F rp_P dd) (3, 0, rw_X12_afterIf, []) (rx_at rw_X12_afterIf 20) la [wvi s1, .ref 170] h (QN h0 mF) := by
  unfold m_afterIf_20 at hD
  obtain ⟨m52, q55, hD⟩ := nb_of hD
  refine wm_cvN hr (c_fits (by omega) hr ps1 q55) rfl rfl rfl (fun h53 hr54 => ?_)
  refine wq_aload_n k0 rfl ?_
  refine wq_bipush (by decide) rfl ?_
  obtain ⟨m56, q59, hD⟩ := nb_of hD
  refine wm_cvN hr54 (c_want (by omega) hr54 ⟨by decide, by decide⟩ q59) rfl rfl rfl (fun h57 hr58 => ?_)
  refine wq_aload_n k0 rfl ?_
  refine wq_aload_n k0 rfl ?_
  refine wq_bipush (by decide) rfl ?_
  refine wq_iconst rfl ?_
  refine wq_iconst rfl ?_
  refine wq_iconst rfl ?_
  obtain ⟨v64, m60, q63, hD⟩ := vb_of hD
  refine wm_cvI hr58 (c_emit (by omega) hr58 ⟨by decide, by decide⟩ ⟨by decide, by decide⟩ ⟨by decide, by decide⟩ ⟨by decide, by decide⟩ q63) rfl rfl rfl (fun h61 hr62 pp65 => ?_)
  obtain ⟨m66, q69, hD⟩ := nb_of hD
  refine wm_cvN hr62 (c_keep (by omega) hr62 pp65 q69) rfl rfl rfl (fun h67 hr68 => ?_)
  refine wq_aload_n k0 rfl ?_
  refine wq_bipush (by decide) rfl ?_
  obtain ⟨m70, q73, hD⟩ := nb_of hD
  refine wm_cvN hr68 (c_later (by omega) hr68 ⟨by decide, by decide⟩ q73) rfl rfl rfl (fun h71 hr72 => ?_)
  refine wq_aload_n k0 rfl ?_
  refine wq_bipush (by decide) rfl ?_
  obtain ⟨m74, q77, hD⟩ := nb_of hD
  refine wm_cvN hr72 (c_later (by omega) hr72 ⟨by decide, by decide⟩ q77) rfl rfl rfl (fun h75 hr76 => ?_)
  refine wq_goto rfl rfl ?_
  exact c_m_afterIf_132_b hd hr76 hD
def m_afterIf (g : Nat) (l1 : Int) (m : MS) : Option MS := if l1 = 11 then if (m 62 0) = 2 then m_afterIf_20 g 1 m else m_afterIf_20 g 0 m else if l1 = 12 then vb (m_back m) (fun v20 m16 => if (m16 10 0) = 39 then nb (m_take g m16) (fun m28 => vb (m_emit 20 0 0 0 m28) (fun v36 m32 => nb (m_keep v36 m32) (fun m38 => nb (m_later 13 m38) (fun m42 => nb (m_later 6 m42) (fun m46 => m_afterIf_106 g v20 m46))))) else m_afterIf_106 g v20 m16) else vb (m_back m) (fun v7 m3 => ck v7 6000 (wlet (mset m3 59 v7 (m3 57 0)) (fun m12 => m_afterIf_132 g m12)))
theorem c_m_afterIf_b {dd : Nat} (hd : 4 ≤ dd) {g : Nat} {h0 : RHeap} {mF : MS} {la : RLoc} {h : RHeap} {m : MS} {l1 : Int} (k0 : rx_look la 0 = some (.ref 170)) (k1 : rx_look la 1 = some (wvi l1)) (hr : RM h0 h m) (pl1 : InI l1) (hD : m_afterIf g l1 m = some mF) : Wq O F (Cd O F rp_P dd) (3, 0, rw_X12_afterIf, []) (rx_at rw_X12_afterIf 0) la [] h (QN h0 mF) := by
  unfold m_afterIf at hD
  refine wq_iload_n k1 rfl ?_
  refine wq_bipush (by decide) rfl ?_
  refine wq_icmp_ne pl1 ⟨by decide, by decide⟩ rfl rfl rfl (fun c1 => ?_) (fun c1 => ?_)
  · rw [if_neg c1] at hD
    refine wq_iload_n k1 rfl ?_
    refine wq_bipush (by decide) rfl ?_
    refine wq_icmp_ne pl1 ⟨by decide, by decide⟩ rfl rfl rfl (fun c2 => ?_) (fun c2 => ?_)
    · rw [if_neg c2] at hD
      refine wq_aload_n k0 rfl ?_
      refine wm_gfa (c := 0) hr rfl rfl ?_
      refine wq_aload_n k0 rfl ?_
      obtain ⟨v7, m3, q6, hD⟩ := vb_of hD
      refine wm_cvI hr (c_back (by omega) hr q6) rfl rfl rfl (fun h4 hr5 pp8 => ?_)
      refine wq_aload_n k0 rfl ?_
      refine wm_gfi hr5 rfl rfl (fun pp9 => ?_)
      obtain ⟨g10, g11, hD⟩ := ck_of hD
      obtain ⟨m12, e13, hD⟩ := wlet_of hD
      refine wm_asi (f := 59) hr5 rfl pp8 g10 g11 pp9 rfl (fun h14 hr15 => ?_)
      rw [← e13] at hr15
      exact c_m_afterIf_132_b hd hr15 hD
    · rw [if_pos c2] at hD
      refine wq_aload_n k0 rfl ?_
      obtain ⟨v20, m16, q19, hD⟩ := vb_of hD
      refine wm_cvI hr (c_back (by omega) hr q19) rfl rfl rfl (fun h17 hr18 pp21 => ?_)
      refine wl_istore_n rfl rfl (fun la22 kk23 t24 => ?_)
      have kk25 := t24 0 _ (by decide) (Or.inr rfl) k0
      refine wq_aload_n kk25 rfl ?_
      refine wm_gfi hr18 rfl rfl (fun pp26 => ?_)
      refine wq_bipush (by decide) rfl ?_
      refine wq_icmp_ne pp26 ⟨by decide, by decide⟩ rfl rfl rfl (fun c27 => ?_) (fun c27 => ?_)
      · rw [if_neg c27] at hD
        exact c_m_afterIf_106_b hd kk25 kk23 hr18 pp21 hD
      · rw [if_pos c27] at hD
        refine wq_aload_n kk25 rfl ?_
        obtain ⟨m28, q31, hD⟩ := nb_of hD
        refine wm_cvN hr18 (c_take (by omega) hr18 q31) rfl rfl rfl (fun h29 hr30 => ?_)
        refine wq_aload_n kk25 rfl ?_
        refine wq_aload_n kk25 rfl ?_
        refine wq_bipush (by decide) rfl ?_
        refine wq_iconst rfl ?_
        refine wq_iconst rfl ?_
        refine wq_iconst rfl ?_
        obtain ⟨v36, m32, q35, hD⟩ := vb_of hD
        refine wm_cvI hr30 (c_emit (by omega) hr30 ⟨by decide, by decide⟩ ⟨by decide, by decide⟩ ⟨by decide, by decide⟩ ⟨by decide, by decide⟩ q35) rfl rfl rfl (fun h33 hr34 pp37 => ?_)
        obtain ⟨m38, q41, hD⟩ := nb_of hD
        refine wm_cvN hr34 (c_keep (by omega) hr34 pp37 q41) rfl rfl rfl (fun h39 hr40 => ?_)
        refine wq_aload_n kk25 rfl ?_
        refine wq_bipush (by decide) rfl ?_
        obtain ⟨m42, q45, hD⟩ := nb_of hD
        refine wm_cvN hr40 (c_later (by omega) hr40 ⟨by decide, by decide⟩ q45) rfl rfl rfl (fun h43 hr44 => ?_)
        refine wq_aload_n kk25 rfl ?_
        refine wq_bipush (by decide) rfl ?_
        obtain ⟨m46, q49, hD⟩ := nb_of hD
        refine wm_cvN hr44 (c_later (by omega) hr44 ⟨by decide, by decide⟩ q49) rfl rfl rfl (fun h47 hr48 => ?_)
        exact c_m_afterIf_106_b hd kk25 kk23 hr48 pp21 hD
  · rw [if_pos c1] at hD
    refine wq_aload_n k0 rfl ?_
    refine wq_aload_n k0 rfl ?_
    refine wm_gfi hr rfl rfl (fun pp50 => ?_)
    refine wq_iconst rfl ?_
    refine wq_icmp_ne pp50 ⟨by decide, by decide⟩ rfl rfl rfl (fun c51 => ?_) (fun c51 => ?_)
    · rw [if_neg c51] at hD
      refine wq_iconst rfl ?_
      exact c_m_afterIf_20_b hd k0 hr (Or.inl rfl) hD
    · rw [if_pos c51] at hD
      refine wq_iconst rfl ?_
      refine wq_goto rfl rfl ?_
      exact c_m_afterIf_20_b hd k0 hr (Or.inr rfl) hD
theorem c_afterIf {d : Nat} (hd : 5 ≤ d) {g : Nat} {h0 h : RHeap} {m : MS} {l1 : Int} {mF : MS} (hr : RM h0 h m) (pl1 : InI l1) (hD : m_afterIf g l1 m = some mF) : Cq (Cd O F rp_P d) 199 [.ref 170, wvi l1] h (QN h0 mF) := by
  refine cq_of (I := (3, 0, rw_X12_afterIf, [])) rfl rfl (by omega) ?_
  exact c_m_afterIf_b (by omega) rfl rfl hr pl1 hD
def m_afterLoop_176 (g : Nat) (m : MS) : Option MS := some m
theorem c_m_afterLoop_176_b {dd : Nat} (hd : 4 ≤ dd) {g : Nat} {h0 : RHeap} {mF : MS} {la : RLoc} {h : RHeap} {m : MS} (hr : RM h0 h m) (hD : m_afterLoop_176 g m = some mF) : Wq O F (Cd O F rp_P dd) (3, 0, rw_X12_afterLoop, []) (rx_at rw_X12_afterLoop 176) la [] h (QN h0 mF) := by
  unfold m_afterLoop_176 at hD
  cases hD
  exact wq_return rfl ⟨_, rfl, hr⟩
def m_afterLoop_153 (g : Nat) (s1 : Int) (m : MS) : Option MS := nb (m_fits s1 m) (fun m85 => vb (m_back m85) (fun v93 m89 => nb (m_write1 21 v93 m89) (fun m95 => wlet (mset m95 67 0 (i32 ((m95 67 0) - 1))) (fun m100 => m_afterLoop_176 g m100))))
theorem c_m_afterLoop_153_b {dd : Nat} (hd : 4 ≤ dd) {g : Nat} {h0 : RHeap} {mF : MS} {la : RLoc} {h : RHeap} {m : MS} {s1 : Int} (k0 : rx_look la 0 = some (.ref 170)) (hr : RM h0 h m) (ps1 : (s1 = 0 ∨ s1 = 1)) (hD : m_afterLoop_153 g s1 m = some mF) : Wq O F (Cd O F rp_P dd) (3, 0, rw_X12_afterLoop, []) (rx_at rw_X12_afterLoop 153) la [wvi s1, .ref 170] h (QN h0 mF) := by
  unfold m_afterLoop_153 at hD
  obtain ⟨m85, q88, hD⟩ := nb_of hD
  refine wm_cvN hr (c_fits (by omega) hr ps1 q88) rfl rfl rfl (fun h86 hr87 => ?_)
  refine wq_aload_n k0 rfl ?_
  refine wq_bipush (by decide) rfl ?_
  refine wq_aload_n k0 rfl ?_
  obtain ⟨v93, m89, q92, hD⟩ := vb_of hD
  refine wm_cvI hr87 (c_back (by omega) hr87 q92) rfl rfl rfl (fun h90 hr91 pp94 => ?_)
  obtain ⟨m95, q98, hD⟩ := nb_of hD
  refine wm_cvN hr91 (c_write1 (by omega) hr91 ⟨by decide, by decide⟩ pp94 q98) rfl rfl rfl (fun h96 hr97 => ?_)
  refine wq_aload_n k0 rfl ?_
  refine wq_dup rfl rfl ?_
  refine wm_gfi hr97 rfl rfl (fun pp99 => ?_)
  refine wq_iconst rfl ?_
  refine wq_isub rfl ?_
  obtain ⟨m100, e101, hD⟩ := wlet_of hD
  refine wm_pfi hr97 rfl rfl (InI_i32 _) rfl (fun h102 hr103 => ?_)
  rw [← e101] at hr103
  exact c_m_afterLoop_176_b hd hr103 hD
def m_afterLoop_20 (g : Nat) (s1 : Int) (m : MS) : Option MS := nb (m_fits s1 m) (fun m55 => nb (m_want g 41 m55) (fun m59 => vb (m_emit 21 0 0 0 m59) (fun v67 m63 => nb (m_keep v67 m63) (fun m69 => nb (m_write0 1 m69) (fun m73 => nb (m_later 15 m73) (fun m77 => nb (m_later 6 m77) (fun m81 => m_afterLoop_176 g m81)))))))
theorem c_m_afterLoop_20_b {dd : Nat} (hd : 4 ≤ dd) {g : Nat} {h0 : RHeap} {mF : MS} {la : RLoc} {h : RHeap} {m : MS} {s1 : Int} (k0 : rx_look la 0 = some (.ref 170)) (hr : RM h0 h m) (ps1 : (s1 = 0 ∨ s1 = 1)) (hD : m_afterLoop_20 g s1 m = some mF) : Wq O F (Cd O F rp_P dd) (3, 0, rw_X12_afterLoop, []) (rx_at rw_X12_afterLoop 20) la [wvi s1, .ref 170] h (QN h0 mF) := by
  unfold m_afterLoop_20 at hD
  obtain ⟨m55, q58, hD⟩ := nb_of hD
  refine wm_cvN hr (c_fits (by omega) hr ps1 q58) rfl rfl rfl (fun h56 hr57 => ?_)
  refine wq_aload_n k0 rfl ?_
  refine wq_bipush (by decide) rfl ?_
  obtain ⟨m59, q62, hD⟩ := nb_of hD
  refine wm_cvN hr57 (c_want (by omega) hr57 ⟨by decide, by decide⟩ q62) rfl rfl rfl (fun h60 hr61 => ?_)
  refine wq_aload_n k0 rfl ?_
  refine wq_aload_n k0 rfl ?_
  refine wq_bipush (by decide) rfl ?_
  refine wq_iconst rfl ?_
  refine wq_iconst rfl ?_
  refine wq_iconst rfl ?_
  obtain ⟨v67, m63, q66, hD⟩ := vb_of hD
  refine wm_cvI hr61 (c_emit (by omega) hr61 ⟨by decide, by decide⟩ ⟨by decide, by decide⟩ ⟨by decide, by decide⟩ ⟨by decide, by decide⟩ q66) rfl rfl rfl (fun h64 hr65 pp68 => ?_)
  obtain ⟨m69, q72, hD⟩ := nb_of hD
  refine wm_cvN hr65 (c_keep (by omega) hr65 pp68 q72) rfl rfl rfl (fun h70 hr71 => ?_)
  refine wq_aload_n k0 rfl ?_
  refine wq_iconst rfl ?_
  obtain ⟨m73, q76, hD⟩ := nb_of hD
  refine wm_cvN hr71 (c_write0 (by omega) hr71 ⟨by decide, by decide⟩ q76) rfl rfl rfl (fun h74 hr75 => ?_)
  refine wq_aload_n k0 rfl ?_
  refine wq_bipush (by decide) rfl ?_
  obtain ⟨m77, q80, hD⟩ := nb_of hD
  refine wm_cvN hr75 (c_later (by omega) hr75 ⟨by decide, by decide⟩ q80) rfl rfl rfl (fun h78 hr79 => ?_)
  refine wq_aload_n k0 rfl ?_
  refine wq_bipush (by decide) rfl ?_
  obtain ⟨m81, q84, hD⟩ := nb_of hD
  refine wm_cvN hr79 (c_later (by omega) hr79 ⟨by decide, by decide⟩ q84) rfl rfl rfl (fun h82 hr83 => ?_)
  refine wq_goto rfl rfl ?_
  exact c_m_afterLoop_176_b hd hr83 hD
def m_afterLoop (g : Nat) (l1 : Int) (m : MS) : Option MS := if l1 = 14 then if (m 62 0) = 2 then m_afterLoop_20 g 1 m else m_afterLoop_20 g 0 m else if l1 = 15 then vb (m_back m) (fun v30 m26 => vb (m_back m26) (fun v40 m36 => nb (m_write1 20 v40 m36) (fun m42 => ck v30 6000 (wlet (mset m42 59 v30 (m42 57 0)) (fun m49 => m_afterLoop_176 g m49))))) else if l1 = 16 then nb (m_want g 43 m) (fun m6 => ck (i32 ((m6 67 0) - 2)) 8000 (nb (m_write1 0 (m6 66 (i32 ((m6 67 0) - 2))) m6) (fun m14 => nb (m_later 17 m14) (fun m18 => nb (m_later 30 m18) (fun m22 => m_afterLoop_176 g m22))))) else if (m 62 0) = 2 then m_afterLoop_153 g 1 m else m_afterLoop_153 g 0 m
theorem c_m_afterLoop_b {dd : Nat} (hd : 4 ≤ dd) {g : Nat} {h0 : RHeap} {mF : MS} {la : RLoc} {h : RHeap} {m : MS} {l1 : Int} (k0 : rx_look la 0 = some (.ref 170)) (k1 : rx_look la 1 = some (wvi l1)) (hr : RM h0 h m) (pl1 : InI l1) (hD : m_afterLoop g l1 m = some mF) : Wq O F (Cd O F rp_P dd) (3, 0, rw_X12_afterLoop, []) (rx_at rw_X12_afterLoop 0) la [] h (QN h0 mF) := by
  unfold m_afterLoop at hD
  refine wq_iload_n k1 rfl ?_
  refine wq_bipush (by decide) rfl ?_
  refine wq_icmp_ne pl1 ⟨by decide, by decide⟩ rfl rfl rfl (fun c1 => ?_) (fun c1 => ?_)
  · rw [if_neg c1] at hD
    refine wq_iload_n k1 rfl ?_
    refine wq_bipush (by decide) rfl ?_
    refine wq_icmp_ne pl1 ⟨by decide, by decide⟩ rfl rfl rfl (fun c2 => ?_) (fun c2 => ?_)
    · rw [if_neg c2] at hD
      refine wq_iload_n k1 rfl ?_
      refine wq_bipush (by decide) rfl ?_
      refine wq_icmp_ne pl1 ⟨by decide, by decide⟩ rfl rfl rfl (fun c3 => ?_) (fun c3 => ?_)
      · rw [if_neg c3] at hD
        refine wq_aload_n k0 rfl ?_
        refine wq_aload_n k0 rfl ?_
        refine wm_gfi hr rfl rfl (fun pp4 => ?_)
        refine wq_iconst rfl ?_
        refine wq_icmp_ne pp4 ⟨by decide, by decide⟩ rfl rfl rfl (fun c5 => ?_) (fun c5 => ?_)
        · rw [if_neg c5] at hD
          refine wq_iconst rfl ?_
          exact c_m_afterLoop_153_b hd k0 hr (Or.inl rfl) hD
        · rw [if_pos c5] at hD
          refine wq_iconst rfl ?_
          refine wq_goto rfl rfl ?_
          exact c_m_afterLoop_153_b hd k0 hr (Or.inr rfl) hD
      · rw [if_pos c3] at hD
        refine wq_aload_n k0 rfl ?_
        refine wq_bipush (by decide) rfl ?_
        obtain ⟨m6, q9, hD⟩ := nb_of hD
        refine wm_cvN hr (c_want (by omega) hr ⟨by decide, by decide⟩ q9) rfl rfl rfl (fun h7 hr8 => ?_)
        refine wq_aload_n k0 rfl ?_
        refine wq_iconst rfl ?_
        refine wq_aload_n k0 rfl ?_
        refine wm_gfa (c := 0) hr8 rfl rfl ?_
        refine wq_aload_n k0 rfl ?_
        refine wm_gfi hr8 rfl rfl (fun pp10 => ?_)
        refine wq_iconst rfl ?_
        refine wq_isub rfl ?_
        obtain ⟨g11, g12, hD⟩ := ck_of hD
        refine wm_ali (f := 66) hr8 rfl (InI_i32 _) g11 g12 rfl (fun pp13 => ?_)
        obtain ⟨m14, q17, hD⟩ := nb_of hD
        refine wm_cvN hr8 (c_write1 (by omega) hr8 ⟨by decide, by decide⟩ pp13 q17) rfl rfl rfl (fun h15 hr16 => ?_)
        refine wq_aload_n k0 rfl ?_
        refine wq_bipush (by decide) rfl ?_
        obtain ⟨m18, q21, hD⟩ := nb_of hD
        refine wm_cvN hr16 (c_later (by omega) hr16 ⟨by decide, by decide⟩ q21) rfl rfl rfl (fun h19 hr20 => ?_)
        refine wq_aload_n k0 rfl ?_
        refine wq_bipush (by decide) rfl ?_
        obtain ⟨m22, q25, hD⟩ := nb_of hD
        refine wm_cvN hr20 (c_later (by omega) hr20 ⟨by decide, by decide⟩ q25) rfl rfl rfl (fun h23 hr24 => ?_)
        refine wq_goto rfl rfl ?_
        exact c_m_afterLoop_176_b hd hr24 hD
    · rw [if_pos c2] at hD
      refine wq_aload_n k0 rfl ?_
      obtain ⟨v30, m26, q29, hD⟩ := vb_of hD
      refine wm_cvI hr (c_back (by omega) hr q29) rfl rfl rfl (fun h27 hr28 pp31 => ?_)
      refine wl_istore_n rfl rfl (fun la32 kk33 t34 => ?_)
      have kk35 := t34 0 _ (by decide) (Or.inr rfl) k0
      refine wq_aload_n kk35 rfl ?_
      refine wq_bipush (by decide) rfl ?_
      refine wq_aload_n kk35 rfl ?_
      obtain ⟨v40, m36, q39, hD⟩ := vb_of hD
      refine wm_cvI hr28 (c_back (by omega) hr28 q39) rfl rfl rfl (fun h37 hr38 pp41 => ?_)
      obtain ⟨m42, q45, hD⟩ := nb_of hD
      refine wm_cvN hr38 (c_write1 (by omega) hr38 ⟨by decide, by decide⟩ pp41 q45) rfl rfl rfl (fun h43 hr44 => ?_)
      refine wq_aload_n kk35 rfl ?_
      refine wm_gfa (c := 0) hr44 rfl rfl ?_
      refine wq_iload_n kk33 rfl ?_
      refine wq_aload_n kk35 rfl ?_
      refine wm_gfi hr44 rfl rfl (fun pp46 => ?_)
      obtain ⟨g47, g48, hD⟩ := ck_of hD
      obtain ⟨m49, e50, hD⟩ := wlet_of hD
      refine wm_asi (f := 59) hr44 rfl pp31 g47 g48 pp46 rfl (fun h51 hr52 => ?_)
      rw [← e50] at hr52
      refine wq_goto rfl rfl ?_
      exact c_m_afterLoop_176_b hd hr52 hD
  · rw [if_pos c1] at hD
    refine wq_aload_n k0 rfl ?_
    refine wq_aload_n k0 rfl ?_
    refine wm_gfi hr rfl rfl (fun pp53 => ?_)
    refine wq_iconst rfl ?_
    refine wq_icmp_ne pp53 ⟨by decide, by decide⟩ rfl rfl rfl (fun c54 => ?_) (fun c54 => ?_)
    · rw [if_neg c54] at hD
      refine wq_iconst rfl ?_
      exact c_m_afterLoop_20_b hd k0 hr (Or.inl rfl) hD
    · rw [if_pos c54] at hD
      refine wq_iconst rfl ?_
      refine wq_goto rfl rfl ?_
      exact c_m_afterLoop_20_b hd k0 hr (Or.inr rfl) hD
theorem c_afterLoop {d : Nat} (hd : 5 ≤ d) {g : Nat} {h0 h : RHeap} {m : MS} {l1 : Int} {mF : MS} (hr : RM h0 h m) (pl1 : InI l1) (hD : m_afterLoop g l1 m = some mF) : Cq (Cd O F rp_P d) 200 [.ref 170, wvi l1] h (QN h0 mF) := by
  refine cq_of (I := (3, 0, rw_X12_afterLoop, [])) rfl rfl (by omega) ?_
  exact c_m_afterLoop_b (by omega) rfl rfl hr pl1 hD
def m_isOut_19 (s0 : Int) (m : MS) : Option (Int × MS) := some (s0, m)
theorem c_m_isOut_19_b {dd : Nat} (hd : 0 ≤ dd) {h0 : RHeap} {vF : Int} {mF : MS} {la : RLoc} {h : RHeap} {m : MS} {s0 : Int} (hr : RM h0 h m) (ps0 : (s0 = 0 ∨ s0 = 1)) (hD : m_isOut_19 s0 m = some (vF, mF)) : Wq O F (Cd O F rp_P dd) (4, 2, rw_X12_isOut, []) (rx_at rw_X12_isOut 19) la [wvi s0] h (QV 3 h0 vF mF) := by
  unfold m_isOut_19 at hD
  cases hD
  exact wq_zreturn rfl ps0 ⟨_, rfl, hr, ps0⟩
def m_isOut_14 (m : MS) : Option (Int × MS) := m_isOut_19 1 m
theorem c_m_isOut_14_b {dd : Nat} (hd : 0 ≤ dd) {h0 : RHeap} {vF : Int} {mF : MS} {la : RLoc} {h : RHeap} {m : MS} (hr : RM h0 h m) (hD : m_isOut_14 m = some (vF, mF)) : Wq O F (Cd O F rp_P dd) (4, 2, rw_X12_isOut, []) (rx_at rw_X12_isOut 14) la [] h (QV 3 h0 vF mF) := by
  unfold m_isOut_14 at hD
  refine wq_iconst rfl ?_
  refine wq_goto rfl rfl ?_
  exact c_m_isOut_19_b hd hr (Or.inr rfl) hD
def m_isOut (l0 : Int) (l2 : Int) (l3 : Int) (m : MS) : Option (Int × MS) := if l0 < l2 then m_isOut_14 m else if l3 < l0 then m_isOut_14 m else m_isOut_19 0 m
theorem c_m_isOut_b {dd : Nat} (hd : 0 ≤ dd) {h0 : RHeap} {vF : Int} {mF : MS} {la : RLoc} {h : RHeap} {m : MS} {l0 l2 l3 : Int} (k0 : rx_look la 0 = some (wvl l0)) (k2 : rx_look la 2 = some (wvi l2)) (k3 : rx_look la 3 = some (wvi l3)) (hr : RM h0 h m) (pl0 : InL l0) (pl2 : InI l2) (pl3 : InI l3) (hD : m_isOut l0 l2 l3 m = some (vF, mF)) : Wq O F (Cd O F rp_P dd) (4, 2, rw_X12_isOut, []) (rx_at rw_X12_isOut 0) la [] h (QV 3 h0 vF mF) := by
  unfold m_isOut at hD
  refine wq_lload_n k0 rfl ?_
  refine wq_iload_n k2 rfl ?_
  refine wq_i2l pl2 rfl ?_
  refine wq_lc_lt pl0 (InI.toL pl2) rfl rfl rfl rfl (fun c1 => ?_) (fun c1 => ?_)
  · rw [if_pos c1] at hD
    exact c_m_isOut_14_b hd hr hD
  · rw [if_neg (Int.not_lt.mpr c1)] at hD
    refine wq_lload_n k0 rfl ?_
    refine wq_iload_n k3 rfl ?_
    refine wq_i2l pl3 rfl ?_
    refine wq_lc_le pl0 (InI.toL pl3) rfl rfl rfl rfl (fun c2 => ?_) (fun c2 => ?_)
    · rw [if_neg (Int.not_lt.mpr c2)] at hD
      refine wq_iconst rfl ?_
      exact c_m_isOut_19_b hd hr (Or.inl rfl) hD
    · rw [if_pos c2] at hD
      exact c_m_isOut_14_b hd hr hD
theorem c_isOut {d : Nat} (hd : 1 ≤ d) {h0 h : RHeap} {m : MS} {l0 l2 l3 : Int} {vF : Int} {mF : MS} (hr : RM h0 h m) (pl0 : InL l0) (pl2 : InI l2) (pl3 : InI l3) (hD : m_isOut l0 l2 l3 m = some (vF, mF)) : Cq (Cd O F rp_P d) 238 [wvl l0, wvi l2, wvi l3] h (QV 3 h0 vF mF) := by
  refine cq_of (I := (4, 2, rw_X12_isOut, [])) rfl rfl (by omega) ?_
  exact c_m_isOut_b (by omega) rfl rfl rfl hr pl0 pl2 pl3 hD
def m_apply_170 (l3 : Int) (m : MS) : Option MS := nb (m_push l3 m) (fun m52 => some m52)
theorem c_m_apply_170_b {dd : Nat} (hd : 2 ≤ dd) {h0 : RHeap} {mF : MS} {la : RLoc} {h : RHeap} {m : MS} {l3 : Int} (k0 : rx_look la 0 = some (.ref 170)) (k3 : rx_look la 3 = some (wvl l3)) (hr : RM h0 h m) (pl3 : InL l3) (hD : m_apply_170 l3 m = some mF) : Wq O F (Cd O F rp_P dd) (7, 0, rw_X12_apply, []) (rx_at rw_X12_apply 170) la [] h (QN h0 mF) := by
  unfold m_apply_170 at hD
  refine wq_aload_n k0 rfl ?_
  refine wq_lload_n k3 rfl ?_
  obtain ⟨m52, q55, hD⟩ := nb_of hD
  refine wm_cvN hr (c_push (by omega) hr pl3 q55) rfl rfl rfl (fun h53 hr54 => ?_)
  cases hD
  exact wq_return rfl ⟨_, rfl, hr54⟩
def m_apply_112 (l3 : Int) (s1 : Int) (m : MS) : Option MS := vb (m_isWrong s1 3 m) (fun v77 m73 => m_apply_170 l3 m73)
theorem c_m_apply_112_b {dd : Nat} (hd : 2 ≤ dd) {h0 : RHeap} {mF : MS} {la : RLoc} {h : RHeap} {m : MS} {l3 s1 : Int} (k0 : rx_look la 0 = some (.ref 170)) (k3 : rx_look la 3 = some (wvl l3)) (hr : RM h0 h m) (pl3 : InL l3) (ps1 : (s1 = 0 ∨ s1 = 1)) (hD : m_apply_112 l3 s1 m = some mF) : Wq O F (Cd O F rp_P dd) (7, 0, rw_X12_apply, []) (rx_at rw_X12_apply 112) la [wvi s1, .ref 170] h (QN h0 mF) := by
  unfold m_apply_112 at hD
  refine wq_iconst rfl ?_
  obtain ⟨v77, m73, q76, hD⟩ := vb_of hD
  refine wm_cvZ hr (c_isWrong (by omega) hr ps1 ⟨by decide, by decide⟩ q76) rfl rfl rfl (fun h74 hr75 pp78 => ?_)
  refine wl_istore rfl rfl (fun la79 kk80 t81 => ?_)
  have kk82 := t81 0 _ (by decide) (Or.inr rfl) k0
  have kk83 := t81 3 _ (by decide) (Or.inl (by decide)) k3
  refine wq_goto rfl rfl ?_
  exact c_m_apply_170_b hd kk82 kk83 hr75 pl3 hD
def m_apply_111 (l3 : Int) (m : MS) : Option MS := m_apply_112 l3 0 m
theorem c_m_apply_111_b {dd : Nat} (hd : 2 ≤ dd) {h0 : RHeap} {mF : MS} {la : RLoc} {h : RHeap} {m : MS} {l3 : Int} (k0 : rx_look la 0 = some (.ref 170)) (k3 : rx_look la 3 = some (wvl l3)) (hr : RM h0 h m) (pl3 : InL l3) (hD : m_apply_111 l3 m = some mF) : Wq O F (Cd O F rp_P dd) (7, 0, rw_X12_apply, []) (rx_at rw_X12_apply 111) la [.ref 170] h (QN h0 mF) := by
  unfold m_apply_111 at hD
  refine wq_iconst rfl ?_
  exact c_m_apply_112_b hd k0 k3 hr pl3 (Or.inl rfl) hD
def m_apply_101 (l3 : Int) (s1 : Int) (s2 : Int) (s3 : Int) (m : MS) : Option MS := vb (m_isOut s1 s2 s3 m) (fun v70 m66 => if v70 = 0 then m_apply_111 l3 m66 else m_apply_112 l3 1 m66)
theorem c_m_apply_101_b {dd : Nat} (hd : 2 ≤ dd) {h0 : RHeap} {mF : MS} {la : RLoc} {h : RHeap} {m : MS} {l3 s1 s2 s3 : Int} (k0 : rx_look la 0 = some (.ref 170)) (k3 : rx_look la 3 = some (wvl l3)) (hr : RM h0 h m) (pl3 : InL l3) (ps1 : InL s1) (ps2 : (s2 = 0 ∨ s2 = 1)) (ps3 : InI s3) (hD : m_apply_101 l3 s1 s2 s3 m = some mF) : Wq O F (Cd O F rp_P dd) (7, 0, rw_X12_apply, []) (rx_at rw_X12_apply 101) la [wvi s3, wvi s2, wvl s1, .ref 170] h (QN h0 mF) := by
  unfold m_apply_101 at hD
  obtain ⟨v70, m66, q69, hD⟩ := vb_of hD
  refine wm_csZ (fun _ _ => rfl) (c_isOut (by omega) hr ps1 (InI_z ps2) ps3 q69) rfl rfl rfl (fun h67 hr68 pp71 => ?_)
  refine wq_if_eq (InI_z pp71) rfl rfl rfl (fun c72 => ?_) (fun c72 => ?_)
  · rw [if_pos c72] at hD
    exact c_m_apply_111_b hd k0 k3 hr68 pl3 hD
  · rw [if_neg c72] at hD
    refine wq_iconst rfl ?_
    refine wq_goto rfl rfl ?_
    exact c_m_apply_112_b hd k0 k3 hr68 pl3 (Or.inr rfl) hD
def m_apply_81 (l2 : Int) (s0 : Int) (m : MS) : Option MS := if l2 = 0 then m_apply_111 s0 m else if l2 = 1 then m_apply_101 s0 s0 0 255 m else m_apply_101 s0 s0 0 1 m
theorem c_m_apply_81_b {dd : Nat} (hd : 2 ≤ dd) {h0 : RHeap} {mF : MS} {la : RLoc} {h : RHeap} {m : MS} {l2 s0 : Int} (k0 : rx_look la 0 = some (.ref 170)) (k2 : rx_look la 2 = some (wvi l2)) (hr : RM h0 h m) (pl2 : InI l2) (ps0 : InL s0) (hD : m_apply_81 l2 s0 m = some mF) : Wq O F (Cd O F rp_P dd) (7, 0, rw_X12_apply, []) (rx_at rw_X12_apply 81) la [wvl s0] h (QN h0 mF) := by
  unfold m_apply_81 at hD
  refine wl_lstore_n rfl rfl (fun la59 kk60 t61 => ?_)
  have kk62 := t61 0 _ ⟨by decide, by decide⟩ (Or.inr rfl) k0
  have kk63 := t61 2 _ ⟨by decide, by decide⟩ (Or.inr rfl) k2
  refine wq_aload_n kk62 rfl ?_
  refine wq_iload_n kk63 rfl ?_
  refine wq_if_eq pl2 rfl rfl rfl (fun c64 => ?_) (fun c64 => ?_)
  · rw [if_pos c64] at hD
    exact c_m_apply_111_b hd kk62 kk60 hr ps0 hD
  · rw [if_neg c64] at hD
    refine wq_lload_n kk60 rfl ?_
    refine wq_iconst rfl ?_
    refine wq_iload_n kk63 rfl ?_
    refine wq_iconst rfl ?_
    refine wq_icmp_ne pl2 ⟨by decide, by decide⟩ rfl rfl rfl (fun c65 => ?_) (fun c65 => ?_)
    · rw [if_neg c65] at hD
      refine wq_iconst rfl ?_
      exact c_m_apply_101_b hd kk62 kk60 hr ps0 ps0 (Or.inl rfl) ⟨by decide, by decide⟩ hD
    · rw [if_pos c65] at hD
      refine wq_sipush (by decide) rfl ?_
      refine wq_goto rfl rfl ?_
      exact c_m_apply_101_b hd kk62 kk60 hr ps0 ps0 (Or.inl rfl) ⟨by decide, by decide⟩ hD
def m_apply_42 (l1 : Int) (l2 : Int) (l3 : Int) (l5 : Int) (m : MS) : Option MS := if l2 = 0 then if l1 = 2 then m_apply_81 l2 (i32 (l5 + 1)) m else m_apply_81 l2 (i32 (l5 - 1)) m else if l1 = 2 then m_apply_81 l2 (i64 (l3 + 1)) m else m_apply_81 l2 (i64 (l3 - 1)) m
theorem c_m_apply_42_b {dd : Nat} (hd : 2 ≤ dd) {h0 : RHeap} {mF : MS} {la : RLoc} {h : RHeap} {m : MS} {l1 l2 l3 l5 : Int} (k0 : rx_look la 0 = some (.ref 170)) (k1 : rx_look la 1 = some (wvi l1)) (k2 : rx_look la 2 = some (wvi l2)) (k3 : rx_look la 3 = some (wvl l3)) (k5 : rx_look la 5 = some (wvi l5)) (hr : RM h0 h m) (pl1 : InI l1) (pl2 : InI l2) (pl3 : InL l3) (pl5 : InI l5) (hD : m_apply_42 l1 l2 l3 l5 m = some mF) : Wq O F (Cd O F rp_P dd) (7, 0, rw_X12_apply, []) (rx_at rw_X12_apply 42) la [] h (QN h0 mF) := by
  unfold m_apply_42 at hD
  refine wq_iload_n k2 rfl ?_
  refine wq_if_ne pl2 rfl rfl rfl (fun c56 => ?_) (fun c56 => ?_)
  · rw [if_neg c56] at hD
    refine wq_iload_n k1 rfl ?_
    refine wq_iconst rfl ?_
    refine wq_icmp_ne pl1 ⟨by decide, by decide⟩ rfl rfl rfl (fun c57 => ?_) (fun c57 => ?_)
    · rw [if_neg c57] at hD
      refine wq_lload_n k3 rfl ?_
      refine wq_lconst (x := 1) (by decide) rfl ?_
      refine wq_lsub rfl ?_
      exact c_m_apply_81_b hd k0 k2 hr pl2 (InL_i64 _) hD
    · rw [if_pos c57] at hD
      refine wq_lload_n k3 rfl ?_
      refine wq_lconst (x := 1) (by decide) rfl ?_
      refine wq_ladd rfl ?_
      refine wq_goto rfl rfl ?_
      exact c_m_apply_81_b hd k0 k2 hr pl2 (InL_i64 _) hD
  · rw [if_pos c56] at hD
    refine wq_iload_n k1 rfl ?_
    refine wq_iconst rfl ?_
    refine wq_icmp_ne pl1 ⟨by decide, by decide⟩ rfl rfl rfl (fun c58 => ?_) (fun c58 => ?_)
    · rw [if_neg c58] at hD
      refine wq_iload k5 rfl ?_
      refine wq_iconst rfl ?_
      refine wq_isub rfl ?_
      refine wq_i2l (InI_i32 _) rfl ?_
      refine wq_goto rfl rfl ?_
      exact c_m_apply_81_b hd k0 k2 hr pl2 (InI.toL (InI_i32 _)) hD
    · rw [if_pos c58] at hD
      refine wq_iload k5 rfl ?_
      refine wq_iconst rfl ?_
      refine wq_iadd rfl ?_
      refine wq_i2l (InI_i32 _) rfl ?_
      refine wq_goto rfl rfl ?_
      exact c_m_apply_81_b hd k0 k2 hr pl2 (InI.toL (InI_i32 _)) hD
def m_apply_153 (s0 : Int) (m : MS) : Option MS := m_apply_170 s0 m
theorem c_m_apply_153_b {dd : Nat} (hd : 2 ≤ dd) {h0 : RHeap} {mF : MS} {la : RLoc} {h : RHeap} {m : MS} {s0 : Int} (k0 : rx_look la 0 = some (.ref 170)) (hr : RM h0 h m) (ps0 : InL s0) (hD : m_apply_153 s0 m = some mF) : Wq O F (Cd O F rp_P dd) (7, 0, rw_X12_apply, []) (rx_at rw_X12_apply 153) la [wvl s0] h (QN h0 mF) := by
  unfold m_apply_153 at hD
  refine wl_lstore_n rfl rfl (fun la84 kk85 t86 => ?_)
  have kk87 := t86 0 _ ⟨by decide, by decide⟩ (Or.inr rfl) k0
  refine wq_goto rfl rfl ?_
  exact c_m_apply_170_b hd kk87 kk85 hr ps0 hD
def m_apply (l1 : Int) (l2 : Int) (m : MS) : Option MS := vb (m_pop m) (fun v5 m1 => if l1 = 1 then vb (m_isOut v5 0 255 m1) (fun v39 m35 => vb (m_isWrong v39 3 m35) (fun v45 m41 => m_apply_170 v5 m41)) else if l1 = 2 then m_apply_42 l1 l2 v5 (i32 v5) m1 else if l1 = 3 then m_apply_42 l1 l2 v5 (i32 v5) m1 else if l1 = 4 then m_apply_170 (l_and v5 1) m1 else if l1 = 5 then if (i32 v5) < 0 then m_apply_153 (i32 (-(i32 v5))) m1 else m_apply_153 (i32 v5) m1 else if l1 = 6 then m_apply_170 (i32 ((i32 v5) * (i32 v5))) m1 else m_apply_170 v5 m1)
theorem c_m_apply_b {dd : Nat} (hd : 2 ≤ dd) {h0 : RHeap} {mF : MS} {la : RLoc} {h : RHeap} {m : MS} {l1 l2 : Int} (k0 : rx_look la 0 = some (.ref 170)) (k1 : rx_look la 1 = some (wvi l1)) (k2 : rx_look la 2 = some (wvi l2)) (hr : RM h0 h m) (pl1 : InI l1) (pl2 : InI l2) (hD : m_apply l1 l2 m = some mF) : Wq O F (Cd O F rp_P dd) (7, 0, rw_X12_apply, []) (rx_at rw_X12_apply 0) la [] h (QN h0 mF) := by
  unfold m_apply at hD
  refine wq_aload_n k0 rfl ?_
  obtain ⟨v5, m1, q4, hD⟩ := vb_of hD
  refine wm_cvL hr (c_pop (by omega) hr q4) rfl rfl rfl (fun h2 hr3 pp6 => ?_)
  refine wl_lstore_n rfl rfl (fun la7 kk8 t9 => ?_)
  have kk10 := t9 0 _ ⟨by decide, by decide⟩ (Or.inr rfl) k0
  have kk11 := t9 1 _ ⟨by decide, by decide⟩ (Or.inr rfl) k1
  have kk12 := t9 2 _ ⟨by decide, by decide⟩ (Or.inr rfl) k2
  refine wq_lload_n kk8 rfl ?_
  refine wq_l2i rfl ?_
  refine wl_istore rfl rfl (fun la13 kk14 t15 => ?_)
  have kk16 := t15 0 _ (by decide) (Or.inr rfl) kk10
  have kk17 := t15 1 _ (by decide) (Or.inr rfl) kk11
  have kk18 := t15 2 _ (by decide) (Or.inr rfl) kk12
  have kk19 := t15 3 _ (by decide) (Or.inl (by decide)) kk8
  refine wq_iload_n kk17 rfl ?_
  refine wq_iconst rfl ?_
  refine wq_icmp_ne pl1 ⟨by decide, by decide⟩ rfl rfl rfl (fun c20 => ?_) (fun c20 => ?_)
  · rw [if_neg c20] at hD
    refine wq_iload_n kk17 rfl ?_
    refine wq_iconst rfl ?_
    refine wq_icmp_eq pl1 ⟨by decide, by decide⟩ rfl rfl rfl (fun c21 => ?_) (fun c21 => ?_)
    · rw [if_pos c21] at hD
      exact c_m_apply_42_b hd kk16 kk17 kk18 kk19 kk14 hr3 pl1 pl2 pp6 (InI_i32 _) hD
    · rw [if_neg c21] at hD
      refine wq_iload_n kk17 rfl ?_
      refine wq_iconst rfl ?_
      refine wq_icmp_ne pl1 ⟨by decide, by decide⟩ rfl rfl rfl (fun c22 => ?_) (fun c22 => ?_)
      · rw [if_neg c22] at hD
        refine wq_iload_n kk17 rfl ?_
        refine wq_iconst rfl ?_
        refine wq_icmp_ne pl1 ⟨by decide, by decide⟩ rfl rfl rfl (fun c23 => ?_) (fun c23 => ?_)
        · rw [if_neg c23] at hD
          refine wq_iload_n kk17 rfl ?_
          refine wq_iconst rfl ?_
          refine wq_icmp_ne pl1 ⟨by decide, by decide⟩ rfl rfl rfl (fun c24 => ?_) (fun c24 => ?_)
          · rw [if_neg c24] at hD
            refine wq_iload_n kk17 rfl ?_
            refine wq_bipush (by decide) rfl ?_
            refine wq_icmp_ne pl1 ⟨by decide, by decide⟩ rfl rfl rfl (fun c25 => ?_) (fun c25 => ?_)
            · rw [if_neg c25] at hD
              exact c_m_apply_170_b hd kk16 kk19 hr3 pp6 hD
            · rw [if_pos c25] at hD
              refine wq_iload kk14 rfl ?_
              refine wq_iload kk14 rfl ?_
              refine wq_imul rfl ?_
              refine wq_i2l (InI_i32 _) rfl ?_
              refine wl_lstore_n rfl rfl (fun la26 kk27 t28 => ?_)
              have kk29 := t28 0 _ ⟨by decide, by decide⟩ (Or.inr rfl) kk16
              exact c_m_apply_170_b hd kk29 kk27 hr3 (InI.toL (InI_i32 _)) hD
          · rw [if_pos c24] at hD
            refine wq_iload kk14 rfl ?_
            refine wq_if_ge (InI_i32 _) rfl rfl rfl (fun c30 => ?_) (fun c30 => ?_)
            · rw [if_neg (Int.not_lt.mpr c30)] at hD
              refine wq_iload kk14 rfl ?_
              refine wq_i2l (InI_i32 _) rfl ?_
              exact c_m_apply_153_b hd kk16 hr3 (InI.toL (InI_i32 _)) hD
            · rw [if_pos c30] at hD
              refine wq_iload kk14 rfl ?_
              refine wq_ineg rfl ?_
              refine wq_i2l (InI_i32 _) rfl ?_
              refine wq_goto rfl rfl ?_
              exact c_m_apply_153_b hd kk16 hr3 (InI.toL (InI_i32 _)) hD
        · rw [if_pos c23] at hD
          refine wq_lload_n kk19 rfl ?_
          refine wq_lconst (x := 1) (by decide) rfl ?_
          refine wq_land rfl ?_
          refine wl_lstore_n rfl rfl (fun la31 kk32 t33 => ?_)
          have kk34 := t33 0 _ ⟨by decide, by decide⟩ (Or.inr rfl) kk16
          refine wq_goto rfl rfl ?_
          exact c_m_apply_170_b hd kk34 kk32 hr3 (InL_toInt _) hD
      · rw [if_pos c22] at hD
        exact c_m_apply_42_b hd kk16 kk17 kk18 kk19 kk14 hr3 pl1 pl2 pp6 (InI_i32 _) hD
  · rw [if_pos c20] at hD
    refine wq_aload_n kk16 rfl ?_
    refine wq_lload_n kk19 rfl ?_
    refine wq_iconst rfl ?_
    refine wq_sipush (by decide) rfl ?_
    obtain ⟨v39, m35, q38, hD⟩ := vb_of hD
    refine wm_csZ (fun _ _ => rfl) (c_isOut (by omega) hr3 pp6 ⟨by decide, by decide⟩ ⟨by decide, by decide⟩ q38) rfl rfl rfl (fun h36 hr37 pp40 => ?_)
    refine wq_iconst rfl ?_
    obtain ⟨v45, m41, q44, hD⟩ := vb_of hD
    refine wm_cvZ hr37 (c_isWrong (by omega) hr37 pp40 ⟨by decide, by decide⟩ q44) rfl rfl rfl (fun h42 hr43 pp46 => ?_)
    refine wl_istore rfl rfl (fun la47 kk48 t49 => ?_)
    have kk50 := t49 0 _ (by decide) (Or.inr rfl) kk16
    have kk51 := t49 3 _ (by decide) (Or.inl (by decide)) kk19
    refine wq_goto rfl rfl ?_
    exact c_m_apply_170_b hd kk50 kk51 hr43 pp6 hD
theorem c_apply {d : Nat} (hd : 3 ≤ d) {h0 h : RHeap} {m : MS} {l1 l2 : Int} {mF : MS} (hr : RM h0 h m) (pl1 : InI l1) (pl2 : InI l2) (hD : m_apply l1 l2 m = some mF) : Cq (Cd O F rp_P d) 201 [.ref 170, wvi l1, wvi l2] h (QN h0 mF) := by
  refine cq_of (I := (7, 0, rw_X12_apply, [])) rfl rfl (by omega) ?_
  exact c_m_apply_b (by omega) rfl rfl rfl hr pl1 pl2 hD
def m_nextArgument_87 (g : Nat) (m : MS) : Option MS := some m
theorem c_m_nextArgument_87_b {dd : Nat} (hd : 4 ≤ dd) {g : Nat} {h0 : RHeap} {mF : MS} {la : RLoc} {h : RHeap} {m : MS} (hr : RM h0 h m) (hD : m_nextArgument_87 g m = some mF) : Wq O F (Cd O F rp_P dd) (3, 0, rw_X12_nextArgument, []) (rx_at rw_X12_nextArgument 87) la [] h (QN h0 mF) := by
  unfold m_nextArgument_87 at hD
  cases hD
  exact wq_return rfl ⟨_, rfl, hr⟩
def m_nextArgument (g : Nat) (m : MS) : Option MS := wlet (mset m 67 0 (i32 ((m 67 0) - 1))) (fun m2 => ck (m2 67 0) 8000 (ck (i32 ((m2 67 0) - 1)) 8000 (ck (m2 66 (i32 ((m2 67 0) - 1))) 240 (if (i32 ((m2 66 (m2 67 0)) + 1)) < (m2 49 (m2 66 (i32 ((m2 67 0) - 1)))) then nb (m_keep (i32 ((m2 66 (m2 67 0)) + 1)) m2) (fun m40 => nb (m_want g 20 m40) (fun m44 => nb (m_later 48 m44) (fun m48 => m_nextArgument_87 g m48))) else wlet (mset m2 67 0 (i32 ((m2 67 0) - 1))) (fun m28 => nb (m_want g 17 m28) (fun m32 => nb (m_write1 18 (m2 66 (i32 ((m2 67 0) - 1))) m32) (fun m36 => m_nextArgument_87 g m36)))))))
theorem c_m_nextArgument_b {dd : Nat} (hd : 4 ≤ dd) {g : Nat} {h0 : RHeap} {mF : MS} {la : RLoc} {h : RHeap} {m : MS} (k0 : rx_look la 0 = some (.ref 170)) (hr : RM h0 h m) (hD : m_nextArgument g m = some mF) : Wq O F (Cd O F rp_P dd) (3, 0, rw_X12_nextArgument, []) (rx_at rw_X12_nextArgument 0) la [] h (QN h0 mF) := by
  unfold m_nextArgument at hD
  refine wq_aload_n k0 rfl ?_
  refine wq_dup rfl rfl ?_
  refine wm_gfi hr rfl rfl (fun pp1 => ?_)
  refine wq_iconst rfl ?_
  refine wq_isub rfl ?_
  obtain ⟨m2, e3, hD⟩ := wlet_of hD
  refine wm_pfi hr rfl rfl (InI_i32 _) rfl (fun h4 hr5 => ?_)
  rw [← e3] at hr5
  refine wq_aload_n k0 rfl ?_
  refine wm_gfa (c := 0) hr5 rfl rfl ?_
  refine wq_aload_n k0 rfl ?_
  refine wm_gfi hr5 rfl rfl (fun pp6 => ?_)
  obtain ⟨g7, g8, hD⟩ := ck_of hD
  refine wm_ali (f := 66) hr5 rfl pp6 g7 g8 rfl (fun pp9 => ?_)
  refine wq_iconst rfl ?_
  refine wq_iadd rfl ?_
  refine wl_istore_n rfl rfl (fun la10 kk11 t12 => ?_)
  have kk13 := t12 0 _ (by decide) (Or.inr rfl) k0
  refine wq_aload_n kk13 rfl ?_
  refine wm_gfa (c := 0) hr5 rfl rfl ?_
  refine wq_aload_n kk13 rfl ?_
  refine wm_gfi hr5 rfl rfl (fun pp14 => ?_)
  refine wq_iconst rfl ?_
  refine wq_isub rfl ?_
  obtain ⟨g15, g16, hD⟩ := ck_of hD
  refine wm_ali (f := 66) hr5 rfl (InI_i32 _) g15 g16 rfl (fun pp17 => ?_)
  refine wl_istore_n rfl rfl (fun la18 kk19 t20 => ?_)
  have kk21 := t20 0 _ (by decide) (Or.inr rfl) kk13
  have kk22 := t20 1 _ (by decide) (Or.inr rfl) kk11
  refine wq_iload_n kk22 rfl ?_
  refine wq_aload_n kk21 rfl ?_
  refine wm_gfa (c := 0) hr5 rfl rfl ?_
  refine wq_iload_n kk19 rfl ?_
  obtain ⟨g23, g24, hD⟩ := ck_of hD
  refine wm_ali (f := 49) hr5 rfl pp17 g23 g24 rfl (fun pp25 => ?_)
  refine wq_icmp_ge (InI_i32 _) pp25 rfl rfl rfl (fun c26 => ?_) (fun c26 => ?_)
  · rw [if_neg (Int.not_lt.mpr c26)] at hD
    refine wq_aload_n kk21 rfl ?_
    refine wq_dup rfl rfl ?_
    refine wm_gfi hr5 rfl rfl (fun pp27 => ?_)
    refine wq_iconst rfl ?_
    refine wq_isub rfl ?_
    obtain ⟨m28, e29, hD⟩ := wlet_of hD
    refine wm_pfi hr5 rfl rfl (InI_i32 _) rfl (fun h30 hr31 => ?_)
    rw [← e29] at hr31
    refine wq_aload_n kk21 rfl ?_
    refine wq_bipush (by decide) rfl ?_
    obtain ⟨m32, q35, hD⟩ := nb_of hD
    refine wm_cvN hr31 (c_want (by omega) hr31 ⟨by decide, by decide⟩ q35) rfl rfl rfl (fun h33 hr34 => ?_)
    refine wq_aload_n kk21 rfl ?_
    refine wq_bipush (by decide) rfl ?_
    refine wq_iload_n kk19 rfl ?_
    obtain ⟨m36, q39, hD⟩ := nb_of hD
    refine wm_cvN hr34 (c_write1 (by omega) hr34 ⟨by decide, by decide⟩ pp17 q39) rfl rfl rfl (fun h37 hr38 => ?_)
    exact c_m_nextArgument_87_b hd hr38 hD
  · rw [if_pos c26] at hD
    refine wq_aload_n kk21 rfl ?_
    refine wq_iload_n kk22 rfl ?_
    obtain ⟨m40, q43, hD⟩ := nb_of hD
    refine wm_cvN hr5 (c_keep (by omega) hr5 (InI_i32 _) q43) rfl rfl rfl (fun h41 hr42 => ?_)
    refine wq_aload_n kk21 rfl ?_
    refine wq_bipush (by decide) rfl ?_
    obtain ⟨m44, q47, hD⟩ := nb_of hD
    refine wm_cvN hr42 (c_want (by omega) hr42 ⟨by decide, by decide⟩ q47) rfl rfl rfl (fun h45 hr46 => ?_)
    refine wq_aload_n kk21 rfl ?_
    refine wq_bipush (by decide) rfl ?_
    obtain ⟨m48, q51, hD⟩ := nb_of hD
    refine wm_cvN hr46 (c_later (by omega) hr46 ⟨by decide, by decide⟩ q51) rfl rfl rfl (fun h49 hr50 => ?_)
    refine wq_goto rfl rfl ?_
    exact c_m_nextArgument_87_b hd hr50 hD
theorem c_nextArgument {d : Nat} (hd : 5 ≤ d) {g : Nat} {h0 h : RHeap} {m : MS} {mF : MS} (hr : RM h0 h m) (hD : m_nextArgument g m = some mF) : Cq (Cd O F rp_P d) 252 [.ref 170] h (QN h0 mF) := by
  refine cq_of (I := (3, 0, rw_X12_nextArgument, [])) rfl rfl (by omega) ?_
  exact c_m_nextArgument_b (by omega) rfl hr hD
def m_variable_68 (g : Nat) (m : MS) : Option MS := some m
theorem c_m_variable_68_b {dd : Nat} (hd : 4 ≤ dd) {g : Nat} {h0 : RHeap} {mF : MS} {la : RLoc} {h : RHeap} {m : MS} (hr : RM h0 h m) (hD : m_variable_68 g m = some mF) : Wq O F (Cd O F rp_P dd) (3, 0, rw_X12_variable, []) (rx_at rw_X12_variable 68) la [] h (QN h0 mF) := by
  unfold m_variable_68 at hD
  cases hD
  exact wq_return rfl ⟨_, rfl, hr⟩
def m_variable_15 (g : Nat) (l1 : Int) (s1 : Int) (m : MS) : Option MS := ck l1 140 (ck l1 140 (vb (m_emit s1 (m 18 l1) (m 28 l1) 0 m) (fun v15 m11 => nb (m_take g m11) (fun m22 => ck l1 140 (if (m22 24 l1) = 0 then m_variable_68 g m22 else nb (m_want g 18 m22) (fun m30 => nb (m_keep l1 m30) (fun m34 => nb (m_later 46 m34) (fun m38 => nb (m_later 30 m38) (fun m42 => m_variable_68 g m42)))))))))
theorem c_m_variable_15_b {dd : Nat} (hd : 4 ≤ dd) {g : Nat} {h0 : RHeap} {mF : MS} {la : RLoc} {h : RHeap} {m : MS} {l1 s1 : Int} (k0 : rx_look la 0 = some (.ref 170)) (k1 : rx_look la 1 = some (wvi l1)) (hr : RM h0 h m) (pl1 : InI l1) (ps1 : InI s1) (hD : m_variable_15 g l1 s1 m = some mF) : Wq O F (Cd O F rp_P dd) (3, 0, rw_X12_variable, []) (rx_at rw_X12_variable 15) la [wvi s1, .ref 170] h (QN h0 mF) := by
  unfold m_variable_15 at hD
  refine wq_aload_n k0 rfl ?_
  refine wm_gfa (c := 0) hr rfl rfl ?_
  refine wq_iload_n k1 rfl ?_
  obtain ⟨g5, g6, hD⟩ := ck_of hD
  refine wm_ali (f := 18) hr rfl pl1 g5 g6 rfl (fun pp7 => ?_)
  refine wq_aload_n k0 rfl ?_
  refine wm_gfa (c := 0) hr rfl rfl ?_
  refine wq_iload_n k1 rfl ?_
  obtain ⟨g8, g9, hD⟩ := ck_of hD
  refine wm_ali (f := 28) hr rfl pl1 g8 g9 rfl (fun pp10 => ?_)
  refine wq_iconst rfl ?_
  obtain ⟨v15, m11, q14, hD⟩ := vb_of hD
  refine wm_cvI hr (c_emit (by omega) hr ps1 pp7 pp10 ⟨by decide, by decide⟩ q14) rfl rfl rfl (fun h12 hr13 pp16 => ?_)
  refine wl_istore_n rfl rfl (fun la17 kk18 t19 => ?_)
  have kk20 := t19 0 _ (by decide) (Or.inr rfl) k0
  have kk21 := t19 1 _ (by decide) (Or.inr rfl) k1
  refine wq_aload_n kk20 rfl ?_
  obtain ⟨m22, q25, hD⟩ := nb_of hD
  refine wm_cvN hr13 (c_take (by omega) hr13 q25) rfl rfl rfl (fun h23 hr24 => ?_)
  refine wq_aload_n kk20 rfl ?_
  refine wm_gfa (c := 3) hr24 rfl rfl ?_
  refine wq_iload_n kk21 rfl ?_
  obtain ⟨g26, g27, hD⟩ := ck_of hD
  refine wm_alz (f := 24) hr24 rfl pl1 g26 g27 rfl (fun pp28 => ?_)
  refine wq_if_eq (InI_z pp28) rfl rfl rfl (fun c29 => ?_) (fun c29 => ?_)
  · rw [if_pos c29] at hD
    exact c_m_variable_68_b hd hr24 hD
  · rw [if_neg c29] at hD
    refine wq_aload_n kk20 rfl ?_
    refine wq_bipush (by decide) rfl ?_
    obtain ⟨m30, q33, hD⟩ := nb_of hD
    refine wm_cvN hr24 (c_want (by omega) hr24 ⟨by decide, by decide⟩ q33) rfl rfl rfl (fun h31 hr32 => ?_)
    refine wq_aload_n kk20 rfl ?_
    refine wq_iload_n kk21 rfl ?_
    obtain ⟨m34, q37, hD⟩ := nb_of hD
    refine wm_cvN hr32 (c_keep (by omega) hr32 pl1 q37) rfl rfl rfl (fun h35 hr36 => ?_)
    refine wq_aload_n kk20 rfl ?_
    refine wq_bipush (by decide) rfl ?_
    obtain ⟨m38, q41, hD⟩ := nb_of hD
    refine wm_cvN hr36 (c_later (by omega) hr36 ⟨by decide, by decide⟩ q41) rfl rfl rfl (fun h39 hr40 => ?_)
    refine wq_aload_n kk20 rfl ?_
    refine wq_bipush (by decide) rfl ?_
    obtain ⟨m42, q45, hD⟩ := nb_of hD
    refine wm_cvN hr40 (c_later (by omega) hr40 ⟨by decide, by decide⟩ q45) rfl rfl rfl (fun h43 hr44 => ?_)
    exact c_m_variable_68_b hd hr44 hD
def m_variable (g : Nat) (l1 : Int) (m : MS) : Option MS := ck l1 140 (if (m 29 l1) = 0 then m_variable_15 g l1 3 m else m_variable_15 g l1 4 m)
theorem c_m_variable_b {dd : Nat} (hd : 4 ≤ dd) {g : Nat} {h0 : RHeap} {mF : MS} {la : RLoc} {h : RHeap} {m : MS} {l1 : Int} (k0 : rx_look la 0 = some (.ref 170)) (k1 : rx_look la 1 = some (wvi l1)) (hr : RM h0 h m) (pl1 : InI l1) (hD : m_variable g l1 m = some mF) : Wq O F (Cd O F rp_P dd) (3, 0, rw_X12_variable, []) (rx_at rw_X12_variable 0) la [] h (QN h0 mF) := by
  unfold m_variable at hD
  refine wq_aload_n k0 rfl ?_
  refine wq_aload_n k0 rfl ?_
  refine wm_gfa (c := 3) hr rfl rfl ?_
  refine wq_iload_n k1 rfl ?_
  obtain ⟨g1, g2, hD⟩ := ck_of hD
  refine wm_alz (f := 29) hr rfl pl1 g1 g2 rfl (fun pp3 => ?_)
  refine wq_if_eq (InI_z pp3) rfl rfl rfl (fun c4 => ?_) (fun c4 => ?_)
  · rw [if_pos c4] at hD
    refine wq_iconst rfl ?_
    exact c_m_variable_15_b hd k0 k1 hr pl1 ⟨by decide, by decide⟩ hD
  · rw [if_neg c4] at hD
    refine wq_iconst rfl ?_
    refine wq_goto rfl rfl ?_
    exact c_m_variable_15_b hd k0 k1 hr pl1 ⟨by decide, by decide⟩ hD
theorem c_variable {d : Nat} (hd : 5 ≤ d) {g : Nat} {h0 h : RHeap} {m : MS} {l1 : Int} {mF : MS} (hr : RM h0 h m) (pl1 : InI l1) (hD : m_variable g l1 m = some mF) : Cq (Cd O F rp_P d) 293 [.ref 170, wvi l1] h (QN h0 mF) := by
  refine cq_of (I := (3, 0, rw_X12_variable, [])) rfl rfl (by omega) ?_
  exact c_m_variable_b (by omega) rfl rfl hr pl1 hD
def m_argument_297 (g : Nat) (m : MS) : Option MS := nb (m_nextArgument g m) (fun m136 => some m136)
theorem c_m_argument_297_b {dd : Nat} (hd : 5 ≤ dd) {g : Nat} {h0 : RHeap} {mF : MS} {la : RLoc} {h : RHeap} {m : MS} (k0 : rx_look la 0 = some (.ref 170)) (hr : RM h0 h m) (hD : m_argument_297 g m = some mF) : Wq O F (Cd O F rp_P dd) (5, 0, rw_X12_argument, []) (rx_at rw_X12_argument 297) la [] h (QN h0 mF) := by
  unfold m_argument_297 at hD
  refine wq_aload_n k0 rfl ?_
  obtain ⟨m136, q139, hD⟩ := nb_of hD
  refine wm_cvN hr (c_nextArgument (by omega) hr q139) rfl rfl rfl (fun h137 hr138 => ?_)
  cases hD
  exact wq_return rfl ⟨_, rfl, hr138⟩
def m_argument_294 (g : Nat) (s1 : Int) (m : MS) : Option MS := nb (m_fits s1 m) (fun m162 => m_argument_297 g m162)
theorem c_m_argument_294_b {dd : Nat} (hd : 5 ≤ dd) {g : Nat} {h0 : RHeap} {mF : MS} {la : RLoc} {h : RHeap} {m : MS} {s1 : Int} (k0 : rx_look la 0 = some (.ref 170)) (hr : RM h0 h m) (ps1 : (s1 = 0 ∨ s1 = 1)) (hD : m_argument_294 g s1 m = some mF) : Wq O F (Cd O F rp_P dd) (5, 0, rw_X12_argument, []) (rx_at rw_X12_argument 294) la [wvi s1, .ref 170] h (QN h0 mF) := by
  unfold m_argument_294 at hD
  obtain ⟨m162, q165, hD⟩ := nb_of hD
  refine wm_cvN hr (c_fits (by omega) hr ps1 q165) rfl rfl rfl (fun h163 hr164 => ?_)
  exact c_m_argument_297_b hd k0 hr164 hD
def m_argument_289 (g : Nat) (m : MS) : Option MS := m_argument_294 g 1 m
theorem c_m_argument_289_b {dd : Nat} (hd : 5 ≤ dd) {g : Nat} {h0 : RHeap} {mF : MS} {la : RLoc} {h : RHeap} {m : MS} (k0 : rx_look la 0 = some (.ref 170)) (hr : RM h0 h m) (hD : m_argument_289 g m = some mF) : Wq O F (Cd O F rp_P dd) (5, 0, rw_X12_argument, []) (rx_at rw_X12_argument 289) la [.ref 170] h (QN h0 mF) := by
  unfold m_argument_289 at hD
  refine wq_iconst rfl ?_
  refine wq_goto rfl rfl ?_
  exact c_m_argument_294_b hd k0 hr (Or.inr rfl) hD
def m_argument_293 (g : Nat) (m : MS) : Option MS := m_argument_294 g 0 m
theorem c_m_argument_293_b {dd : Nat} (hd : 5 ≤ dd) {g : Nat} {h0 : RHeap} {mF : MS} {la : RLoc} {h : RHeap} {m : MS} (k0 : rx_look la 0 = some (.ref 170)) (hr : RM h0 h m) (hD : m_argument_293 g m = some mF) : Wq O F (Cd O F rp_P dd) (5, 0, rw_X12_argument, []) (rx_at rw_X12_argument 293) la [.ref 170] h (QN h0 mF) := by
  unfold m_argument_293 at hD
  refine wq_iconst rfl ?_
  exact c_m_argument_294_b hd k0 hr (Or.inl rfl) hD
def m_argument_246 (g : Nat) (l2 : Int) (l3 : Int) (s1 : Int) (m : MS) : Option MS := nb (m_fits s1 m) (fun m140 => ck l2 140 (if (m140 21 l2) = 0 then m_argument_289 g m140 else ck l2 140 (ck l3 1920 (if (m140 22 l2) = (m140 54 l3) then ck l2 140 (ck l3 1920 (if (m140 23 l2) = (m140 55 l3) then m_argument_289 g m140 else m_argument_293 g m140)) else m_argument_293 g m140))))
theorem c_m_argument_246_b {dd : Nat} (hd : 5 ≤ dd) {g : Nat} {h0 : RHeap} {mF : MS} {la : RLoc} {h : RHeap} {m : MS} {l2 l3 s1 : Int} (k0 : rx_look la 0 = some (.ref 170)) (k2 : rx_look la 2 = some (wvi l2)) (k3 : rx_look la 3 = some (wvi l3)) (hr : RM h0 h m) (pl2 : InI l2) (pl3 : InI l3) (ps1 : (s1 = 0 ∨ s1 = 1)) (hD : m_argument_246 g l2 l3 s1 m = some mF) : Wq O F (Cd O F rp_P dd) (5, 0, rw_X12_argument, []) (rx_at rw_X12_argument 246) la [wvi s1, .ref 170] h (QN h0 mF) := by
  unfold m_argument_246 at hD
  obtain ⟨m140, q143, hD⟩ := nb_of hD
  refine wm_cvN hr (c_fits (by omega) hr ps1 q143) rfl rfl rfl (fun h141 hr142 => ?_)
  refine wq_aload_n k0 rfl ?_
  refine wq_aload_n k0 rfl ?_
  refine wm_gfa (c := 3) hr142 rfl rfl ?_
  refine wq_iload_n k2 rfl ?_
  obtain ⟨g144, g145, hD⟩ := ck_of hD
  refine wm_alz (f := 21) hr142 rfl pl2 g144 g145 rfl (fun pp146 => ?_)
  refine wq_if_eq (InI_z pp146) rfl rfl rfl (fun c147 => ?_) (fun c147 => ?_)
  · rw [if_pos c147] at hD
    exact c_m_argument_289_b hd k0 hr142 hD
  · rw [if_neg c147] at hD
    refine wq_aload_n k0 rfl ?_
    refine wm_gfa (c := 0) hr142 rfl rfl ?_
    refine wq_iload_n k2 rfl ?_
    obtain ⟨g148, g149, hD⟩ := ck_of hD
    refine wm_ali (f := 22) hr142 rfl pl2 g148 g149 rfl (fun pp150 => ?_)
    refine wq_aload_n k0 rfl ?_
    refine wm_gfa (c := 0) hr142 rfl rfl ?_
    refine wq_iload_n k3 rfl ?_
    obtain ⟨g151, g152, hD⟩ := ck_of hD
    refine wm_ali (f := 54) hr142 rfl pl3 g151 g152 rfl (fun pp153 => ?_)
    refine wq_icmp_ne pp150 pp153 rfl rfl rfl (fun c154 => ?_) (fun c154 => ?_)
    · rw [if_neg c154] at hD
      exact c_m_argument_293_b hd k0 hr142 hD
    · rw [if_pos c154] at hD
      refine wq_aload_n k0 rfl ?_
      refine wm_gfa (c := 0) hr142 rfl rfl ?_
      refine wq_iload_n k2 rfl ?_
      obtain ⟨g155, g156, hD⟩ := ck_of hD
      refine wm_ali (f := 23) hr142 rfl pl2 g155 g156 rfl (fun pp157 => ?_)
      refine wq_aload_n k0 rfl ?_
      refine wm_gfa (c := 0) hr142 rfl rfl ?_
      refine wq_iload_n k3 rfl ?_
      obtain ⟨g158, g159, hD⟩ := ck_of hD
      refine wm_ali (f := 55) hr142 rfl pl3 g158 g159 rfl (fun pp160 => ?_)
      refine wq_icmp_ne pp157 pp160 rfl rfl rfl (fun c161 => ?_) (fun c161 => ?_)
      · rw [if_neg c161] at hD
        exact c_m_argument_293_b hd k0 hr142 hD
      · rw [if_pos c161] at hD
        exact c_m_argument_289_b hd k0 hr142 hD
def m_argument_245 (g : Nat) (l2 : Int) (l3 : Int) (m : MS) : Option MS := m_argument_246 g l2 l3 0 m
theorem c_m_argument_245_b {dd : Nat} (hd : 5 ≤ dd) {g : Nat} {h0 : RHeap} {mF : MS} {la : RLoc} {h : RHeap} {m : MS} {l2 l3 : Int} (k0 : rx_look la 0 = some (.ref 170)) (k2 : rx_look la 2 = some (wvi l2)) (k3 : rx_look la 3 = some (wvi l3)) (hr : RM h0 h m) (pl2 : InI l2) (pl3 : InI l3) (hD : m_argument_245 g l2 l3 m = some mF) : Wq O F (Cd O F rp_P dd) (5, 0, rw_X12_argument, []) (rx_at rw_X12_argument 245) la [.ref 170] h (QN h0 mF) := by
  unfold m_argument_245 at hD
  refine wq_iconst rfl ?_
  exact c_m_argument_246_b hd k0 k2 k3 hr pl2 pl3 (Or.inl rfl) hD
def m_argument_174 (g : Nat) (l3 : Int) (s1 : Int) (m : MS) : Option MS := nb (m_fits s1 m) (fun m112 => ck l3 1920 (if (m112 53 l3) = 0 then m_argument_297 g m112 else ck l3 1920 (ck l3 1920 (vb (m_emit 8 (m112 54 l3) (m112 55 l3) 0 m112) (fun v130 m126 => m_argument_297 g m126)))))
theorem c_m_argument_174_b {dd : Nat} (hd : 5 ≤ dd) {g : Nat} {h0 : RHeap} {mF : MS} {la : RLoc} {h : RHeap} {m : MS} {l3 s1 : Int} (k0 : rx_look la 0 = some (.ref 170)) (k3 : rx_look la 3 = some (wvi l3)) (hr : RM h0 h m) (pl3 : InI l3) (ps1 : (s1 = 0 ∨ s1 = 1)) (hD : m_argument_174 g l3 s1 m = some mF) : Wq O F (Cd O F rp_P dd) (5, 0, rw_X12_argument, []) (rx_at rw_X12_argument 174) la [wvi s1, .ref 170] h (QN h0 mF) := by
  unfold m_argument_174 at hD
  obtain ⟨m112, q115, hD⟩ := nb_of hD
  refine wm_cvN hr (c_fits (by omega) hr ps1 q115) rfl rfl rfl (fun h113 hr114 => ?_)
  refine wq_aload_n k0 rfl ?_
  refine wm_gfa (c := 3) hr114 rfl rfl ?_
  refine wq_iload_n k3 rfl ?_
  obtain ⟨g116, g117, hD⟩ := ck_of hD
  refine wm_alz (f := 53) hr114 rfl pl3 g116 g117 rfl (fun pp118 => ?_)
  refine wq_if_eq (InI_z pp118) rfl rfl rfl (fun c119 => ?_) (fun c119 => ?_)
  · rw [if_pos c119] at hD
    exact c_m_argument_297_b hd k0 hr114 hD
  · rw [if_neg c119] at hD
    refine wq_aload_n k0 rfl ?_
    refine wq_bipush (by decide) rfl ?_
    refine wq_aload_n k0 rfl ?_
    refine wm_gfa (c := 0) hr114 rfl rfl ?_
    refine wq_iload_n k3 rfl ?_
    obtain ⟨g120, g121, hD⟩ := ck_of hD
    refine wm_ali (f := 54) hr114 rfl pl3 g120 g121 rfl (fun pp122 => ?_)
    refine wq_aload_n k0 rfl ?_
    refine wm_gfa (c := 0) hr114 rfl rfl ?_
    refine wq_iload_n k3 rfl ?_
    obtain ⟨g123, g124, hD⟩ := ck_of hD
    refine wm_ali (f := 55) hr114 rfl pl3 g123 g124 rfl (fun pp125 => ?_)
    refine wq_iconst rfl ?_
    obtain ⟨v130, m126, q129, hD⟩ := vb_of hD
    refine wm_cvI hr114 (c_emit (by omega) hr114 ⟨by decide, by decide⟩ pp122 pp125 ⟨by decide, by decide⟩ q129) rfl rfl rfl (fun h127 hr128 pp131 => ?_)
    refine wl_istore rfl rfl (fun la132 kk133 t134 => ?_)
    have kk135 := t134 0 _ (by decide) (Or.inr rfl) k0
    refine wq_goto rfl rfl ?_
    exact c_m_argument_297_b hd kk135 hr128 hD
def m_argument_121 (g : Nat) (l1 : Int) (s0 : Int) (m : MS) : Option MS := ck (i32 ((m 67 0) - 2)) 8000 (ck (i32 ((m 67 0) - 1)) 8000 (wlet (i32 ((i32 (8 * (m 66 (i32 ((m 67 0) - 2))))) + (m 66 (i32 ((m 67 0) - 1))))) (fun y83 => if l1 = 49 then ck y83 1920 (if (m 62 0) = (m 51 y83) then m_argument_174 g y83 1 m else m_argument_174 g y83 0 m) else ck s0 140 (ck y83 1920 (if (m 20 s0) = (m 51 y83) then ck s0 140 (ck y83 1920 (if (m 21 s0) = (m 53 y83) then m_argument_246 g s0 y83 1 m else m_argument_245 g s0 y83 m)) else m_argument_245 g s0 y83 m)))))
theorem c_m_argument_121_b {dd : Nat} (hd : 5 ≤ dd) {g : Nat} {h0 : RHeap} {mF : MS} {la : RLoc} {h : RHeap} {m : MS} {l1 s0 : Int} (k0 : rx_look la 0 = some (.ref 170)) (k1 : rx_look la 1 = some (wvi l1)) (hr : RM h0 h m) (pl1 : InI l1) (ps0 : InI s0) (hD : m_argument_121 g l1 s0 m = some mF) : Wq O F (Cd O F rp_P dd) (5, 0, rw_X12_argument, []) (rx_at rw_X12_argument 121) la [wvi s0] h (QN h0 mF) := by
  unfold m_argument_121 at hD
  refine wl_istore_n rfl rfl (fun la70 kk71 t72 => ?_)
  have kk73 := t72 0 _ (by decide) (Or.inr rfl) k0
  have kk74 := t72 1 _ (by decide) (Or.inr rfl) k1
  refine wq_bipush (by decide) rfl ?_
  refine wq_aload_n kk73 rfl ?_
  refine wm_gfa (c := 0) hr rfl rfl ?_
  refine wq_aload_n kk73 rfl ?_
  refine wm_gfi hr rfl rfl (fun pp75 => ?_)
  refine wq_iconst rfl ?_
  refine wq_isub rfl ?_
  obtain ⟨g76, g77, hD⟩ := ck_of hD
  refine wm_ali (f := 66) hr rfl (InI_i32 _) g76 g77 rfl (fun pp78 => ?_)
  refine wq_imul rfl ?_
  refine wq_aload_n kk73 rfl ?_
  refine wm_gfa (c := 0) hr rfl rfl ?_
  refine wq_aload_n kk73 rfl ?_
  refine wm_gfi hr rfl rfl (fun pp79 => ?_)
  refine wq_iconst rfl ?_
  refine wq_isub rfl ?_
  obtain ⟨g80, g81, hD⟩ := ck_of hD
  refine wm_ali (f := 66) hr rfl (InI_i32 _) g80 g81 rfl (fun pp82 => ?_)
  refine wq_iadd rfl ?_
  obtain ⟨y83, e84, hD⟩ := wlet_of hD
  rw [← e84]
  have q85 : InI y83 := (by rw [e84]; exact (InI_i32 _))
  refine wl_istore_n rfl rfl (fun la86 kk87 t88 => ?_)
  have kk89 := t88 0 _ (by decide) (Or.inr rfl) kk73
  have kk90 := t88 1 _ (by decide) (Or.inr rfl) kk74
  have kk91 := t88 2 _ (by decide) (Or.inr rfl) kk71
  refine wq_iload_n kk90 rfl ?_
  refine wq_bipush (by decide) rfl ?_
  refine wq_icmp_ne pl1 ⟨by decide, by decide⟩ rfl rfl rfl (fun c92 => ?_) (fun c92 => ?_)
  · rw [if_neg c92] at hD
    refine wq_aload_n kk89 rfl ?_
    refine wq_aload_n kk89 rfl ?_
    refine wm_gfa (c := 0) hr rfl rfl ?_
    refine wq_iload_n kk91 rfl ?_
    obtain ⟨g93, g94, hD⟩ := ck_of hD
    refine wm_ali (f := 20) hr rfl ps0 g93 g94 rfl (fun pp95 => ?_)
    refine wq_aload_n kk89 rfl ?_
    refine wm_gfa (c := 0) hr rfl rfl ?_
    refine wq_iload_n kk87 rfl ?_
    obtain ⟨g96, g97, hD⟩ := ck_of hD
    refine wm_ali (f := 51) hr rfl q85 g96 g97 rfl (fun pp98 => ?_)
    refine wq_icmp_ne pp95 pp98 rfl rfl rfl (fun c99 => ?_) (fun c99 => ?_)
    · rw [if_neg c99] at hD
      exact c_m_argument_245_b hd kk89 kk91 kk87 hr ps0 q85 hD
    · rw [if_pos c99] at hD
      refine wq_aload_n kk89 rfl ?_
      refine wm_gfa (c := 3) hr rfl rfl ?_
      refine wq_iload_n kk91 rfl ?_
      obtain ⟨g100, g101, hD⟩ := ck_of hD
      refine wm_alz (f := 21) hr rfl ps0 g100 g101 rfl (fun pp102 => ?_)
      refine wq_aload_n kk89 rfl ?_
      refine wm_gfa (c := 3) hr rfl rfl ?_
      refine wq_iload_n kk87 rfl ?_
      obtain ⟨g103, g104, hD⟩ := ck_of hD
      refine wm_alz (f := 53) hr rfl q85 g103 g104 rfl (fun pp105 => ?_)
      refine wq_icmp_ne (InI_z pp102) (InI_z pp105) rfl rfl rfl (fun c106 => ?_) (fun c106 => ?_)
      · rw [if_neg c106] at hD
        exact c_m_argument_245_b hd kk89 kk91 kk87 hr ps0 q85 hD
      · rw [if_pos c106] at hD
        refine wq_iconst rfl ?_
        refine wq_goto rfl rfl ?_
        exact c_m_argument_246_b hd kk89 kk91 kk87 hr ps0 q85 (Or.inr rfl) hD
  · rw [if_pos c92] at hD
    refine wq_aload_n kk89 rfl ?_
    refine wq_aload_n kk89 rfl ?_
    refine wm_gfi hr rfl rfl (fun pp107 => ?_)
    refine wq_aload_n kk89 rfl ?_
    refine wm_gfa (c := 0) hr rfl rfl ?_
    refine wq_iload_n kk87 rfl ?_
    obtain ⟨g108, g109, hD⟩ := ck_of hD
    refine wm_ali (f := 51) hr rfl q85 g108 g109 rfl (fun pp110 => ?_)
    refine wq_icmp_ne pp107 pp110 rfl rfl rfl (fun c111 => ?_) (fun c111 => ?_)
    · rw [if_neg c111] at hD
      refine wq_iconst rfl ?_
      exact c_m_argument_174_b hd kk89 kk87 hr q85 (Or.inl rfl) hD
    · rw [if_pos c111] at hD
      refine wq_iconst rfl ?_
      refine wq_goto rfl rfl ?_
      exact c_m_argument_174_b hd kk89 kk87 hr q85 (Or.inr rfl) hD
def m_argument_106 (g : Nat) (m : MS) : Option MS := some m
theorem c_m_argument_106_b {dd : Nat} (hd : 5 ≤ dd) {g : Nat} {h0 : RHeap} {mF : MS} {la : RLoc} {h : RHeap} {m : MS} (hr : RM h0 h m) (hD : m_argument_106 g m = some mF) : Wq O F (Cd O F rp_P dd) (5, 0, rw_X12_argument, []) (rx_at rw_X12_argument 106) la [] h (QN h0 mF) := by
  unfold m_argument_106 at hD
  cases hD
  exact wq_return rfl ⟨_, rfl, hr⟩
def m_argument_83 (g : Nat) (l3 : Int) (m : MS) : Option MS := if (m 6 0) = 0 then nb (m_keep l3 m) (fun m58 => nb (m_later 50 m58) (fun m62 => nb (m_variable g l3 m62) (fun m66 => m_argument_106 g m66))) else m_argument_106 g m
theorem c_m_argument_83_b {dd : Nat} (hd : 5 ≤ dd) {g : Nat} {h0 : RHeap} {mF : MS} {la : RLoc} {h : RHeap} {m : MS} {l3 : Int} (k0 : rx_look la 0 = some (.ref 170)) (k3 : rx_look la 3 = some (wvi l3)) (hr : RM h0 h m) (pl3 : InI l3) (hD : m_argument_83 g l3 m = some mF) : Wq O F (Cd O F rp_P dd) (5, 0, rw_X12_argument, []) (rx_at rw_X12_argument 83) la [] h (QN h0 mF) := by
  unfold m_argument_83 at hD
  refine wq_aload_n k0 rfl ?_
  refine wm_gfi hr rfl rfl (fun pp56 => ?_)
  refine wq_if_ne pp56 rfl rfl rfl (fun c57 => ?_) (fun c57 => ?_)
  · rw [if_neg c57] at hD
    exact c_m_argument_106_b hd hr hD
  · rw [if_pos c57] at hD
    refine wq_aload_n k0 rfl ?_
    refine wq_iload_n k3 rfl ?_
    obtain ⟨m58, q61, hD⟩ := nb_of hD
    refine wm_cvN hr (c_keep (by omega) hr pl3 q61) rfl rfl rfl (fun h59 hr60 => ?_)
    refine wq_aload_n k0 rfl ?_
    refine wq_bipush (by decide) rfl ?_
    obtain ⟨m62, q65, hD⟩ := nb_of hD
    refine wm_cvN hr60 (c_later (by omega) hr60 ⟨by decide, by decide⟩ q65) rfl rfl rfl (fun h63 hr64 => ?_)
    refine wq_aload_n k0 rfl ?_
    refine wq_iload_n k3 rfl ?_
    obtain ⟨m66, q69, hD⟩ := nb_of hD
    refine wm_cvN hr64 (c_variable (by omega) hr64 pl3 q69) rfl rfl rfl (fun h67 hr68 => ?_)
    exact c_m_argument_106_b hd hr68 hD
def m_argument (g : Nat) (l1 : Int) (m : MS) : Option MS := if l1 = 48 then ck (i32 ((m 67 0) - 2)) 8000 (ck (i32 ((m 67 0) - 1)) 8000 (wlet (i32 ((i32 (8 * (m 66 (i32 ((m 67 0) - 2))))) + (m 66 (i32 ((m 67 0) - 1))))) (fun y17 => ck y17 1920 (if (m 52 y17) = 0 then nb (m_later 49 m) (fun m48 => nb (m_later 30 m48) (fun m52 => some m52)) else vb (m_known g m) (fun v32 m28 => if v32 < 0 then m_argument_83 g v32 m28 else ck v32 140 (if (m28 17 v32) = 2 then m_argument_83 g v32 m28 else nb (m_fail 1 (m28 9 0) m28) (fun m44 => m_argument_83 g v32 m44))))))) else if l1 = 50 then vb (m_back m) (fun v7 m3 => m_argument_121 g l1 v7 m3) else m_argument_121 g l1 (-1) m
theorem c_m_argument_b {dd : Nat} (hd : 5 ≤ dd) {g : Nat} {h0 : RHeap} {mF : MS} {la : RLoc} {h : RHeap} {m : MS} {l1 : Int} (k0 : rx_look la 0 = some (.ref 170)) (k1 : rx_look la 1 = some (wvi l1)) (hr : RM h0 h m) (pl1 : InI l1) (hD : m_argument g l1 m = some mF) : Wq O F (Cd O F rp_P dd) (5, 0, rw_X12_argument, []) (rx_at rw_X12_argument 0) la [] h (QN h0 mF) := by
  unfold m_argument at hD
  refine wq_iload_n k1 rfl ?_
  refine wq_bipush (by decide) rfl ?_
  refine wq_icmp_ne pl1 ⟨by decide, by decide⟩ rfl rfl rfl (fun c1 => ?_) (fun c1 => ?_)
  · rw [if_neg c1] at hD
    refine wq_iload_n k1 rfl ?_
    refine wq_bipush (by decide) rfl ?_
    refine wq_icmp_ne pl1 ⟨by decide, by decide⟩ rfl rfl rfl (fun c2 => ?_) (fun c2 => ?_)
    · rw [if_neg c2] at hD
      refine wq_iconst rfl ?_
      exact c_m_argument_121_b hd k0 k1 hr pl1 ⟨by decide, by decide⟩ hD
    · rw [if_pos c2] at hD
      refine wq_aload_n k0 rfl ?_
      obtain ⟨v7, m3, q6, hD⟩ := vb_of hD
      refine wm_cvI hr (c_back (by omega) hr q6) rfl rfl rfl (fun h4 hr5 pp8 => ?_)
      refine wq_goto rfl rfl ?_
      exact c_m_argument_121_b hd k0 k1 hr5 pl1 pp8 hD
  · rw [if_pos c1] at hD
    refine wq_bipush (by decide) rfl ?_
    refine wq_aload_n k0 rfl ?_
    refine wm_gfa (c := 0) hr rfl rfl ?_
    refine wq_aload_n k0 rfl ?_
    refine wm_gfi hr rfl rfl (fun pp9 => ?_)
    refine wq_iconst rfl ?_
    refine wq_isub rfl ?_
    obtain ⟨g10, g11, hD⟩ := ck_of hD
    refine wm_ali (f := 66) hr rfl (InI_i32 _) g10 g11 rfl (fun pp12 => ?_)
    refine wq_imul rfl ?_
    refine wq_aload_n k0 rfl ?_
    refine wm_gfa (c := 0) hr rfl rfl ?_
    refine wq_aload_n k0 rfl ?_
    refine wm_gfi hr rfl rfl (fun pp13 => ?_)
    refine wq_iconst rfl ?_
    refine wq_isub rfl ?_
    obtain ⟨g14, g15, hD⟩ := ck_of hD
    refine wm_ali (f := 66) hr rfl (InI_i32 _) g14 g15 rfl (fun pp16 => ?_)
    refine wq_iadd rfl ?_
    obtain ⟨y17, e18, hD⟩ := wlet_of hD
    rw [← e18]
    have q19 : InI y17 := (by rw [e18]; exact (InI_i32 _))
    refine wl_istore_n rfl rfl (fun la20 kk21 t22 => ?_)
    have kk23 := t22 0 _ (by decide) (Or.inr rfl) k0
    refine wq_aload_n kk23 rfl ?_
    refine wm_gfa (c := 3) hr rfl rfl ?_
    refine wq_iload_n kk21 rfl ?_
    obtain ⟨g24, g25, hD⟩ := ck_of hD
    refine wm_alz (f := 52) hr rfl q19 g24 g25 rfl (fun pp26 => ?_)
    refine wq_if_ne (InI_z pp26) rfl rfl rfl (fun c27 => ?_) (fun c27 => ?_)
    · rw [if_neg c27] at hD
      refine wq_aload_n kk23 rfl ?_
      obtain ⟨v32, m28, q31, hD⟩ := vb_of hD
      refine wm_cvI hr (c_known (by omega) hr q31) rfl rfl rfl (fun h29 hr30 pp33 => ?_)
      refine wl_istore_n rfl rfl (fun la34 kk35 t36 => ?_)
      have kk37 := t36 0 _ (by decide) (Or.inr rfl) kk23
      refine wq_iload_n kk35 rfl ?_
      refine wq_if_lt pp33 rfl rfl rfl (fun c38 => ?_) (fun c38 => ?_)
      · rw [if_pos c38] at hD
        exact c_m_argument_83_b hd kk37 kk35 hr30 pp33 hD
      · rw [if_neg (Int.not_lt.mpr c38)] at hD
        refine wq_aload_n kk37 rfl ?_
        refine wm_gfa (c := 0) hr30 rfl rfl ?_
        refine wq_iload_n kk35 rfl ?_
        obtain ⟨g39, g40, hD⟩ := ck_of hD
        refine wm_ali (f := 17) hr30 rfl pp33 g39 g40 rfl (fun pp41 => ?_)
        refine wq_iconst rfl ?_
        refine wq_icmp_eq pp41 ⟨by decide, by decide⟩ rfl rfl rfl (fun c42 => ?_) (fun c42 => ?_)
        · rw [if_pos c42] at hD
          exact c_m_argument_83_b hd kk37 kk35 hr30 pp33 hD
        · rw [if_neg c42] at hD
          refine wq_aload_n kk37 rfl ?_
          refine wq_iconst rfl ?_
          refine wq_aload_n kk37 rfl ?_
          refine wm_gfi hr30 rfl rfl (fun pp43 => ?_)
          obtain ⟨m44, q47, hD⟩ := nb_of hD
          refine wm_cvN hr30 (c_fail (by omega) hr30 ⟨by decide, by decide⟩ pp43 q47) rfl rfl rfl (fun h45 hr46 => ?_)
          exact c_m_argument_83_b hd kk37 kk35 hr46 pp33 hD
    · rw [if_pos c27] at hD
      refine wq_aload_n kk23 rfl ?_
      refine wq_bipush (by decide) rfl ?_
      obtain ⟨m48, q51, hD⟩ := nb_of hD
      refine wm_cvN hr (c_later (by omega) hr ⟨by decide, by decide⟩ q51) rfl rfl rfl (fun h49 hr50 => ?_)
      refine wq_aload_n kk23 rfl ?_
      refine wq_bipush (by decide) rfl ?_
      obtain ⟨m52, q55, hD⟩ := nb_of hD
      refine wm_cvN hr50 (c_later (by omega) hr50 ⟨by decide, by decide⟩ q55) rfl rfl rfl (fun h53 hr54 => ?_)
      cases hD
      exact wq_return rfl ⟨_, rfl, hr54⟩
theorem c_argument {d : Nat} (hd : 6 ≤ d) {g : Nat} {h0 h : RHeap} {m : MS} {l1 : Int} {mF : MS} (hr : RM h0 h m) (pl1 : InI l1) (hD : m_argument g l1 m = some mF) : Cq (Cd O F rp_P d) 202 [.ref 170, wvi l1] h (QN h0 mF) := by
  refine cq_of (I := (5, 0, rw_X12_argument, [])) rfl rfl (by omega) ?_
  exact c_m_argument_b (by omega) rfl rfl hr pl1 hD
def m_store_17 (l1 : Int) (s1 : Int) (s2 : Int) (m : MS) : Option MS := ck l1 140 (ck l1 140 (vb (m_emit s1 s2 (m 22 l1) (m 23 l1) m) (fun v15 m11 => some m11)))
theorem c_m_store_17_b {dd : Nat} (hd : 1 ≤ dd) {h0 : RHeap} {mF : MS} {la : RLoc} {h : RHeap} {m : MS} {l1 s1 s2 : Int} (k0 : rx_look la 0 = some (.ref 170)) (k1 : rx_look la 1 = some (wvi l1)) (hr : RM h0 h m) (pl1 : InI l1) (ps1 : InI s1) (ps2 : (s2 = 0 ∨ s2 = 1)) (hD : m_store_17 l1 s1 s2 m = some mF) : Wq O F (Cd O F rp_P dd) (3, 0, rw_X12_store, []) (rx_at rw_X12_store 17) la [wvi s2, wvi s1, .ref 170] h (QN h0 mF) := by
  unfold m_store_17 at hD
  refine wq_aload_n k0 rfl ?_
  refine wm_gfa (c := 0) hr rfl rfl ?_
  refine wq_iload_n k1 rfl ?_
  obtain ⟨g5, g6, hD⟩ := ck_of hD
  refine wm_ali (f := 22) hr rfl pl1 g5 g6 rfl (fun pp7 => ?_)
  refine wq_aload_n k0 rfl ?_
  refine wm_gfa (c := 0) hr rfl rfl ?_
  refine wq_iload_n k1 rfl ?_
  obtain ⟨g8, g9, hD⟩ := ck_of hD
  refine wm_ali (f := 23) hr rfl pl1 g8 g9 rfl (fun pp10 => ?_)
  obtain ⟨v15, m11, q14, hD⟩ := vb_of hD
  refine wm_cvI hr (c_emit (by omega) hr ps1 (InI_z ps2) pp7 pp10 q14) rfl rfl rfl (fun h12 hr13 pp16 => ?_)
  refine wl_istore_n rfl rfl (fun la17 kk18 t19 => ?_)
  cases hD
  exact wq_return rfl ⟨_, rfl, hr13⟩
def m_store (l1 : Int) (m : MS) : Option MS := ck l1 140 (if (m 21 l1) = 0 then m_store_17 l1 7 0 m else m_store_17 l1 7 1 m)
theorem c_m_store_b {dd : Nat} (hd : 1 ≤ dd) {h0 : RHeap} {mF : MS} {la : RLoc} {h : RHeap} {m : MS} {l1 : Int} (k0 : rx_look la 0 = some (.ref 170)) (k1 : rx_look la 1 = some (wvi l1)) (hr : RM h0 h m) (pl1 : InI l1) (hD : m_store l1 m = some mF) : Wq O F (Cd O F rp_P dd) (3, 0, rw_X12_store, []) (rx_at rw_X12_store 0) la [] h (QN h0 mF) := by
  unfold m_store at hD
  refine wq_aload_n k0 rfl ?_
  refine wq_bipush (by decide) rfl ?_
  refine wq_aload_n k0 rfl ?_
  refine wm_gfa (c := 3) hr rfl rfl ?_
  refine wq_iload_n k1 rfl ?_
  obtain ⟨g1, g2, hD⟩ := ck_of hD
  refine wm_alz (f := 21) hr rfl pl1 g1 g2 rfl (fun pp3 => ?_)
  refine wq_if_eq (InI_z pp3) rfl rfl rfl (fun c4 => ?_) (fun c4 => ?_)
  · rw [if_pos c4] at hD
    refine wq_iconst rfl ?_
    exact c_m_store_17_b hd k0 k1 hr pl1 ⟨by decide, by decide⟩ (Or.inl rfl) hD
  · rw [if_neg c4] at hD
    refine wq_iconst rfl ?_
    refine wq_goto rfl rfl ?_
    exact c_m_store_17_b hd k0 k1 hr pl1 ⟨by decide, by decide⟩ (Or.inr rfl) hD
theorem c_store {d : Nat} (hd : 2 ≤ d) {h0 h : RHeap} {m : MS} {l1 : Int} {mF : MS} (hr : RM h0 h m) (pl1 : InI l1) (hD : m_store l1 m = some mF) : Cq (Cd O F rp_P d) 280 [.ref 170, wvi l1] h (QN h0 mF) := by
  refine cq_of (I := (3, 0, rw_X12_store, [])) rfl rfl (by omega) ?_
  exact c_m_store_b (by omega) rfl rfl hr pl1 hD
def m_assign_59 (g : Nat) (m : MS) : Option MS := some m
theorem c_m_assign_59_b {dd : Nat} (hd : 4 ≤ dd) {g : Nat} {h0 : RHeap} {mF : MS} {la : RLoc} {h : RHeap} {m : MS} (hr : RM h0 h m) (hD : m_assign_59 g m = some mF) : Wq O F (Cd O F rp_P dd) (3, 0, rw_X12_assign, []) (rx_at rw_X12_assign 59) la [] h (QN h0 mF) := by
  unfold m_assign_59 at hD
  cases hD
  exact wq_return rfl ⟨_, rfl, hr⟩
def m_assign_51 (g : Nat) (l2 : Int) (s1 : Int) (m : MS) : Option MS := nb (m_fits s1 m) (fun m29 => nb (m_store l2 m29) (fun m33 => m_assign_59 g m33))
theorem c_m_assign_51_b {dd : Nat} (hd : 4 ≤ dd) {g : Nat} {h0 : RHeap} {mF : MS} {la : RLoc} {h : RHeap} {m : MS} {l2 s1 : Int} (k0 : rx_look la 0 = some (.ref 170)) (k2 : rx_look la 2 = some (wvi l2)) (hr : RM h0 h m) (pl2 : InI l2) (ps1 : (s1 = 0 ∨ s1 = 1)) (hD : m_assign_51 g l2 s1 m = some mF) : Wq O F (Cd O F rp_P dd) (3, 0, rw_X12_assign, []) (rx_at rw_X12_assign 51) la [wvi s1, .ref 170] h (QN h0 mF) := by
  unfold m_assign_51 at hD
  obtain ⟨m29, q32, hD⟩ := nb_of hD
  refine wm_cvN hr (c_fits (by omega) hr ps1 q32) rfl rfl rfl (fun h30 hr31 => ?_)
  refine wq_aload_n k0 rfl ?_
  refine wq_iload_n k2 rfl ?_
  obtain ⟨m33, q36, hD⟩ := nb_of hD
  refine wm_cvN hr31 (c_store (by omega) hr31 pl2 q36) rfl rfl rfl (fun h34 hr35 => ?_)
  exact c_m_assign_59_b hd hr35 hD
def m_assign (g : Nat) (l1 : Int) (m : MS) : Option MS := if l1 = 8 then nb (m_want g 24 m) (fun m17 => nb (m_later 9 m17) (fun m21 => nb (m_later 30 m21) (fun m25 => m_assign_59 g m25))) else vb (m_back m) (fun v6 m2 => ck v6 140 (if (m2 62 0) = (m2 20 v6) then m_assign_51 g v6 1 m2 else m_assign_51 g v6 0 m2))
theorem c_m_assign_b {dd : Nat} (hd : 4 ≤ dd) {g : Nat} {h0 : RHeap} {mF : MS} {la : RLoc} {h : RHeap} {m : MS} {l1 : Int} (k0 : rx_look la 0 = some (.ref 170)) (k1 : rx_look la 1 = some (wvi l1)) (hr : RM h0 h m) (pl1 : InI l1) (hD : m_assign g l1 m = some mF) : Wq O F (Cd O F rp_P dd) (3, 0, rw_X12_assign, []) (rx_at rw_X12_assign 0) la [] h (QN h0 mF) := by
  unfold m_assign at hD
  refine wq_iload_n k1 rfl ?_
  refine wq_bipush (by decide) rfl ?_
  refine wq_icmp_ne pl1 ⟨by decide, by decide⟩ rfl rfl rfl (fun c1 => ?_) (fun c1 => ?_)
  · rw [if_neg c1] at hD
    refine wq_aload_n k0 rfl ?_
    obtain ⟨v6, m2, q5, hD⟩ := vb_of hD
    refine wm_cvI hr (c_back (by omega) hr q5) rfl rfl rfl (fun h3 hr4 pp7 => ?_)
    refine wl_istore_n rfl rfl (fun la8 kk9 t10 => ?_)
    have kk11 := t10 0 _ (by decide) (Or.inr rfl) k0
    refine wq_aload_n kk11 rfl ?_
    refine wq_aload_n kk11 rfl ?_
    refine wm_gfi hr4 rfl rfl (fun pp12 => ?_)
    refine wq_aload_n kk11 rfl ?_
    refine wm_gfa (c := 0) hr4 rfl rfl ?_
    refine wq_iload_n kk9 rfl ?_
    obtain ⟨g13, g14, hD⟩ := ck_of hD
    refine wm_ali (f := 20) hr4 rfl pp7 g13 g14 rfl (fun pp15 => ?_)
    refine wq_icmp_ne pp12 pp15 rfl rfl rfl (fun c16 => ?_) (fun c16 => ?_)
    · rw [if_neg c16] at hD
      refine wq_iconst rfl ?_
      exact c_m_assign_51_b hd kk11 kk9 hr4 pp7 (Or.inl rfl) hD
    · rw [if_pos c16] at hD
      refine wq_iconst rfl ?_
      refine wq_goto rfl rfl ?_
      exact c_m_assign_51_b hd kk11 kk9 hr4 pp7 (Or.inr rfl) hD
  · rw [if_pos c1] at hD
    refine wq_aload_n k0 rfl ?_
    refine wq_bipush (by decide) rfl ?_
    obtain ⟨m17, q20, hD⟩ := nb_of hD
    refine wm_cvN hr (c_want (by omega) hr ⟨by decide, by decide⟩ q20) rfl rfl rfl (fun h18 hr19 => ?_)
    refine wq_aload_n k0 rfl ?_
    refine wq_bipush (by decide) rfl ?_
    obtain ⟨m21, q24, hD⟩ := nb_of hD
    refine wm_cvN hr19 (c_later (by omega) hr19 ⟨by decide, by decide⟩ q24) rfl rfl rfl (fun h22 hr23 => ?_)
    refine wq_aload_n k0 rfl ?_
    refine wq_bipush (by decide) rfl ?_
    obtain ⟨m25, q28, hD⟩ := nb_of hD
    refine wm_cvN hr23 (c_later (by omega) hr23 ⟨by decide, by decide⟩ q28) rfl rfl rfl (fun h26 hr27 => ?_)
    refine wq_goto rfl rfl ?_
    exact c_m_assign_59_b hd hr27 hD
theorem c_assign {d : Nat} (hd : 5 ≤ d) {g : Nat} {h0 h : RHeap} {m : MS} {l1 : Int} {mF : MS} (hr : RM h0 h m) (pl1 : InI l1) (hD : m_assign g l1 m = some mF) : Cq (Cd O F rp_P d) 203 [.ref 170, wvi l1] h (QN h0 mF) := by
  refine cq_of (I := (3, 0, rw_X12_assign, [])) rfl rfl (by omega) ?_
  exact c_m_assign_b (by omega) rfl rfl hr pl1 hD
def m_beginProgram (m : MS) : Option MS := wlet (mset m 15 0 14) (fun m1 => wlet (mset m1 41 0 1) (fun m5 => ck 1 8 (wlet (mset m5 42 1 14) (fun m11 => ck 1 8 (wlet (mset m11 43 1 4) (fun m17 => ck 1 8 (wlet (mset m17 44 1 0) (fun m23 => ck 0 240 (wlet (mset m23 47 0 1) (fun m29 => wlet (mset m29 45 0 0) (fun m33 => wlet (mset m33 57 0 0) (fun m37 => wlet (mset m37 63 0 0) (fun m41 => wlet (mset m41 65 0 0) (fun m45 => wlet (mset m45 67 0 0) (fun m49 => wlet (mset m49 69 0 0) (fun m53 => wlet (mset m53 56 0 (-1)) (fun m57 => some m57)))))))))))))))))
theorem c_m_beginProgram_b {dd : Nat} (hd : 0 ≤ dd) {h0 : RHeap} {mF : MS} {la : RLoc} {h : RHeap} {m : MS} (k0 : rx_look la 0 = some (.ref 170)) (hr : RM h0 h m) (hD : m_beginProgram m = some mF) : Wq O F (Cd O F rp_P dd) (1, 0, rw_X12_beginProgram, []) (rx_at rw_X12_beginProgram 0) la [] h (QN h0 mF) := by
  unfold m_beginProgram at hD
  refine wq_aload_n k0 rfl ?_
  refine wq_bipush (by decide) rfl ?_
  obtain ⟨m1, e2, hD⟩ := wlet_of hD
  refine wm_pfi hr rfl rfl ⟨by decide, by decide⟩ rfl (fun h3 hr4 => ?_)
  rw [← e2] at hr4
  refine wq_aload_n k0 rfl ?_
  refine wq_iconst rfl ?_
  obtain ⟨m5, e6, hD⟩ := wlet_of hD
  refine wm_pfi hr4 rfl rfl ⟨by decide, by decide⟩ rfl (fun h7 hr8 => ?_)
  rw [← e6] at hr8
  refine wq_aload_n k0 rfl ?_
  refine wm_gfa (c := 0) hr8 rfl rfl ?_
  refine wq_iconst rfl ?_
  refine wq_bipush (by decide) rfl ?_
  obtain ⟨g9, g10, hD⟩ := ck_of hD
  obtain ⟨m11, e12, hD⟩ := wlet_of hD
  refine wm_asi (f := 42) hr8 rfl ⟨by decide, by decide⟩ g9 g10 ⟨by decide, by decide⟩ rfl (fun h13 hr14 => ?_)
  rw [← e12] at hr14
  refine wq_aload_n k0 rfl ?_
  refine wm_gfa (c := 0) hr14 rfl rfl ?_
  refine wq_iconst rfl ?_
  refine wq_iconst rfl ?_
  obtain ⟨g15, g16, hD⟩ := ck_of hD
  obtain ⟨m17, e18, hD⟩ := wlet_of hD
  refine wm_asi (f := 43) hr14 rfl ⟨by decide, by decide⟩ g15 g16 ⟨by decide, by decide⟩ rfl (fun h19 hr20 => ?_)
  rw [← e18] at hr20
  refine wq_aload_n k0 rfl ?_
  refine wm_gfa (c := 0) hr20 rfl rfl ?_
  refine wq_iconst rfl ?_
  refine wq_iconst rfl ?_
  obtain ⟨g21, g22, hD⟩ := ck_of hD
  obtain ⟨m23, e24, hD⟩ := wlet_of hD
  refine wm_asi (f := 44) hr20 rfl ⟨by decide, by decide⟩ g21 g22 ⟨by decide, by decide⟩ rfl (fun h25 hr26 => ?_)
  rw [← e24] at hr26
  refine wq_aload_n k0 rfl ?_
  refine wm_gfa (c := 0) hr26 rfl rfl ?_
  refine wq_iconst rfl ?_
  refine wq_iconst rfl ?_
  obtain ⟨g27, g28, hD⟩ := ck_of hD
  obtain ⟨m29, e30, hD⟩ := wlet_of hD
  refine wm_asi (f := 47) hr26 rfl ⟨by decide, by decide⟩ g27 g28 ⟨by decide, by decide⟩ rfl (fun h31 hr32 => ?_)
  rw [← e30] at hr32
  refine wq_aload_n k0 rfl ?_
  refine wq_iconst rfl ?_
  obtain ⟨m33, e34, hD⟩ := wlet_of hD
  refine wm_pfi hr32 rfl rfl ⟨by decide, by decide⟩ rfl (fun h35 hr36 => ?_)
  rw [← e34] at hr36
  refine wq_aload_n k0 rfl ?_
  refine wq_iconst rfl ?_
  obtain ⟨m37, e38, hD⟩ := wlet_of hD
  refine wm_pfi hr36 rfl rfl ⟨by decide, by decide⟩ rfl (fun h39 hr40 => ?_)
  rw [← e38] at hr40
  refine wq_aload_n k0 rfl ?_
  refine wq_iconst rfl ?_
  obtain ⟨m41, e42, hD⟩ := wlet_of hD
  refine wm_pfi hr40 rfl rfl ⟨by decide, by decide⟩ rfl (fun h43 hr44 => ?_)
  rw [← e42] at hr44
  refine wq_aload_n k0 rfl ?_
  refine wq_iconst rfl ?_
  obtain ⟨m45, e46, hD⟩ := wlet_of hD
  refine wm_pfi hr44 rfl rfl ⟨by decide, by decide⟩ rfl (fun h47 hr48 => ?_)
  rw [← e46] at hr48
  refine wq_aload_n k0 rfl ?_
  refine wq_iconst rfl ?_
  obtain ⟨m49, e50, hD⟩ := wlet_of hD
  refine wm_pfi hr48 rfl rfl ⟨by decide, by decide⟩ rfl (fun h51 hr52 => ?_)
  rw [← e50] at hr52
  refine wq_aload_n k0 rfl ?_
  refine wq_iconst rfl ?_
  obtain ⟨m53, e54, hD⟩ := wlet_of hD
  refine wm_pfi hr52 rfl rfl ⟨by decide, by decide⟩ rfl (fun h55 hr56 => ?_)
  rw [← e54] at hr56
  refine wq_aload_n k0 rfl ?_
  refine wq_iconst rfl ?_
  obtain ⟨m57, e58, hD⟩ := wlet_of hD
  refine wm_pfi hr56 rfl rfl ⟨by decide, by decide⟩ rfl (fun h59 hr60 => ?_)
  rw [← e58] at hr60
  cases hD
  exact wq_return rfl ⟨_, rfl, hr60⟩
theorem c_beginProgram {d : Nat} (hd : 1 ≤ d) {h0 h : RHeap} {m : MS} {mF : MS} (hr : RM h0 h m) (hD : m_beginProgram m = some mF) : Cq (Cd O F rp_P d) 206 [.ref 170] h (QN h0 mF) := by
  refine cq_of (I := (1, 0, rw_X12_beginProgram, [])) rfl rfl (by omega) ?_
  exact c_m_beginProgram_b (by omega) rfl hr hD
def m_begins (m : MS) : Option MS := nb (m_write1 0 (m 9 0) m) (fun m2 => nb (m_write0 1 m2) (fun m6 => some m6))
theorem c_m_begins_b {dd : Nat} (hd : 2 ≤ dd) {h0 : RHeap} {mF : MS} {la : RLoc} {h : RHeap} {m : MS} (k0 : rx_look la 0 = some (.ref 170)) (hr : RM h0 h m) (hD : m_begins m = some mF) : Wq O F (Cd O F rp_P dd) (1, 0, rw_X12_begins, []) (rx_at rw_X12_begins 0) la [] h (QN h0 mF) := by
  unfold m_begins at hD
  refine wq_aload_n k0 rfl ?_
  refine wq_iconst rfl ?_
  refine wq_aload_n k0 rfl ?_
  refine wm_gfi hr rfl rfl (fun pp1 => ?_)
  obtain ⟨m2, q5, hD⟩ := nb_of hD
  refine wm_cvN hr (c_write1 (by omega) hr ⟨by decide, by decide⟩ pp1 q5) rfl rfl rfl (fun h3 hr4 => ?_)
  refine wq_aload_n k0 rfl ?_
  refine wq_iconst rfl ?_
  obtain ⟨m6, q9, hD⟩ := nb_of hD
  refine wm_cvN hr4 (c_write0 (by omega) hr4 ⟨by decide, by decide⟩ q9) rfl rfl rfl (fun h7 hr8 => ?_)
  cases hD
  exact wq_return rfl ⟨_, rfl, hr8⟩
theorem c_begins {d : Nat} (hd : 3 ≤ d) {h0 h : RHeap} {m : MS} {mF : MS} (hr : RM h0 h m) (hD : m_begins m = some mF) : Cq (Cd O F rp_P d) 207 [.ref 170] h (QN h0 mF) := by
  refine cq_of (I := (1, 0, rw_X12_begins, [])) rfl rfl (by omega) ?_
  exact c_m_begins_b (by omega) rfl hr hD
def m_beginsRange_73 (g : Nat) (s0 : Int) (m : MS) : Option (Int × MS) := some (s0, m)
theorem c_m_beginsRange_73_b {dd : Nat} (hd : 1 ≤ dd) {g : Nat} {h0 : RHeap} {vF : Int} {mF : MS} {la : RLoc} {h : RHeap} {m : MS} {s0 : Int} (hr : RM h0 h m) (ps0 : (s0 = 0 ∨ s0 = 1)) (hD : m_beginsRange_73 g s0 m = some (vF, mF)) : Wq O F (Cd O F rp_P dd) (2, 2, rw_X12_beginsRange, []) (rx_at rw_X12_beginsRange 73) la [wvi s0] h (QV 3 h0 vF mF) := by
  unfold m_beginsRange_73 at hD
  cases hD
  exact wq_zreturn rfl ps0 ⟨_, rfl, hr, ps0⟩
def m_beginsRange_68 (g : Nat) (m : MS) : Option (Int × MS) := m_beginsRange_73 g 1 m
theorem c_m_beginsRange_68_b {dd : Nat} (hd : 1 ≤ dd) {g : Nat} {h0 : RHeap} {vF : Int} {mF : MS} {la : RLoc} {h : RHeap} {m : MS} (hr : RM h0 h m) (hD : m_beginsRange_68 g m = some (vF, mF)) : Wq O F (Cd O F rp_P dd) (2, 2, rw_X12_beginsRange, []) (rx_at rw_X12_beginsRange 68) la [] h (QV 3 h0 vF mF) := by
  unfold m_beginsRange_68 at hD
  refine wq_iconst rfl ?_
  refine wq_goto rfl rfl ?_
  exact c_m_beginsRange_73_b hd hr (Or.inr rfl) hD
def m_beginsRange_72 (g : Nat) (m : MS) : Option (Int × MS) := m_beginsRange_73 g 0 m
theorem c_m_beginsRange_72_b {dd : Nat} (hd : 1 ≤ dd) {g : Nat} {h0 : RHeap} {vF : Int} {mF : MS} {la : RLoc} {h : RHeap} {m : MS} (hr : RM h0 h m) (hD : m_beginsRange_72 g m = some (vF, mF)) : Wq O F (Cd O F rp_P dd) (2, 2, rw_X12_beginsRange, []) (rx_at rw_X12_beginsRange 72) la [] h (QV 3 h0 vF mF) := by
  unfold m_beginsRange_72 at hD
  refine wq_iconst rfl ?_
  exact c_m_beginsRange_73_b hd hr (Or.inl rfl) hD
def m_beginsRange_20 (g : Nat) (s0 : Int) (m : MS) : Option (Int × MS) := if (m 10 0) = 2 then m_beginsRange_68 g m else if (m 10 0) = 3 then m_beginsRange_68 g m else if (m 10 0) = 10 then m_beginsRange_68 g m else if (m 10 0) = 11 then m_beginsRange_68 g m else if s0 < 0 then m_beginsRange_72 g m else ck s0 140 (if (m 17 s0) = 0 then m_beginsRange_68 g m else m_beginsRange_72 g m)
theorem c_m_beginsRange_20_b {dd : Nat} (hd : 1 ≤ dd) {g : Nat} {h0 : RHeap} {vF : Int} {mF : MS} {la : RLoc} {h : RHeap} {m : MS} {s0 : Int} (k0 : rx_look la 0 = some (.ref 170)) (hr : RM h0 h m) (ps0 : InI s0) (hD : m_beginsRange_20 g s0 m = some (vF, mF)) : Wq O F (Cd O F rp_P dd) (2, 2, rw_X12_beginsRange, []) (rx_at rw_X12_beginsRange 20) la [wvi s0] h (QV 3 h0 vF mF) := by
  unfold m_beginsRange_20 at hD
  refine wl_istore_n rfl rfl (fun la10 kk11 t12 => ?_)
  have kk13 := t12 0 _ (by decide) (Or.inr rfl) k0
  refine wq_aload_n kk13 rfl ?_
  refine wm_gfi hr rfl rfl (fun pp14 => ?_)
  refine wq_iconst rfl ?_
  refine wq_icmp_eq pp14 ⟨by decide, by decide⟩ rfl rfl rfl (fun c15 => ?_) (fun c15 => ?_)
  · rw [if_pos c15] at hD
    exact c_m_beginsRange_68_b hd hr hD
  · rw [if_neg c15] at hD
    refine wq_aload_n kk13 rfl ?_
    refine wm_gfi hr rfl rfl (fun pp16 => ?_)
    refine wq_iconst rfl ?_
    refine wq_icmp_eq pp16 ⟨by decide, by decide⟩ rfl rfl rfl (fun c17 => ?_) (fun c17 => ?_)
    · rw [if_pos c17] at hD
      exact c_m_beginsRange_68_b hd hr hD
    · rw [if_neg c17] at hD
      refine wq_aload_n kk13 rfl ?_
      refine wm_gfi hr rfl rfl (fun pp18 => ?_)
      refine wq_bipush (by decide) rfl ?_
      refine wq_icmp_eq pp18 ⟨by decide, by decide⟩ rfl rfl rfl (fun c19 => ?_) (fun c19 => ?_)
      · rw [if_pos c19] at hD
        exact c_m_beginsRange_68_b hd hr hD
      · rw [if_neg c19] at hD
        refine wq_aload_n kk13 rfl ?_
        refine wm_gfi hr rfl rfl (fun pp20 => ?_)
        refine wq_bipush (by decide) rfl ?_
        refine wq_icmp_eq pp20 ⟨by decide, by decide⟩ rfl rfl rfl (fun c21 => ?_) (fun c21 => ?_)
        · rw [if_pos c21] at hD
          exact c_m_beginsRange_68_b hd hr hD
        · rw [if_neg c21] at hD
          refine wq_iload_n kk11 rfl ?_
          refine wq_if_lt ps0 rfl rfl rfl (fun c22 => ?_) (fun c22 => ?_)
          · rw [if_pos c22] at hD
            exact c_m_beginsRange_72_b hd hr hD
          · rw [if_neg (Int.not_lt.mpr c22)] at hD
            refine wq_aload_n kk13 rfl ?_
            refine wm_gfa (c := 0) hr rfl rfl ?_
            refine wq_iload_n kk11 rfl ?_
            obtain ⟨g23, g24, hD⟩ := ck_of hD
            refine wm_ali (f := 17) hr rfl ps0 g23 g24 rfl (fun pp25 => ?_)
            refine wq_if_ne pp25 rfl rfl rfl (fun c26 => ?_) (fun c26 => ?_)
            · rw [if_neg c26] at hD
              exact c_m_beginsRange_72_b hd hr hD
            · rw [if_pos c26] at hD
              exact c_m_beginsRange_68_b hd hr hD
def m_beginsRange (g : Nat) (m : MS) : Option (Int × MS) := if (m 10 0) = 1 then vb (m_find g (m 11 0) m) (fun v8 m4 => m_beginsRange_20 g v8 m4) else m_beginsRange_20 g (-1) m
theorem c_m_beginsRange_b {dd : Nat} (hd : 1 ≤ dd) {g : Nat} {h0 : RHeap} {vF : Int} {mF : MS} {la : RLoc} {h : RHeap} {m : MS} (k0 : rx_look la 0 = some (.ref 170)) (hr : RM h0 h m) (hD : m_beginsRange g m = some (vF, mF)) : Wq O F (Cd O F rp_P dd) (2, 2, rw_X12_beginsRange, []) (rx_at rw_X12_beginsRange 0) la [] h (QV 3 h0 vF mF) := by
  unfold m_beginsRange at hD
  refine wq_aload_n k0 rfl ?_
  refine wm_gfi hr rfl rfl (fun pp1 => ?_)
  refine wq_iconst rfl ?_
  refine wq_icmp_ne pp1 ⟨by decide, by decide⟩ rfl rfl rfl (fun c2 => ?_) (fun c2 => ?_)
  · rw [if_neg c2] at hD
    refine wq_iconst rfl ?_
    exact c_m_beginsRange_20_b hd k0 hr ⟨by decide, by decide⟩ hD
  · rw [if_pos c2] at hD
    refine wq_aload_n k0 rfl ?_
    refine wq_aload_n k0 rfl ?_
    refine wm_gfl hr rfl rfl (fun pp3 => ?_)
    obtain ⟨v8, m4, q7, hD⟩ := vb_of hD
    refine wm_cvI hr (c_find (by omega) hr pp3 q7) rfl rfl rfl (fun h5 hr6 pp9 => ?_)
    refine wq_goto rfl rfl ?_
    exact c_m_beginsRange_20_b hd k0 hr6 pp9 hD
theorem c_beginsRange {d : Nat} (hd : 2 ≤ d) {g : Nat} {h0 h : RHeap} {m : MS} {vF : Int} {mF : MS} (hr : RM h0 h m) (hD : m_beginsRange g m = some (vF, mF)) : Cq (Cd O F rp_P d) 208 [.ref 170] h (QV 3 h0 vF mF) := by
  refine cq_of (I := (2, 2, rw_X12_beginsRange, [])) rfl rfl (by omega) ?_
  exact c_m_beginsRange_b (by omega) rfl hr hD
def m_constant_237 (g : Nat) (s1 : Int) (m : MS) : Option MS := wlet (mset m 32 0 s1) (fun m50 => some m50)
theorem c_m_constant_237_b {dd : Nat} (hd : 3 ≤ dd) {g : Nat} {h0 : RHeap} {mF : MS} {la : RLoc} {h : RHeap} {m : MS} {s1 : Int} (hr : RM h0 h m) (ps1 : InI s1) (hD : m_constant_237 g s1 m = some mF) : Wq O F (Cd O F rp_P dd) (4, 0, rw_X12_constant, []) (rx_at rw_X12_constant 237) la [wvi s1, .ref 170] h (QN h0 mF) := by
  unfold m_constant_237 at hD
  obtain ⟨m50, e51, hD⟩ := wlet_of hD
  refine wm_pfi hr rfl rfl ps1 rfl (fun h52 hr53 => ?_)
  rw [← e51] at hr53
  cases hD
  exact wq_return rfl ⟨_, rfl, hr53⟩
def m_constant_218 (g : Nat) (l1 : Int) (m : MS) : Option MS := if l1 = 11 then m_constant_237 g (i32 (-(m 32 0))) m else m_constant_237 g (m 32 0) m
theorem c_m_constant_218_b {dd : Nat} (hd : 3 ≤ dd) {g : Nat} {h0 : RHeap} {mF : MS} {la : RLoc} {h : RHeap} {m : MS} {l1 : Int} (k0 : rx_look la 0 = some (.ref 170)) (k1 : rx_look la 1 = some (wvi l1)) (hr : RM h0 h m) (pl1 : InI l1) (hD : m_constant_218 g l1 m = some mF) : Wq O F (Cd O F rp_P dd) (4, 0, rw_X12_constant, []) (rx_at rw_X12_constant 218) la [] h (QN h0 mF) := by
  unfold m_constant_218 at hD
  refine wq_aload_n k0 rfl ?_
  refine wq_iload_n k1 rfl ?_
  refine wq_bipush (by decide) rfl ?_
  refine wq_icmp_ne pl1 ⟨by decide, by decide⟩ rfl rfl rfl (fun c47 => ?_) (fun c47 => ?_)
  · rw [if_neg c47] at hD
    refine wq_aload_n k0 rfl ?_
    refine wm_gfi hr rfl rfl (fun pp48 => ?_)
    exact c_m_constant_237_b hd hr pp48 hD
  · rw [if_pos c47] at hD
    refine wq_aload_n k0 rfl ?_
    refine wm_gfi hr rfl rfl (fun pp49 => ?_)
    refine wq_ineg rfl ?_
    refine wq_goto rfl rfl ?_
    exact c_m_constant_237_b hd hr (InI_i32 _) hD
def m_constant_191 (g : Nat) (l1 : Int) (l2 : Int) (m : MS) : Option MS := if (m 6 0) = 0 then if l2 = 0 then m_constant_218 g l1 m else if (m 31 0) = 0 then m_constant_218 g l1 m else nb (m_fail 4 (m 9 0) m) (fun m43 => m_constant_218 g l1 m43) else m_constant_218 g l1 m
theorem c_m_constant_191_b {dd : Nat} (hd : 3 ≤ dd) {g : Nat} {h0 : RHeap} {mF : MS} {la : RLoc} {h : RHeap} {m : MS} {l1 l2 : Int} (k0 : rx_look la 0 = some (.ref 170)) (k1 : rx_look la 1 = some (wvi l1)) (k2 : rx_look la 2 = some (wvi l2)) (hr : RM h0 h m) (pl1 : InI l1) (pl2 : (l2 = 0 ∨ l2 = 1)) (hD : m_constant_191 g l1 l2 m = some mF) : Wq O F (Cd O F rp_P dd) (4, 0, rw_X12_constant, []) (rx_at rw_X12_constant 191) la [] h (QN h0 mF) := by
  unfold m_constant_191 at hD
  refine wq_aload_n k0 rfl ?_
  refine wm_gfi hr rfl rfl (fun pp37 => ?_)
  refine wq_if_ne pp37 rfl rfl rfl (fun c38 => ?_) (fun c38 => ?_)
  · rw [if_neg c38] at hD
    exact c_m_constant_218_b hd k0 k1 hr pl1 hD
  · rw [if_pos c38] at hD
    refine wq_iload_n k2 rfl ?_
    refine wq_if_eq (InI_z pl2) rfl rfl rfl (fun c39 => ?_) (fun c39 => ?_)
    · rw [if_pos c39] at hD
      exact c_m_constant_218_b hd k0 k1 hr pl1 hD
    · rw [if_neg c39] at hD
      refine wq_aload_n k0 rfl ?_
      refine wm_gfi hr rfl rfl (fun pp40 => ?_)
      refine wq_if_eq pp40 rfl rfl rfl (fun c41 => ?_) (fun c41 => ?_)
      · rw [if_pos c41] at hD
        exact c_m_constant_218_b hd k0 k1 hr pl1 hD
      · rw [if_neg c41] at hD
        refine wq_aload_n k0 rfl ?_
        refine wq_iconst rfl ?_
        refine wq_aload_n k0 rfl ?_
        refine wm_gfi hr rfl rfl (fun pp42 => ?_)
        obtain ⟨m43, q46, hD⟩ := nb_of hD
        refine wm_cvN hr (c_fail (by omega) hr ⟨by decide, by decide⟩ pp42 q46) rfl rfl rfl (fun h44 hr45 => ?_)
        exact c_m_constant_218_b hd k0 k1 hr45 pl1 hD
def m_constant_160 (g : Nat) (l1 : Int) (l2 : Int) (l3 : Int) (m : MS) : Option MS := if (m 6 0) = 0 then ck l3 140 (wlet (mset m 31 0 (m 20 l3)) (fun m106 => ck l3 140 (wlet (mset m106 32 0 (m106 22 l3)) (fun m113 => nb (m_take g m113) (fun m117 => m_constant_191 g l1 l2 m117))))) else m_constant_191 g l1 l2 m
theorem c_m_constant_160_b {dd : Nat} (hd : 3 ≤ dd) {g : Nat} {h0 : RHeap} {mF : MS} {la : RLoc} {h : RHeap} {m : MS} {l1 l2 l3 : Int} (k0 : rx_look la 0 = some (.ref 170)) (k1 : rx_look la 1 = some (wvi l1)) (k2 : rx_look la 2 = some (wvi l2)) (k3 : rx_look la 3 = some (wvi l3)) (hr : RM h0 h m) (pl1 : InI l1) (pl2 : (l2 = 0 ∨ l2 = 1)) (pl3 : InI l3) (hD : m_constant_160 g l1 l2 l3 m = some mF) : Wq O F (Cd O F rp_P dd) (4, 0, rw_X12_constant, []) (rx_at rw_X12_constant 160) la [] h (QN h0 mF) := by
  unfold m_constant_160 at hD
  refine wq_aload_n k0 rfl ?_
  refine wm_gfi hr rfl rfl (fun pp101 => ?_)
  refine wq_if_ne pp101 rfl rfl rfl (fun c102 => ?_) (fun c102 => ?_)
  · rw [if_neg c102] at hD
    exact c_m_constant_191_b hd k0 k1 k2 hr pl1 pl2 hD
  · rw [if_pos c102] at hD
    refine wq_aload_n k0 rfl ?_
    refine wq_aload_n k0 rfl ?_
    refine wm_gfa (c := 0) hr rfl rfl ?_
    refine wq_iload_n k3 rfl ?_
    obtain ⟨g103, g104, hD⟩ := ck_of hD
    refine wm_ali (f := 20) hr rfl pl3 g103 g104 rfl (fun pp105 => ?_)
    obtain ⟨m106, e107, hD⟩ := wlet_of hD
    refine wm_pfi hr rfl rfl pp105 rfl (fun h108 hr109 => ?_)
    rw [← e107] at hr109
    refine wq_aload_n k0 rfl ?_
    refine wq_aload_n k0 rfl ?_
    refine wm_gfa (c := 0) hr109 rfl rfl ?_
    refine wq_iload_n k3 rfl ?_
    obtain ⟨g110, g111, hD⟩ := ck_of hD
    refine wm_ali (f := 22) hr109 rfl pl3 g110 g111 rfl (fun pp112 => ?_)
    obtain ⟨m113, e114, hD⟩ := wlet_of hD
    refine wm_pfi hr109 rfl rfl pp112 rfl (fun h115 hr116 => ?_)
    rw [← e114] at hr116
    refine wq_aload_n k0 rfl ?_
    obtain ⟨m117, q120, hD⟩ := nb_of hD
    refine wm_cvN hr116 (c_take (by omega) hr116 q120) rfl rfl rfl (fun h118 hr119 => ?_)
    exact c_m_constant_191_b hd k0 k1 k2 hr119 pl1 pl2 hD
def m_constant_126 (g : Nat) (l1 : Int) (l2 : Int) (m : MS) : Option MS := if (m 6 0) = 0 then vb (m_known g m) (fun v83 m79 => if v83 < 0 then m_constant_160 g l1 l2 v83 m79 else ck v83 140 (if (m79 17 v83) = 0 then m_constant_160 g l1 l2 v83 m79 else nb (m_fail 1 (m79 9 0) m79) (fun m97 => m_constant_160 g l1 l2 v83 m97))) else m_constant_191 g l1 l2 m
theorem c_m_constant_126_b {dd : Nat} (hd : 3 ≤ dd) {g : Nat} {h0 : RHeap} {mF : MS} {la : RLoc} {h : RHeap} {m : MS} {l1 l2 : Int} (k0 : rx_look la 0 = some (.ref 170)) (k1 : rx_look la 1 = some (wvi l1)) (k2 : rx_look la 2 = some (wvi l2)) (hr : RM h0 h m) (pl1 : InI l1) (pl2 : (l2 = 0 ∨ l2 = 1)) (hD : m_constant_126 g l1 l2 m = some mF) : Wq O F (Cd O F rp_P dd) (4, 0, rw_X12_constant, []) (rx_at rw_X12_constant 126) la [] h (QN h0 mF) := by
  unfold m_constant_126 at hD
  refine wq_aload_n k0 rfl ?_
  refine wm_gfi hr rfl rfl (fun pp77 => ?_)
  refine wq_if_ne pp77 rfl rfl rfl (fun c78 => ?_) (fun c78 => ?_)
  · rw [if_neg c78] at hD
    exact c_m_constant_191_b hd k0 k1 k2 hr pl1 pl2 hD
  · rw [if_pos c78] at hD
    refine wq_aload_n k0 rfl ?_
    obtain ⟨v83, m79, q82, hD⟩ := vb_of hD
    refine wm_cvI hr (c_known (by omega) hr q82) rfl rfl rfl (fun h80 hr81 pp84 => ?_)
    refine wl_istore_n rfl rfl (fun la85 kk86 t87 => ?_)
    have kk88 := t87 0 _ (by decide) (Or.inr rfl) k0
    have kk89 := t87 1 _ (by decide) (Or.inr rfl) k1
    have kk90 := t87 2 _ (by decide) (Or.inr rfl) k2
    refine wq_iload_n kk86 rfl ?_
    refine wq_if_lt pp84 rfl rfl rfl (fun c91 => ?_) (fun c91 => ?_)
    · rw [if_pos c91] at hD
      exact c_m_constant_160_b hd kk88 kk89 kk90 kk86 hr81 pl1 pl2 pp84 hD
    · rw [if_neg (Int.not_lt.mpr c91)] at hD
      refine wq_aload_n kk88 rfl ?_
      refine wm_gfa (c := 0) hr81 rfl rfl ?_
      refine wq_iload_n kk86 rfl ?_
      obtain ⟨g92, g93, hD⟩ := ck_of hD
      refine wm_ali (f := 17) hr81 rfl pp84 g92 g93 rfl (fun pp94 => ?_)
      refine wq_if_eq pp94 rfl rfl rfl (fun c95 => ?_) (fun c95 => ?_)
      · rw [if_pos c95] at hD
        exact c_m_constant_160_b hd kk88 kk89 kk90 kk86 hr81 pl1 pl2 pp84 hD
      · rw [if_neg c95] at hD
        refine wq_aload_n kk88 rfl ?_
        refine wq_iconst rfl ?_
        refine wq_aload_n kk88 rfl ?_
        refine wm_gfi hr81 rfl rfl (fun pp96 => ?_)
        obtain ⟨m97, q100, hD⟩ := nb_of hD
        refine wm_cvN hr81 (c_fail (by omega) hr81 ⟨by decide, by decide⟩ pp96 q100) rfl rfl rfl (fun h98 hr99 => ?_)
        exact c_m_constant_160_b hd kk88 kk89 kk90 kk86 hr99 pl1 pl2 pp84 hD
def m_constant_74 (g : Nat) (l1 : Int) (l2 : Int) (m : MS) : Option MS := if (m 6 0) = 0 then if (m 10 0) = 3 then if (m 14 0) = 1 then if l2 = 0 then wlet (mset m 31 0 1) (fun m61 => ck (m61 13 0) 1500 (wlet (mset m61 32 0 (m61 4 (m61 13 0))) (fun m69 => nb (m_take g m69) (fun m73 => m_constant_191 g l1 l2 m73)))) else m_constant_126 g l1 l2 m else m_constant_126 g l1 l2 m else m_constant_126 g l1 l2 m else m_constant_126 g l1 l2 m
theorem c_m_constant_74_b {dd : Nat} (hd : 3 ≤ dd) {g : Nat} {h0 : RHeap} {mF : MS} {la : RLoc} {h : RHeap} {m : MS} {l1 l2 : Int} (k0 : rx_look la 0 = some (.ref 170)) (k1 : rx_look la 1 = some (wvi l1)) (k2 : rx_look la 2 = some (wvi l2)) (hr : RM h0 h m) (pl1 : InI l1) (pl2 : (l2 = 0 ∨ l2 = 1)) (hD : m_constant_74 g l1 l2 m = some mF) : Wq O F (Cd O F rp_P dd) (4, 0, rw_X12_constant, []) (rx_at rw_X12_constant 74) la [] h (QN h0 mF) := by
  unfold m_constant_74 at hD
  refine wq_aload_n k0 rfl ?_
  refine wm_gfi hr rfl rfl (fun pp54 => ?_)
  refine wq_if_ne pp54 rfl rfl rfl (fun c55 => ?_) (fun c55 => ?_)
  · rw [if_neg c55] at hD
    exact c_m_constant_126_b hd k0 k1 k2 hr pl1 pl2 hD
  · rw [if_pos c55] at hD
    refine wq_aload_n k0 rfl ?_
    refine wm_gfi hr rfl rfl (fun pp56 => ?_)
    refine wq_iconst rfl ?_
    refine wq_icmp_ne pp56 ⟨by decide, by decide⟩ rfl rfl rfl (fun c57 => ?_) (fun c57 => ?_)
    · rw [if_neg c57] at hD
      exact c_m_constant_126_b hd k0 k1 k2 hr pl1 pl2 hD
    · rw [if_pos c57] at hD
      refine wq_aload_n k0 rfl ?_
      refine wm_gfi hr rfl rfl (fun pp58 => ?_)
      refine wq_iconst rfl ?_
      refine wq_icmp_ne pp58 ⟨by decide, by decide⟩ rfl rfl rfl (fun c59 => ?_) (fun c59 => ?_)
      · rw [if_neg c59] at hD
        exact c_m_constant_126_b hd k0 k1 k2 hr pl1 pl2 hD
      · rw [if_pos c59] at hD
        refine wq_iload_n k2 rfl ?_
        refine wq_if_ne (InI_z pl2) rfl rfl rfl (fun c60 => ?_) (fun c60 => ?_)
        · rw [if_neg c60] at hD
          exact c_m_constant_126_b hd k0 k1 k2 hr pl1 pl2 hD
        · rw [if_pos c60] at hD
          refine wq_aload_n k0 rfl ?_
          refine wq_iconst rfl ?_
          obtain ⟨m61, e62, hD⟩ := wlet_of hD
          refine wm_pfi hr rfl rfl ⟨by decide, by decide⟩ rfl (fun h63 hr64 => ?_)
          rw [← e62] at hr64
          refine wq_aload_n k0 rfl ?_
          refine wq_aload_n k0 rfl ?_
          refine wm_gfa (c := 0) hr64 rfl rfl ?_
          refine wq_aload_n k0 rfl ?_
          refine wm_gfi hr64 rfl rfl (fun pp65 => ?_)
          obtain ⟨g66, g67, hD⟩ := ck_of hD
          refine wm_ali (f := 4) hr64 rfl pp65 g66 g67 rfl (fun pp68 => ?_)
          obtain ⟨m69, e70, hD⟩ := wlet_of hD
          refine wm_pfi hr64 rfl rfl pp68 rfl (fun h71 hr72 => ?_)
          rw [← e70] at hr72
          refine wq_aload_n k0 rfl ?_
          obtain ⟨m73, q76, hD⟩ := nb_of hD
          refine wm_cvN hr72 (c_take (by omega) hr72 q76) rfl rfl rfl (fun h74 hr75 => ?_)
          refine wq_goto rfl rfl ?_
          exact c_m_constant_191_b hd k0 k1 k2 hr75 pl1 pl2 hD
def m_constant_39 (g : Nat) (l1 : Int) (l2 : Int) (m : MS) : Option MS := if (m 6 0) = 0 then if (m 10 0) = 2 then wlet (mset m 31 0 0) (fun m24 => wlet (mset m24 32 0 (m24 12 0)) (fun m29 => nb (m_take g m29) (fun m33 => m_constant_191 g l1 l2 m33))) else m_constant_74 g l1 l2 m else m_constant_74 g l1 l2 m
theorem c_m_constant_39_b {dd : Nat} (hd : 3 ≤ dd) {g : Nat} {h0 : RHeap} {mF : MS} {la : RLoc} {h : RHeap} {m : MS} {l1 l2 : Int} (k0 : rx_look la 0 = some (.ref 170)) (k1 : rx_look la 1 = some (wvi l1)) (k2 : rx_look la 2 = some (wvi l2)) (hr : RM h0 h m) (pl1 : InI l1) (pl2 : (l2 = 0 ∨ l2 = 1)) (hD : m_constant_39 g l1 l2 m = some mF) : Wq O F (Cd O F rp_P dd) (4, 0, rw_X12_constant, []) (rx_at rw_X12_constant 39) la [] h (QN h0 mF) := by
  unfold m_constant_39 at hD
  refine wq_aload_n k0 rfl ?_
  refine wm_gfi hr rfl rfl (fun pp20 => ?_)
  refine wq_if_ne pp20 rfl rfl rfl (fun c21 => ?_) (fun c21 => ?_)
  · rw [if_neg c21] at hD
    exact c_m_constant_74_b hd k0 k1 k2 hr pl1 pl2 hD
  · rw [if_pos c21] at hD
    refine wq_aload_n k0 rfl ?_
    refine wm_gfi hr rfl rfl (fun pp22 => ?_)
    refine wq_iconst rfl ?_
    refine wq_icmp_ne pp22 ⟨by decide, by decide⟩ rfl rfl rfl (fun c23 => ?_) (fun c23 => ?_)
    · rw [if_neg c23] at hD
      exact c_m_constant_74_b hd k0 k1 k2 hr pl1 pl2 hD
    · rw [if_pos c23] at hD
      refine wq_aload_n k0 rfl ?_
      refine wq_iconst rfl ?_
      obtain ⟨m24, e25, hD⟩ := wlet_of hD
      refine wm_pfi hr rfl rfl ⟨by decide, by decide⟩ rfl (fun h26 hr27 => ?_)
      rw [← e25] at hr27
      refine wq_aload_n k0 rfl ?_
      refine wq_aload_n k0 rfl ?_
      refine wm_gfi hr27 rfl rfl (fun pp28 => ?_)
      obtain ⟨m29, e30, hD⟩ := wlet_of hD
      refine wm_pfi hr27 rfl rfl pp28 rfl (fun h31 hr32 => ?_)
      rw [← e30] at hr32
      refine wq_aload_n k0 rfl ?_
      obtain ⟨m33, q36, hD⟩ := nb_of hD
      refine wm_cvN hr32 (c_take (by omega) hr32 q36) rfl rfl rfl (fun h34 hr35 => ?_)
      refine wq_goto rfl rfl ?_
      exact c_m_constant_191_b hd k0 k1 k2 hr35 pl1 pl2 hD
def m_constant_30 (g : Nat) (l1 : Int) (s0 : Int) (m : MS) : Option MS := if s0 = 0 then m_constant_39 g l1 s0 m else nb (m_take g m) (fun m16 => m_constant_39 g l1 s0 m16)
theorem c_m_constant_30_b {dd : Nat} (hd : 3 ≤ dd) {g : Nat} {h0 : RHeap} {mF : MS} {la : RLoc} {h : RHeap} {m : MS} {l1 s0 : Int} (k0 : rx_look la 0 = some (.ref 170)) (k1 : rx_look la 1 = some (wvi l1)) (hr : RM h0 h m) (pl1 : InI l1) (ps0 : (s0 = 0 ∨ s0 = 1)) (hD : m_constant_30 g l1 s0 m = some mF) : Wq O F (Cd O F rp_P dd) (4, 0, rw_X12_constant, []) (rx_at rw_X12_constant 30) la [wvi s0] h (QN h0 mF) := by
  unfold m_constant_30 at hD
  refine wl_istore_n rfl rfl (fun la10 kk11 t12 => ?_)
  have kk13 := t12 0 _ (by decide) (Or.inr rfl) k0
  have kk14 := t12 1 _ (by decide) (Or.inr rfl) k1
  refine wq_iload_n kk11 rfl ?_
  refine wq_if_eq (InI_z ps0) rfl rfl rfl (fun c15 => ?_) (fun c15 => ?_)
  · rw [if_pos c15] at hD
    exact c_m_constant_39_b hd kk13 kk14 kk11 hr pl1 ps0 hD
  · rw [if_neg c15] at hD
    refine wq_aload_n kk13 rfl ?_
    obtain ⟨m16, q19, hD⟩ := nb_of hD
    refine wm_cvN hr (c_take (by omega) hr q19) rfl rfl rfl (fun h17 hr18 => ?_)
    exact c_m_constant_39_b hd kk13 kk14 kk11 hr18 pl1 ps0 hD
def m_constant_25 (g : Nat) (l1 : Int) (m : MS) : Option MS := m_constant_30 g l1 1 m
theorem c_m_constant_25_b {dd : Nat} (hd : 3 ≤ dd) {g : Nat} {h0 : RHeap} {mF : MS} {la : RLoc} {h : RHeap} {m : MS} {l1 : Int} (k0 : rx_look la 0 = some (.ref 170)) (k1 : rx_look la 1 = some (wvi l1)) (hr : RM h0 h m) (pl1 : InI l1) (hD : m_constant_25 g l1 m = some mF) : Wq O F (Cd O F rp_P dd) (4, 0, rw_X12_constant, []) (rx_at rw_X12_constant 25) la [] h (QN h0 mF) := by
  unfold m_constant_25 at hD
  refine wq_iconst rfl ?_
  refine wq_goto rfl rfl ?_
  exact c_m_constant_30_b hd k0 k1 hr pl1 (Or.inr rfl) hD
def m_constant (g : Nat) (m : MS) : Option MS := if 0 < (m 6 0) then some m else if (m 10 0) = 10 then m_constant_25 g (m 10 0) m else if (m 10 0) = 11 then m_constant_25 g (m 10 0) m else m_constant_30 g (m 10 0) 0 m
theorem c_m_constant_b {dd : Nat} (hd : 3 ≤ dd) {g : Nat} {h0 : RHeap} {mF : MS} {la : RLoc} {h : RHeap} {m : MS} (k0 : rx_look la 0 = some (.ref 170)) (hr : RM h0 h m) (hD : m_constant g m = some mF) : Wq O F (Cd O F rp_P dd) (4, 0, rw_X12_constant, []) (rx_at rw_X12_constant 0) la [] h (QN h0 mF) := by
  unfold m_constant at hD
  refine wq_aload_n k0 rfl ?_
  refine wm_gfi hr rfl rfl (fun pp1 => ?_)
  refine wq_if_le pp1 rfl rfl rfl (fun c2 => ?_) (fun c2 => ?_)
  · rw [if_neg (Int.not_lt.mpr c2)] at hD
    refine wq_aload_n k0 rfl ?_
    refine wm_gfi hr rfl rfl (fun pp3 => ?_)
    refine wl_istore_n rfl rfl (fun la4 kk5 t6 => ?_)
    have kk7 := t6 0 _ (by decide) (Or.inr rfl) k0
    refine wq_iload_n kk5 rfl ?_
    refine wq_bipush (by decide) rfl ?_
    refine wq_icmp_eq pp3 ⟨by decide, by decide⟩ rfl rfl rfl (fun c8 => ?_) (fun c8 => ?_)
    · rw [if_pos c8] at hD
      exact c_m_constant_25_b hd kk7 kk5 hr pp3 hD
    · rw [if_neg c8] at hD
      refine wq_iload_n kk5 rfl ?_
      refine wq_bipush (by decide) rfl ?_
      refine wq_icmp_ne pp3 ⟨by decide, by decide⟩ rfl rfl rfl (fun c9 => ?_) (fun c9 => ?_)
      · rw [if_neg c9] at hD
        refine wq_iconst rfl ?_
        exact c_m_constant_30_b hd kk7 kk5 hr pp3 (Or.inl rfl) hD
      · rw [if_pos c9] at hD
        exact c_m_constant_25_b hd kk7 kk5 hr pp3 hD
  · rw [if_pos c2] at hD
    cases hD
    exact wq_return rfl ⟨_, rfl, hr⟩
theorem c_constant {d : Nat} (hd : 4 ≤ d) {g : Nat} {h0 h : RHeap} {m : MS} {mF : MS} (hr : RM h0 h m) (hD : m_constant g m = some mF) : Cq (Cd O F rp_P d) 218 [.ref 170] h (QN h0 mF) := by
  refine cq_of (I := (4, 0, rw_X12_constant, [])) rfl rfl (by omega) ?_
  exact c_m_constant_b (by omega) rfl hr hD
def m_constants_57 (g : Nat) (rec0 : MS → Option MS) (m : MS) : Option MS := nb (m_want g 21 m) (fun m43 => if (m43 10 0) = 1 then rec0 m43 else some m43)
theorem c_m_constants_57_b {dd : Nat} (hd : 4 ≤ dd) {g : Nat} {h0 : RHeap} {mF : MS} {rec0 : MS → Option MS} (hrec0 : ∀ {la : RLoc} {h : RHeap} {m : MS}, rx_look la 0 = some (.ref 170) → RM h0 h m → rec0 m = some mF → Wq O F (Cd O F rp_P dd) (2, 0, rw_X12_constants, []) (rx_at rw_X12_constants 0) la [] h (QN h0 mF)) {la : RLoc} {h : RHeap} {m : MS} (k0 : rx_look la 0 = some (.ref 170)) (hr : RM h0 h m) (hD : m_constants_57 g rec0 m = some mF) : Wq O F (Cd O F rp_P dd) (2, 0, rw_X12_constants, []) (rx_at rw_X12_constants 57) la [] h (QN h0 mF) := by
  unfold m_constants_57 at hD
  refine wq_aload_n k0 rfl ?_
  refine wq_bipush (by decide) rfl ?_
  obtain ⟨m43, q46, hD⟩ := nb_of hD
  refine wm_cvN hr (c_want (by omega) hr ⟨by decide, by decide⟩ q46) rfl rfl rfl (fun h44 hr45 => ?_)
  refine wq_aload_n k0 rfl ?_
  refine wm_gfi hr45 rfl rfl (fun pp47 => ?_)
  refine wq_iconst rfl ?_
  refine wq_icmp_eq pp47 ⟨by decide, by decide⟩ rfl rfl rfl (fun c48 => ?_) (fun c48 => ?_)
  · rw [if_pos c48] at hD
    refine wq_goto rfl rfl ?_
    exact hrec0 k0 hr45 hD
  · rw [if_neg c48] at hD
    cases hD
    exact wq_return rfl ⟨_, rfl, hr45⟩
def m_constants_0 (g : Nat) : Nat → MS → Option MS
  | 0, _ => none
  | n + 1, m => if (m 6 0) = 0 then vb (m_declare g 0 m) (fun v7 m3 => nb (m_want g 13 m3) (fun m13 => nb (m_constant g m13) (fun m17 => if (m17 6 0) = 0 then ck v7 140 (wlet (mset m17 20 v7 (m17 31 0)) (fun m26 => ck v7 140 (wlet (mset m26 22 v7 (m26 32 0)) (fun m33 => ck v7 140 (wlet (mset m33 19 v7 0) (fun m39 => m_constants_57 g (m_constants_0 g n) m39)))))) else m_constants_57 g (m_constants_0 g n) m17))) else some m
theorem c_m_constants_0 {dd : Nat} (hd : 4 ≤ dd) {g : Nat} {h0 : RHeap} {mF : MS} : ∀ (n : Nat) {la : RLoc} {h : RHeap} {m : MS}, rx_look la 0 = some (.ref 170) → RM h0 h m → m_constants_0 g n m = some mF → Wq O F (Cd O F rp_P dd) (2, 0, rw_X12_constants, []) (rx_at rw_X12_constants 0) la [] h (QN h0 mF) := by
  intro n
  induction n with
  | zero =>
    intro la h m k0 hr hD
    unfold m_constants_0 at hD
    cases hD
  | succ n ih =>
    intro la h m k0 hr hD
    unfold m_constants_0 at hD
    refine wq_aload_n k0 rfl ?_
    refine wm_gfi hr rfl rfl (fun pp1 => ?_)
    refine wq_if_ne pp1 rfl rfl rfl (fun c2 => ?_) (fun c2 => ?_)
    · rw [if_neg c2] at hD
      cases hD
      exact wq_return rfl ⟨_, rfl, hr⟩
    · rw [if_pos c2] at hD
      refine wq_aload_n k0 rfl ?_
      refine wq_iconst rfl ?_
      obtain ⟨v7, m3, q6, hD⟩ := vb_of hD
      refine wm_cvI hr (c_declare (by omega) hr ⟨by decide, by decide⟩ q6) rfl rfl rfl (fun h4 hr5 pp8 => ?_)
      refine wl_istore_n rfl rfl (fun la9 kk10 t11 => ?_)
      have kk12 := t11 0 _ (by decide) (Or.inr rfl) k0
      refine wq_aload_n kk12 rfl ?_
      refine wq_bipush (by decide) rfl ?_
      obtain ⟨m13, q16, hD⟩ := nb_of hD
      refine wm_cvN hr5 (c_want (by omega) hr5 ⟨by decide, by decide⟩ q16) rfl rfl rfl (fun h14 hr15 => ?_)
      refine wq_aload_n kk12 rfl ?_
      obtain ⟨m17, q20, hD⟩ := nb_of hD
      refine wm_cvN hr15 (c_constant (by omega) hr15 q20) rfl rfl rfl (fun h18 hr19 => ?_)
      refine wq_aload_n kk12 rfl ?_
      refine wm_gfi hr19 rfl rfl (fun pp21 => ?_)
      refine wq_if_ne pp21 rfl rfl rfl (fun c22 => ?_) (fun c22 => ?_)
      · rw [if_neg c22] at hD
        exact c_m_constants_57_b hd ih kk12 hr19 hD
      · rw [if_pos c22] at hD
        refine wq_aload_n kk12 rfl ?_
        refine wm_gfa (c := 0) hr19 rfl rfl ?_
        refine wq_iload_n kk10 rfl ?_
        refine wq_aload_n kk12 rfl ?_
        refine wm_gfi hr19 rfl rfl (fun pp23 => ?_)
        obtain ⟨g24, g25, hD⟩ := ck_of hD
        obtain ⟨m26, e27, hD⟩ := wlet_of hD
        refine wm_asi (f := 20) hr19 rfl pp8 g24 g25 pp23 rfl (fun h28 hr29 => ?_)
        rw [← e27] at hr29
        refine wq_aload_n kk12 rfl ?_
        refine wm_gfa (c := 0) hr29 rfl rfl ?_
        refine wq_iload_n kk10 rfl ?_
        refine wq_aload_n kk12 rfl ?_
        refine wm_gfi hr29 rfl rfl (fun pp30 => ?_)
        obtain ⟨g31, g32, hD⟩ := ck_of hD
        obtain ⟨m33, e34, hD⟩ := wlet_of hD
        refine wm_asi (f := 22) hr29 rfl pp8 g31 g32 pp30 rfl (fun h35 hr36 => ?_)
        rw [← e34] at hr36
        refine wq_aload_n kk12 rfl ?_
        refine wm_gfa (c := 3) hr36 rfl rfl ?_
        refine wq_iload_n kk10 rfl ?_
        refine wq_iconst rfl ?_
        obtain ⟨g37, g38, hD⟩ := ck_of hD
        obtain ⟨m39, e40, hD⟩ := wlet_of hD
        refine wm_asz (f := 19) hr36 rfl pp8 g37 g38 (Or.inl rfl) rfl (fun h41 hr42 => ?_)
        rw [← e40] at hr42
        exact c_m_constants_57_b hd ih kk12 hr42 hD
def m_constants (g : Nat) (m : MS) : Option MS := m_constants_0 g g m
theorem c_constants {d : Nat} (hd : 5 ≤ d) {g : Nat} {h0 h : RHeap} {m : MS} {mF : MS} (hr : RM h0 h m) (hD : m_constants g m = some mF) : Cq (Cd O F rp_P d) 219 [.ref 170] h (QN h0 mF) := by
  refine cq_of (I := (2, 0, rw_X12_constants, [])) rfl rfl (by omega) ?_
  exact c_m_constants_0 (by omega) g rfl hr hD
def m_range_61 (g : Nat) (l1 : Int) (l2 : Int) (m : MS) : Option MS := wlet (mset m 33 0 l2) (fun m36 => wlet (mset m36 34 0 1) (fun m40 => wlet (mset m40 35 0 l1) (fun m44 => wlet (mset m44 36 0 (m44 32 0)) (fun m49 => wlet (mset m49 37 0 0) (fun m53 => some m53)))))
theorem c_m_range_61_b {dd : Nat} (hd : 4 ≤ dd) {g : Nat} {h0 : RHeap} {mF : MS} {la : RLoc} {h : RHeap} {m : MS} {l1 l2 : Int} (k0 : rx_look la 0 = some (.ref 170)) (k1 : rx_look la 1 = some (wvi l1)) (k2 : rx_look la 2 = some (wvi l2)) (hr : RM h0 h m) (pl1 : InI l1) (pl2 : InI l2) (hD : m_range_61 g l1 l2 m = some mF) : Wq O F (Cd O F rp_P dd) (3, 0, rw_X12_range, []) (rx_at rw_X12_range 61) la [] h (QN h0 mF) := by
  unfold m_range_61 at hD
  refine wq_aload_n k0 rfl ?_
  refine wq_iload_n k2 rfl ?_
  obtain ⟨m36, e37, hD⟩ := wlet_of hD
  refine wm_pfi hr rfl rfl pl2 rfl (fun h38 hr39 => ?_)
  rw [← e37] at hr39
  refine wq_aload_n k0 rfl ?_
  refine wq_iconst rfl ?_
  obtain ⟨m40, e41, hD⟩ := wlet_of hD
  refine wm_pfz hr39 rfl rfl (Or.inr rfl) rfl (fun h42 hr43 => ?_)
  rw [← e41] at hr43
  refine wq_aload_n k0 rfl ?_
  refine wq_iload_n k1 rfl ?_
  obtain ⟨m44, e45, hD⟩ := wlet_of hD
  refine wm_pfi hr43 rfl rfl pl1 rfl (fun h46 hr47 => ?_)
  rw [← e45] at hr47
  refine wq_aload_n k0 rfl ?_
  refine wq_aload_n k0 rfl ?_
  refine wm_gfi hr47 rfl rfl (fun pp48 => ?_)
  obtain ⟨m49, e50, hD⟩ := wlet_of hD
  refine wm_pfi hr47 rfl rfl pp48 rfl (fun h51 hr52 => ?_)
  rw [← e50] at hr52
  refine wq_aload_n k0 rfl ?_
  refine wq_iconst rfl ?_
  obtain ⟨m53, e54, hD⟩ := wlet_of hD
  refine wm_pfz hr52 rfl rfl (Or.inl rfl) rfl (fun h55 hr56 => ?_)
  rw [← e54] at hr56
  cases hD
  exact wq_return rfl ⟨_, rfl, hr56⟩
def m_range_52 (g : Nat) (l1 : Int) (l2 : Int) (m : MS) : Option MS := nb (m_fail 4 (m 9 0) m) (fun m32 => m_range_61 g l1 l2 m32)
theorem c_m_range_52_b {dd : Nat} (hd : 4 ≤ dd) {g : Nat} {h0 : RHeap} {mF : MS} {la : RLoc} {h : RHeap} {m : MS} {l1 l2 : Int} (k0 : rx_look la 0 = some (.ref 170)) (k1 : rx_look la 1 = some (wvi l1)) (k2 : rx_look la 2 = some (wvi l2)) (hr : RM h0 h m) (pl1 : InI l1) (pl2 : InI l2) (hD : m_range_52 g l1 l2 m = some mF) : Wq O F (Cd O F rp_P dd) (3, 0, rw_X12_range, []) (rx_at rw_X12_range 52) la [] h (QN h0 mF) := by
  unfold m_range_52 at hD
  refine wq_aload_n k0 rfl ?_
  refine wq_iconst rfl ?_
  refine wq_aload_n k0 rfl ?_
  refine wm_gfi hr rfl rfl (fun pp31 => ?_)
  obtain ⟨m32, q35, hD⟩ := nb_of hD
  refine wm_cvN hr (c_fail (by omega) hr ⟨by decide, by decide⟩ pp31 q35) rfl rfl rfl (fun h33 hr34 => ?_)
  exact c_m_range_61_b hd k0 k1 k2 hr34 pl1 pl2 hD
def m_range (g : Nat) (m : MS) : Option MS := nb (m_constant g m) (fun m1 => nb (m_want g 28 m1) (fun m16 => nb (m_constant g m16) (fun m20 => if (m20 6 0) = 0 then if (m1 31 0) = (m20 31 0) then if 1 < (m1 31 0) then m_range_52 g (m1 32 0) (m1 31 0) m20 else if (m20 32 0) < (m1 32 0) then m_range_52 g (m1 32 0) (m1 31 0) m20 else m_range_61 g (m1 32 0) (m1 31 0) m20 else m_range_52 g (m1 32 0) (m1 31 0) m20 else m_range_61 g (m1 32 0) (m1 31 0) m20)))
theorem c_m_range_b {dd : Nat} (hd : 4 ≤ dd) {g : Nat} {h0 : RHeap} {mF : MS} {la : RLoc} {h : RHeap} {m : MS} (k0 : rx_look la 0 = some (.ref 170)) (hr : RM h0 h m) (hD : m_range g m = some mF) : Wq O F (Cd O F rp_P dd) (3, 0, rw_X12_range, []) (rx_at rw_X12_range 0) la [] h (QN h0 mF) := by
  unfold m_range at hD
  refine wq_aload_n k0 rfl ?_
  obtain ⟨m1, q4, hD⟩ := nb_of hD
  refine wm_cvN hr (c_constant (by omega) hr q4) rfl rfl rfl (fun h2 hr3 => ?_)
  refine wq_aload_n k0 rfl ?_
  refine wm_gfi hr3 rfl rfl (fun pp5 => ?_)
  refine wl_istore_n rfl rfl (fun la6 kk7 t8 => ?_)
  have kk9 := t8 0 _ (by decide) (Or.inr rfl) k0
  refine wq_aload_n kk9 rfl ?_
  refine wm_gfi hr3 rfl rfl (fun pp10 => ?_)
  refine wl_istore_n rfl rfl (fun la11 kk12 t13 => ?_)
  have kk14 := t13 0 _ (by decide) (Or.inr rfl) kk9
  have kk15 := t13 1 _ (by decide) (Or.inr rfl) kk7
  refine wq_aload_n kk14 rfl ?_
  refine wq_bipush (by decide) rfl ?_
  obtain ⟨m16, q19, hD⟩ := nb_of hD
  refine wm_cvN hr3 (c_want (by omega) hr3 ⟨by decide, by decide⟩ q19) rfl rfl rfl (fun h17 hr18 => ?_)
  refine wq_aload_n kk14 rfl ?_
  obtain ⟨m20, q23, hD⟩ := nb_of hD
  refine wm_cvN hr18 (c_constant (by omega) hr18 q23) rfl rfl rfl (fun h21 hr22 => ?_)
  refine wq_aload_n kk14 rfl ?_
  refine wm_gfi hr22 rfl rfl (fun pp24 => ?_)
  refine wq_if_ne pp24 rfl rfl rfl (fun c25 => ?_) (fun c25 => ?_)
  · rw [if_neg c25] at hD
    exact c_m_range_61_b hd kk14 kk15 kk12 hr22 pp5 pp10 hD
  · rw [if_pos c25] at hD
    refine wq_iload_n kk12 rfl ?_
    refine wq_aload_n kk14 rfl ?_
    refine wm_gfi hr22 rfl rfl (fun pp26 => ?_)
    refine wq_icmp_ne pp10 pp26 rfl rfl rfl (fun c27 => ?_) (fun c27 => ?_)
    · rw [if_neg c27] at hD
      exact c_m_range_52_b hd kk14 kk15 kk12 hr22 pp5 pp10 hD
    · rw [if_pos c27] at hD
      refine wq_iload_n kk12 rfl ?_
      refine wq_iconst rfl ?_
      refine wq_icmp_gt pp10 ⟨by decide, by decide⟩ rfl rfl rfl (fun c28 => ?_) (fun c28 => ?_)
      · rw [if_pos c28] at hD
        exact c_m_range_52_b hd kk14 kk15 kk12 hr22 pp5 pp10 hD
      · rw [if_neg (Int.not_lt.mpr c28)] at hD
        refine wq_iload_n kk15 rfl ?_
        refine wq_aload_n kk14 rfl ?_
        refine wm_gfi hr22 rfl rfl (fun pp29 => ?_)
        refine wq_icmp_le pp5 pp29 rfl rfl rfl (fun c30 => ?_) (fun c30 => ?_)
        · rw [if_neg (Int.not_lt.mpr c30)] at hD
          exact c_m_range_61_b hd kk14 kk15 kk12 hr22 pp5 pp10 hD
        · rw [if_pos c30] at hD
          exact c_m_range_52_b hd kk14 kk15 kk12 hr22 pp5 pp10 hD
theorem c_range {d : Nat} (hd : 5 ≤ d) {g : Nat} {h0 h : RHeap} {m : MS} {mF : MS} (hr : RM h0 h m) (hD : m_range g m = some mF) : Cq (Cd O F rp_P d) 269 [.ref 170] h (QN h0 mF) := by
  refine cq_of (I := (3, 0, rw_X12_range, [])) rfl rfl (by omega) ?_
  exact c_m_range_b (by omega) rfl hr hD
def m_simpleType_50 (g : Nat) (m : MS) : Option MS := some m
theorem c_m_simpleType_50_b {dd : Nat} (hd : 5 ≤ dd) {g : Nat} {h0 : RHeap} {mF : MS} {la : RLoc} {h : RHeap} {m : MS} (hr : RM h0 h m) (hD : m_simpleType_50 g m = some mF) : Wq O F (Cd O F rp_P dd) (2, 0, rw_X12_simpleType, []) (rx_at rw_X12_simpleType 50) la [] h (QN h0 mF) := by
  unfold m_simpleType_50 at hD
  cases hD
  exact wq_return rfl ⟨_, rfl, hr⟩
def m_simpleType (g : Nat) (l1 : Int) (m : MS) : Option MS := if (m 10 0) = 50 then wlet (mset m 33 0 3) (fun m18 => wlet (mset m18 34 0 0) (fun m22 => wlet (mset m22 37 0 0) (fun m26 => nb (m_take g m26) (fun m30 => m_simpleType_50 g m30)))) else vb (m_beginsRange g m) (fun v7 m3 => if v7 = 0 then nb (m_nameOfType g l1 m3) (fun m10 => m_simpleType_50 g m10) else nb (m_range g m3) (fun m14 => m_simpleType_50 g m14))
theorem c_m_simpleType_b {dd : Nat} (hd : 5 ≤ dd) {g : Nat} {h0 : RHeap} {mF : MS} {la : RLoc} {h : RHeap} {m : MS} {l1 : Int} (k0 : rx_look la 0 = some (.ref 170)) (k1 : rx_look la 1 = some (wvi l1)) (hr : RM h0 h m) (pl1 : (l1 = 0 ∨ l1 = 1)) (hD : m_simpleType g l1 m = some mF) : Wq O F (Cd O F rp_P dd) (2, 0, rw_X12_simpleType, []) (rx_at rw_X12_simpleType 0) la [] h (QN h0 mF) := by
  unfold m_simpleType at hD
  refine wq_aload_n k0 rfl ?_
  refine wm_gfi hr rfl rfl (fun pp1 => ?_)
  refine wq_bipush (by decide) rfl ?_
  refine wq_icmp_ne pp1 ⟨by decide, by decide⟩ rfl rfl rfl (fun c2 => ?_) (fun c2 => ?_)
  · rw [if_neg c2] at hD
    refine wq_aload_n k0 rfl ?_
    obtain ⟨v7, m3, q6, hD⟩ := vb_of hD
    refine wm_cvZ hr (c_beginsRange (by omega) hr q6) rfl rfl rfl (fun h4 hr5 pp8 => ?_)
    refine wq_if_eq (InI_z pp8) rfl rfl rfl (fun c9 => ?_) (fun c9 => ?_)
    · rw [if_pos c9] at hD
      refine wq_aload_n k0 rfl ?_
      refine wq_iload_n k1 rfl ?_
      obtain ⟨m10, q13, hD⟩ := nb_of hD
      refine wm_cvN hr5 (c_nameOfType (by omega) hr5 pl1 q13) rfl rfl rfl (fun h11 hr12 => ?_)
      exact c_m_simpleType_50_b hd hr12 hD
    · rw [if_neg c9] at hD
      refine wq_aload_n k0 rfl ?_
      obtain ⟨m14, q17, hD⟩ := nb_of hD
      refine wm_cvN hr5 (c_range (by omega) hr5 q17) rfl rfl rfl (fun h15 hr16 => ?_)
      refine wq_goto rfl rfl ?_
      exact c_m_simpleType_50_b hd hr16 hD
  · rw [if_pos c2] at hD
    refine wq_aload_n k0 rfl ?_
    refine wq_iconst rfl ?_
    obtain ⟨m18, e19, hD⟩ := wlet_of hD
    refine wm_pfi hr rfl rfl ⟨by decide, by decide⟩ rfl (fun h20 hr21 => ?_)
    rw [← e19] at hr21
    refine wq_aload_n k0 rfl ?_
    refine wq_iconst rfl ?_
    obtain ⟨m22, e23, hD⟩ := wlet_of hD
    refine wm_pfz hr21 rfl rfl (Or.inl rfl) rfl (fun h24 hr25 => ?_)
    rw [← e23] at hr25
    refine wq_aload_n k0 rfl ?_
    refine wq_iconst rfl ?_
    obtain ⟨m26, e27, hD⟩ := wlet_of hD
    refine wm_pfz hr25 rfl rfl (Or.inl rfl) rfl (fun h28 hr29 => ?_)
    rw [← e27] at hr29
    refine wq_aload_n k0 rfl ?_
    obtain ⟨m30, q33, hD⟩ := nb_of hD
    refine wm_cvN hr29 (c_take (by omega) hr29 q33) rfl rfl rfl (fun h31 hr32 => ?_)
    refine wq_goto rfl rfl ?_
    exact c_m_simpleType_50_b hd hr32 hD
theorem c_simpleType {d : Nat} (hd : 6 ≤ d) {g : Nat} {h0 h : RHeap} {m : MS} {l1 : Int} {mF : MS} (hr : RM h0 h m) (pl1 : (l1 = 0 ∨ l1 = 1)) (hD : m_simpleType g l1 m = some mF) : Cq (Cd O F rp_P d) 274 [.ref 170, wvi l1] h (QN h0 mF) := by
  refine cq_of (I := (2, 0, rw_X12_simpleType, [])) rfl rfl (by omega) ?_
  exact c_m_simpleType_b (by omega) rfl rfl hr pl1 hD
def m_type_28 (g : Nat) (m : MS) : Option MS := some m
theorem c_m_type_28_b {dd : Nat} (hd : 6 ≤ dd) {g : Nat} {h0 : RHeap} {mF : MS} {la : RLoc} {h : RHeap} {m : MS} (hr : RM h0 h m) (hD : m_type_28 g m = some mF) : Wq O F (Cd O F rp_P dd) (4, 0, rw_X12_type, []) (rx_at rw_X12_type 28) la [] h (QN h0 mF) := by
  unfold m_type_28 at hD
  cases hD
  exact wq_return rfl ⟨_, rfl, hr⟩
def m_type_16 (g : Nat) (m : MS) : Option MS := if (m 6 0) = 0 then nb (m_simpleType g 1 m) (fun m51 => m_type_28 g m51) else m_type_28 g m
theorem c_m_type_16_b {dd : Nat} (hd : 6 ≤ dd) {g : Nat} {h0 : RHeap} {mF : MS} {la : RLoc} {h : RHeap} {m : MS} (k0 : rx_look la 0 = some (.ref 170)) (hr : RM h0 h m) (hD : m_type_16 g m = some mF) : Wq O F (Cd O F rp_P dd) (4, 0, rw_X12_type, []) (rx_at rw_X12_type 16) la [] h (QN h0 mF) := by
  unfold m_type_16 at hD
  refine wq_aload_n k0 rfl ?_
  refine wm_gfi hr rfl rfl (fun pp49 => ?_)
  refine wq_if_ne pp49 rfl rfl rfl (fun c50 => ?_) (fun c50 => ?_)
  · rw [if_neg c50] at hD
    exact c_m_type_28_b hd hr hD
  · rw [if_pos c50] at hD
    refine wq_aload_n k0 rfl ?_
    refine wq_iconst rfl ?_
    obtain ⟨m51, q54, hD⟩ := nb_of hD
    refine wm_cvN hr (c_simpleType (by omega) hr (Or.inr rfl) q54) rfl rfl rfl (fun h52 hr53 => ?_)
    exact c_m_type_28_b hd hr53 hD
def m_type_186 (g : Nat) (l1 : Int) (l2 : Int) (l3 : Int) (m : MS) : Option MS := wlet (mset m 37 0 1) (fun m95 => wlet (mset m95 38 0 l3) (fun m99 => wlet (mset m99 39 0 l1) (fun m103 => wlet (mset m103 40 0 l2) (fun m107 => some m107))))
theorem c_m_type_186_b {dd : Nat} (hd : 6 ≤ dd) {g : Nat} {h0 : RHeap} {mF : MS} {la : RLoc} {h : RHeap} {m : MS} {l1 l2 l3 : Int} (k0 : rx_look la 0 = some (.ref 170)) (k1 : rx_look la 1 = some (wvi l1)) (k2 : rx_look la 2 = some (wvi l2)) (k3 : rx_look la 3 = some (wvi l3)) (hr : RM h0 h m) (pl1 : InI l1) (pl2 : InI l2) (pl3 : InI l3) (hD : m_type_186 g l1 l2 l3 m = some mF) : Wq O F (Cd O F rp_P dd) (4, 0, rw_X12_type, []) (rx_at rw_X12_type 186) la [] h (QN h0 mF) := by
  unfold m_type_186 at hD
  refine wq_aload_n k0 rfl ?_
  refine wq_iconst rfl ?_
  obtain ⟨m95, e96, hD⟩ := wlet_of hD
  refine wm_pfz hr rfl rfl (Or.inr rfl) rfl (fun h97 hr98 => ?_)
  rw [← e96] at hr98
  refine wq_aload_n k0 rfl ?_
  refine wq_iload_n k3 rfl ?_
  obtain ⟨m99, e100, hD⟩ := wlet_of hD
  refine wm_pfi hr98 rfl rfl pl3 rfl (fun h101 hr102 => ?_)
  rw [← e100] at hr102
  refine wq_aload_n k0 rfl ?_
  refine wq_iload_n k1 rfl ?_
  obtain ⟨m103, e104, hD⟩ := wlet_of hD
  refine wm_pfi hr102 rfl rfl pl1 rfl (fun h105 hr106 => ?_)
  rw [← e104] at hr106
  refine wq_aload_n k0 rfl ?_
  refine wq_iload_n k2 rfl ?_
  obtain ⟨m107, e108, hD⟩ := wlet_of hD
  refine wm_pfi hr106 rfl rfl pl2 rfl (fun h109 hr110 => ?_)
  rw [← e108] at hr110
  cases hD
  exact wq_return rfl ⟨_, rfl, hr110⟩
def m_type_162 (g : Nat) (l1 : Int) (l2 : Int) (l3 : Int) (m : MS) : Option MS := nb (m_want g 19 m) (fun m81 => nb (m_want g 48 m81) (fun m85 => if (m85 6 0) = 0 then nb (m_simpleType g 0 m85) (fun m91 => m_type_186 g l1 l2 l3 m91) else m_type_186 g l1 l2 l3 m85))
theorem c_m_type_162_b {dd : Nat} (hd : 6 ≤ dd) {g : Nat} {h0 : RHeap} {mF : MS} {la : RLoc} {h : RHeap} {m : MS} {l1 l2 l3 : Int} (k0 : rx_look la 0 = some (.ref 170)) (k1 : rx_look la 1 = some (wvi l1)) (k2 : rx_look la 2 = some (wvi l2)) (k3 : rx_look la 3 = some (wvi l3)) (hr : RM h0 h m) (pl1 : InI l1) (pl2 : InI l2) (pl3 : InI l3) (hD : m_type_162 g l1 l2 l3 m = some mF) : Wq O F (Cd O F rp_P dd) (4, 0, rw_X12_type, []) (rx_at rw_X12_type 162) la [] h (QN h0 mF) := by
  unfold m_type_162 at hD
  refine wq_aload_n k0 rfl ?_
  refine wq_bipush (by decide) rfl ?_
  obtain ⟨m81, q84, hD⟩ := nb_of hD
  refine wm_cvN hr (c_want (by omega) hr ⟨by decide, by decide⟩ q84) rfl rfl rfl (fun h82 hr83 => ?_)
  refine wq_aload_n k0 rfl ?_
  refine wq_bipush (by decide) rfl ?_
  obtain ⟨m85, q88, hD⟩ := nb_of hD
  refine wm_cvN hr83 (c_want (by omega) hr83 ⟨by decide, by decide⟩ q88) rfl rfl rfl (fun h86 hr87 => ?_)
  refine wq_aload_n k0 rfl ?_
  refine wm_gfi hr87 rfl rfl (fun pp89 => ?_)
  refine wq_if_ne pp89 rfl rfl rfl (fun c90 => ?_) (fun c90 => ?_)
  · rw [if_neg c90] at hD
    exact c_m_type_186_b hd k0 k1 k2 k3 hr87 pl1 pl2 pl3 hD
  · rw [if_pos c90] at hD
    refine wq_aload_n k0 rfl ?_
    refine wq_iconst rfl ?_
    obtain ⟨m91, q94, hD⟩ := nb_of hD
    refine wm_cvN hr87 (c_simpleType (by omega) hr87 (Or.inl rfl) q94) rfl rfl rfl (fun h92 hr93 => ?_)
    exact c_m_type_186_b hd k0 k1 k2 k3 hr93 pl1 pl2 pl3 hD
def m_type_119 (g : Nat) (m : MS) : Option MS := if (m 6 0) = 0 then if (i64 ((m 36 0) - (m 35 0))) < 500 then m_type_162 g (m 35 0) (m 36 0) (m 33 0) m else nb (m_fail 5 (m 9 0) m) (fun m77 => m_type_162 g (m 35 0) (m 36 0) (m 33 0) m77) else m_type_162 g (m 35 0) (m 36 0) (m 33 0) m
theorem c_m_type_119_b {dd : Nat} (hd : 6 ≤ dd) {g : Nat} {h0 : RHeap} {mF : MS} {la : RLoc} {h : RHeap} {m : MS} (k0 : rx_look la 0 = some (.ref 170)) (hr : RM h0 h m) (hD : m_type_119 g m = some mF) : Wq O F (Cd O F rp_P dd) (4, 0, rw_X12_type, []) (rx_at rw_X12_type 119) la [] h (QN h0 mF) := by
  unfold m_type_119 at hD
  refine wq_aload_n k0 rfl ?_
  refine wm_gfi hr rfl rfl (fun pp55 => ?_)
  refine wl_istore_n rfl rfl (fun la56 kk57 t58 => ?_)
  have kk59 := t58 0 _ (by decide) (Or.inr rfl) k0
  refine wq_aload_n kk59 rfl ?_
  refine wm_gfi hr rfl rfl (fun pp60 => ?_)
  refine wl_istore_n rfl rfl (fun la61 kk62 t63 => ?_)
  have kk64 := t63 0 _ (by decide) (Or.inr rfl) kk59
  have kk65 := t63 1 _ (by decide) (Or.inr rfl) kk57
  refine wq_aload_n kk64 rfl ?_
  refine wm_gfi hr rfl rfl (fun pp66 => ?_)
  refine wl_istore_n rfl rfl (fun la67 kk68 t69 => ?_)
  have kk70 := t69 0 _ (by decide) (Or.inr rfl) kk64
  have kk71 := t69 1 _ (by decide) (Or.inr rfl) kk65
  have kk72 := t69 2 _ (by decide) (Or.inr rfl) kk62
  refine wq_aload_n kk70 rfl ?_
  refine wm_gfi hr rfl rfl (fun pp73 => ?_)
  refine wq_if_ne pp73 rfl rfl rfl (fun c74 => ?_) (fun c74 => ?_)
  · rw [if_neg c74] at hD
    exact c_m_type_162_b hd kk70 kk71 kk72 kk68 hr pp55 pp60 pp66 hD
  · rw [if_pos c74] at hD
    refine wq_iload_n kk72 rfl ?_
    refine wq_i2l pp60 rfl ?_
    refine wq_iload_n kk71 rfl ?_
    refine wq_i2l pp55 rfl ?_
    refine wq_lsub rfl ?_
    refine wq_ldc2 (x := 500) (by decide) rfl ?_
    refine wq_lc_lt (InL_i64 _) ⟨by decide, by decide⟩ rfl rfl rfl rfl (fun c75 => ?_) (fun c75 => ?_)
    · rw [if_pos c75] at hD
      exact c_m_type_162_b hd kk70 kk71 kk72 kk68 hr pp55 pp60 pp66 hD
    · rw [if_neg (Int.not_lt.mpr c75)] at hD
      refine wq_aload_n kk70 rfl ?_
      refine wq_iconst rfl ?_
      refine wq_aload_n kk70 rfl ?_
      refine wm_gfi hr rfl rfl (fun pp76 => ?_)
      obtain ⟨m77, q80, hD⟩ := nb_of hD
      refine wm_cvN hr (c_fail (by omega) hr ⟨by decide, by decide⟩ pp76 q80) rfl rfl rfl (fun h78 hr79 => ?_)
      exact c_m_type_162_b hd kk70 kk71 kk72 kk68 hr79 pp55 pp60 pp66 hD
def m_type_107 (g : Nat) (m : MS) : Option MS := if (m 6 0) = 0 then nb (m_nameOfType g 0 m) (fun m118 => m_type_119 g m118) else m_type_119 g m
theorem c_m_type_107_b {dd : Nat} (hd : 6 ≤ dd) {g : Nat} {h0 : RHeap} {mF : MS} {la : RLoc} {h : RHeap} {m : MS} (k0 : rx_look la 0 = some (.ref 170)) (hr : RM h0 h m) (hD : m_type_107 g m = some mF) : Wq O F (Cd O F rp_P dd) (4, 0, rw_X12_type, []) (rx_at rw_X12_type 107) la [] h (QN h0 mF) := by
  unfold m_type_107 at hD
  refine wq_aload_n k0 rfl ?_
  refine wm_gfi hr rfl rfl (fun pp116 => ?_)
  refine wq_if_ne pp116 rfl rfl rfl (fun c117 => ?_) (fun c117 => ?_)
  · rw [if_neg c117] at hD
    exact c_m_type_119_b hd k0 hr hD
  · rw [if_pos c117] at hD
    refine wq_aload_n k0 rfl ?_
    refine wq_iconst rfl ?_
    obtain ⟨m118, q121, hD⟩ := nb_of hD
    refine wm_cvN hr (c_nameOfType (by omega) hr (Or.inl rfl) q121) rfl rfl rfl (fun h119 hr120 => ?_)
    exact c_m_type_119_b hd k0 hr120 hD
def m_type_98 (g : Nat) (m : MS) : Option MS := nb (m_fail 1 (m 9 0) m) (fun m112 => m_type_107 g m112)
theorem c_m_type_98_b {dd : Nat} (hd : 6 ≤ dd) {g : Nat} {h0 : RHeap} {mF : MS} {la : RLoc} {h : RHeap} {m : MS} (k0 : rx_look la 0 = some (.ref 170)) (hr : RM h0 h m) (hD : m_type_98 g m = some mF) : Wq O F (Cd O F rp_P dd) (4, 0, rw_X12_type, []) (rx_at rw_X12_type 98) la [] h (QN h0 mF) := by
  unfold m_type_98 at hD
  refine wq_aload_n k0 rfl ?_
  refine wq_iconst rfl ?_
  refine wq_aload_n k0 rfl ?_
  refine wm_gfi hr rfl rfl (fun pp111 => ?_)
  obtain ⟨m112, q115, hD⟩ := nb_of hD
  refine wm_cvN hr (c_fail (by omega) hr ⟨by decide, by decide⟩ pp111 q115) rfl rfl rfl (fun h113 hr114 => ?_)
  exact c_m_type_107_b hd k0 hr114 hD
def m_type (g : Nat) (m : MS) : Option MS := if 0 < (m 6 0) then m_type_16 g m else if (m 10 0) = 49 then nb (m_take g m) (fun m5 => nb (m_want g 18 m5) (fun m9 => if 0 < (m9 6 0) then some m9 else vb (m_beginsRange g m9) (fun v19 m15 => if v19 = 0 then vb (m_known g m15) (fun v26 m22 => if v26 < 0 then m_type_107 g m22 else ck v26 140 (if (m22 17 v26) = 1 then ck v26 140 (if (m22 21 v26) = 0 then m_type_98 g m22 else ck v26 140 (if (m22 24 v26) = 0 then m_type_107 g m22 else m_type_98 g m22)) else m_type_98 g m22)) else nb (m_range g m15) (fun m45 => m_type_119 g m45)))) else m_type_16 g m
theorem c_m_type_b {dd : Nat} (hd : 6 ≤ dd) {g : Nat} {h0 : RHeap} {mF : MS} {la : RLoc} {h : RHeap} {m : MS} (k0 : rx_look la 0 = some (.ref 170)) (hr : RM h0 h m) (hD : m_type g m = some mF) : Wq O F (Cd O F rp_P dd) (4, 0, rw_X12_type, []) (rx_at rw_X12_type 0) la [] h (QN h0 mF) := by
  unfold m_type at hD
  refine wq_aload_n k0 rfl ?_
  refine wm_gfi hr rfl rfl (fun pp1 => ?_)
  refine wq_if_gt pp1 rfl rfl rfl (fun c2 => ?_) (fun c2 => ?_)
  · rw [if_pos c2] at hD
    exact c_m_type_16_b hd k0 hr hD
  · rw [if_neg (Int.not_lt.mpr c2)] at hD
    refine wq_aload_n k0 rfl ?_
    refine wm_gfi hr rfl rfl (fun pp3 => ?_)
    refine wq_bipush (by decide) rfl ?_
    refine wq_icmp_eq pp3 ⟨by decide, by decide⟩ rfl rfl rfl (fun c4 => ?_) (fun c4 => ?_)
    · rw [if_pos c4] at hD
      refine wq_aload_n k0 rfl ?_
      obtain ⟨m5, q8, hD⟩ := nb_of hD
      refine wm_cvN hr (c_take (by omega) hr q8) rfl rfl rfl (fun h6 hr7 => ?_)
      refine wq_aload_n k0 rfl ?_
      refine wq_bipush (by decide) rfl ?_
      obtain ⟨m9, q12, hD⟩ := nb_of hD
      refine wm_cvN hr7 (c_want (by omega) hr7 ⟨by decide, by decide⟩ q12) rfl rfl rfl (fun h10 hr11 => ?_)
      refine wq_aload_n k0 rfl ?_
      refine wm_gfi hr11 rfl rfl (fun pp13 => ?_)
      refine wq_if_le pp13 rfl rfl rfl (fun c14 => ?_) (fun c14 => ?_)
      · rw [if_neg (Int.not_lt.mpr c14)] at hD
        refine wq_aload_n k0 rfl ?_
        obtain ⟨v19, m15, q18, hD⟩ := vb_of hD
        refine wm_cvZ hr11 (c_beginsRange (by omega) hr11 q18) rfl rfl rfl (fun h16 hr17 pp20 => ?_)
        refine wq_if_eq (InI_z pp20) rfl rfl rfl (fun c21 => ?_) (fun c21 => ?_)
        · rw [if_pos c21] at hD
          refine wq_aload_n k0 rfl ?_
          obtain ⟨v26, m22, q25, hD⟩ := vb_of hD
          refine wm_cvI hr17 (c_known (by omega) hr17 q25) rfl rfl rfl (fun h23 hr24 pp27 => ?_)
          refine wl_istore_n rfl rfl (fun la28 kk29 t30 => ?_)
          have kk31 := t30 0 _ (by decide) (Or.inr rfl) k0
          refine wq_iload_n kk29 rfl ?_
          refine wq_if_lt pp27 rfl rfl rfl (fun c32 => ?_) (fun c32 => ?_)
          · rw [if_pos c32] at hD
            exact c_m_type_107_b hd kk31 hr24 hD
          · rw [if_neg (Int.not_lt.mpr c32)] at hD
            refine wq_aload_n kk31 rfl ?_
            refine wm_gfa (c := 0) hr24 rfl rfl ?_
            refine wq_iload_n kk29 rfl ?_
            obtain ⟨g33, g34, hD⟩ := ck_of hD
            refine wm_ali (f := 17) hr24 rfl pp27 g33 g34 rfl (fun pp35 => ?_)
            refine wq_iconst rfl ?_
            refine wq_icmp_ne pp35 ⟨by decide, by decide⟩ rfl rfl rfl (fun c36 => ?_) (fun c36 => ?_)
            · rw [if_neg c36] at hD
              exact c_m_type_98_b hd kk31 hr24 hD
            · rw [if_pos c36] at hD
              refine wq_aload_n kk31 rfl ?_
              refine wm_gfa (c := 3) hr24 rfl rfl ?_
              refine wq_iload_n kk29 rfl ?_
              obtain ⟨g37, g38, hD⟩ := ck_of hD
              refine wm_alz (f := 21) hr24 rfl pp27 g37 g38 rfl (fun pp39 => ?_)
              refine wq_if_eq (InI_z pp39) rfl rfl rfl (fun c40 => ?_) (fun c40 => ?_)
              · rw [if_pos c40] at hD
                exact c_m_type_98_b hd kk31 hr24 hD
              · rw [if_neg c40] at hD
                refine wq_aload_n kk31 rfl ?_
                refine wm_gfa (c := 3) hr24 rfl rfl ?_
                refine wq_iload_n kk29 rfl ?_
                obtain ⟨g41, g42, hD⟩ := ck_of hD
                refine wm_alz (f := 24) hr24 rfl pp27 g41 g42 rfl (fun pp43 => ?_)
                refine wq_if_eq (InI_z pp43) rfl rfl rfl (fun c44 => ?_) (fun c44 => ?_)
                · rw [if_pos c44] at hD
                  exact c_m_type_107_b hd kk31 hr24 hD
                · rw [if_neg c44] at hD
                  exact c_m_type_98_b hd kk31 hr24 hD
        · rw [if_neg c21] at hD
          refine wq_aload_n k0 rfl ?_
          obtain ⟨m45, q48, hD⟩ := nb_of hD
          refine wm_cvN hr17 (c_range (by omega) hr17 q48) rfl rfl rfl (fun h46 hr47 => ?_)
          refine wq_goto rfl rfl ?_
          exact c_m_type_119_b hd k0 hr47 hD
      · rw [if_pos c14] at hD
        cases hD
        exact wq_return rfl ⟨_, rfl, hr11⟩
    · rw [if_neg c4] at hD
      exact c_m_type_16_b hd k0 hr hD
theorem c_type {d : Nat} (hd : 7 ≤ d) {g : Nat} {h0 h : RHeap} {m : MS} {mF : MS} (hr : RM h0 h m) (hD : m_type g m = some mF) : Cq (Cd O F rp_P d) 291 [.ref 170] h (QN h0 mF) := by
  refine cq_of (I := (4, 0, rw_X12_type, [])) rfl rfl (by omega) ?_
  exact c_m_type_b (by omega) rfl hr hD
end Dec
