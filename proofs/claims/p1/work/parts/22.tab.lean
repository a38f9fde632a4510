section CtrV
variable {l : Launch} {O : ROld} {F : RFacts} {D : va_G} {cA : Nat → ClassId} {A : Nat → Prop} {old : Nat → Nat} {rho : UInt32 → Int32} {sigs : List RSig} {steps : Nat}
theorem rx_hand_of {pc E t : Nat} {y : Nat × Nat × Nat × Nat} (h : rx_hand pc E [y] = some t) : y.1 ≤ pc ∧ pc < y.2.1 ∧ y.2.2.2 = E ∧ y.2.2.1 = t := by
  obtain ⟨a, b, t2, e⟩ := y
  simp only [rx_hand] at h
  cases g1 : Nat.ble a pc <;> cases g2 : Nat.blt pc b <;> cases g3 : Nat.beq e E <;> simp only [g1, g2, g3] at h <;> first | (cases h; done) | skip
  exact ⟨Nat.le_of_ble_eq_true g1, Nat.le_of_ble_eq_true g2, Nat.eq_of_beq_eq_true g3, Option.some.inj h⟩
theorem rx_tab_ok {d : Nat} {C9 : Nat → List Value → RHeap → Option RRes} {sg : RSig} {I : RInf} (hF : rx_FT2 rho F) (hO1 : ∀ q ∈ O.1, q.1 < 1000000) (hO2 : ∀ q ∈ O.2, q.1 < 1000000 ∧ (q.2.1 = 0 ∨ q.2.1 = 2)) (g2 : rx_mok0 sg I = true) (g3 : rx_rowsok sigs sg I.2.2.1 = true)
    (ih : ∀ (mi : Nat) (as : List Value) (h : RHeap) (r : RRes), C9 mi as h = some r → ∀ sg, sigs[mi]? = some sg → rx_CS l O D cA A old rho sg d as h r ∧ sg.2.2.2.2.2.2.2.1 = [])
    (hpn : Jvm.plainName sg.1.cls = true) {xr : Nat × Nat × Nat × Nat} (hraw : sg.2.2.2.2.2.2.2.1 = [xr])
    {as : List Value} {h hf0 : RHeap} {v : Option Value} {mc ms : Nat} (hcats : rx_cats as ≤ I.1) (hr : rx_run O F C9 I steps I.2.2.1 (lv_args 0 as) [] h = some (.inl v, hf0, mc, ms)) : rx_CS l O D cA A old rho sg (d + 1) as h (.inl v, hf0, mc, ms) := by
  obtain ⟨m1, m2, m3, m4, m6⟩ := rx_mok0_of g2
  have ih1 : ∀ (mi : Nat) (as : List Value) (h : RHeap) (r : RRes), C9 mi as h = some r → ∀ sg, sigs[mi]? = some sg → rx_CS l O D cA A old rho sg d as h r := fun mi as h r hr sg hsg => (ih mi as h r hr sg hsg).1
  have hcw : rx_cw sg = .codeWith sg.1 sg.2.1 I.1 sg.2.2.1 [xr] := by
    unfold rx_cw
    rw [hraw, m1]
  rw [hraw] at m6
  obtain ⟨yr, hI4⟩ : ∃ yr, I.2.2.2 = [yr] := by
    cases hz : I.2.2.2 with
    | nil => rw [hz] at m6; cases m6
    | cons a b =>
      cases b with
      | nil => exact ⟨a, rfl⟩
      | cons b c => rw [hz] at m6; cases m6
  rw [hI4] at m6
  have m6 : (Nat.beq xr.1 yr.1 && Nat.beq xr.2.1 yr.2.1 && Nat.beq xr.2.2.1 yr.2.2.1 && !Nat.beq xr.2.2.2 0 && rx_any (.classLink sg.1.cls xr.2.2.2 (rx_XN yr.2.2.2))) = true := m6
  simp only [Bool.and_eq_true] at m6
  obtain ⟨⟨⟨⟨n1, n2⟩, n3⟩, n4⟩, n5⟩ := m6
  have n1 := Nat.eq_of_beq_eq_true n1
  have n2 := Nat.eq_of_beq_eq_true n2
  have n3 := Nat.eq_of_beq_eq_true n3
  have n4 : xr.2.2.2 ≠ 0 := by
    intro z
    rw [z] at n4
    cases n4
  intro ad
  rw [hcw]
  refine va_MetW (cc := sg.2.1) (maxL := I.1) (ret := sg.2.2.1) (hh := [xr]) hpn rfl ?_
  intro p e s m args below meth c s₁ B hml hv
  obtain ⟨cs, ws, rfl, rfl, q3, q4, q5, q6, q7⟩ := hv
  have hts0 := atoms_spec (ws := Cond.codeWith sg.1 sg.2.1 I.1 sg.2.2.1 [xr] :: rc_good) B.pre
  have hts : ∀ w ∈ rc_good, w.before cs.toArray s = true := fun w hw => hts0 w (List.mem_cons_of_mem _ hw)
  have htab := vx_table (x := sg.1) B (hts0 _ List.mem_cons_self)
  have hr9 := B.returns
  have hlocks := B.notSynchronized
  have hown := findClass_of_methodNamed B.named
  have hS : CallFix p m c sg.2.1 I.1 s cs.toArray rc_good sg.1.cls := ⟨B.exec, B.bytes, hml, hown, hts⟩
  have hfr : d + 11 ≤ (headSpec (Cond.codeWith sg.1 sg.2.1 I.1 sg.2.2.1 [xr] :: rc_good) (rx_rm (d + 1) mc ms)).room.frames := by show d + 11 ≤ d + 1 + 10; omega
  have hlo : 64 * d + 264 ≤ (headSpec (Cond.codeWith sg.1 sg.2.1 I.1 sg.2.2.1 [xr] :: rc_good) (rx_rm (d + 1) mc ms)).room.locals := by show 64 * d + 264 ≤ 64 * (d + 1) + 200; omega
  refine rx_body hF hO1 hO2 g2 g3 ih1 B.exec B.bytes hml hown (name_of_methodNamed B.named B.method).1 hts q7 (Nat.le_refl _) (Nat.le_refl _) hfr hlo hcats q3 q4 q5 q6 hr ?_ ?_ ?_ ?_ ?_ ?_ ?_
  · intro pc x mi n ci w E la st as r a h h2 mc2 ms2 z1 z2 z3 z4 z5 z6 z7 z8
    cases z8
  · intro pc x mi n ci w E t la st as r a h h2 mc3 ms3 mc2 ms2 z1 z2 z3 z4 z5 z6 z7 z8
    rw [hI4] at z7
    obtain ⟨y1, y2, y3, y4⟩ := rx_hand_of z7
    refine rx_hcT (la := la) (below := below) (meth := meth) (e := e) hS q7 hO1 (Nat.le_refl _) (Nat.le_refl _) hfr hlo ih1 z1 z2 z3 z4 z5 z6 (fun sg hs => (ih _ _ _ _ z6 sg hs).2) (fun H locs ls rest cells slots ws2 lc q ce k1 k2 k3 k4 k5 k6 k7 k8 k9 k10 k11 k12 => ?_)
    have hcast : (Cond.castable (rx_XN E) (rx_XN E)).before cs.toArray s = true := by
      obtain ⟨-, -, -, -, -, -, -, -, -, -, -, -, -, h14, h15, -⟩ := q7
      unfold rx_XN
      split
      · exact h14.use rfl
      · exact h15.use rfl
    have hlink := hts _ (rx_any_mem n5)
    rw [y3] at hlink
    refine vx_catch (E := rx_XN E) (name := rx_XN E) hown [] ⟨xr.1, xr.2.1, xr.2.2.1, xr.2.2.2⟩ [] (by rw [htab]; rfl) (fun z hz => nomatch hz) ?_ n4 hlink hcast k8 k9 k10 ?_
    · show covers ⟨xr.1, xr.2.1, xr.2.2.1, xr.2.2.2⟩ pc = true
      unfold covers
      simp only [Bool.and_eq_true, decide_eq_true_eq]
      omega
    · have hpc : (⟨xr.1, xr.2.1, xr.2.2.1, xr.2.2.2⟩ : ExceptionTableEntry).handlerPc = t := n3.trans y4
      rw [hpc]
      exact z8 H locs ls _ cells slots ⟨ws2, lc, k1, k2, k3, k4, k5, k6, ⟨Or.inl ⟨Nat.le_refl _, Or.inr ⟨q, rfl⟩⟩, trivial⟩, k7⟩ k11 k12
  · intro pc x E w la st z1 z2 z3 z4
    rw [hI4] at z4
    cases z4
  · intro pc la z1 z2 z3
    have hret : sg.2.2.1 = none := by
      rw [z3] at m3
      cases hq : sg.2.2.1 with
      | none => rfl
      | some ty => rw [hq] at m3; cases m3
    exact rx_retv B.exec B.bytes hlocks (hr9.trans hret) (by cases z2; rfl) z1
  · intro pc la v9 z1 z2 z3
    cases z2
    refine rx_reti B.exec B.bytes hlocks ?_ z1
    rcases z3 with ⟨z3, z4⟩ | ⟨x, z4, ⟨z3, z5⟩ | ⟨z3, z5⟩ | ⟨z3, z5⟩⟩
    · refine Or.inl ⟨hr9.trans ?_, z4⟩
      rw [z3] at m3
      revert m3
      cases sg.2.2.1 with
      | none => intro m3; cases m3
      | some ty => cases ty <;> intro m3 <;> first | rfl | cases m3
    all_goals
      refine Or.inr ⟨x, z4, _, hr9.trans ?_, z5⟩
      rw [z3] at m3
      revert m3
      cases sg.2.2.1 with
      | none => intro m3; cases m3
      | some ty => cases ty <;> intro m3 <;> first | rfl | cases m3
  · intro pc la v9 z1 z2 z3 z4
    cases z2
    refine rx_retl B.exec B.bytes hlocks (hr9.trans ?_) z4 z1
    rw [z3] at m3
    revert m3
    cases sg.2.2.1 with
    | none => intro m3; cases m3
    | some ty => cases ty <;> intro m3 <;> first | rfl | cases m3
  · intro pc la v9 z1 z2 z3 z4
    cases z2
    obtain ⟨rt, e1, e2⟩ : ∃ rt, sg.2.2.1 = some rt ∧ ((∃ n, rt = .object n) ∨ ∃ t, rt = .array t) := by
      rw [z3] at m3
      revert m3
      cases sg.2.2.1 with
      | none => intro m3; cases m3
      | some ty => cases ty <;> intro m3 <;> first | exact ⟨_, rfl, Or.inl ⟨_, rfl⟩⟩ | exact ⟨_, rfl, Or.inr ⟨_, rfl⟩⟩ | cases m3
    exact rx_reta B.exec B.bytes hlocks (hr9.trans e1) e2 z4 z1
end CtrV
