def rl_B1 : List Int32 := [99, 111, 110, 115, 116, 32, 116, 121, 112, 101, 32, 118, 97, 114, 32, 112, 114, 111, 99, 101, 100, 117, 114, 101, 32, 102, 117, 110, 99, 116, 105, 111, 110, 32, 98, 101, 103, 105, 110, 32, 101, 110, 100, 32, 105, 102, 32, 116, 104, 101, 110, 32, 101, 108, 115, 101, 32, 119, 104, 105, 108, 101, 32, 100, 111, 32, 114, 101, 112, 101, 97, 116, 32, 117, 110, 116, 105, 108, 32, 102, 111, 114, 32, 116, 111, 32, 100, 111, 119, 110, 116, 111, 32, 99, 97, 115, 101, 32, 111, 102, 32, 97, 114, 114, 97, 121, 32, 115, 101, 116, 32, 100, 105, 118, 32, 109, 111, 100, 32, 97, 110, 100, 32, 111, 114, 32, 110, 111, 116, 32, 105, 110, 32, 114, 101, 97, 100, 32, 119, 114, 105, 116, 101, 32, 119, 114, 105, 116, 101, 108, 110]
def rl_B2 : List Int32 := [105, 110, 116, 101, 103, 101, 114, 32, 99, 104, 97, 114, 32, 98, 111, 111, 108, 101, 97, 110, 32, 102, 97, 108, 115, 101, 32, 116, 114, 117, 101, 32, 111, 114, 100, 32, 99, 104, 114, 32, 115, 117, 99, 99, 32, 112, 114, 101, 100, 32, 111, 100, 100, 32, 97, 98, 115, 32, 115, 113, 114, 32, 101, 111, 102, 32, 101, 111, 108, 110]
theorem rl_b1_eq : rl_b1 = rl_B1.map Value.int := by decide +kernel
theorem rl_b2_eq : rl_b2 = rl_B2.map Value.int := by decide +kernel
def rl_tm (i : Nat) : Term := match i with
  | 0 => .string RX10 33
  | _ => .string RX5 55
def rl_flat : List Jvm.Cond := flatC (Jvm.Cond.and given_1 narrow_1)
theorem rl_s1 : (List.range 2).all (fun i => decide (Jvm.Cond.exactly (rl_tm i) "java/lang/String" ∈ rl_flat) && decide (Jvm.Cond.eq (.field (rl_tm i) "java/lang/String" "coder" "B") (.int 0) ∈ rl_flat) && decide (Jvm.Cond.arrayOf (.field (rl_tm i) "java/lang/String" "value" "[B") .byte ∈ rl_flat) && decide (Jvm.Cond.eq (.length (.field (rl_tm i) "java/lang/String" "value" "[B")) (.int (Int32.ofNat ([151, 70].getD i 0))) ∈ rl_flat)) = true := by decide +kernel
theorem rl_s2 : (rl_flat.drop 253).take 151 = (List.range 151).map (fun j => Jvm.Cond.eq (.elem (.field (rl_tm 0) "java/lang/String" "value" "[B") (.int (Int32.ofNat j))) (.int (rl_B1.getD j 0))) := by decide +kernel
theorem rl_s3 : (rl_flat.drop 408).take 70 = (List.range 70).map (fun j => Jvm.Cond.eq (.elem (.field (rl_tm 1) "java/lang/String" "value" "[B") (.int (Int32.ofNat j))) (.int (rl_B2.getD j 0))) := by decide +kernel
theorem rl_s4 : (decide (Jvm.Cond.not (Jvm.Cond.eq (rl_tm 0) (rl_tm 1)) ∈ rl_flat) || decide (Jvm.Cond.not (Jvm.Cond.eq (rl_tm 1) (rl_tm 0)) ∈ rl_flat)) = true := by decide +kernel
theorem rl_s5 : decide (Jvm.Cond.exactly (.string RX11 66) "java/lang/String" ∈ rl_flat) && decide (Jvm.Cond.exactly (.string RX11 113) "java/lang/String" ∈ rl_flat) && decide (Jvm.Cond.exactly (.string RX11 144) "java/lang/String" ∈ rl_flat) && decide (Jvm.Cond.exactly (.string RX10 150) "java/lang/String" ∈ rl_flat) && decide (Jvm.Cond.eq (.static "java/lang/String" "COMPACT_STRINGS" "Z") (.int 1) ∈ rl_flat) && decide (Jvm.Cond.isRef (.static "jdk/internal/util/Preconditions" "SIOOBE_FORMATTER" "Ljava/util/function/BiFunction;") ∈ rl_flat) && decide (Jvm.Cond.isRef (.static Bundle.tN "UNASSIGNED_STACK" Bundle.steD) ∈ rl_flat) && decide (Jvm.Cond.isRef (.static Bundle.tN "SUPPRESSED_SENTINEL" Bundle.listD) ∈ rl_flat) = true := by decide +kernel
theorem rl_arr {s : State} {args : Array Value} (hts : ∀ w ∈ lw_tbl, w.before args s = true) : ∃ cA : Nat → ClassId, ∀ (k : Nat) (q : ClassId × FieldType), (rx_tys cA)[k]? = some q → ArrOfT s q.1 q.2 ∧ va_RA s q.1 q.2 := by
  have hp : ∀ ty : FieldType, (Jvm.Cond.arrayClass ty).before args s = true → (∀ n, ty ≠ .object n) → ∃ c, ArrOfT s c ty ∧ va_RA s c ty := by
    intro ty h hn
    obtain ⟨c, k, comp, g1, g2, g3⟩ := Cond.arrayClass_spec (show (Cond.arrayClass ty).holds args s none s [] = true from h)
    refine ⟨c, fun N z => ⟨(fun k h => by cases h), k, g2, comp, g3⟩, ?_⟩
    cases ty with
    | object n => exact absurd rfl (hn n)
    | _ => exact g1
  have hq : ∀ n : String, (Jvm.Cond.arrayOver (.object n)).before args s = true → ∃ c, ArrOfT s c (.object n) ∧ va_RA s c (.object n) := by
    intro n h
    obtain ⟨comp, c, k, g1, g2, g3, g4, g5⟩ := Cond.arrayOver_spec (show (Cond.arrayOver (.object n)).holds args s none s [] = true from h)
    exact ⟨c, fun N z => ⟨(fun k h => by cases h), k, g3, comp, g4⟩, k, comp, g3, g4, g1, g5⟩
  obtain ⟨c0, h0⟩ := hp .int (hts _ (List.mem_of_getElem? (i := 328) (by decide +kernel))) (fun n z => by cases z)
  obtain ⟨c1, h1⟩ := hp .long (hts _ (List.mem_of_getElem? (i := 327) (by decide +kernel))) (fun n z => by cases z)
  obtain ⟨c2, h2⟩ := hp .byte (hts _ (List.mem_of_getElem? (i := 230) (by decide +kernel))) (fun n z => by cases z)
  obtain ⟨c3, h3⟩ := hp .boolean (hts _ (List.mem_of_getElem? (i := 450) (by decide +kernel))) (fun n z => by cases z)
  obtain ⟨c4, h4⟩ := hq RX4 (hts _ (List.mem_of_getElem? (i := 493) (by decide +kernel)))
  obtain ⟨c5, h5⟩ := hq RX9 (hts _ (List.mem_of_getElem? (i := 411) (by decide +kernel)))
  refine ⟨fun t => match t with | 0 => c0 | 1 => c1 | 2 => c2 | 3 => c3 | 4 => c4 | _ => c5, fun k q hk => ?_⟩
  match k, hk with
  | 0, hk => cases hk; exact h0
  | 1, hk => cases hk; exact h1
  | 2, hk => cases hk; exact h2
  | 3, hk => cases hk; exact h3
  | 4, hk => cases hk; exact h4
  | 5, hk => cases hk; exact h5
  | k + 6, hk => cases hk
theorem rl_vkR {own tx : String} {k a : Nat} {A : Array Value} {U : State} (h1 : (Jvm.Cond.stringRef own k tx).before A U = true) (h2 : (Term.string own k).eval A U none [] U = some (.ref a)) : vk_R own k tx a U := vk_R.of h1 h2
theorem rl_env {s : State} {b L : Nat} {xs : Nat → Int32} {rho : UInt32 → Int32} (hts : ∀ w ∈ lw_tbl, w.before #[Value.ref b] s = true) (hgv : (Jvm.Cond.and given_1 narrow_1).before #[Value.ref b] s = true) (hX : va_X b L xs s s.heap) (hbl : b < s.heap.size) :
    ∃ (D : va_G) (cA : Nat → ClassId) (old : Nat → Nat), old 0 = b ∧ ∀ sc : List Value, sc.length = L → (∀ (i : Nat) (v : Value), sc[i]? = some v → ∀ old ads, rx_R old rho ads v (.int (xs i))) → rx_E (rl_O1, (0, 0, sc) :: rl_O.2) D cA (fun q => s.heap.size ≤ q) old rho s := by
  have hs : ∀ w ∈ rl_flat, w.before #[Value.ref b] s = true := flat_of_before _ hgv
  have htg : ∀ w ∈ rc_good, w.before #[Value.ref b] s = true := fun w hw => hts w (List.mem_filter.mp hw).1
  have hA : ∀ a : Nat, a < s.heap.size → ¬ s.heap.size ≤ a := fun a h1 h2 => Nat.not_lt.mpr h2 h1
  have h0 : ∀ ci : Nat, ∃ q : ClassId × (Nat → Nat), ∀ r : vw_C, rc_cls[ci]? = some r → u_Kn s r.1 r.2.1 r.2.2 q.1 q.2 := by
    intro ci
    cases hc : rc_cls[ci]? with
    | none => exact ⟨(0, fun _ => 0), fun r hr => by cases hr⟩
    | some r =>
      obtain ⟨C, T, N⟩ := r
      obtain ⟨cC, iS, hk⟩ := u_known (n := N) htg (rc_ws_in hc) (rx_kw1 htg ci _ hc).1
      exact ⟨(cC, iS), fun r hr => by cases hr; exact hk⟩
  obtain ⟨dd, hdd⟩ := Classical.axiomOfChoice h0
  obtain ⟨cA, hcA⟩ := rl_arr hts
  have hK : va_K (fun c => (dd c).1, fun c => (dd c).2) rc_cls (rx_tys cA) s := ⟨fun c q hq => hdd c q hq, hcA⟩
  have hs1 : ∀ i, i < 2 → _ := fun i hi => List.all_eq_true.mp rl_s1 i (List.mem_range.mpr hi)
  simp only [Bool.and_eq_true, decide_eq_true_eq] at hs1
  have e5 := rl_s5
  simp only [Bool.and_eq_true, decide_eq_true_eq] at e5
  obtain ⟨⟨⟨⟨⟨⟨⟨z1, z2⟩, z3⟩, z4⟩, z5⟩, z6⟩, z7⟩, z8⟩ := e5
  obtain ⟨adK, adV, hS, hev⟩ := vk_Sof (args := #[Value.ref b]) (s := s) (N := 2) (tm := rl_tm) (len := [151, 70]) (byt := [rl_B1, rl_B2]) (A := fun q => s.heap.size ≤ q)
    (fun i hi => by rcases (show i = 0 ∨ i = 1 by omega) with rfl | rfl <;> decide)
    (fun i hi => hs _ (hs1 i hi).1.1.1) (fun i hi => hs _ (hs1 i hi).1.1.2) (fun i hi => hs _ (hs1 i hi).1.2) (fun i hi => hs _ (hs1 i hi).2)
    (fun i hi j hj => by
      rcases (show i = 0 ∨ i = 1 by omega) with rfl | rfl
      · exact hs _ (List.mem_of_mem_drop (i := 253) (List.mem_of_mem_take (i := 151) (by rw [rl_s2]; exact List.mem_map.mpr ⟨j, List.mem_range.mpr hj, rfl⟩)))
      · exact hs _ (List.mem_of_mem_drop (i := 408) (List.mem_of_mem_take (i := 70) (by rw [rl_s3]; exact List.mem_map.mpr ⟨j, List.mem_range.mpr hj, rfl⟩))))
    (fun i j hi hj hij => by
      have h4 := rl_s4
      simp only [Bool.or_eq_true, decide_eq_true_eq] at h4
      rcases (show (i = 0 ∧ j = 1) ∨ (i = 1 ∧ j = 0) by omega) with ⟨rfl, rfl⟩ | ⟨rfl, rfl⟩
      · exact h4.elim (fun z => Or.inl (hs _ z)) (fun z => Or.inr (hs _ z))
      · exact h4.elim (fun z => Or.inr (hs _ z)) (fun z => Or.inl (hs _ z)))
    hA
  obtain ⟨e0, -, -, -, q0, -⟩ := Cond.exactly_spec (args := #[Value.ref b]) (first := s) (o := none) (s := s) (idx := []) (hs _ z1)
  obtain ⟨e1, -, -, -, q1, -⟩ := Cond.exactly_spec (args := #[Value.ref b]) (first := s) (o := none) (s := s) (idx := []) (hs _ z2)
  obtain ⟨e2, -, -, -, q2, -⟩ := Cond.exactly_spec (args := #[Value.ref b]) (first := s) (o := none) (s := s) (idx := []) (hs _ z3)
  obtain ⟨e3, -, -, -, q3, -⟩ := Cond.exactly_spec (args := #[Value.ref b]) (first := s) (o := none) (s := s) (idx := []) (hs _ z4)
  have hv0 := hev 0 (by decide)
  have hv1 := hev 1 (by decide)
  obtain ⟨o1, o2, o3, o4⟩ := hS.1 0 (by decide)
  obtain ⟨p1, p2, p3, p4⟩ := hS.1 1 (by decide)
  refine ⟨_, cA, fun j => match j with | 0 => b | 1 => adK 0 | 2 => adV 0 | 3 => adK 1 | 4 => adV 1 | 10 => e0 | 11 => e1 | 12 => e2 | 13 => e3 | _ => 0, rfl, fun sc hlen hsc => ⟨hK, fun q hq => hq, ?_, ?_, ?_, ?_, ?_, ?_, ?_, ?_, ?_, ?_, ?_, ?_, ?_, ?_, ?_, ?_, ?_, ?_, ?_, ?_, ?_, ?_⟩⟩
  · intro q hq
    simp only [rl_O1, List.mem_cons, List.not_mem_nil, or_false] at hq
    rcases hq with rfl | rfl | rfl | rfl
    · exact ⟨RJ0, TJ0, 4, .ref (adV 0), rfl, o3, o1, fun ads => Or.inr (Or.inl ⟨by decide, by decide, rfl⟩)⟩
    · exact ⟨RJ0, TJ0, 4, .int 0, rfl, o2, o1, fun ads => rfl⟩
    · exact ⟨RJ0, TJ0, 4, .ref (adV 1), rfl, p3, p1, fun ads => Or.inr (Or.inl ⟨by decide, by decide, rfl⟩)⟩
    · exact ⟨RJ0, TJ0, 4, .int 0, rfl, p2, p1, fun ads => rfl⟩
  · intro q hq
    simp only [rl_O, List.mem_cons, List.not_mem_nil, or_false] at hq
    rcases hq with rfl | rfl | rfl
    · refine ⟨.int, fun j => .int (xs j), rfl, ?_, fun i v hv ads => hsc i v hv _ ads⟩
      obtain ⟨scr, g1, g2, g3, g4, g5⟩ := hX
      show va_T .int b sc.length _ _ s s.heap
      rw [hlen]
      exact ⟨scr, g1, g2, g3, Nat.le_of_eq g4.symm, by rw [g4], g5, hA b hbl⟩
    · refine ⟨.byte, _, rfl, o4, fun i v hv ads => ?_⟩
      have hv : rl_b1[i]? = some v := hv
      rw [rl_b1_eq, List.getElem?_map] at hv
      obtain ⟨w, hw, rfl⟩ := Option.map_eq_some_iff.mp hv
      show Value.int (rl_B1.getD i 0) = .int w
      rw [List.getD_eq_getElem?_getD, hw]
      rfl
    · refine ⟨.byte, _, rfl, p4, fun i v hv ads => ?_⟩
      have hv : rl_b2[i]? = some v := hv
      rw [rl_b2_eq, List.getElem?_map] at hv
      obtain ⟨w, hw, rfl⟩ := Option.map_eq_some_iff.mp hv
      show Value.int (rl_B2.getD i 0) = .int w
      rw [List.getD_eq_getElem?_getD, hw]
      rfl
  · exact va_Zof (hts _ (List.mem_of_getElem? (i := 250) (by decide +kernel))) (hts _ (List.mem_of_getElem? (i := 183) (by decide +kernel))) (va_eqt (hs _ z5)) hA
  · exact va_Zqof (hts _ (List.mem_of_getElem? (i := 266) (by decide +kernel))) (hts _ (List.mem_of_getElem? (i := 185) (by decide +kernel))) (hs _ z6) hA
  · exact va_AO.of (hts _ (List.mem_of_getElem? (i := 493) (by decide +kernel)))
  · exact va_AO.of (hts _ (List.mem_of_getElem? (i := 411) (by decide +kernel)))
  · exact va_Nw.of rfl (hts _ (List.mem_of_getElem? (i := 219) (by decide +kernel)))
  · exact va_Nw.of rfl (hts _ (List.mem_of_getElem? (i := 331) (by decide +kernel)))
  · exact va_Nw.of rfl (hts _ (List.mem_of_getElem? (i := 596) (by decide +kernel)))
  · exact rl_vkR (hts _ (List.mem_of_getElem? (i := 237) (by decide +kernel))) hv0
  · exact rl_vkR (hts _ (List.mem_of_getElem? (i := 494) (by decide +kernel))) hv1
  · exact va_Nw.of rfl (hts _ (List.mem_of_getElem? (i := 1309) (by decide +kernel)))
  · exact va_Nw.of rfl (hts _ (List.mem_of_getElem? (i := 786) (by decide +kernel)))
  · exact vx_Zqof (hts _ (List.mem_of_getElem? (i := 811) (by decide +kernel))) (hts _ (List.mem_of_getElem? (i := 200) (by decide +kernel))) (hs _ z7) hA
  · exact vx_Zqof (hts _ (List.mem_of_getElem? (i := 813) (by decide +kernel))) (hts _ (List.mem_of_getElem? (i := 200) (by decide +kernel))) (hs _ z8) hA
  · exact rl_vkR (hts _ (List.mem_of_getElem? (i := 1316) (by decide +kernel))) q0
  · exact rl_vkR (hts _ (List.mem_of_getElem? (i := 1334) (by decide +kernel))) q1
  · exact rl_vkR (hts _ (List.mem_of_getElem? (i := 1778) (by decide +kernel))) q2
  · exact rl_vkR (hts _ (List.mem_of_getElem? (i := 824) (by decide +kernel))) q3
  · exact va_Nw.of rfl (hts _ (List.mem_of_getElem? (i := 788) (by decide +kernel)))
  · exact va_Nw.of rfl (hts _ (List.mem_of_getElem? (i := 790) (by decide +kernel)))
  · exact va_Nw.of rfl (hts _ (List.mem_of_getElem? (i := 792) (by decide +kernel)))
