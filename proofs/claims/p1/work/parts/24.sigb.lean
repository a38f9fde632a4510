theorem rx_rows_split {f : RRow → Bool} {rows : List RRow} (n : Nat) (hn : rows.length ≤ 60 * n) (h : ∀ i, i < n → ((rows.drop (60 * i)).take 60).all f = true) : rows.all f = true := by
  rw [List.all_eq_true]
  intro q hq
  obtain ⟨j, hj, rfl⟩ := List.getElem_of_mem hq
  refine List.all_eq_true.mp (h (j / 60) (by omega)) _ ?_
  refine List.mem_of_getElem? (i := j % 60) ?_
  rw [List.getElem?_take, if_pos (Nat.mod_lt _ (by decide)), List.getElem?_drop, show 60 * (j / 60) + j % 60 = j by omega]
  exact List.getElem?_eq_getElem hj
set_option maxRecDepth 100000 in
theorem rk_X12_init_0 : ((rw_X12_init.drop (60 * 0)).take 60).all (fun q => rx_chk (decide (yX12_init.name = "<init>")) yX12_init.cls cX12_init rp_sig q && rx_xok yX12_init.cls cX12_init q) = true := by decide +kernel
set_option maxRecDepth 100000 in
theorem rk_X12_init_1 : ((rw_X12_init.drop (60 * 1)).take 60).all (fun q => rx_chk (decide (yX12_init.name = "<init>")) yX12_init.cls cX12_init rp_sig q && rx_xok yX12_init.cls cX12_init q) = true := by decide +kernel
set_option maxRecDepth 100000 in
theorem rk_X12_init_2 : ((rw_X12_init.drop (60 * 2)).take 60).all (fun q => rx_chk (decide (yX12_init.name = "<init>")) yX12_init.cls cX12_init rp_sig q && rx_xok yX12_init.cls cX12_init q) = true := by decide +kernel
set_option maxRecDepth 100000 in
theorem rk_X12_init_3 : ((rw_X12_init.drop (60 * 3)).take 60).all (fun q => rx_chk (decide (yX12_init.name = "<init>")) yX12_init.cls cX12_init rp_sig q && rx_xok yX12_init.cls cX12_init q) = true := by decide +kernel
set_option maxRecDepth 100000 in
theorem rk_X12_init_4 : ((rw_X12_init.drop (60 * 4)).take 60).all (fun q => rx_chk (decide (yX12_init.name = "<init>")) yX12_init.cls cX12_init rp_sig q && rx_xok yX12_init.cls cX12_init q) = true := by decide +kernel
set_option maxRecDepth 100000 in
theorem rk_X12_init_5 : ((rw_X12_init.drop (60 * 5)).take 60).all (fun q => rx_chk (decide (yX12_init.name = "<init>")) yX12_init.cls cX12_init rp_sig q && rx_xok yX12_init.cls cX12_init q) = true := by decide +kernel
set_option maxRecDepth 100000 in
theorem rk_X12_init_6 : ((rw_X12_init.drop (60 * 6)).take 60).all (fun q => rx_chk (decide (yX12_init.name = "<init>")) yX12_init.cls cX12_init rp_sig q && rx_xok yX12_init.cls cX12_init q) = true := by decide +kernel
set_option maxRecDepth 100000 in
theorem rk_X12_init_7 : ((rw_X12_init.drop (60 * 7)).take 60).all (fun q => rx_chk (decide (yX12_init.name = "<init>")) yX12_init.cls cX12_init rp_sig q && rx_xok yX12_init.cls cX12_init q) = true := by decide +kernel
set_option maxRecDepth 100000 in
theorem rk_X12_init_8 : ((rw_X12_init.drop (60 * 8)).take 60).all (fun q => rx_chk (decide (yX12_init.name = "<init>")) yX12_init.cls cX12_init rp_sig q && rx_xok yX12_init.cls cX12_init q) = true := by decide +kernel
set_option maxRecDepth 100000 in
theorem rk_X12_init_9 : ((rw_X12_init.drop (60 * 9)).take 60).all (fun q => rx_chk (decide (yX12_init.name = "<init>")) yX12_init.cls cX12_init rp_sig q && rx_xok yX12_init.cls cX12_init q) = true := by decide +kernel
set_option maxRecDepth 100000 in
theorem rk_X12_init_10 : ((rw_X12_init.drop (60 * 10)).take 60).all (fun q => rx_chk (decide (yX12_init.name = "<init>")) yX12_init.cls cX12_init rp_sig q && rx_xok yX12_init.cls cX12_init q) = true := by decide +kernel
set_option maxRecDepth 100000 in
theorem rk_X12_init_11 : ((rw_X12_init.drop (60 * 11)).take 60).all (fun q => rx_chk (decide (yX12_init.name = "<init>")) yX12_init.cls cX12_init rp_sig q && rx_xok yX12_init.cls cX12_init q) = true := by decide +kernel
set_option maxRecDepth 100000 in
theorem rk_X12_init_12 : ((rw_X12_init.drop (60 * 12)).take 60).all (fun q => rx_chk (decide (yX12_init.name = "<init>")) yX12_init.cls cX12_init rp_sig q && rx_xok yX12_init.cls cX12_init q) = true := by decide +kernel
set_option maxRecDepth 100000 in
theorem rk_X12_init_13 : ((rw_X12_init.drop (60 * 13)).take 60).all (fun q => rx_chk (decide (yX12_init.name = "<init>")) yX12_init.cls cX12_init rp_sig q && rx_xok yX12_init.cls cX12_init q) = true := by decide +kernel
set_option maxRecDepth 100000 in
theorem rk_X12_init_14 : ((rw_X12_init.drop (60 * 14)).take 60).all (fun q => rx_chk (decide (yX12_init.name = "<init>")) yX12_init.cls cX12_init rp_sig q && rx_xok yX12_init.cls cX12_init q) = true := by decide +kernel
set_option maxRecDepth 100000 in
theorem rk_X12_init_15 : ((rw_X12_init.drop (60 * 15)).take 60).all (fun q => rx_chk (decide (yX12_init.name = "<init>")) yX12_init.cls cX12_init rp_sig q && rx_xok yX12_init.cls cX12_init q) = true := by decide +kernel
set_option maxRecDepth 100000 in
theorem rk_X12_init_16 : ((rw_X12_init.drop (60 * 16)).take 60).all (fun q => rx_chk (decide (yX12_init.name = "<init>")) yX12_init.cls cX12_init rp_sig q && rx_xok yX12_init.cls cX12_init q) = true := by decide +kernel
set_option maxRecDepth 100000 in
theorem rk_X12_init_17 : ((rw_X12_init.drop (60 * 17)).take 60).all (fun q => rx_chk (decide (yX12_init.name = "<init>")) yX12_init.cls cX12_init rp_sig q && rx_xok yX12_init.cls cX12_init q) = true := by decide +kernel
set_option maxRecDepth 100000 in
theorem rk_X12_init_18 : ((rw_X12_init.drop (60 * 18)).take 60).all (fun q => rx_chk (decide (yX12_init.name = "<init>")) yX12_init.cls cX12_init rp_sig q && rx_xok yX12_init.cls cX12_init q) = true := by decide +kernel
set_option maxRecDepth 100000 in
theorem rk_X12_init_19 : ((rw_X12_init.drop (60 * 19)).take 60).all (fun q => rx_chk (decide (yX12_init.name = "<init>")) yX12_init.cls cX12_init rp_sig q && rx_xok yX12_init.cls cX12_init q) = true := by decide +kernel
set_option maxRecDepth 100000 in
theorem rk_X12_init_20 : ((rw_X12_init.drop (60 * 20)).take 60).all (fun q => rx_chk (decide (yX12_init.name = "<init>")) yX12_init.cls cX12_init rp_sig q && rx_xok yX12_init.cls cX12_init q) = true := by decide +kernel
set_option maxRecDepth 100000 in
theorem rk_X12_init : rx_rowsok rp_sig (yX12_init, cX12_init, (none : Option FieldType), 1783, 1782, 0, 199, [], 3) rw_X12_init = true := by
  refine rx_rows_split 21 (by decide +kernel) (fun i hi => ?_)
  match i, hi with
  | 0, _ => exact rk_X12_init_0
  | 1, _ => exact rk_X12_init_1
  | 2, _ => exact rk_X12_init_2
  | 3, _ => exact rk_X12_init_3
  | 4, _ => exact rk_X12_init_4
  | 5, _ => exact rk_X12_init_5
  | 6, _ => exact rk_X12_init_6
  | 7, _ => exact rk_X12_init_7
  | 8, _ => exact rk_X12_init_8
  | 9, _ => exact rk_X12_init_9
  | 10, _ => exact rk_X12_init_10
  | 11, _ => exact rk_X12_init_11
  | 12, _ => exact rk_X12_init_12
  | 13, _ => exact rk_X12_init_13
  | 14, _ => exact rk_X12_init_14
  | 15, _ => exact rk_X12_init_15
  | 16, _ => exact rk_X12_init_16
  | 17, _ => exact rk_X12_init_17
  | 18, _ => exact rk_X12_init_18
  | 19, _ => exact rk_X12_init_19
  | 20, _ => exact rk_X12_init_20
  | i + 21, hi => exact absurd hi (by omega)
