def rx_LF (r : Int32) : List (UInt64 × Int64 × Int32) := [0, 1, 2, 3, 4, 5, 6, 7].map (fun k => (UInt64.ofNat (2 + 4294967296 * k), 0, r))
set_option maxRecDepth 1000000 in
theorem rt_L0 : rx_good (rx_law [] ([], [], [])) = true := by decide +kernel
set_option maxRecDepth 1000000 in
theorem rt_L1 : rx_good (rx_law [.float 1] ([], [], [])) = true := by decide +kernel
set_option maxRecDepth 1000000 in
theorem rt_L2 : rx_good (rx_law [.float 1, .float 2] ([], [], [])) = true := by decide +kernel
set_option maxRecDepth 1000000 in
theorem rt_L3 : rx_good (rx_law [.float 1, .float 2, .float 3] ([], [], [])) = true := by decide +kernel
set_option maxRecDepth 1000000 in
theorem rt_c1 : rx_good (rx_law [.float 1, .float 2, .float 3, .float 4] ([], [(1, 15, 1)], [])) = true := by decide +kernel
set_option maxRecDepth 1000000 in
theorem rt_c2 : rx_good (rx_law [.float 1, .float 2, .float 3, .float 4] ([], [(1, 15, 2)], [])) = true := by decide +kernel
set_option maxRecDepth 1000000 in
theorem rt_c3 : rx_good (rx_law [.float 1, .float 2, .float 3, .float 4] ([], [(1, 15, 3)], [])) = true := by decide +kernel
set_option maxRecDepth 1000000 in
theorem rt_c4 : rx_good (rx_law [.float 1, .float 2, .float 3, .float 4] ([], [(1, 15, 4)], [])) = true := by decide +kernel
set_option maxRecDepth 1000000 in
theorem rt_c5 : rx_good (rx_law [.float 1, .float 2, .float 3, .float 4] ([], [(1, 15, 5)], [])) = true := by decide +kernel
set_option maxRecDepth 1000000 in
theorem rt_c7 : rx_good (rx_law [.float 1, .float 2, .float 3, .float 4] ([], [(1, 15, 7)], [])) = true := by decide +kernel
set_option maxRecDepth 1000000 in
theorem rt_c8 : rx_good (rx_law [.float 1, .float 2, .float 3, .float 4] ([], [(1, 15, 8)], [])) = true := by decide +kernel
set_option maxRecDepth 1000000 in
theorem rt_c11 : rx_good (rx_law [.float 1, .float 2, .float 3, .float 4] ([], [(1, 15, 11)], [])) = true := by decide +kernel
set_option maxRecDepth 1000000 in
theorem rt_c12 : rx_good (rx_law [.float 1, .float 2, .float 3, .float 4] ([], [(1, 15, 12)], [])) = true := by decide +kernel
set_option maxRecDepth 1000000 in
theorem rt_c13 : rx_good (rx_law [.float 1, .float 2, .float 3, .float 4] ([], [(1, 15, 13)], [])) = true := by decide +kernel
set_option maxRecDepth 1000000 in
theorem rt_c14 : rx_good (rx_law [.float 1, .float 2, .float 3, .float 4] ([], [(1, 15, 14)], [])) = true := by decide +kernel
set_option maxRecDepth 1000000 in
theorem rt_c15 : rx_good (rx_law [.float 1, .float 2, .float 3, .float 4] ([], [(1, 15, 15)], [])) = true := by decide +kernel
set_option maxRecDepth 1000000 in
theorem rt_f1 : rx_good (rx_law [.float 1, .int 1, .float 3, .float 4] ([], [(1, 15, 0)], [])) = true := by decide +kernel
set_option maxRecDepth 1000000 in
theorem rt_f2 : rx_good (rx_law [.float 1, .int 2, .float 3, .float 4] ([], [(1, 15, 0)], [])) = true := by decide +kernel
set_option maxRecDepth 1000000 in
theorem rt_f3 : rx_good (rx_law [.float 1, .int 3, .float 3, .float 4] ([], [(1, 15, 0)], [])) = true := by decide +kernel
set_option maxRecDepth 1000000 in
theorem rt_f4 : rx_good (rx_law [.float 1, .int 4, .float 3, .float 4] ([], [(1, 15, 0)], [])) = true := by decide +kernel
set_option maxRecDepth 1000000 in
theorem rt_f5 : rx_good (rx_law [.float 1, .int 5, .float 3, .float 4] ([], [(1, 15, 0)], [])) = true := by decide +kernel
set_option maxRecDepth 1000000 in
theorem rt_f6 : rx_good (rx_law [.float 1, .int 6, .float 3, .float 4] ([], [(1, 15, 0)], [])) = true := by decide +kernel
set_option maxRecDepth 1000000 in
theorem rt_f7 : rx_good (rx_law [.float 1, .int 7, .float 3, .float 4] ([], [(1, 15, 0)], [])) = true := by decide +kernel
set_option maxRecDepth 1000000 in
theorem rt_f8 : rx_good (rx_law [.float 1, .int 8, .float 3, .float 4] ([], [(1, 15, 0)], [])) = true := by decide +kernel
set_option maxRecDepth 1000000 in
theorem rt_flo : rx_good (rx_law [.float 1, .float 2, .float 3, .float 4] ([(2, .gt, 0, false), (2, .le, 0, true), (2, .lt, 1, true), (2, .ge, 1, false), (2, .gt, 1, false), (2, .le, 1, true), (2, .eq, 1, false), (2, .ne, 1, true), (2, .lt, 8, true), (2, .ge, 8, false), (2, .gt, 8, false), (2, .le, 8, true), (2, .eq, 8, false), (2, .ne, 8, true)], [(1, 15, 0)], [])) = true := by decide +kernel
set_option maxRecDepth 1000000 in
theorem rt_fhi : rx_good (rx_law [.float 1, .float 2, .float 3, .float 4] ([(2, .lt, 0, false), (2, .ge, 0, true), (2, .gt, 0, true), (2, .le, 0, false), (2, .eq, 0, false), (2, .ne, 0, true), (2, .lt, 1, false), (2, .ge, 1, true), (2, .gt, 1, true), (2, .le, 1, false), (2, .eq, 1, false), (2, .ne, 1, true), (2, .lt, 8, false), (2, .ge, 8, true), (2, .gt, 8, true), (2, .le, 8, false), (2, .eq, 8, false), (2, .ne, 8, true)], [(1, 15, 0)], [])) = true := by decide +kernel
set_option maxRecDepth 1000000 in
theorem rt_rlo : rx_good (rx_law [.float 1, .float 2, .float 3, .float 4] ([(2, .lt, 0, true), (2, .ge, 0, false), (2, .gt, 0, false), (2, .le, 0, true), (2, .eq, 0, false), (2, .ne, 0, true), (2, .lt, 20000, true), (2, .ge, 20000, false), (2, .gt, 20000, false), (2, .le, 20000, true), (2, .eq, 20000, false), (2, .ne, 20000, true)], [(1, 15, 6)], [])) = true := by decide +kernel
set_option maxRecDepth 1000000 in
theorem rt_rmi : rx_good (rx_law [.float 1, .float 2, .float 3, .float 4] ([(2, .lt, 0, false), (2, .ge, 0, true), (2, .gt, 20000, false), (2, .le, 20000, true)], [(1, 15, 6)], [])) = true := by decide +kernel
set_option maxRecDepth 1000000 in
theorem rt_rhi : rx_good (rx_law [.float 1, .float 2, .float 3, .float 4] ([(2, .lt, 0, false), (2, .ge, 0, true), (2, .gt, 0, true), (2, .le, 0, false), (2, .eq, 0, false), (2, .ne, 0, true), (2, .lt, 20000, false), (2, .ge, 20000, true), (2, .gt, 20000, true), (2, .le, 20000, false), (2, .eq, 20000, false), (2, .ne, 20000, true)], [(1, 15, 6)], [])) = true := by decide +kernel
set_option maxRecDepth 1000000 in
theorem rt_t0 : rx_good (rx_law [.float 1, .int 0, .float 3, .float 4] ([], [(1, 15, 10)], [])) = true := by decide +kernel
set_option maxRecDepth 1000000 in
theorem rt_t1 : rx_good (rx_law [.float 1, .int 1, .float 3, .float 4] ([], [(1, 15, 10)], [])) = true := by decide +kernel
set_option maxRecDepth 1000000 in
theorem rt_t2 : rx_good (rx_law [.float 1, .int 2, .float 3, .float 4] ([], [(1, 15, 10)], [])) = true := by decide +kernel
set_option maxRecDepth 1000000 in
theorem rt_t3 : rx_good (rx_law [.float 1, .int 3, .float 3, .float 4] ([], [(1, 15, 10)], [])) = true := by decide +kernel
set_option maxRecDepth 1000000 in
theorem rt_tlo : rx_good (rx_law [.float 1, .float 2, .float 3, .float 4] ([(2, .lt, 0, true), (2, .ge, 0, false), (2, .gt, 0, false), (2, .le, 0, true), (2, .eq, 0, false), (2, .ne, 0, true), (2, .lt, 3, true), (2, .ge, 3, false), (2, .gt, 3, false), (2, .le, 3, true), (2, .eq, 3, false), (2, .ne, 3, true)], [(1, 15, 10)], [])) = true := by decide +kernel
set_option maxRecDepth 1000000 in
theorem rt_x7 : rx_good (rx_law [.float 1, .int (-7), .float 3, .float 4] ([], [(1, 15, 9)], [])) = true := by decide +kernel
set_option maxRecDepth 1000000 in
theorem rt_x6 : rx_good (rx_law [.float 1, .int (-6), .float 3, .float 4] ([], [(1, 15, 9)], [])) = true := by decide +kernel
set_option maxRecDepth 1000000 in
theorem rt_x5 : rx_good (rx_law [.float 1, .int (-5), .float 3, .float 4] ([], [(1, 15, 9)], [])) = true := by decide +kernel
set_option maxRecDepth 1000000 in
theorem rt_x4 : rx_good (rx_law [.float 1, .int (-4), .float 3, .float 4] ([], [(1, 15, 9)], [])) = true := by decide +kernel
set_option maxRecDepth 1000000 in
theorem rt_x3 : rx_good (rx_law [.float 1, .int (-3), .float 3, .float 4] ([], [(1, 15, 9)], [])) = true := by decide +kernel
set_option maxRecDepth 1000000 in
theorem rt_x2 : rx_good (rx_law [.float 1, .int (-2), .float 3, .float 4] ([], [(1, 15, 9)], [])) = true := by decide +kernel
set_option maxRecDepth 1000000 in
theorem rt_x1 : rx_good (rx_law [.float 1, .int (-1), .float 3, .float 4] ([], [(1, 15, 9)], [])) = true := by decide +kernel
set_option maxRecDepth 1000000 in
theorem rt_x0 : rx_good (rx_law [.float 1, .int 0, .float 3, .float 4] ([], [(1, 15, 9)], [])) = true := by decide +kernel
set_option maxRecDepth 1000000 in
theorem rt_xlo : rx_good (rx_law [.float 1, .float 2, .float 3, .float 4] ([], [(1, 15, 9)], rx_LF (-1))) = true := by decide +kernel
set_option maxRecDepth 1000000 in
theorem rt_xhi : rx_good (rx_law [.float 1, .float 2, .float 3, .float 4] ([], [(1, 15, 9)], rx_LF 1)) = true := by decide +kernel
set_option maxRecDepth 1000000 in
theorem rt_thi : rx_good (rx_law [.float 1, .float 2, .float 3, .float 4] ([(2, .lt, 0, false), (2, .ge, 0, true), (2, .gt, 0, true), (2, .le, 0, false), (2, .eq, 0, false), (2, .ne, 0, true), (2, .lt, 3, false), (2, .ge, 3, true), (2, .gt, 3, true), (2, .le, 3, false), (2, .eq, 3, false), (2, .ne, 3, true)], [(1, 15, 10)], [])) = true := by decide +kernel
