set_option maxRecDepth 1000000 in
theorem rt_m : rx_eqr (rf_call rl_O ([], [], []) rl_P0 100000 12 22 [.ref 170] rl_m0) rl_m 59 159377 = true := by decide +kernel
