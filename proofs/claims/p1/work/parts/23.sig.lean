def rp_sig : List RSig := [(yL_law, cL_law, some .boolean, 0, 0, 0, 0, [], 7),
  (yX11_init, cX11_init, (none : Option FieldType), 213, 212, 0, 180, [], 1),
  (yX8_init, cX8_init, (none : Option FieldType), 221, 220, 0, 181, [], 1),
  (yX10_init, cX10_init, (none : Option FieldType), 235, 234, 0, 182, [], 2),
  (yX10_encodeAll, cX10_encodeAll, (none : Option FieldType), 240, 239, 0, 182, [], 5),
  (yJ0_length_8abf5, cJ0_length_8abf5, (some FieldType.int), 244, 242, 243, 183, [], 1),
  (yJ0_coder_7d493, cJ0_coder_7d493, (some FieldType.byte), 248, 246, 247, 183, [], 1),
  (yJ0_charAt_5068e, cJ0_charAt_5068e, (some FieldType.char), 254, 252, 253, 183, [], 2),
  (yJ0_isLatin1_aae02, cJ0_isLatin1_aae02, (some FieldType.boolean), 258, 256, 257, 183, [], 1),
  (yJ1_charAt_3b067, cJ1_charAt_3b067, (some FieldType.char), 261, 260, 0, 184, [], 2),
  (yX10_symbol, cX10_symbol, (some FieldType.int), 292, 291, 0, 182, [], 1),
  (yX1_init, cX1_init, (none : Option FieldType), 333, 332, 0, 187, [], 1),
  (yX0_init, cX0_init, (none : Option FieldType), 364, 363, 0, 188, [], 3),
  (yX5_init, cX5_init, (none : Option FieldType), 370, 369, 0, 189, [], 3),
  (yX9_init, cX9_init, (none : Option FieldType), 376, 375, 0, 190, [], 2),
  (yX6_init, cX6_init, (none : Option FieldType), 408, 407, 0, 191, [], 3),
  (yX4_init, cX4_init, (none : Option FieldType), 455, 454, 0, 192, [], 3),
  (yX5_ofKind, cX5_ofKind, (some (FieldType.object "TaggedPascal$Type")), 499, 498, 0, 189, [], 2),
  (yX2_init, cX2_init, (none : Option FieldType), 533, 532, 0, 193, [], 4),
  (yX7_init, cX7_init, (none : Option FieldType), 552, 551, 0, 194, [], 5),
  (yX3_init, cX3_init, (none : Option FieldType), 593, 592, 0, 195, [], 3),
  (yX1_emit, cX1_emit, (none : Option FieldType), 658, 656, 657, 187, [], 2),
  (yX12_init, cX12_init, (none : Option FieldType), 1783, 1782, 0, 199, [], 3),
  (yX12_packed, cX12_packed, (some FieldType.long), 1788, 1787, 0, 199, [], 5),
  (yX12_emptyProgram, cX12_emptyProgram, (none : Option FieldType), 1793, 1792, 87, 199, [], 1),
  (yX12_beginProgram, cX12_beginProgram, (none : Option FieldType), 1797, 1796, 88, 199, [], 1),
  (yX12_write1, cX12_write1, (none : Option FieldType), 1801, 1800, 89, 199, [], 4),
  (yX12_emit, cX12_emit, (some FieldType.int), 1805, 1804, 90, 199, [], 5),
  (yX12_keepProgram, cX12_keepProgram, (none : Option FieldType), 1809, 1808, 91, 199, [], 2),
  (yL_feed, cL_feed, (some FieldType.int), 1301, 1300, 0, 179, [(0, 11, 14, 13)], 6),
  (yX11_feed, cX11_feed, (some FieldType.int), 1306, 1304, 1305, 180, [], 5),
  (yX12_feed, cX12_feed, (some FieldType.int), 2127, 2125, 2126, 199, [], 5),
  (yX12_thrown, cX12_thrown, (some FieldType.int), 2123, 2121, 2122, 199, [], 1),
  (yX8_length, cX8_length, (some FieldType.int), 704, 702, 703, 181, [], 1),
  (yX8_append, cX8_append, (some FieldType.boolean), 1326, 1324, 1325, 181, [], 2),
  (yX11_wipe, cX11_wipe, (some FieldType.int), 700, 698, 699, 180, [], 2),
  (yX8_clear, cX8_clear, (none : Option FieldType), 708, 706, 707, 181, [], 1),
  (yX12_wipe, cX12_wipe, (some FieldType.int), 2132, 2130, 2131, 199, [], 2),
  (yX11_compile, cX11_compile, (some FieldType.int), 712, 710, 711, 180, [(0, 31, 34, 96)], 2),
  (yX10_scan, cX10_scan, (none : Option FieldType), 717, 715, 716, 182, [], 3),
  (yX10_skipBlanks, cX10_skipBlanks, (none : Option FieldType), 721, 720, 1, 182, [], 5),
  (yX8_at, cX8_at, (some FieldType.int), 725, 723, 724, 181, [], 3),
  (yX10_scanWord, cX10_scanWord, (none : Option FieldType), 734, 733, 3, 182, [], 2),
  (yX10_add, cX10_add, (none : Option FieldType), 738, 737, 4, 182, [], 5),
  (yX10_next, cX10_next, (none : Option FieldType), 779, 777, 778, 182, [], 1),
  (yX0_begin, cX0_begin, (some (FieldType.object "TaggedPascal$Routine")), 853, 851, 852, 188, [], 1),
  (yX5_forgetAll, cX5_forgetAll, (none : Option FieldType), 857, 855, 856, 189, [], 1),
  (yX7_forgetLabels, cX7_forgetLabels, (none : Option FieldType), 861, 859, 860, 194, [], 1),
  (yX1_clear, cX1_clear, (none : Option FieldType), 865, 863, 864, 187, [], 1),
  (yX5_openBlock, cX5_openBlock, (some FieldType.int), 869, 867, 868, 189, [], 2),
  (yX5_level, cX5_level, (some FieldType.int), 874, 872, 873, 189, [], 1),
  (yX0_block, cX0_block, (none : Option FieldType), 879, 877, 878, 188, [], 4),
  (yX1_length, cX1_length, (some FieldType.int), 883, 881, 882, 187, [], 1),
  (yX1_emitAimless, cX1_emitAimless, (some FieldType.int), 887, 885, 886, 187, [], 3),
  (yX0_constants, cX0_constants, (none : Option FieldType), 892, 891, 11, 188, [], 5),
  (yX10_takeIf, cX10_takeIf, (some FieldType.boolean), 896, 894, 895, 182, [], 3),
  (yX10_is, cX10_is, (some FieldType.boolean), 900, 898, 899, 182, [], 2),
  (yX0_types, cX0_types, (none : Option FieldType), 981, 980, 14, 188, [], 4),
  (yX0_variables, cX0_variables, (none : Option FieldType), 1013, 1012, 18, 188, [], 6),
  (yX0_isRoutine, cX0_isRoutine, (some FieldType.boolean), 1032, 1031, 20, 188, [], 1),
  (yX10_take, cX10_take, (none : Option FieldType), 932, 930, 931, 182, [], 2),
  (yX10_fail, cX10_fail, (none : Option FieldType), 783, 781, 782, 182, [], 2),
  (yX12_compile, cX12_compile, (some FieldType.int), 2136, 2134, 2135, 199, [], 1),
  (yX12_take, cX12_take, (none : Option FieldType), 2140, 2139, 92, 199, [], 2),
  (yX12_skipBlanks, cX12_skipBlanks, (none : Option FieldType), 2144, 2143, 93, 199, [], 2),
  (yX12_byteAt, cX12_byteAt, (some FieldType.int), 2152, 2151, 95, 199, [], 2),
  (yX12_later, cX12_later, (none : Option FieldType), 2185, 2184, 100, 199, [], 2),
  (yX12_work, cX12_work, (none : Option FieldType), 2189, 2188, 101, 199, [], 2),
  (yX12_workOfBlocks, cX12_workOfBlocks, (none : Option FieldType), 2312, 2311, 131, 199, [], 2),
  (yX12_block, cX12_block, (none : Option FieldType), 2316, 2315, 132, 199, [], 1),
  (yX12_actionsOrBody, cX12_actionsOrBody, (none : Option FieldType), 2369, 2368, 145, 199, [], 2),
  (yX12_want, cX12_want, (none : Option FieldType), 2248, 2247, 115, 199, [], 2),
  (yX12_fail, cX12_fail, (none : Option FieldType), 2148, 2147, 94, 199, [], 3),
  (yX12_statements, cX12_statements, (none : Option FieldType), 2381, 2380, 148, 199, [], 1),
  (yX11_fault, cX11_fault, (some FieldType.int), 1255, 1253, 1254, 180, [], 1),
  (yX10_failure, cX10_failure, (some FieldType.int), 1259, 1257, 1258, 182, [], 1),
  (yX12_fault, cX12_fault, (some FieldType.int), 2417, 2415, 2416, 199, [], 1),
  (yX11_place, cX11_place, (some FieldType.int), 1263, 1261, 1262, 180, [], 1),
  (yX10_failedAt, cX10_failedAt, (some FieldType.int), 1267, 1265, 1266, 182, [], 1),
  (yX12_place, cX12_place, (some FieldType.int), 2421, 2419, 2420, 199, [], 1),
  (yX11_input, cX11_input, (some FieldType.int), 1271, 1269, 1270, 180, [], 1),
  (yX8_become, cX8_become, (none : Option FieldType), 1275, 1273, 1274, 181, [], 2),
  (yX12_input, cX12_input, (some FieldType.int), 2425, 2423, 2424, 199, [], 2),
  (yL_run, cL_run, (some FieldType.int), 1329, 1328, 0, 179, [(0, 9, 12, 13)], 4),
  (yX11_run, cX11_run, (some FieldType.int), 1333, 1331, 1332, 180, [], 2),
  (yX12_run, cX12_run, (some FieldType.int), 2429, 2427, 2428, 199, [], 2),
  (yX3_execute, cX3_execute, (some FieldType.int), 1338, 1336, 1337, 195, [], 3),
  (yX3_startAgain, cX3_startAgain, (none : Option FieldType), 1342, 1341, 49, 195, [], 2),
  (yX3_enter, cX3_enter, (some FieldType.boolean), 1347, 1346, 50, 195, [], 3),
  (yX3_put, cX3_put, (none : Option FieldType), 1568, 1567, 51, 195, [], 5),
  (yX3_isCell, cX3_isCell, (some FieldType.boolean), 1571, 1570, 0, 195, [], 2),
  (yJ9_max_7cf53, cJ9_max_7cf53, (some FieldType.int), 1410, 1409, 0, 197, [], 2),
  (yX3_operand, cX3_operand, (some FieldType.int), 1578, 1577, 52, 195, [], 2),
  (yX1_at, cX1_at, (some FieldType.int), 1582, 1580, 1581, 187, [], 2),
  (yX3_perform, cX3_perform, (none : Option FieldType), 1586, 1585, 53, 195, [], 4),
  (yX3_control, cX3_control, (none : Option FieldType), 1722, 1721, 78, 195, [], 3),
  (yX12_open, cX12_open, (some FieldType.boolean), 2433, 2432, 157, 199, [], 6),
  (yX12_isWrong, cX12_isWrong, (some FieldType.boolean), 2437, 2436, 158, 199, [], 3),
  (yX12_step, cX12_step, (none : Option FieldType), 2445, 2444, 160, 199, [], 4),
  (yX12_leave, cX12_leave, (none : Option FieldType), 2476, 2475, 167, 199, [], 3),
  (yX11_where, cX11_where, (some FieldType.int), 1280, 1278, 1279, 180, [], 1),
  (yX3_errorPlace, cX3_errorPlace, (some FieldType.int), 1284, 1282, 1283, 195, [], 1),
  (yX12_where, cX12_where, (some FieldType.int), 2536, 2534, 2535, 199, [], 1),
  (yX11_written, cX11_written, (some FieldType.int), 1288, 1286, 1287, 180, [], 1),
  (yX3_output, cX3_output, (some (FieldType.object "TaggedPascal$Tape")), 1292, 1290, 1291, 195, [], 1),
  (yX12_written, cX12_written, (some FieldType.int), 2540, 2538, 2539, 199, [], 1),
  (yX11_text, cX11_text, (some FieldType.long), 1296, 1294, 1295, 180, [], 7),
  (yX12_text, cX12_text, (some FieldType.long), 2544, 2542, 2543, 199, [], 7),
  (yL_told, cL_told, (some FieldType.int), 1757, 1756, 0, 179, [(0, 9, 12, 13)], 4),
  (yX11_told, cX11_told, (some FieldType.int), 1761, 1759, 1760, 180, [], 2),
  (yX12_told, cX12_told, (some FieldType.int), 2548, 2546, 2547, 199, [], 2),
  (yX3_steps, cX3_steps, (some FieldType.int), 1765, 1763, 1764, 195, [], 1),
  (yX3_mostBlocks, cX3_mostBlocks, (some FieldType.int), 1769, 1767, 1768, 195, [], 1),
  (yX3_mostCells, cX3_mostCells, (some FieldType.int), 1773, 1771, 1772, 195, [], 1),
  (yX3_bytesRead, cX3_bytesRead, (some FieldType.int), 1777, 1775, 1776, 195, [], 1),
  (yJ0_checkIndex_df160, cJ0_checkIndex_df160, (none : Option FieldType), 264, 263, 0, 183, [], 2),
  (yJ3_checkIndex_8e157, cJ3_checkIndex_8e157, (some FieldType.int), 269, 268, 0, 185, [], 3),
  (yJ7_fill_eb02e, cJ7_fill_eb02e, (none : Option FieldType), 1350, 1349, 0, 196, [], 5),
  (yJ7_rangeCheck_23922, cJ7_rangeCheck_23922, (none : Option FieldType), 1353, 1352, 0, 196, [], 3)]
set_option maxRecDepth 100000 in
theorem rk_X11_init : rx_rowsok rp_sig (yX11_init, cX11_init, (none : Option FieldType), 213, 212, 0, 180, [], 1) rw_X11_init = true := by decide +kernel
set_option maxRecDepth 100000 in
theorem rk_X8_init : rx_rowsok rp_sig (yX8_init, cX8_init, (none : Option FieldType), 221, 220, 0, 181, [], 1) rw_X8_init = true := by decide +kernel
set_option maxRecDepth 100000 in
theorem rk_X10_init : rx_rowsok rp_sig (yX10_init, cX10_init, (none : Option FieldType), 235, 234, 0, 182, [], 2) rw_X10_init = true := by decide +kernel
set_option maxRecDepth 100000 in
theorem rk_X10_encodeAll : rx_rowsok rp_sig (yX10_encodeAll, cX10_encodeAll, (none : Option FieldType), 240, 239, 0, 182, [], 5) rw_X10_encodeAll = true := by decide +kernel
set_option maxRecDepth 100000 in
theorem rk_J0_length_8abf5 : rx_rowsok rp_sig (yJ0_length_8abf5, cJ0_length_8abf5, (some FieldType.int), 244, 242, 243, 183, [], 1) rw_J0_length_8abf5 = true := by decide +kernel
set_option maxRecDepth 100000 in
theorem rk_J0_coder_7d493 : rx_rowsok rp_sig (yJ0_coder_7d493, cJ0_coder_7d493, (some FieldType.byte), 248, 246, 247, 183, [], 1) rw_J0_coder_7d493 = true := by decide +kernel
set_option maxRecDepth 100000 in
theorem rk_J0_charAt_5068e : rx_rowsok rp_sig (yJ0_charAt_5068e, cJ0_charAt_5068e, (some FieldType.char), 254, 252, 253, 183, [], 2) rw_J0_charAt_5068e = true := by decide +kernel
set_option maxRecDepth 100000 in
theorem rk_J0_isLatin1_aae02 : rx_rowsok rp_sig (yJ0_isLatin1_aae02, cJ0_isLatin1_aae02, (some FieldType.boolean), 258, 256, 257, 183, [], 1) rw_J0_isLatin1_aae02 = true := by decide +kernel
set_option maxRecDepth 100000 in
theorem rk_J1_charAt_3b067 : rx_rowsok rp_sig (yJ1_charAt_3b067, cJ1_charAt_3b067, (some FieldType.char), 261, 260, 0, 184, [], 2) rw_J1_charAt_3b067 = true := by decide +kernel
set_option maxRecDepth 100000 in
theorem rk_X10_symbol : rx_rowsok rp_sig (yX10_symbol, cX10_symbol, (some FieldType.int), 292, 291, 0, 182, [], 1) rw_X10_symbol = true := by decide +kernel
set_option maxRecDepth 100000 in
theorem rk_X1_init : rx_rowsok rp_sig (yX1_init, cX1_init, (none : Option FieldType), 333, 332, 0, 187, [], 1) rw_X1_init = true := by decide +kernel
set_option maxRecDepth 100000 in
theorem rk_X0_init : rx_rowsok rp_sig (yX0_init, cX0_init, (none : Option FieldType), 364, 363, 0, 188, [], 3) rw_X0_init = true := by decide +kernel
set_option maxRecDepth 100000 in
theorem rk_X5_init : rx_rowsok rp_sig (yX5_init, cX5_init, (none : Option FieldType), 370, 369, 0, 189, [], 3) rw_X5_init = true := by decide +kernel
set_option maxRecDepth 100000 in
theorem rk_X9_init : rx_rowsok rp_sig (yX9_init, cX9_init, (none : Option FieldType), 376, 375, 0, 190, [], 2) rw_X9_init = true := by decide +kernel
set_option maxRecDepth 100000 in
theorem rk_X6_init : rx_rowsok rp_sig (yX6_init, cX6_init, (none : Option FieldType), 408, 407, 0, 191, [], 3) rw_X6_init = true := by decide +kernel
set_option maxRecDepth 100000 in
theorem rk_X4_init : rx_rowsok rp_sig (yX4_init, cX4_init, (none : Option FieldType), 455, 454, 0, 192, [], 3) rw_X4_init = true := by decide +kernel
set_option maxRecDepth 100000 in
theorem rk_X5_ofKind : rx_rowsok rp_sig (yX5_ofKind, cX5_ofKind, (some (FieldType.object "TaggedPascal$Type")), 499, 498, 0, 189, [], 2) rw_X5_ofKind = true := by decide +kernel
set_option maxRecDepth 100000 in
theorem rk_X2_init : rx_rowsok rp_sig (yX2_init, cX2_init, (none : Option FieldType), 533, 532, 0, 193, [], 4) rw_X2_init = true := by decide +kernel
set_option maxRecDepth 100000 in
theorem rk_X7_init : rx_rowsok rp_sig (yX7_init, cX7_init, (none : Option FieldType), 552, 551, 0, 194, [], 5) rw_X7_init = true := by decide +kernel
set_option maxRecDepth 100000 in
theorem rk_X3_init : rx_rowsok rp_sig (yX3_init, cX3_init, (none : Option FieldType), 593, 592, 0, 195, [], 3) rw_X3_init = true := by decide +kernel
set_option maxRecDepth 100000 in
theorem rk_X1_emit : rx_rowsok rp_sig (yX1_emit, cX1_emit, (none : Option FieldType), 658, 656, 657, 187, [], 2) rw_X1_emit = true := by decide +kernel
set_option maxRecDepth 100000 in
theorem rk_X12_packed : rx_rowsok rp_sig (yX12_packed, cX12_packed, (some FieldType.long), 1788, 1787, 0, 199, [], 5) rw_X12_packed = true := by decide +kernel
set_option maxRecDepth 100000 in
theorem rk_X12_emptyProgram : rx_rowsok rp_sig (yX12_emptyProgram, cX12_emptyProgram, (none : Option FieldType), 1793, 1792, 87, 199, [], 1) rw_X12_emptyProgram = true := by decide +kernel
set_option maxRecDepth 100000 in
theorem rk_X12_beginProgram : rx_rowsok rp_sig (yX12_beginProgram, cX12_beginProgram, (none : Option FieldType), 1797, 1796, 88, 199, [], 1) rw_X12_beginProgram = true := by decide +kernel
set_option maxRecDepth 100000 in
theorem rk_X12_write1 : rx_rowsok rp_sig (yX12_write1, cX12_write1, (none : Option FieldType), 1801, 1800, 89, 199, [], 4) rw_X12_write1 = true := by decide +kernel
set_option maxRecDepth 100000 in
theorem rk_X12_emit : rx_rowsok rp_sig (yX12_emit, cX12_emit, (some FieldType.int), 1805, 1804, 90, 199, [], 5) rw_X12_emit = true := by decide +kernel
set_option maxRecDepth 100000 in
theorem rk_X12_keepProgram : rx_rowsok rp_sig (yX12_keepProgram, cX12_keepProgram, (none : Option FieldType), 1809, 1808, 91, 199, [], 2) rw_X12_keepProgram = true := by decide +kernel
set_option maxRecDepth 100000 in
theorem rk_L_feed : rx_rowsok rp_sig (yL_feed, cL_feed, (some FieldType.int), 1301, 1300, 0, 179, [(0, 11, 14, 13)], 6) rw_L_feed = true := by decide +kernel
set_option maxRecDepth 100000 in
theorem rk_X11_feed : rx_rowsok rp_sig (yX11_feed, cX11_feed, (some FieldType.int), 1306, 1304, 1305, 180, [], 5) rw_X11_feed = true := by decide +kernel
set_option maxRecDepth 100000 in
theorem rk_X12_feed : rx_rowsok rp_sig (yX12_feed, cX12_feed, (some FieldType.int), 2127, 2125, 2126, 199, [], 5) rw_X12_feed = true := by decide +kernel
set_option maxRecDepth 100000 in
theorem rk_X12_thrown : rx_rowsok rp_sig (yX12_thrown, cX12_thrown, (some FieldType.int), 2123, 2121, 2122, 199, [], 1) rw_X12_thrown = true := by decide +kernel
set_option maxRecDepth 100000 in
theorem rk_X8_length : rx_rowsok rp_sig (yX8_length, cX8_length, (some FieldType.int), 704, 702, 703, 181, [], 1) rw_X8_length = true := by decide +kernel
set_option maxRecDepth 100000 in
theorem rk_X8_append : rx_rowsok rp_sig (yX8_append, cX8_append, (some FieldType.boolean), 1326, 1324, 1325, 181, [], 2) rw_X8_append = true := by decide +kernel
set_option maxRecDepth 100000 in
theorem rk_X11_wipe : rx_rowsok rp_sig (yX11_wipe, cX11_wipe, (some FieldType.int), 700, 698, 699, 180, [], 2) rw_X11_wipe = true := by decide +kernel
set_option maxRecDepth 100000 in
theorem rk_X8_clear : rx_rowsok rp_sig (yX8_clear, cX8_clear, (none : Option FieldType), 708, 706, 707, 181, [], 1) rw_X8_clear = true := by decide +kernel
set_option maxRecDepth 100000 in
theorem rk_X12_wipe : rx_rowsok rp_sig (yX12_wipe, cX12_wipe, (some FieldType.int), 2132, 2130, 2131, 199, [], 2) rw_X12_wipe = true := by decide +kernel
set_option maxRecDepth 100000 in
theorem rk_X11_compile : rx_rowsok rp_sig (yX11_compile, cX11_compile, (some FieldType.int), 712, 710, 711, 180, [(0, 31, 34, 96)], 2) rw_X11_compile = true := by decide +kernel
set_option maxRecDepth 100000 in
theorem rk_X10_scan : rx_rowsok rp_sig (yX10_scan, cX10_scan, (none : Option FieldType), 717, 715, 716, 182, [], 3) rw_X10_scan = true := by decide +kernel
set_option maxRecDepth 100000 in
theorem rk_X10_skipBlanks : rx_rowsok rp_sig (yX10_skipBlanks, cX10_skipBlanks, (none : Option FieldType), 721, 720, 1, 182, [], 5) rw_X10_skipBlanks = true := by decide +kernel
set_option maxRecDepth 100000 in
theorem rk_X8_at : rx_rowsok rp_sig (yX8_at, cX8_at, (some FieldType.int), 725, 723, 724, 181, [], 3) rw_X8_at = true := by decide +kernel
set_option maxRecDepth 100000 in
theorem rk_X10_scanWord : rx_rowsok rp_sig (yX10_scanWord, cX10_scanWord, (none : Option FieldType), 734, 733, 3, 182, [], 2) rw_X10_scanWord = true := by decide +kernel
set_option maxRecDepth 100000 in
theorem rk_X10_add : rx_rowsok rp_sig (yX10_add, cX10_add, (none : Option FieldType), 738, 737, 4, 182, [], 5) rw_X10_add = true := by decide +kernel
set_option maxRecDepth 100000 in
theorem rk_X10_next : rx_rowsok rp_sig (yX10_next, cX10_next, (none : Option FieldType), 779, 777, 778, 182, [], 1) rw_X10_next = true := by decide +kernel
set_option maxRecDepth 100000 in
theorem rk_X0_begin : rx_rowsok rp_sig (yX0_begin, cX0_begin, (some (FieldType.object "TaggedPascal$Routine")), 853, 851, 852, 188, [], 1) rw_X0_begin = true := by decide +kernel
set_option maxRecDepth 100000 in
theorem rk_X5_forgetAll : rx_rowsok rp_sig (yX5_forgetAll, cX5_forgetAll, (none : Option FieldType), 857, 855, 856, 189, [], 1) rw_X5_forgetAll = true := by decide +kernel
set_option maxRecDepth 100000 in
theorem rk_X7_forgetLabels : rx_rowsok rp_sig (yX7_forgetLabels, cX7_forgetLabels, (none : Option FieldType), 861, 859, 860, 194, [], 1) rw_X7_forgetLabels = true := by decide +kernel
set_option maxRecDepth 100000 in
theorem rk_X1_clear : rx_rowsok rp_sig (yX1_clear, cX1_clear, (none : Option FieldType), 865, 863, 864, 187, [], 1) rw_X1_clear = true := by decide +kernel
set_option maxRecDepth 100000 in
theorem rk_X5_openBlock : rx_rowsok rp_sig (yX5_openBlock, cX5_openBlock, (some FieldType.int), 869, 867, 868, 189, [], 2) rw_X5_openBlock = true := by decide +kernel
set_option maxRecDepth 100000 in
theorem rk_X5_level : rx_rowsok rp_sig (yX5_level, cX5_level, (some FieldType.int), 874, 872, 873, 189, [], 1) rw_X5_level = true := by decide +kernel
set_option maxRecDepth 100000 in
theorem rk_X0_block : rx_rowsok rp_sig (yX0_block, cX0_block, (none : Option FieldType), 879, 877, 878, 188, [], 4) rw_X0_block = true := by decide +kernel
set_option maxRecDepth 100000 in
theorem rk_X1_length : rx_rowsok rp_sig (yX1_length, cX1_length, (some FieldType.int), 883, 881, 882, 187, [], 1) rw_X1_length = true := by decide +kernel
set_option maxRecDepth 100000 in
theorem rk_X1_emitAimless : rx_rowsok rp_sig (yX1_emitAimless, cX1_emitAimless, (some FieldType.int), 887, 885, 886, 187, [], 3) rw_X1_emitAimless = true := by decide +kernel
set_option maxRecDepth 100000 in
theorem rk_X0_constants : rx_rowsok rp_sig (yX0_constants, cX0_constants, (none : Option FieldType), 892, 891, 11, 188, [], 5) rw_X0_constants = true := by decide +kernel
set_option maxRecDepth 100000 in
theorem rk_X10_takeIf : rx_rowsok rp_sig (yX10_takeIf, cX10_takeIf, (some FieldType.boolean), 896, 894, 895, 182, [], 3) rw_X10_takeIf = true := by decide +kernel
set_option maxRecDepth 100000 in
theorem rk_X10_is : rx_rowsok rp_sig (yX10_is, cX10_is, (some FieldType.boolean), 900, 898, 899, 182, [], 2) rw_X10_is = true := by decide +kernel
set_option maxRecDepth 100000 in
theorem rk_X0_types : rx_rowsok rp_sig (yX0_types, cX0_types, (none : Option FieldType), 981, 980, 14, 188, [], 4) rw_X0_types = true := by decide +kernel
set_option maxRecDepth 100000 in
theorem rk_X0_variables : rx_rowsok rp_sig (yX0_variables, cX0_variables, (none : Option FieldType), 1013, 1012, 18, 188, [], 6) rw_X0_variables = true := by decide +kernel
set_option maxRecDepth 100000 in
theorem rk_X0_isRoutine : rx_rowsok rp_sig (yX0_isRoutine, cX0_isRoutine, (some FieldType.boolean), 1032, 1031, 20, 188, [], 1) rw_X0_isRoutine = true := by decide +kernel
set_option maxRecDepth 100000 in
theorem rk_X10_take : rx_rowsok rp_sig (yX10_take, cX10_take, (none : Option FieldType), 932, 930, 931, 182, [], 2) rw_X10_take = true := by decide +kernel
set_option maxRecDepth 100000 in
theorem rk_X10_fail : rx_rowsok rp_sig (yX10_fail, cX10_fail, (none : Option FieldType), 783, 781, 782, 182, [], 2) rw_X10_fail = true := by decide +kernel
set_option maxRecDepth 100000 in
theorem rk_X12_compile : rx_rowsok rp_sig (yX12_compile, cX12_compile, (some FieldType.int), 2136, 2134, 2135, 199, [], 1) rw_X12_compile = true := by decide +kernel
set_option maxRecDepth 100000 in
theorem rk_X12_take : rx_rowsok rp_sig (yX12_take, cX12_take, (none : Option FieldType), 2140, 2139, 92, 199, [], 2) rw_X12_take = true := by decide +kernel
set_option maxRecDepth 100000 in
theorem rk_X12_skipBlanks : rx_rowsok rp_sig (yX12_skipBlanks, cX12_skipBlanks, (none : Option FieldType), 2144, 2143, 93, 199, [], 2) rw_X12_skipBlanks = true := by decide +kernel
set_option maxRecDepth 100000 in
theorem rk_X12_byteAt : rx_rowsok rp_sig (yX12_byteAt, cX12_byteAt, (some FieldType.int), 2152, 2151, 95, 199, [], 2) rw_X12_byteAt = true := by decide +kernel
set_option maxRecDepth 100000 in
theorem rk_X12_later : rx_rowsok rp_sig (yX12_later, cX12_later, (none : Option FieldType), 2185, 2184, 100, 199, [], 2) rw_X12_later = true := by decide +kernel
set_option maxRecDepth 100000 in
theorem rk_X12_work : rx_rowsok rp_sig (yX12_work, cX12_work, (none : Option FieldType), 2189, 2188, 101, 199, [], 2) rw_X12_work = true := by decide +kernel
set_option maxRecDepth 100000 in
theorem rk_X12_workOfBlocks : rx_rowsok rp_sig (yX12_workOfBlocks, cX12_workOfBlocks, (none : Option FieldType), 2312, 2311, 131, 199, [], 2) rw_X12_workOfBlocks = true := by decide +kernel
set_option maxRecDepth 100000 in
theorem rk_X12_block : rx_rowsok rp_sig (yX12_block, cX12_block, (none : Option FieldType), 2316, 2315, 132, 199, [], 1) rw_X12_block = true := by decide +kernel
set_option maxRecDepth 100000 in
theorem rk_X12_actionsOrBody : rx_rowsok rp_sig (yX12_actionsOrBody, cX12_actionsOrBody, (none : Option FieldType), 2369, 2368, 145, 199, [], 2) rw_X12_actionsOrBody = true := by decide +kernel
set_option maxRecDepth 100000 in
theorem rk_X12_want : rx_rowsok rp_sig (yX12_want, cX12_want, (none : Option FieldType), 2248, 2247, 115, 199, [], 2) rw_X12_want = true := by decide +kernel
set_option maxRecDepth 100000 in
theorem rk_X12_fail : rx_rowsok rp_sig (yX12_fail, cX12_fail, (none : Option FieldType), 2148, 2147, 94, 199, [], 3) rw_X12_fail = true := by decide +kernel
set_option maxRecDepth 100000 in
theorem rk_X12_statements : rx_rowsok rp_sig (yX12_statements, cX12_statements, (none : Option FieldType), 2381, 2380, 148, 199, [], 1) rw_X12_statements = true := by decide +kernel
set_option maxRecDepth 100000 in
theorem rk_X11_fault : rx_rowsok rp_sig (yX11_fault, cX11_fault, (some FieldType.int), 1255, 1253, 1254, 180, [], 1) rw_X11_fault = true := by decide +kernel
set_option maxRecDepth 100000 in
theorem rk_X10_failure : rx_rowsok rp_sig (yX10_failure, cX10_failure, (some FieldType.int), 1259, 1257, 1258, 182, [], 1) rw_X10_failure = true := by decide +kernel
set_option maxRecDepth 100000 in
theorem rk_X12_fault : rx_rowsok rp_sig (yX12_fault, cX12_fault, (some FieldType.int), 2417, 2415, 2416, 199, [], 1) rw_X12_fault = true := by decide +kernel
set_option maxRecDepth 100000 in
theorem rk_X11_place : rx_rowsok rp_sig (yX11_place, cX11_place, (some FieldType.int), 1263, 1261, 1262, 180, [], 1) rw_X11_place = true := by decide +kernel
set_option maxRecDepth 100000 in
theorem rk_X10_failedAt : rx_rowsok rp_sig (yX10_failedAt, cX10_failedAt, (some FieldType.int), 1267, 1265, 1266, 182, [], 1) rw_X10_failedAt = true := by decide +kernel
set_option maxRecDepth 100000 in
theorem rk_X12_place : rx_rowsok rp_sig (yX12_place, cX12_place, (some FieldType.int), 2421, 2419, 2420, 199, [], 1) rw_X12_place = true := by decide +kernel
set_option maxRecDepth 100000 in
theorem rk_X11_input : rx_rowsok rp_sig (yX11_input, cX11_input, (some FieldType.int), 1271, 1269, 1270, 180, [], 1) rw_X11_input = true := by decide +kernel
set_option maxRecDepth 100000 in
theorem rk_X8_become : rx_rowsok rp_sig (yX8_become, cX8_become, (none : Option FieldType), 1275, 1273, 1274, 181, [], 2) rw_X8_become = true := by decide +kernel
set_option maxRecDepth 100000 in
theorem rk_X12_input : rx_rowsok rp_sig (yX12_input, cX12_input, (some FieldType.int), 2425, 2423, 2424, 199, [], 2) rw_X12_input = true := by decide +kernel
set_option maxRecDepth 100000 in
theorem rk_L_run : rx_rowsok rp_sig (yL_run, cL_run, (some FieldType.int), 1329, 1328, 0, 179, [(0, 9, 12, 13)], 4) rw_L_run = true := by decide +kernel
set_option maxRecDepth 100000 in
theorem rk_X11_run : rx_rowsok rp_sig (yX11_run, cX11_run, (some FieldType.int), 1333, 1331, 1332, 180, [], 2) rw_X11_run = true := by decide +kernel
set_option maxRecDepth 100000 in
theorem rk_X12_run : rx_rowsok rp_sig (yX12_run, cX12_run, (some FieldType.int), 2429, 2427, 2428, 199, [], 2) rw_X12_run = true := by decide +kernel
set_option maxRecDepth 100000 in
theorem rk_X3_execute : rx_rowsok rp_sig (yX3_execute, cX3_execute, (some FieldType.int), 1338, 1336, 1337, 195, [], 3) rw_X3_execute = true := by decide +kernel
set_option maxRecDepth 100000 in
theorem rk_X3_startAgain : rx_rowsok rp_sig (yX3_startAgain, cX3_startAgain, (none : Option FieldType), 1342, 1341, 49, 195, [], 2) rw_X3_startAgain = true := by decide +kernel
set_option maxRecDepth 100000 in
theorem rk_X3_enter : rx_rowsok rp_sig (yX3_enter, cX3_enter, (some FieldType.boolean), 1347, 1346, 50, 195, [], 3) rw_X3_enter = true := by decide +kernel
set_option maxRecDepth 100000 in
theorem rk_X3_put : rx_rowsok rp_sig (yX3_put, cX3_put, (none : Option FieldType), 1568, 1567, 51, 195, [], 5) rw_X3_put = true := by decide +kernel
set_option maxRecDepth 100000 in
theorem rk_X3_isCell : rx_rowsok rp_sig (yX3_isCell, cX3_isCell, (some FieldType.boolean), 1571, 1570, 0, 195, [], 2) rw_X3_isCell = true := by decide +kernel
set_option maxRecDepth 100000 in
theorem rk_J9_max_7cf53 : rx_rowsok rp_sig (yJ9_max_7cf53, cJ9_max_7cf53, (some FieldType.int), 1410, 1409, 0, 197, [], 2) rw_J9_max_7cf53 = true := by decide +kernel
set_option maxRecDepth 100000 in
theorem rk_X3_operand : rx_rowsok rp_sig (yX3_operand, cX3_operand, (some FieldType.int), 1578, 1577, 52, 195, [], 2) rw_X3_operand = true := by decide +kernel
set_option maxRecDepth 100000 in
theorem rk_X1_at : rx_rowsok rp_sig (yX1_at, cX1_at, (some FieldType.int), 1582, 1580, 1581, 187, [], 2) rw_X1_at = true := by decide +kernel
set_option maxRecDepth 100000 in
theorem rk_X3_perform : rx_rowsok rp_sig (yX3_perform, cX3_perform, (none : Option FieldType), 1586, 1585, 53, 195, [], 4) rw_X3_perform = true := by decide +kernel
set_option maxRecDepth 100000 in
theorem rk_X3_control : rx_rowsok rp_sig (yX3_control, cX3_control, (none : Option FieldType), 1722, 1721, 78, 195, [], 3) rw_X3_control = true := by decide +kernel
set_option maxRecDepth 100000 in
theorem rk_X12_open : rx_rowsok rp_sig (yX12_open, cX12_open, (some FieldType.boolean), 2433, 2432, 157, 199, [], 6) rw_X12_open = true := by decide +kernel
set_option maxRecDepth 100000 in
theorem rk_X12_isWrong : rx_rowsok rp_sig (yX12_isWrong, cX12_isWrong, (some FieldType.boolean), 2437, 2436, 158, 199, [], 3) rw_X12_isWrong = true := by decide +kernel
set_option maxRecDepth 100000 in
theorem rk_X12_step : rx_rowsok rp_sig (yX12_step, cX12_step, (none : Option FieldType), 2445, 2444, 160, 199, [], 4) rw_X12_step = true := by decide +kernel
set_option maxRecDepth 100000 in
theorem rk_X12_leave : rx_rowsok rp_sig (yX12_leave, cX12_leave, (none : Option FieldType), 2476, 2475, 167, 199, [], 3) rw_X12_leave = true := by decide +kernel
set_option maxRecDepth 100000 in
theorem rk_X11_where : rx_rowsok rp_sig (yX11_where, cX11_where, (some FieldType.int), 1280, 1278, 1279, 180, [], 1) rw_X11_where = true := by decide +kernel
set_option maxRecDepth 100000 in
theorem rk_X3_errorPlace : rx_rowsok rp_sig (yX3_errorPlace, cX3_errorPlace, (some FieldType.int), 1284, 1282, 1283, 195, [], 1) rw_X3_errorPlace = true := by decide +kernel
set_option maxRecDepth 100000 in
theorem rk_X12_where : rx_rowsok rp_sig (yX12_where, cX12_where, (some FieldType.int), 2536, 2534, 2535, 199, [], 1) rw_X12_where = true := by decide +kernel
set_option maxRecDepth 100000 in
theorem rk_X11_written : rx_rowsok rp_sig (yX11_written, cX11_written, (some FieldType.int), 1288, 1286, 1287, 180, [], 1) rw_X11_written = true := by decide +kernel
set_option maxRecDepth 100000 in
theorem rk_X3_output : rx_rowsok rp_sig (yX3_output, cX3_output, (some (FieldType.object "TaggedPascal$Tape")), 1292, 1290, 1291, 195, [], 1) rw_X3_output = true := by decide +kernel
set_option maxRecDepth 100000 in
theorem rk_X12_written : rx_rowsok rp_sig (yX12_written, cX12_written, (some FieldType.int), 2540, 2538, 2539, 199, [], 1) rw_X12_written = true := by decide +kernel
set_option maxRecDepth 100000 in
theorem rk_X11_text : rx_rowsok rp_sig (yX11_text, cX11_text, (some FieldType.long), 1296, 1294, 1295, 180, [], 7) rw_X11_text = true := by decide +kernel
set_option maxRecDepth 100000 in
theorem rk_X12_text : rx_rowsok rp_sig (yX12_text, cX12_text, (some FieldType.long), 2544, 2542, 2543, 199, [], 7) rw_X12_text = true := by decide +kernel
set_option maxRecDepth 100000 in
theorem rk_L_told : rx_rowsok rp_sig (yL_told, cL_told, (some FieldType.int), 1757, 1756, 0, 179, [(0, 9, 12, 13)], 4) rw_L_told = true := by decide +kernel
set_option maxRecDepth 100000 in
theorem rk_X11_told : rx_rowsok rp_sig (yX11_told, cX11_told, (some FieldType.int), 1761, 1759, 1760, 180, [], 2) rw_X11_told = true := by decide +kernel
set_option maxRecDepth 100000 in
theorem rk_X12_told : rx_rowsok rp_sig (yX12_told, cX12_told, (some FieldType.int), 2548, 2546, 2547, 199, [], 2) rw_X12_told = true := by decide +kernel
set_option maxRecDepth 100000 in
theorem rk_X3_steps : rx_rowsok rp_sig (yX3_steps, cX3_steps, (some FieldType.int), 1765, 1763, 1764, 195, [], 1) rw_X3_steps = true := by decide +kernel
set_option maxRecDepth 100000 in
theorem rk_X3_mostBlocks : rx_rowsok rp_sig (yX3_mostBlocks, cX3_mostBlocks, (some FieldType.int), 1769, 1767, 1768, 195, [], 1) rw_X3_mostBlocks = true := by decide +kernel
set_option maxRecDepth 100000 in
theorem rk_X3_mostCells : rx_rowsok rp_sig (yX3_mostCells, cX3_mostCells, (some FieldType.int), 1773, 1771, 1772, 195, [], 1) rw_X3_mostCells = true := by decide +kernel
set_option maxRecDepth 100000 in
theorem rk_X3_bytesRead : rx_rowsok rp_sig (yX3_bytesRead, cX3_bytesRead, (some FieldType.int), 1777, 1775, 1776, 195, [], 1) rw_X3_bytesRead = true := by decide +kernel
set_option maxRecDepth 100000 in
theorem rk_J0_checkIndex_df160 : rx_rowsok rp_sig (yJ0_checkIndex_df160, cJ0_checkIndex_df160, (none : Option FieldType), 264, 263, 0, 183, [], 2) rw_J0_checkIndex_df160 = true := by decide +kernel
set_option maxRecDepth 100000 in
theorem rk_J3_checkIndex_8e157 : rx_rowsok rp_sig (yJ3_checkIndex_8e157, cJ3_checkIndex_8e157, (some FieldType.int), 269, 268, 0, 185, [], 3) rw_J3_checkIndex_8e157 = true := by decide +kernel
set_option maxRecDepth 100000 in
theorem rk_J7_fill_eb02e : rx_rowsok rp_sig (yJ7_fill_eb02e, cJ7_fill_eb02e, (none : Option FieldType), 1350, 1349, 0, 196, [], 5) rw_J7_fill_eb02e = true := by decide +kernel
set_option maxRecDepth 100000 in
theorem rk_J7_rangeCheck_23922 : rx_rowsok rp_sig (yJ7_rangeCheck_23922, cJ7_rangeCheck_23922, (none : Option FieldType), 1353, 1352, 0, 196, [], 3) rw_J7_rangeCheck_23922 = true := by decide +kernel
