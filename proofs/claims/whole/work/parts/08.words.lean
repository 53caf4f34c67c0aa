/-! The words that the walks use, by their places in the tables. (Printed by wip/whole/tool/gen08.py.) -/
theorem iw_X0 : ∀ w ∈ u_ws RX0 TX0 3, w ∈ g_WS := fun w hw => g_mem ((by decide +kernel : ∀ w ∈ u_ws RX0 TX0 3, w ∈ lw_tbl) w hw) ((by decide +kernel : ∀ w ∈ u_ws RX0 TX0 3, goodWord w = true) w hw)
theorem iw_X1 : ∀ w ∈ u_ws RX1 TX1 5, w ∈ g_WS := fun w hw => g_mem ((by decide +kernel : ∀ w ∈ u_ws RX1 TX1 5, w ∈ lw_tbl) w hw) ((by decide +kernel : ∀ w ∈ u_ws RX1 TX1 5, goodWord w = true) w hw)
theorem iw_X2 : ∀ w ∈ u_ws RX2 TX2 2, w ∈ g_WS := fun w hw => g_mem ((by decide +kernel : ∀ w ∈ u_ws RX2 TX2 2, w ∈ lw_tbl) w hw) ((by decide +kernel : ∀ w ∈ u_ws RX2 TX2 2, goodWord w = true) w hw)
theorem iw_X3 : ∀ w ∈ u_ws RX3 TX3 3, w ∈ g_WS := fun w hw => g_mem ((by decide +kernel : ∀ w ∈ u_ws RX3 TX3 3, w ∈ lw_tbl) w hw) ((by decide +kernel : ∀ w ∈ u_ws RX3 TX3 3, goodWord w = true) w hw)
theorem iw_X4 : ∀ w ∈ u_ws RX4 TX4 2, w ∈ g_WS := fun w hw => g_mem ((by decide +kernel : ∀ w ∈ u_ws RX4 TX4 2, w ∈ lw_tbl) w hw) ((by decide +kernel : ∀ w ∈ u_ws RX4 TX4 2, goodWord w = true) w hw)
theorem iw_X5 : ∀ w ∈ u_ws RX5 TX5 7, w ∈ g_WS := fun w hw => g_mem ((by decide +kernel : ∀ w ∈ u_ws RX5 TX5 7, w ∈ lw_tbl) w hw) ((by decide +kernel : ∀ w ∈ u_ws RX5 TX5 7, goodWord w = true) w hw)
theorem iw_X6 : ∀ w ∈ u_ws RX6 TX6 6, w ∈ g_WS := fun w hw => g_mem ((by decide +kernel : ∀ w ∈ u_ws RX6 TX6 6, w ∈ lw_tbl) w hw) ((by decide +kernel : ∀ w ∈ u_ws RX6 TX6 6, goodWord w = true) w hw)
theorem iw_X7 : ∀ w ∈ u_ws RX7 TX7 7, w ∈ g_WS := fun w hw => g_mem ((by decide +kernel : ∀ w ∈ u_ws RX7 TX7 7, w ∈ lw_tbl) w hw) ((by decide +kernel : ∀ w ∈ u_ws RX7 TX7 7, goodWord w = true) w hw)
theorem iw_X8 : ∀ w ∈ u_ws RX8 TX8 15, w ∈ g_WS := fun w hw => g_mem ((by decide +kernel : ∀ w ∈ u_ws RX8 TX8 15, w ∈ lw_tbl) w hw) ((by decide +kernel : ∀ w ∈ u_ws RX8 TX8 15, goodWord w = true) w hw)
theorem iw_X9 : ∀ w ∈ u_ws RX9 TX9 3, w ∈ g_WS := fun w hw => g_mem ((by decide +kernel : ∀ w ∈ u_ws RX9 TX9 3, w ∈ lw_tbl) w hw) ((by decide +kernel : ∀ w ∈ u_ws RX9 TX9 3, goodWord w = true) w hw)
theorem iw_X10 : ∀ w ∈ u_ws RX10 TX10 10, w ∈ g_WS := fun w hw => g_mem ((by decide +kernel : ∀ w ∈ u_ws RX10 TX10 10, w ∈ lw_tbl) w hw) ((by decide +kernel : ∀ w ∈ u_ws RX10 TX10 10, goodWord w = true) w hw)
theorem iw_X11 : ∀ w ∈ u_ws RX11 TX11 11, w ∈ g_WS := fun w hw => g_mem ((by decide +kernel : ∀ w ∈ u_ws RX11 TX11 11, w ∈ lw_tbl) w hw) ((by decide +kernel : ∀ w ∈ u_ws RX11 TX11 11, goodWord w = true) w hw)
theorem iw_X12 : ∀ w ∈ u_ws RX12 TX12 2, w ∈ g_WS := fun w hw => g_mem ((by decide +kernel : ∀ w ∈ u_ws RX12 TX12 2, w ∈ lw_tbl) w hw) ((by decide +kernel : ∀ w ∈ u_ws RX12 TX12 2, goodWord w = true) w hw)
theorem iw_X13 : ∀ w ∈ u_ws RX13 TX13 61, w ∈ g_WS := fun w hw => g_mem ((by decide +kernel : ∀ w ∈ u_ws RX13 TX13 61, w ∈ lw_tbl) w hw) ((by decide +kernel : ∀ w ∈ u_ws RX13 TX13 61, goodWord w = true) w hw)
theorem fl_X2_7 : FLk RX2 7 2 0 true (.array .byte) := ⟨RX2, TX2, 2, tyX2, rfl, by decide, rfl, iw_X2, g_tb (i := 38) (by decide +kernel) rfl, tyX2_ok, nmX2, rfl, by decide +kernel, fun _ => Or.inr trivial⟩
theorem fl_X2_13 : FLk RX2 13 2 1 false (.int) := ⟨RX2, TX2, 2, tyX2, rfl, by decide, rfl, iw_X2, g_tb (i := 39) (by decide +kernel) rfl, tyX2_ok, nmX2, rfl, by decide +kernel, fun _ => Or.inr trivial⟩
theorem fl_X4_15 : FLk RX4 15 4 0 true (.object "SharedBlocks$Bytes") := ⟨RX4, TX4, 2, tyX4, rfl, by decide, rfl, iw_X4, g_tb (i := 46) (by decide +kernel) rfl, tyX4_ok, nmX4, rfl, by decide +kernel, fun _ => Or.inr trivial⟩
theorem fl_X4_21 : FLk RX4 21 4 1 true (.array .int) := ⟨RX4, TX4, 2, tyX4, rfl, by decide, rfl, iw_X4, g_tb (i := 47) (by decide +kernel) rfl, tyX4_ok, nmX4, rfl, by decide +kernel, fun _ => Or.inr trivial⟩
theorem fl_X5_11 : FLk RX5 11 5 0 true (.array .int) := ⟨RX5, TX5, 7, tyX5, rfl, by decide, rfl, iw_X5, g_tb (i := 68) (by decide +kernel) rfl, tyX5_ok, nmX5, rfl, by decide +kernel, fun _ => Or.inr trivial⟩
theorem fl_X5_15 : FLk RX5 15 5 1 true (.array .int) := ⟨RX5, TX5, 7, tyX5, rfl, by decide, rfl, iw_X5, g_tb (i := 69) (by decide +kernel) rfl, tyX5_ok, nmX5, rfl, by decide +kernel, fun _ => Or.inr trivial⟩
theorem fl_X5_18 : FLk RX5 18 5 2 true (.array .int) := ⟨RX5, TX5, 7, tyX5, rfl, by decide, rfl, iw_X5, g_tb (i := 70) (by decide +kernel) rfl, tyX5_ok, nmX5, rfl, by decide +kernel, fun _ => Or.inr trivial⟩
theorem fl_X5_21 : FLk RX5 21 5 3 true (.array .int) := ⟨RX5, TX5, 7, tyX5, rfl, by decide, rfl, iw_X5, g_tb (i := 71) (by decide +kernel) rfl, tyX5_ok, nmX5, rfl, by decide +kernel, fun _ => Or.inr trivial⟩
theorem fl_X5_32 : FLk RX5 32 5 4 false (.int) := ⟨RX5, TX5, 7, tyX5, rfl, by decide, rfl, iw_X5, g_tb (i := 72) (by decide +kernel) rfl, tyX5_ok, nmX5, rfl, by decide +kernel, fun _ => Or.inr trivial⟩
theorem fl_X5_36 : FLk RX5 36 5 5 false (.int) := ⟨RX5, TX5, 7, tyX5, rfl, by decide, rfl, iw_X5, g_tb (i := 73) (by decide +kernel) rfl, tyX5_ok, nmX5, rfl, by decide +kernel, fun _ => Or.inr trivial⟩
theorem fl_X5_39 : FLk RX5 39 5 6 false (.int) := ⟨RX5, TX5, 7, tyX5, rfl, by decide, rfl, iw_X5, g_tb (i := 74) (by decide +kernel) rfl, tyX5_ok, nmX5, rfl, by decide +kernel, fun _ => Or.inr trivial⟩
theorem fl_X7_12 : FLk RX7 12 7 0 true (.array .int) := ⟨RX7, TX7, 7, tyX7, rfl, by decide, rfl, iw_X7, g_tb (i := 108) (by decide +kernel) rfl, tyX7_ok, nmX7, rfl, by decide +kernel, fun _ => Or.inr trivial⟩
theorem fl_X7_17 : FLk RX7 17 7 1 true (.array .int) := ⟨RX7, TX7, 7, tyX7, rfl, by decide, rfl, iw_X7, g_tb (i := 109) (by decide +kernel) rfl, tyX7_ok, nmX7, rfl, by decide +kernel, fun _ => Or.inr trivial⟩
theorem fl_X7_20 : FLk RX7 20 7 2 false (.int) := ⟨RX7, TX7, 7, tyX7, rfl, by decide, rfl, iw_X7, g_tb (i := 110) (by decide +kernel) rfl, tyX7_ok, nmX7, rfl, by decide +kernel, fun _ => Or.inr trivial⟩
theorem fl_X7_27 : FLk RX7 27 7 3 false (.int) := ⟨RX7, TX7, 7, tyX7, rfl, by decide, rfl, iw_X7, g_tb (i := 111) (by decide +kernel) rfl, tyX7_ok, nmX7, rfl, by decide +kernel, fun _ => Or.inr trivial⟩
theorem fl_X7_24 : FLk RX7 24 7 4 false (.int) := ⟨RX7, TX7, 7, tyX7, rfl, by decide, rfl, iw_X7, g_tb (i := 112) (by decide +kernel) rfl, tyX7_ok, nmX7, rfl, by decide +kernel, fun _ => Or.inr trivial⟩
theorem fl_X7_40 : FLk RX7 40 7 5 false (.int) := ⟨RX7, TX7, 7, tyX7, rfl, by decide, rfl, iw_X7, g_tb (i := 113) (by decide +kernel) rfl, tyX7_ok, nmX7, rfl, by decide +kernel, fun _ => Or.inr trivial⟩
theorem fl_X7_43 : FLk RX7 43 7 6 false (.int) := ⟨RX7, TX7, 7, tyX7, rfl, by decide, rfl, iw_X7, g_tb (i := 114) (by decide +kernel) rfl, tyX7_ok, nmX7, rfl, by decide +kernel, fun _ => Or.inr trivial⟩
theorem fl_X6_9 : FLk RX6 9 6 0 true (.array .int) := ⟨RX6, TX6, 6, tyX6, rfl, by decide, rfl, iw_X6, g_tb (i := 136) (by decide +kernel) rfl, tyX6_ok, nmX6, rfl, by decide +kernel, fun _ => Or.inr trivial⟩
theorem fl_X6_15 : FLk RX6 15 6 1 true (.array .int) := ⟨RX6, TX6, 6, tyX6, rfl, by decide, rfl, iw_X6, g_tb (i := 137) (by decide +kernel) rfl, tyX6_ok, nmX6, rfl, by decide +kernel, fun _ => Or.inr trivial⟩
theorem fl_X6_18 : FLk RX6 18 6 2 true (.array .int) := ⟨RX6, TX6, 6, tyX6, rfl, by decide, rfl, iw_X6, g_tb (i := 138) (by decide +kernel) rfl, tyX6_ok, nmX6, rfl, by decide +kernel, fun _ => Or.inr trivial⟩
theorem fl_X6_21 : FLk RX6 21 6 3 true (.array .int) := ⟨RX6, TX6, 6, tyX6, rfl, by decide, rfl, iw_X6, g_tb (i := 139) (by decide +kernel) rfl, tyX6_ok, nmX6, rfl, by decide +kernel, fun _ => Or.inr trivial⟩
theorem fl_X6_24 : FLk RX6 24 6 4 true (.array .int) := ⟨RX6, TX6, 6, tyX6, rfl, by decide, rfl, iw_X6, g_tb (i := 140) (by decide +kernel) rfl, tyX6_ok, nmX6, rfl, by decide +kernel, fun _ => Or.inr trivial⟩
theorem fl_X6_27 : FLk RX6 27 6 5 true (.array .boolean) := ⟨RX6, TX6, 6, tyX6, rfl, by decide, rfl, iw_X6, g_tb (i := 141) (by decide +kernel) rfl, tyX6_ok, nmX6, rfl, by decide +kernel, fun _ => Or.inr trivial⟩
theorem fl_X3_15 : FLk RX3 15 3 0 true (.array .int) := ⟨RX3, TX3, 3, tyX3, rfl, by decide, rfl, iw_X3, g_tb (i := 165) (by decide +kernel) rfl, tyX3_ok, nmX3, rfl, by decide +kernel, fun _ => Or.inr trivial⟩
theorem fl_X3_21 : FLk RX3 21 3 1 true (.array .int) := ⟨RX3, TX3, 3, tyX3, rfl, by decide, rfl, iw_X3, g_tb (i := 166) (by decide +kernel) rfl, tyX3_ok, nmX3, rfl, by decide +kernel, fun _ => Or.inr trivial⟩
theorem fl_X3_24 : FLk RX3 24 3 2 true (.array .int) := ⟨RX3, TX3, 3, tyX3, rfl, by decide, rfl, iw_X3, g_tb (i := 167) (by decide +kernel) rfl, tyX3_ok, nmX3, rfl, by decide +kernel, fun _ => Or.inr trivial⟩
theorem fl_X0_7 : FLk RX0 7 0 0 true (.object "SharedBlocks$Bytes") := ⟨RX0, TX0, 3, tyX0, rfl, by decide, rfl, iw_X0, g_tb (i := 181) (by decide +kernel) rfl, tyX0_ok, nmX0, rfl, by decide +kernel, fun _ => Or.inr trivial⟩
theorem fl_X0_13 : FLk RX0 13 0 1 false (.int) := ⟨RX0, TX0, 3, tyX0, rfl, by decide, rfl, iw_X0, g_tb (i := 182) (by decide +kernel) rfl, tyX0_ok, nmX0, rfl, by decide +kernel, fun _ => Or.inr trivial⟩
theorem fl_X0_17 : FLk RX0 17 0 2 false (.int) := ⟨RX0, TX0, 3, tyX0, rfl, by decide, rfl, iw_X0, g_tb (i := 183) (by decide +kernel) rfl, tyX0_ok, nmX0, rfl, by decide +kernel, fun _ => Or.inr trivial⟩
theorem fl_X8_64 : FLk RX8 64 8 0 true (.object "SharedBlocks$BitSink") := ⟨RX8, TX8, 15, tyX8, rfl, by decide, rfl, iw_X8, g_tb (i := 205) (by decide +kernel) rfl, tyX8_ok, nmX8, rfl, by decide +kernel, fun _ => Or.inr trivial⟩
theorem fl_X8_12 : FLk RX8 12 8 1 true (.object "SharedBlocks$Matcher") := ⟨RX8, TX8, 15, tyX8, rfl, by decide, rfl, iw_X8, g_tb (i := 206) (by decide +kernel) rfl, tyX8_ok, nmX8, rfl, by decide +kernel, fun _ => Or.inr trivial⟩
theorem fl_X8_21 : FLk RX8 21 8 2 true (.object "SharedBlocks$LengthMaker") := ⟨RX8, TX8, 15, tyX8, rfl, by decide, rfl, iw_X8, g_tb (i := 207) (by decide +kernel) rfl, tyX8_ok, nmX8, rfl, by decide +kernel, fun _ => Or.inr trivial⟩
theorem fl_X8_30 : FLk RX8 30 8 3 true (.object "SharedBlocks$Code") := ⟨RX8, TX8, 15, tyX8, rfl, by decide, rfl, iw_X8, g_tb (i := 208) (by decide +kernel) rfl, tyX8_ok, nmX8, rfl, by decide +kernel, fun _ => Or.inr trivial⟩
theorem fl_X8_34 : FLk RX8 34 8 4 true (.object "SharedBlocks$Code") := ⟨RX8, TX8, 15, tyX8, rfl, by decide, rfl, iw_X8, g_tb (i := 209) (by decide +kernel) rfl, tyX8_ok, nmX8, rfl, by decide +kernel, fun _ => Or.inr trivial⟩
theorem fl_X8_37 : FLk RX8 37 8 5 true (.object "SharedBlocks$Code") := ⟨RX8, TX8, 15, tyX8, rfl, by decide, rfl, iw_X8, g_tb (i := 210) (by decide +kernel) rfl, tyX8_ok, nmX8, rfl, by decide +kernel, fun _ => Or.inr trivial⟩
theorem fl_X8_40 : FLk RX8 40 8 6 true (.object "SharedBlocks$Code") := ⟨RX8, TX8, 15, tyX8, rfl, by decide, rfl, iw_X8, g_tb (i := 211) (by decide +kernel) rfl, tyX8_ok, nmX8, rfl, by decide +kernel, fun _ => Or.inr trivial⟩
theorem fl_X8_43 : FLk RX8 43 8 7 true (.object "SharedBlocks$Code") := ⟨RX8, TX8, 15, tyX8, rfl, by decide, rfl, iw_X8, g_tb (i := 212) (by decide +kernel) rfl, tyX8_ok, nmX8, rfl, by decide +kernel, fun _ => Or.inr trivial⟩
theorem fl_X8_46 : FLk RX8 46 8 8 true (.array .int) := ⟨RX8, TX8, 15, tyX8, rfl, by decide, rfl, iw_X8, g_tb (i := 213) (by decide +kernel) rfl, tyX8_ok, nmX8, rfl, by decide +kernel, fun _ => Or.inr trivial⟩
theorem fl_X8_50 : FLk RX8 50 8 9 true (.array .int) := ⟨RX8, TX8, 15, tyX8, rfl, by decide, rfl, iw_X8, g_tb (i := 214) (by decide +kernel) rfl, tyX8_ok, nmX8, rfl, by decide +kernel, fun _ => Or.inr trivial⟩
theorem fl_X8_122 : FLk RX8 122 8 10 false (.int) := ⟨RX8, TX8, 15, tyX8, rfl, by decide, rfl, iw_X8, g_tb (i := 215) (by decide +kernel) rfl, tyX8_ok, nmX8, rfl, by decide +kernel, fun _ => Or.inr trivial⟩
theorem fl_X8_126 : FLk RX8 126 8 11 false (.int) := ⟨RX8, TX8, 15, tyX8, rfl, by decide, rfl, iw_X8, g_tb (i := 216) (by decide +kernel) rfl, tyX8_ok, nmX8, rfl, by decide +kernel, fun _ => Or.inr trivial⟩
theorem fl_X8_53 : FLk RX8 53 8 12 true (.array .int) := ⟨RX8, TX8, 15, tyX8, rfl, by decide, rfl, iw_X8, g_tb (i := 217) (by decide +kernel) rfl, tyX8_ok, nmX8, rfl, by decide +kernel, fun _ => Or.inr trivial⟩
theorem fl_X8_56 : FLk RX8 56 8 13 true (.array .int) := ⟨RX8, TX8, 15, tyX8, rfl, by decide, rfl, iw_X8, g_tb (i := 218) (by decide +kernel) rfl, tyX8_ok, nmX8, rfl, by decide +kernel, fun _ => Or.inr trivial⟩
theorem fl_X8_180 : FLk RX8 180 8 14 false (.int) := ⟨RX8, TX8, 15, tyX8, rfl, by decide, rfl, iw_X8, g_tb (i := 219) (by decide +kernel) rfl, tyX8_ok, nmX8, rfl, by decide +kernel, fun _ => Or.inr trivial⟩
theorem fl_X9_9 : FLk RX9 9 9 0 true (.array .int) := ⟨RX9, TX9, 3, tyX9, rfl, by decide, rfl, iw_X9, g_tb (i := 263) (by decide +kernel) rfl, tyX9_ok, nmX9, rfl, by decide +kernel, fun _ => Or.inr trivial⟩
theorem fl_X9_15 : FLk RX9 15 9 1 true (.array .int) := ⟨RX9, TX9, 3, tyX9, rfl, by decide, rfl, iw_X9, g_tb (i := 264) (by decide +kernel) rfl, tyX9_ok, nmX9, rfl, by decide +kernel, fun _ => Or.inr trivial⟩
theorem fl_X9_18 : FLk RX9 18 9 2 true (.array .int) := ⟨RX9, TX9, 3, tyX9, rfl, by decide, rfl, iw_X9, g_tb (i := 265) (by decide +kernel) rfl, tyX9_ok, nmX9, rfl, by decide +kernel, fun _ => Or.inr trivial⟩
theorem fl_X1_7 : FLk RX1 7 1 0 true (.object "SharedBlocks$Bytes") := ⟨RX1, TX1, 5, tyX1, rfl, by decide, rfl, iw_X1, g_tb (i := 279) (by decide +kernel) rfl, tyX1_ok, nmX1, rfl, by decide +kernel, fun _ => Or.inr trivial⟩
theorem fl_X1_13 : FLk RX1 13 1 1 false (.int) := ⟨RX1, TX1, 5, tyX1, rfl, by decide, rfl, iw_X1, g_tb (i := 280) (by decide +kernel) rfl, tyX1_ok, nmX1, rfl, by decide +kernel, fun _ => Or.inr trivial⟩
theorem fl_X1_17 : FLk RX1 17 1 2 false (.int) := ⟨RX1, TX1, 5, tyX1, rfl, by decide, rfl, iw_X1, g_tb (i := 281) (by decide +kernel) rfl, tyX1_ok, nmX1, rfl, by decide +kernel, fun _ => Or.inr trivial⟩
theorem fl_X1_20 : FLk RX1 20 1 3 false (.int) := ⟨RX1, TX1, 5, tyX1, rfl, by decide, rfl, iw_X1, g_tb (i := 282) (by decide +kernel) rfl, tyX1_ok, nmX1, rfl, by decide +kernel, fun _ => Or.inr trivial⟩
theorem fl_X1_23 : FLk RX1 23 1 4 false (.boolean) := ⟨RX1, TX1, 5, tyX1, rfl, by decide, rfl, iw_X1, g_tb (i := 283) (by decide +kernel) rfl, tyX1_ok, nmX1, rfl, by decide +kernel, fun _ => Or.inr trivial⟩
theorem fl_X10_33 : FLk RX10 33 10 0 true (.object "SharedBlocks$BitSource") := ⟨RX10, TX10, 10, tyX10, rfl, by decide, rfl, iw_X10, g_tb (i := 295) (by decide +kernel) rfl, tyX10_ok, nmX10, rfl, by decide +kernel, fun _ => Or.inr trivial⟩
theorem fl_X10_37 : FLk RX10 37 10 1 true (.object "SharedBlocks$Bytes") := ⟨RX10, TX10, 10, tyX10, rfl, by decide, rfl, iw_X10, g_tb (i := 296) (by decide +kernel) rfl, tyX10_ok, nmX10, rfl, by decide +kernel, fun _ => Or.inr trivial⟩
theorem fl_X10_12 : FLk RX10 12 10 2 true (.object "SharedBlocks$ReadCode") := ⟨RX10, TX10, 10, tyX10, rfl, by decide, rfl, iw_X10, g_tb (i := 297) (by decide +kernel) rfl, tyX10_ok, nmX10, rfl, by decide +kernel, fun _ => Or.inr trivial⟩
theorem fl_X10_18 : FLk RX10 18 10 3 true (.object "SharedBlocks$ReadCode") := ⟨RX10, TX10, 10, tyX10, rfl, by decide, rfl, iw_X10, g_tb (i := 298) (by decide +kernel) rfl, tyX10_ok, nmX10, rfl, by decide +kernel, fun _ => Or.inr trivial⟩
theorem fl_X10_21 : FLk RX10 21 10 4 true (.object "SharedBlocks$ReadCode") := ⟨RX10, TX10, 10, tyX10, rfl, by decide, rfl, iw_X10, g_tb (i := 299) (by decide +kernel) rfl, tyX10_ok, nmX10, rfl, by decide +kernel, fun _ => Or.inr trivial⟩
theorem fl_X10_24 : FLk RX10 24 10 5 true (.array .int) := ⟨RX10, TX10, 10, tyX10, rfl, by decide, rfl, iw_X10, g_tb (i := 300) (by decide +kernel) rfl, tyX10_ok, nmX10, rfl, by decide +kernel, fun _ => Or.inr trivial⟩
theorem fl_X10_119 : FLk RX10 119 10 6 false (.int) := ⟨RX10, TX10, 10, tyX10, rfl, by decide, rfl, iw_X10, g_tb (i := 301) (by decide +kernel) rfl, tyX10_ok, nmX10, rfl, by decide +kernel, fun _ => Or.inr trivial⟩
theorem fl_X10_122 : FLk RX10 122 10 7 false (.int) := ⟨RX10, TX10, 10, tyX10, rfl, by decide, rfl, iw_X10, g_tb (i := 302) (by decide +kernel) rfl, tyX10_ok, nmX10, rfl, by decide +kernel, fun _ => Or.inr trivial⟩
theorem fl_X10_47 : FLk RX10 47 10 8 false (.int) := ⟨RX10, TX10, 10, tyX10, rfl, by decide, rfl, iw_X10, g_tb (i := 303) (by decide +kernel) rfl, tyX10_ok, nmX10, rfl, by decide +kernel, fun _ => Or.inr trivial⟩
theorem fl_X10_92 : FLk RX10 92 10 9 false (.int) := ⟨RX10, TX10, 10, tyX10, rfl, by decide, rfl, iw_X10, g_tb (i := 304) (by decide +kernel) rfl, tyX10_ok, nmX10, rfl, by decide +kernel, fun _ => Or.inr trivial⟩
theorem fl_X11_10 : FLk RX11 10 11 0 true (.object "SharedBlocks$Files") := ⟨RX11, TX11, 11, tyX11, rfl, by decide, rfl, iw_X11, g_tb (i := 326) (by decide +kernel) rfl, tyX11_ok, nmX11, rfl, by decide +kernel, fun _ => Or.inr trivial⟩
theorem fl_X11_19 : FLk RX11 19 11 1 true (.object "SharedBlocks$Layout") := ⟨RX11, TX11, 11, tyX11, rfl, by decide, rfl, iw_X11, g_tb (i := 327) (by decide +kernel) rfl, tyX11_ok, nmX11, rfl, by decide +kernel, fun _ => Or.inr trivial⟩
theorem fl_X11_28 : FLk RX11 28 11 2 true (.object "SharedBlocks$Bytes") := ⟨RX11, TX11, 11, tyX11, rfl, by decide, rfl, iw_X11, g_tb (i := 328) (by decide +kernel) rfl, tyX11_ok, nmX11, rfl, by decide +kernel, fun _ => Or.inr trivial⟩
theorem fl_X11_33 : FLk RX11 33 11 3 true (.object "SharedBlocks$Bytes") := ⟨RX11, TX11, 11, tyX11, rfl, by decide, rfl, iw_X11, g_tb (i := 329) (by decide +kernel) rfl, tyX11_ok, nmX11, rfl, by decide +kernel, fun _ => Or.inr trivial⟩
theorem fl_X11_37 : FLk RX11 37 11 4 true (.object "SharedBlocks$Bytes") := ⟨RX11, TX11, 11, tyX11, rfl, by decide, rfl, iw_X11, g_tb (i := 330) (by decide +kernel) rfl, tyX11_ok, nmX11, rfl, by decide +kernel, fun _ => Or.inr trivial⟩
theorem fl_X11_40 : FLk RX11 40 11 5 true (.object "SharedBlocks$Bytes") := ⟨RX11, TX11, 11, tyX11, rfl, by decide, rfl, iw_X11, g_tb (i := 331) (by decide +kernel) rfl, tyX11_ok, nmX11, rfl, by decide +kernel, fun _ => Or.inr trivial⟩
theorem fl_X11_43 : FLk RX11 43 11 6 true (.object "SharedBlocks$Bytes") := ⟨RX11, TX11, 11, tyX11, rfl, by decide, rfl, iw_X11, g_tb (i := 332) (by decide +kernel) rfl, tyX11_ok, nmX11, rfl, by decide +kernel, fun _ => Or.inr trivial⟩
theorem fl_X11_46 : FLk RX11 46 11 7 true (.object "SharedBlocks$Bytes") := ⟨RX11, TX11, 11, tyX11, rfl, by decide, rfl, iw_X11, g_tb (i := 333) (by decide +kernel) rfl, tyX11_ok, nmX11, rfl, by decide +kernel, fun _ => Or.inr trivial⟩
theorem fl_X11_54 : FLk RX11 54 11 8 true (.object "SharedBlocks$Packer") := ⟨RX11, TX11, 11, tyX11, rfl, by decide, rfl, iw_X11, g_tb (i := 334) (by decide +kernel) rfl, tyX11_ok, nmX11, rfl, by decide +kernel, fun _ => Or.inr trivial⟩
theorem fl_X11_63 : FLk RX11 63 11 9 true (.object "SharedBlocks$Unpacker") := ⟨RX11, TX11, 11, tyX11, rfl, by decide, rfl, iw_X11, g_tb (i := 335) (by decide +kernel) rfl, tyX11_ok, nmX11, rfl, by decide +kernel, fun _ => Or.inr trivial⟩
theorem fl_X11_67 : FLk RX11 67 11 10 false (.int) := ⟨RX11, TX11, 11, tyX11, rfl, by decide, rfl, iw_X11, g_tb (i := 336) (by decide +kernel) rfl, tyX11_ok, nmX11, rfl, by decide +kernel, fun _ => Or.inr trivial⟩
theorem gs_X11_222 : Cond.fieldLink RX11 222 "SharedBlocks" "ORDER" "[I" ∈ g_WS := g_tb (i := 665) (by decide +kernel) rfl
theorem fl_X12_7 : FLk RX12 7 12 0 true (.array .int) := ⟨RX12, TX12, 2, tyX12, rfl, by decide, rfl, iw_X12, g_tb (i := 944) (by decide +kernel) rfl, tyX12_ok, nmX12, rfl, by decide +kernel, fun _ => Or.inr trivial⟩
theorem fl_X12_13 : FLk RX12 13 12 1 false (.int) := ⟨RX12, TX12, 2, tyX12, rfl, by decide, rfl, iw_X12, g_tb (i := 946) (by decide +kernel) rfl, tyX12_ok, nmX12, rfl, by decide +kernel, fun _ => Or.inr trivial⟩
theorem fl_X13_139 : FLk RX13 139 13 0 false (.int) := ⟨RX13, TX13, 61, tyX13, rfl, by decide, rfl, iw_X13, g_tb (i := 952) (by decide +kernel) rfl, tyX13_ok, nmX13, rfl, by decide +kernel, fun _ => Or.inr trivial⟩
theorem fl_X13_9 : FLk RX13 9 13 1 true (.array .byte) := ⟨RX13, TX13, 61, tyX13, rfl, by decide, rfl, iw_X13, g_tb (i := 953) (by decide +kernel) rfl, tyX13_ok, nmX13, rfl, by decide +kernel, fun _ => Or.inr trivial⟩
theorem fl_X13_13 : FLk RX13 13 13 2 true (.array .int) := ⟨RX13, TX13, 61, tyX13, rfl, by decide, rfl, iw_X13, g_tb (i := 954) (by decide +kernel) rfl, tyX13_ok, nmX13, rfl, by decide +kernel, fun _ => Or.inr trivial⟩
theorem fl_X13_17 : FLk RX13 17 13 3 true (.array .int) := ⟨RX13, TX13, 61, tyX13, rfl, by decide, rfl, iw_X13, g_tb (i := 955) (by decide +kernel) rfl, tyX13_ok, nmX13, rfl, by decide +kernel, fun _ => Or.inr trivial⟩
theorem fl_X13_21 : FLk RX13 21 13 4 true (.array .byte) := ⟨RX13, TX13, 61, tyX13, rfl, by decide, rfl, iw_X13, g_tb (i := 956) (by decide +kernel) rfl, tyX13_ok, nmX13, rfl, by decide +kernel, fun _ => Or.inr trivial⟩
theorem fl_X13_142 : FLk RX13 142 13 5 false (.int) := ⟨RX13, TX13, 61, tyX13, rfl, by decide, rfl, iw_X13, g_tb (i := 957) (by decide +kernel) rfl, tyX13_ok, nmX13, rfl, by decide +kernel, fun _ => Or.inr trivial⟩
theorem fl_X13_24 : FLk RX13 24 13 6 false (.int) := ⟨RX13, TX13, 61, tyX13, rfl, by decide, rfl, iw_X13, g_tb (i := 958) (by decide +kernel) rfl, tyX13_ok, nmX13, rfl, by decide +kernel, fun _ => Or.inr trivial⟩
theorem fl_X13_332 : FLk RX13 332 13 7 false (.boolean) := ⟨RX13, TX13, 61, tyX13, rfl, by decide, rfl, iw_X13, g_tb (i := 959) (by decide +kernel) rfl, tyX13_ok, nmX13, rfl, by decide +kernel, fun _ => Or.inr trivial⟩
theorem fl_X13_355 : FLk RX13 355 13 8 false (.boolean) := ⟨RX13, TX13, 61, tyX13, rfl, by decide, rfl, iw_X13, g_tb (i := 960) (by decide +kernel) rfl, tyX13_ok, nmX13, rfl, by decide +kernel, fun _ => Or.inr trivial⟩
theorem fl_X13_28 : FLk RX13 28 13 9 true (.array .int) := ⟨RX13, TX13, 61, tyX13, rfl, by decide, rfl, iw_X13, g_tb (i := 961) (by decide +kernel) rfl, tyX13_ok, nmX13, rfl, by decide +kernel, fun _ => Or.inr trivial⟩
theorem fl_X13_31 : FLk RX13 31 13 10 true (.array .int) := ⟨RX13, TX13, 61, tyX13, rfl, by decide, rfl, iw_X13, g_tb (i := 962) (by decide +kernel) rfl, tyX13_ok, nmX13, rfl, by decide +kernel, fun _ => Or.inr trivial⟩
theorem fl_X13_34 : FLk RX13 34 13 11 true (.array .int) := ⟨RX13, TX13, 61, tyX13, rfl, by decide, rfl, iw_X13, g_tb (i := 963) (by decide +kernel) rfl, tyX13_ok, nmX13, rfl, by decide +kernel, fun _ => Or.inr trivial⟩
theorem fl_X13_37 : FLk RX13 37 13 12 true (.array .int) := ⟨RX13, TX13, 61, tyX13, rfl, by decide, rfl, iw_X13, g_tb (i := 964) (by decide +kernel) rfl, tyX13_ok, nmX13, rfl, by decide +kernel, fun _ => Or.inr trivial⟩
theorem fl_X13_40 : FLk RX13 40 13 13 true (.array .int) := ⟨RX13, TX13, 61, tyX13, rfl, by decide, rfl, iw_X13, g_tb (i := 965) (by decide +kernel) rfl, tyX13_ok, nmX13, rfl, by decide +kernel, fun _ => Or.inr trivial⟩
theorem fl_X13_43 : FLk RX13 43 13 14 true (.array .int) := ⟨RX13, TX13, 61, tyX13, rfl, by decide, rfl, iw_X13, g_tb (i := 966) (by decide +kernel) rfl, tyX13_ok, nmX13, rfl, by decide +kernel, fun _ => Or.inr trivial⟩
theorem fl_X13_46 : FLk RX13 46 13 15 true (.array .int) := ⟨RX13, TX13, 61, tyX13, rfl, by decide, rfl, iw_X13, g_tb (i := 967) (by decide +kernel) rfl, tyX13_ok, nmX13, rfl, by decide +kernel, fun _ => Or.inr trivial⟩
theorem fl_X13_352 : FLk RX13 352 13 16 false (.int) := ⟨RX13, TX13, 61, tyX13, rfl, by decide, rfl, iw_X13, g_tb (i := 968) (by decide +kernel) rfl, tyX13_ok, nmX13, rfl, by decide +kernel, fun _ => Or.inr trivial⟩
theorem fl_X13_49 : FLk RX13 49 13 17 true (.array .int) := ⟨RX13, TX13, 61, tyX13, rfl, by decide, rfl, iw_X13, g_tb (i := 969) (by decide +kernel) rfl, tyX13_ok, nmX13, rfl, by decide +kernel, fun _ => Or.inr trivial⟩
theorem fl_X13_346 : FLk RX13 346 13 18 false (.int) := ⟨RX13, TX13, 61, tyX13, rfl, by decide, rfl, iw_X13, g_tb (i := 970) (by decide +kernel) rfl, tyX13_ok, nmX13, rfl, by decide +kernel, fun _ => Or.inr trivial⟩
theorem fl_X13_52 : FLk RX13 52 13 19 true (.array .int) := ⟨RX13, TX13, 61, tyX13, rfl, by decide, rfl, iw_X13, g_tb (i := 971) (by decide +kernel) rfl, tyX13_ok, nmX13, rfl, by decide +kernel, fun _ => Or.inr trivial⟩
theorem fl_X13_55 : FLk RX13 55 13 20 true (.array .int) := ⟨RX13, TX13, 61, tyX13, rfl, by decide, rfl, iw_X13, g_tb (i := 972) (by decide +kernel) rfl, tyX13_ok, nmX13, rfl, by decide +kernel, fun _ => Or.inr trivial⟩
theorem fl_X13_58 : FLk RX13 58 13 21 true (.array .byte) := ⟨RX13, TX13, 61, tyX13, rfl, by decide, rfl, iw_X13, g_tb (i := 973) (by decide +kernel) rfl, tyX13_ok, nmX13, rfl, by decide +kernel, fun _ => Or.inr trivial⟩
theorem fl_X13_343 : FLk RX13 343 13 22 false (.int) := ⟨RX13, TX13, 61, tyX13, rfl, by decide, rfl, iw_X13, g_tb (i := 974) (by decide +kernel) rfl, tyX13_ok, nmX13, rfl, by decide +kernel, fun _ => Or.inr trivial⟩
theorem fl_X13_329 : FLk RX13 329 13 23 false (.int) := ⟨RX13, TX13, 61, tyX13, rfl, by decide, rfl, iw_X13, g_tb (i := 975) (by decide +kernel) rfl, tyX13_ok, nmX13, rfl, by decide +kernel, fun _ => Or.inr trivial⟩
theorem fl_X13_62 : FLk RX13 62 13 24 true (.array .byte) := ⟨RX13, TX13, 61, tyX13, rfl, by decide, rfl, iw_X13, g_tb (i := 976) (by decide +kernel) rfl, tyX13_ok, nmX13, rfl, by decide +kernel, fun _ => Or.inr trivial⟩
theorem fl_X13_396 : FLk RX13 396 13 25 false (.int) := ⟨RX13, TX13, 61, tyX13, rfl, by decide, rfl, iw_X13, g_tb (i := 977) (by decide +kernel) rfl, tyX13_ok, nmX13, rfl, by decide +kernel, fun _ => Or.inr trivial⟩
theorem fl_X13_65 : FLk RX13 65 13 26 true (.array .byte) := ⟨RX13, TX13, 61, tyX13, rfl, by decide, rfl, iw_X13, g_tb (i := 978) (by decide +kernel) rfl, tyX13_ok, nmX13, rfl, by decide +kernel, fun _ => Or.inr trivial⟩
theorem fl_X13_68 : FLk RX13 68 13 27 true (.array .byte) := ⟨RX13, TX13, 61, tyX13, rfl, by decide, rfl, iw_X13, g_tb (i := 979) (by decide +kernel) rfl, tyX13_ok, nmX13, rfl, by decide +kernel, fun _ => Or.inr trivial⟩
theorem fl_X13_378 : FLk RX13 378 13 28 false (.int) := ⟨RX13, TX13, 61, tyX13, rfl, by decide, rfl, iw_X13, g_tb (i := 980) (by decide +kernel) rfl, tyX13_ok, nmX13, rfl, by decide +kernel, fun _ => Or.inr trivial⟩
theorem fl_X13_71 : FLk RX13 71 13 29 true (.array .byte) := ⟨RX13, TX13, 61, tyX13, rfl, by decide, rfl, iw_X13, g_tb (i := 981) (by decide +kernel) rfl, tyX13_ok, nmX13, rfl, by decide +kernel, fun _ => Or.inr trivial⟩
theorem fl_X13_75 : FLk RX13 75 13 30 true (.array .byte) := ⟨RX13, TX13, 61, tyX13, rfl, by decide, rfl, iw_X13, g_tb (i := 982) (by decide +kernel) rfl, tyX13_ok, nmX13, rfl, by decide +kernel, fun _ => Or.inr trivial⟩
theorem fl_X13_167 : FLk RX13 167 13 31 false (.int) := ⟨RX13, TX13, 61, tyX13, rfl, by decide, rfl, iw_X13, g_tb (i := 983) (by decide +kernel) rfl, tyX13_ok, nmX13, rfl, by decide +kernel, fun _ => Or.inr trivial⟩
theorem fl_X13_78 : FLk RX13 78 13 32 true (.array .int) := ⟨RX13, TX13, 61, tyX13, rfl, by decide, rfl, iw_X13, g_tb (i := 984) (by decide +kernel) rfl, tyX13_ok, nmX13, rfl, by decide +kernel, fun _ => Or.inr trivial⟩
theorem fl_X13_81 : FLk RX13 81 13 33 true (.array .int) := ⟨RX13, TX13, 61, tyX13, rfl, by decide, rfl, iw_X13, g_tb (i := 985) (by decide +kernel) rfl, tyX13_ok, nmX13, rfl, by decide +kernel, fun _ => Or.inr trivial⟩
theorem fl_X13_178 : FLk RX13 178 13 34 false (.int) := ⟨RX13, TX13, 61, tyX13, rfl, by decide, rfl, iw_X13, g_tb (i := 986) (by decide +kernel) rfl, tyX13_ok, nmX13, rfl, by decide +kernel, fun _ => Or.inr trivial⟩
theorem fl_X13_84 : FLk RX13 84 13 35 true (.array .int) := ⟨RX13, TX13, 61, tyX13, rfl, by decide, rfl, iw_X13, g_tb (i := 987) (by decide +kernel) rfl, tyX13_ok, nmX13, rfl, by decide +kernel, fun _ => Or.inr trivial⟩
theorem fl_X13_87 : FLk RX13 87 13 36 true (.array .int) := ⟨RX13, TX13, 61, tyX13, rfl, by decide, rfl, iw_X13, g_tb (i := 988) (by decide +kernel) rfl, tyX13_ok, nmX13, rfl, by decide +kernel, fun _ => Or.inr trivial⟩
theorem fl_X13_90 : FLk RX13 90 13 37 true (.array .int) := ⟨RX13, TX13, 61, tyX13, rfl, by decide, rfl, iw_X13, g_tb (i := 989) (by decide +kernel) rfl, tyX13_ok, nmX13, rfl, by decide +kernel, fun _ => Or.inr trivial⟩
theorem fl_X13_93 : FLk RX13 93 13 38 true (.array .int) := ⟨RX13, TX13, 61, tyX13, rfl, by decide, rfl, iw_X13, g_tb (i := 990) (by decide +kernel) rfl, tyX13_ok, nmX13, rfl, by decide +kernel, fun _ => Or.inr trivial⟩
theorem fl_X13_96 : FLk RX13 96 13 39 true (.array .int) := ⟨RX13, TX13, 61, tyX13, rfl, by decide, rfl, iw_X13, g_tb (i := 991) (by decide +kernel) rfl, tyX13_ok, nmX13, rfl, by decide +kernel, fun _ => Or.inr trivial⟩
theorem fl_X13_99 : FLk RX13 99 13 40 true (.array .int) := ⟨RX13, TX13, 61, tyX13, rfl, by decide, rfl, iw_X13, g_tb (i := 992) (by decide +kernel) rfl, tyX13_ok, nmX13, rfl, by decide +kernel, fun _ => Or.inr trivial⟩
theorem fl_X13_102 : FLk RX13 102 13 41 true (.array .int) := ⟨RX13, TX13, 61, tyX13, rfl, by decide, rfl, iw_X13, g_tb (i := 993) (by decide +kernel) rfl, tyX13_ok, nmX13, rfl, by decide +kernel, fun _ => Or.inr trivial⟩
theorem fl_X13_105 : FLk RX13 105 13 42 true (.array .int) := ⟨RX13, TX13, 61, tyX13, rfl, by decide, rfl, iw_X13, g_tb (i := 994) (by decide +kernel) rfl, tyX13_ok, nmX13, rfl, by decide +kernel, fun _ => Or.inr trivial⟩
theorem fl_X13_108 : FLk RX13 108 13 43 true (.array .int) := ⟨RX13, TX13, 61, tyX13, rfl, by decide, rfl, iw_X13, g_tb (i := 995) (by decide +kernel) rfl, tyX13_ok, nmX13, rfl, by decide +kernel, fun _ => Or.inr trivial⟩
theorem fl_X13_111 : FLk RX13 111 13 44 true (.array .int) := ⟨RX13, TX13, 61, tyX13, rfl, by decide, rfl, iw_X13, g_tb (i := 996) (by decide +kernel) rfl, tyX13_ok, nmX13, rfl, by decide +kernel, fun _ => Or.inr trivial⟩
theorem fl_X13_195 : FLk RX13 195 13 45 false (.int) := ⟨RX13, TX13, 61, tyX13, rfl, by decide, rfl, iw_X13, g_tb (i := 997) (by decide +kernel) rfl, tyX13_ok, nmX13, rfl, by decide +kernel, fun _ => Or.inr trivial⟩
theorem fl_X13_114 : FLk RX13 114 13 46 true (.array .int) := ⟨RX13, TX13, 61, tyX13, rfl, by decide, rfl, iw_X13, g_tb (i := 998) (by decide +kernel) rfl, tyX13_ok, nmX13, rfl, by decide +kernel, fun _ => Or.inr trivial⟩
theorem fl_X13_117 : FLk RX13 117 13 47 true (.array .int) := ⟨RX13, TX13, 61, tyX13, rfl, by decide, rfl, iw_X13, g_tb (i := 999) (by decide +kernel) rfl, tyX13_ok, nmX13, rfl, by decide +kernel, fun _ => Or.inr trivial⟩
theorem fl_X13_120 : FLk RX13 120 13 48 true (.array .int) := ⟨RX13, TX13, 61, tyX13, rfl, by decide, rfl, iw_X13, g_tb (i := 1000) (by decide +kernel) rfl, tyX13_ok, nmX13, rfl, by decide +kernel, fun _ => Or.inr trivial⟩
theorem fl_X13_126 : FLk RX13 126 13 49 true (.object "SharedBlocksModel$Tree") := ⟨RX13, TX13, 61, tyX13, rfl, by decide, rfl, iw_X13, g_tb (i := 1001) (by decide +kernel) rfl, tyX13_ok, nmX13, rfl, by decide +kernel, fun _ => Or.inr trivial⟩
theorem fl_X13_130 : FLk RX13 130 13 50 true (.object "SharedBlocksModel$Tree") := ⟨RX13, TX13, 61, tyX13, rfl, by decide, rfl, iw_X13, g_tb (i := 1002) (by decide +kernel) rfl, tyX13_ok, nmX13, rfl, by decide +kernel, fun _ => Or.inr trivial⟩
theorem fl_X13_133 : FLk RX13 133 13 51 true (.object "SharedBlocksModel$Tree") := ⟨RX13, TX13, 61, tyX13, rfl, by decide, rfl, iw_X13, g_tb (i := 1003) (by decide +kernel) rfl, tyX13_ok, nmX13, rfl, by decide +kernel, fun _ => Or.inr trivial⟩
theorem fl_X13_136 : FLk RX13 136 13 52 true (.array .int) := ⟨RX13, TX13, 61, tyX13, rfl, by decide, rfl, iw_X13, g_tb (i := 1004) (by decide +kernel) rfl, tyX13_ok, nmX13, rfl, by decide +kernel, fun _ => Or.inr trivial⟩
theorem fl_X13_279 : FLk RX13 279 13 53 false (.array .byte) := ⟨RX13, TX13, 61, tyX13, rfl, by decide, rfl, iw_X13, g_tb (i := 1005) (by decide +kernel) rfl, tyX13_ok, nmX13, rfl, by decide +kernel, fun _ => Or.inr trivial⟩
theorem fl_X13_282 : FLk RX13 282 13 54 false (.int) := ⟨RX13, TX13, 61, tyX13, rfl, by decide, rfl, iw_X13, g_tb (i := 1006) (by decide +kernel) rfl, tyX13_ok, nmX13, rfl, by decide +kernel, fun _ => Or.inr trivial⟩
theorem fl_X13_276 : FLk RX13 276 13 55 false (.int) := ⟨RX13, TX13, 61, tyX13, rfl, by decide, rfl, iw_X13, g_tb (i := 1007) (by decide +kernel) rfl, tyX13_ok, nmX13, rfl, by decide +kernel, fun _ => Or.inr trivial⟩
theorem fl_X13_273 : FLk RX13 273 13 56 false (.int) := ⟨RX13, TX13, 61, tyX13, rfl, by decide, rfl, iw_X13, g_tb (i := 1008) (by decide +kernel) rfl, tyX13_ok, nmX13, rfl, by decide +kernel, fun _ => Or.inr trivial⟩
theorem fl_X13_269 : FLk RX13 269 13 57 false (.boolean) := ⟨RX13, TX13, 61, tyX13, rfl, by decide, rfl, iw_X13, g_tb (i := 1009) (by decide +kernel) rfl, tyX13_ok, nmX13, rfl, by decide +kernel, fun _ => Or.inr trivial⟩
theorem fl_X13_298 : FLk RX13 298 13 58 false (.array .byte) := ⟨RX13, TX13, 61, tyX13, rfl, by decide, rfl, iw_X13, g_tb (i := 1010) (by decide +kernel) rfl, tyX13_ok, nmX13, rfl, by decide +kernel, fun _ => Or.inr trivial⟩
theorem fl_X13_292 : FLk RX13 292 13 59 false (.int) := ⟨RX13, TX13, 61, tyX13, rfl, by decide, rfl, iw_X13, g_tb (i := 1011) (by decide +kernel) rfl, tyX13_ok, nmX13, rfl, by decide +kernel, fun _ => Or.inr trivial⟩
theorem fl_X13_295 : FLk RX13 295 13 60 false (.int) := ⟨RX13, TX13, 61, tyX13, rfl, by decide, rfl, iw_X13, g_tb (i := 1012) (by decide +kernel) rfl, tyX13_ok, nmX13, rfl, by decide +kernel, fun _ => Or.inr trivial⟩
abbrev mX11_init : MT := (yX11_init, cX11_init, 1, none, 0)
theorem cl_X11_init : CLk mX11_init 0 := ⟨g_tb (i := 21) (by decide +kernel) rfl, g_tb (i := 1) (by decide +kernel) rfl, ⟨by decide +kernel, by decide +kernel, by decide +kernel⟩, by decide⟩
theorem im_X11_init : Cond.instanceMethod yX11_init ∈ g_WS := g_tb (i := 20) (by decide +kernel) rfl
abbrev mX11_feed : MT := (yX11_feed, cX11_feed, 5, (some .int), 1)
theorem cl_X11_feed : CLk mX11_feed 2 := ⟨g_tb (i := 363) (by decide +kernel) rfl, g_tb (i := 1) (by decide +kernel) rfl, ⟨by decide +kernel, by decide +kernel, by decide +kernel⟩, by decide⟩
theorem im_X11_feed : Cond.instanceMethod yX11_feed ∈ g_WS := g_tb (i := 361) (by decide +kernel) rfl
theorem sl_X11_feed : Cond.selects yX11_feed.cls yX11_feed yX11_feed ∈ g_WS := g_tb (i := 362) (by decide +kernel) rfl
abbrev mX11_write : MT := (yX11_write, cX11_write, 4, (some .int), 1)
theorem cl_X11_write : CLk mX11_write 2 := ⟨g_tb (i := 379) (by decide +kernel) rfl, g_tb (i := 1) (by decide +kernel) rfl, ⟨by decide +kernel, by decide +kernel, by decide +kernel⟩, by decide⟩
theorem im_X11_write : Cond.instanceMethod yX11_write ∈ g_WS := g_tb (i := 377) (by decide +kernel) rfl
theorem sl_X11_write : Cond.selects yX11_write.cls yX11_write yX11_write ∈ g_WS := g_tb (i := 378) (by decide +kernel) rfl
abbrev mX11_writeTape : MT := (yX11_writeTape, cX11_writeTape, 7, (some .int), 1)
theorem cl_X11_writeTape : CLk mX11_writeTape 2 := ⟨g_tb (i := 383) (by decide +kernel) rfl, g_tb (i := 1) (by decide +kernel) rfl, ⟨by decide +kernel, by decide +kernel, by decide +kernel⟩, by decide⟩
theorem im_X11_writeTape : Cond.instanceMethod yX11_writeTape ∈ g_WS := g_tb (i := 382) (by decide +kernel) rfl
theorem sl_X11_writeTape : Cond.selects yX11_writeTape.cls yX11_writeTape yX11_writeTape ∈ g_WS := g_sl (i := 1) (by decide +kernel) rfl
abbrev mX11_fill : MT := (yX11_fill, cX11_fill, 8, (some .int), 1)
theorem cl_X11_fill : CLk mX11_fill 4 := ⟨g_tb (i := 435) (by decide +kernel) rfl, g_tb (i := 1) (by decide +kernel) rfl, ⟨by decide +kernel, by decide +kernel, by decide +kernel⟩, by decide⟩
theorem im_X11_fill : Cond.instanceMethod yX11_fill ∈ g_WS := g_tb (i := 433) (by decide +kernel) rfl
theorem sl_X11_fill : Cond.selects yX11_fill.cls yX11_fill yX11_fill ∈ g_WS := g_tb (i := 434) (by decide +kernel) rfl
abbrev mX11_clear : MT := (yX11_clear, cX11_clear, 3, (some .int), 1)
theorem cl_X11_clear : CLk mX11_clear 1 := ⟨g_tb (i := 440) (by decide +kernel) rfl, g_tb (i := 1) (by decide +kernel) rfl, ⟨by decide +kernel, by decide +kernel, by decide +kernel⟩, by decide⟩
theorem im_X11_clear : Cond.instanceMethod yX11_clear ∈ g_WS := g_tb (i := 438) (by decide +kernel) rfl
theorem sl_X11_clear : Cond.selects yX11_clear.cls yX11_clear yX11_clear ∈ g_WS := g_tb (i := 439) (by decide +kernel) rfl
abbrev mX11_put : MT := (yX11_put, cX11_put, 7, (some .int), 1)
theorem cl_X11_put : CLk mX11_put 3 := ⟨g_tb (i := 453) (by decide +kernel) rfl, g_tb (i := 1) (by decide +kernel) rfl, ⟨by decide +kernel, by decide +kernel, by decide +kernel⟩, by decide⟩
theorem im_X11_put : Cond.instanceMethod yX11_put ∈ g_WS := g_tb (i := 451) (by decide +kernel) rfl
theorem sl_X11_put : Cond.selects yX11_put.cls yX11_put yX11_put ∈ g_WS := g_tb (i := 452) (by decide +kernel) rfl
abbrev mX11_putBlocks : MT := (yX11_putBlocks, cX11_putBlocks, 10, (some .int), 1)
theorem cl_X11_putBlocks : CLk mX11_putBlocks 3 := ⟨g_tb (i := 482) (by decide +kernel) rfl, g_tb (i := 1) (by decide +kernel) rfl, ⟨by decide +kernel, by decide +kernel, by decide +kernel⟩, by decide⟩
theorem im_X11_putBlocks : Cond.instanceMethod yX11_putBlocks ∈ g_WS := g_tb (i := 481) (by decide +kernel) rfl
theorem sl_X11_putBlocks : Cond.selects yX11_putBlocks.cls yX11_putBlocks yX11_putBlocks ∈ g_WS := g_sl (i := 3) (by decide +kernel) rfl
abbrev mX11_joinFragment : MT := (yX11_joinFragment, cX11_joinFragment, 3, none, 0)
theorem cl_X11_joinFragment : CLk mX11_joinFragment 2 := ⟨g_tb (i := 731) (by decide +kernel) rfl, g_tb (i := 1) (by decide +kernel) rfl, ⟨by decide +kernel, by decide +kernel, by decide +kernel⟩, by decide⟩
theorem im_X11_joinFragment : Cond.instanceMethod yX11_joinFragment ∈ g_WS := g_tb (i := 730) (by decide +kernel) rfl
theorem sl_X11_joinFragment : Cond.selects yX11_joinFragment.cls yX11_joinFragment yX11_joinFragment ∈ g_WS := g_sl (i := 25) (by decide +kernel) rfl
abbrev mX11_closeFragment : MT := (yX11_closeFragment, cX11_closeFragment, 3, none, 0)
theorem cl_X11_closeFragment : CLk mX11_closeFragment 1 := ⟨g_tb (i := 723) (by decide +kernel) rfl, g_tb (i := 1) (by decide +kernel) rfl, ⟨by decide +kernel, by decide +kernel, by decide +kernel⟩, by decide⟩
theorem im_X11_closeFragment : Cond.instanceMethod yX11_closeFragment ∈ g_WS := g_tb (i := 722) (by decide +kernel) rfl
theorem sl_X11_closeFragment : Cond.selects yX11_closeFragment.cls yX11_closeFragment yX11_closeFragment ∈ g_WS := g_sl (i := 24) (by decide +kernel) rfl
abbrev mX11_append : MT := (yX11_append, cX11_append, 7, (some .int), 1)
theorem cl_X11_append : CLk mX11_append 4 := ⟨g_tb (i := 509) (by decide +kernel) rfl, g_tb (i := 1) (by decide +kernel) rfl, ⟨by decide +kernel, by decide +kernel, by decide +kernel⟩, by decide⟩
theorem im_X11_append : Cond.instanceMethod yX11_append ∈ g_WS := g_tb (i := 508) (by decide +kernel) rfl
theorem sl_X11_append : Cond.selects yX11_append.cls yX11_append yX11_append ∈ g_WS := g_sl (i := 4) (by decide +kernel) rfl
abbrev mX11_about : MT := (yX11_about, cX11_about, 3, (some .int), 1)
theorem cl_X11_about : CLk mX11_about 2 := ⟨g_tb (i := 739) (by decide +kernel) rfl, g_tb (i := 1) (by decide +kernel) rfl, ⟨by decide +kernel, by decide +kernel, by decide +kernel⟩, by decide⟩
theorem im_X11_about : Cond.instanceMethod yX11_about ∈ g_WS := g_tb (i := 737) (by decide +kernel) rfl
theorem sl_X11_about : Cond.selects yX11_about.cls yX11_about yX11_about ∈ g_WS := g_tb (i := 738) (by decide +kernel) rfl
abbrev mX11_number : MT := (yX11_number, cX11_number, 3, (some .int), 1)
theorem cl_X11_number : CLk mX11_number 2 := ⟨g_tb (i := 744) (by decide +kernel) rfl, g_tb (i := 1) (by decide +kernel) rfl, ⟨by decide +kernel, by decide +kernel, by decide +kernel⟩, by decide⟩
theorem im_X11_number : Cond.instanceMethod yX11_number ∈ g_WS := g_tb (i := 742) (by decide +kernel) rfl
theorem sl_X11_number : Cond.selects yX11_number.cls yX11_number yX11_number ∈ g_WS := g_tb (i := 743) (by decide +kernel) rfl
abbrev mX11_fragments : MT := (yX11_fragments, cX11_fragments, 1, (some .int), 1)
theorem cl_X11_fragments : CLk mX11_fragments 0 := ⟨g_tb (i := 752) (by decide +kernel) rfl, g_tb (i := 1) (by decide +kernel) rfl, ⟨by decide +kernel, by decide +kernel, by decide +kernel⟩, by decide⟩
theorem im_X11_fragments : Cond.instanceMethod yX11_fragments ∈ g_WS := g_tb (i := 750) (by decide +kernel) rfl
theorem sl_X11_fragments : Cond.selects yX11_fragments.cls yX11_fragments yX11_fragments ∈ g_WS := g_tb (i := 751) (by decide +kernel) rfl
abbrev mX11_fragment : MT := (yX11_fragment, cX11_fragment, 3, (some .int), 1)
theorem cl_X11_fragment : CLk mX11_fragment 2 := ⟨g_tb (i := 760) (by decide +kernel) rfl, g_tb (i := 1) (by decide +kernel) rfl, ⟨by decide +kernel, by decide +kernel, by decide +kernel⟩, by decide⟩
theorem im_X11_fragment : Cond.instanceMethod yX11_fragment ∈ g_WS := g_tb (i := 758) (by decide +kernel) rfl
theorem sl_X11_fragment : Cond.selects yX11_fragment.cls yX11_fragment yX11_fragment ∈ g_WS := g_tb (i := 759) (by decide +kernel) rfl
abbrev mX11_size : MT := (yX11_size, cX11_size, 1, (some .int), 1)
theorem cl_X11_size : CLk mX11_size 0 := ⟨g_tb (i := 772) (by decide +kernel) rfl, g_tb (i := 1) (by decide +kernel) rfl, ⟨by decide +kernel, by decide +kernel, by decide +kernel⟩, by decide⟩
theorem im_X11_size : Cond.instanceMethod yX11_size ∈ g_WS := g_tb (i := 770) (by decide +kernel) rfl
theorem sl_X11_size : Cond.selects yX11_size.cls yX11_size yX11_size ∈ g_WS := g_tb (i := 771) (by decide +kernel) rfl
abbrev mX11_word : MT := (yX11_word, cX11_word, 2, (some .long), 2)
theorem cl_X11_word : CLk mX11_word 1 := ⟨g_tb (i := 776) (by decide +kernel) rfl, g_tb (i := 1) (by decide +kernel) rfl, ⟨by decide +kernel, by decide +kernel, by decide +kernel⟩, by decide⟩
theorem im_X11_word : Cond.instanceMethod yX11_word ∈ g_WS := g_tb (i := 774) (by decide +kernel) rfl
theorem sl_X11_word : Cond.selects yX11_word.cls yX11_word yX11_word ∈ g_WS := g_tb (i := 775) (by decide +kernel) rfl
abbrev mX11_patch : MT := (yX11_patch, cX11_patch, 4, (some .int), 1)
theorem cl_X11_patch : CLk mX11_patch 2 := ⟨g_tb (i := 784) (by decide +kernel) rfl, g_tb (i := 1) (by decide +kernel) rfl, ⟨by decide +kernel, by decide +kernel, by decide +kernel⟩, by decide⟩
theorem im_X11_patch : Cond.instanceMethod yX11_patch ∈ g_WS := g_tb (i := 782) (by decide +kernel) rfl
theorem sl_X11_patch : Cond.selects yX11_patch.cls yX11_patch yX11_patch ∈ g_WS := g_tb (i := 783) (by decide +kernel) rfl
abbrev mX11_cut : MT := (yX11_cut, cX11_cut, 3, (some .int), 1)
theorem cl_X11_cut : CLk mX11_cut 1 := ⟨g_tb (i := 789) (by decide +kernel) rfl, g_tb (i := 1) (by decide +kernel) rfl, ⟨by decide +kernel, by decide +kernel, by decide +kernel⟩, by decide⟩
theorem im_X11_cut : Cond.instanceMethod yX11_cut ∈ g_WS := g_tb (i := 787) (by decide +kernel) rfl
theorem sl_X11_cut : Cond.selects yX11_cut.cls yX11_cut yX11_cut ∈ g_WS := g_tb (i := 788) (by decide +kernel) rfl
abbrev mX11_read : MT := (yX11_read, cX11_read, 10, (some .int), 1)
theorem cl_X11_read : CLk mX11_read 3 := ⟨g_tb (i := 793) (by decide +kernel) rfl, g_tb (i := 1) (by decide +kernel) rfl, ⟨by decide +kernel, by decide +kernel, by decide +kernel⟩, by decide⟩
theorem im_X11_read : Cond.instanceMethod yX11_read ∈ g_WS := g_tb (i := 791) (by decide +kernel) rfl
theorem sl_X11_read : Cond.selects yX11_read.cls yX11_read yX11_read ∈ g_WS := g_tb (i := 792) (by decide +kernel) rfl
abbrev mX11_readPiece : MT := (yX11_readPiece, cX11_readPiece, 14, (some .int), 1)
theorem cl_X11_readPiece : CLk mX11_readPiece 4 := ⟨g_tb (i := 805) (by decide +kernel) rfl, g_tb (i := 1) (by decide +kernel) rfl, ⟨by decide +kernel, by decide +kernel, by decide +kernel⟩, by decide⟩
theorem im_X11_readPiece : Cond.instanceMethod yX11_readPiece ∈ g_WS := g_tb (i := 804) (by decide +kernel) rfl
theorem sl_X11_readPiece : Cond.selects yX11_readPiece.cls yX11_readPiece yX11_readPiece ∈ g_WS := g_sl (i := 26) (by decide +kernel) rfl
abbrev mX11_out : MT := (yX11_out, cX11_out, 2, (some .long), 2)
theorem cl_X11_out : CLk mX11_out 1 := ⟨g_tb (i := 924) (by decide +kernel) rfl, g_tb (i := 1) (by decide +kernel) rfl, ⟨by decide +kernel, by decide +kernel, by decide +kernel⟩, by decide⟩
theorem im_X11_out : Cond.instanceMethod yX11_out ∈ g_WS := g_tb (i := 922) (by decide +kernel) rfl
theorem sl_X11_out : Cond.selects yX11_out.cls yX11_out yX11_out ∈ g_WS := g_tb (i := 923) (by decide +kernel) rfl
abbrev mX11_taken : MT := (yX11_taken, cX11_taken, 1, (some .int), 1)
theorem cl_X11_taken : CLk mX11_taken 0 := ⟨g_tb (i := 928) (by decide +kernel) rfl, g_tb (i := 1) (by decide +kernel) rfl, ⟨by decide +kernel, by decide +kernel, by decide +kernel⟩, by decide⟩
theorem im_X11_taken : Cond.instanceMethod yX11_taken ∈ g_WS := g_tb (i := 926) (by decide +kernel) rfl
theorem sl_X11_taken : Cond.selects yX11_taken.cls yX11_taken yX11_taken ∈ g_WS := g_tb (i := 927) (by decide +kernel) rfl
abbrev mX11_isFile : MT := (yX11_isFile, cX11_isFile, 1, (some .boolean), 1)
theorem cl_X11_isFile : CLk mX11_isFile 1 := ⟨g_tb (i := 386) (by decide +kernel) rfl, g_tb (i := 1) (by decide +kernel) rfl, ⟨by decide +kernel, by decide +kernel, by decide +kernel⟩, by decide⟩
theorem sm_X11_isFile : Cond.static yX11_isFile ∈ g_WS := g_tb (i := 385) (by decide +kernel) rfl
abbrev mX11_ordered : MT := (yX11_ordered, cX11_ordered, 1, (some .int), 1)
theorem cl_X11_ordered : CLk mX11_ordered 1 := ⟨g_tb (i := 664) (by decide +kernel) rfl, g_tb (i := 1) (by decide +kernel) rfl, ⟨by decide +kernel, by decide +kernel, by decide +kernel⟩, by decide⟩
theorem sm_X11_ordered : Cond.static yX11_ordered ∈ g_WS := g_tb (i := 663) (by decide +kernel) rfl
abbrev mX11_sizeBits : MT := (yX11_sizeBits, cX11_sizeBits, 1, (some .int), 1)
theorem cl_X11_sizeBits : CLk mX11_sizeBits 1 := ⟨g_tb (i := 674) (by decide +kernel) rfl, g_tb (i := 1) (by decide +kernel) rfl, ⟨by decide +kernel, by decide +kernel, by decide +kernel⟩, by decide⟩
theorem sm_X11_sizeBits : Cond.static yX11_sizeBits ∈ g_WS := g_tb (i := 673) (by decide +kernel) rfl
abbrev mX11_halvings : MT := (yX11_halvings, cX11_halvings, 3, (some .int), 1)
theorem cl_X11_halvings : CLk mX11_halvings 2 := ⟨g_tb (i := 564) (by decide +kernel) rfl, g_tb (i := 1) (by decide +kernel) rfl, ⟨by decide +kernel, by decide +kernel, by decide +kernel⟩, by decide⟩
theorem sm_X11_halvings : Cond.static yX11_halvings ∈ g_WS := g_tb (i := 563) (by decide +kernel) rfl
abbrev mX11_lengthSymbol : MT := (yX11_lengthSymbol, cX11_lengthSymbol, 2, (some .int), 1)
theorem cl_X11_lengthSymbol : CLk mX11_lengthSymbol 1 := ⟨g_tb (i := 561) (by decide +kernel) rfl, g_tb (i := 1) (by decide +kernel) rfl, ⟨by decide +kernel, by decide +kernel, by decide +kernel⟩, by decide⟩
theorem sm_X11_lengthSymbol : Cond.static yX11_lengthSymbol ∈ g_WS := g_tb (i := 560) (by decide +kernel) rfl
abbrev mX11_lengthBits : MT := (yX11_lengthBits, cX11_lengthBits, 1, (some .int), 1)
theorem cl_X11_lengthBits : CLk mX11_lengthBits 1 := ⟨g_tb (i := 578) (by decide +kernel) rfl, g_tb (i := 1) (by decide +kernel) rfl, ⟨by decide +kernel, by decide +kernel, by decide +kernel⟩, by decide⟩
theorem sm_X11_lengthBits : Cond.static yX11_lengthBits ∈ g_WS := g_tb (i := 577) (by decide +kernel) rfl
abbrev mX11_lengthBase : MT := (yX11_lengthBase, cX11_lengthBase, 1, (some .int), 1)
theorem cl_X11_lengthBase : CLk mX11_lengthBase 1 := ⟨g_tb (i := 700) (by decide +kernel) rfl, g_tb (i := 1) (by decide +kernel) rfl, ⟨by decide +kernel, by decide +kernel, by decide +kernel⟩, by decide⟩
theorem sm_X11_lengthBase : Cond.static yX11_lengthBase ∈ g_WS := g_tb (i := 699) (by decide +kernel) rfl
abbrev mX11_distanceSymbol : MT := (yX11_distanceSymbol, cX11_distanceSymbol, 2, (some .int), 1)
theorem cl_X11_distanceSymbol : CLk mX11_distanceSymbol 1 := ⟨g_tb (i := 567) (by decide +kernel) rfl, g_tb (i := 1) (by decide +kernel) rfl, ⟨by decide +kernel, by decide +kernel, by decide +kernel⟩, by decide⟩
theorem sm_X11_distanceSymbol : Cond.static yX11_distanceSymbol ∈ g_WS := g_tb (i := 566) (by decide +kernel) rfl
abbrev mX11_distanceBits : MT := (yX11_distanceBits, cX11_distanceBits, 1, (some .int), 1)
theorem cl_X11_distanceBits : CLk mX11_distanceBits 1 := ⟨g_tb (i := 581) (by decide +kernel) rfl, g_tb (i := 1) (by decide +kernel) rfl, ⟨by decide +kernel, by decide +kernel, by decide +kernel⟩, by decide⟩
theorem sm_X11_distanceBits : Cond.static yX11_distanceBits ∈ g_WS := g_tb (i := 580) (by decide +kernel) rfl
abbrev mX11_distanceBase : MT := (yX11_distanceBase, cX11_distanceBase, 1, (some .int), 1)
theorem cl_X11_distanceBase : CLk mX11_distanceBase 1 := ⟨g_tb (i := 704) (by decide +kernel) rfl, g_tb (i := 1) (by decide +kernel) rfl, ⟨by decide +kernel, by decide +kernel, by decide +kernel⟩, by decide⟩
theorem sm_X11_distanceBase : Cond.static yX11_distanceBase ∈ g_WS := g_tb (i := 703) (by decide +kernel) rfl
abbrev mX11_checkOf : MT := (yX11_checkOf, cX11_checkOf, 6, (some .int), 1)
theorem cl_X11_checkOf : CLk mX11_checkOf 3 := ⟨g_tb (i := 712) (by decide +kernel) rfl, g_tb (i := 1) (by decide +kernel) rfl, ⟨by decide +kernel, by decide +kernel, by decide +kernel⟩, by decide⟩
theorem sm_X11_checkOf : Cond.static yX11_checkOf ∈ g_WS := g_tb (i := 711) (by decide +kernel) rfl
abbrev mX11_fixedLength : MT := (yX11_fixedLength, cX11_fixedLength, 1, (some .int), 1)
theorem cl_X11_fixedLength : CLk mX11_fixedLength 1 := ⟨g_tb (i := 193) (by decide +kernel) rfl, g_tb (i := 1) (by decide +kernel) rfl, ⟨by decide +kernel, by decide +kernel, by decide +kernel⟩, by decide⟩
theorem sm_X11_fixedLength : Cond.static yX11_fixedLength ∈ g_WS := g_tb (i := 192) (by decide +kernel) rfl
abbrev mX13_init : MT := (yX13_init, cX13_init, 2, none, 0)
theorem cl_X13_init : CLk mX13_init 0 := ⟨g_tb (i := 933) (by decide +kernel) rfl, g_tb (i := 14) (by decide +kernel) rfl, ⟨by decide +kernel, by decide +kernel, by decide +kernel⟩, by decide⟩
theorem im_X13_init : Cond.instanceMethod yX13_init ∈ g_WS := g_tb (i := 932) (by decide +kernel) rfl
abbrev mX13_isFile : MT := (yX13_isFile, cX13_isFile, 1, (some .boolean), 1)
theorem cl_X13_isFile : CLk mX13_isFile 1 := ⟨g_tb (i := 1146) (by decide +kernel) rfl, g_tb (i := 14) (by decide +kernel) rfl, ⟨by decide +kernel, by decide +kernel, by decide +kernel⟩, by decide⟩
theorem sm_X13_isFile : Cond.static yX13_isFile ∈ g_WS := g_tb (i := 1145) (by decide +kernel) rfl
abbrev mX13_feed : MT := (yX13_feed, cX13_feed, 5, (some .int), 1)
theorem cl_X13_feed : CLk mX13_feed 2 := ⟨g_tb (i := 1139) (by decide +kernel) rfl, g_tb (i := 14) (by decide +kernel) rfl, ⟨by decide +kernel, by decide +kernel, by decide +kernel⟩, by decide⟩
theorem im_X13_feed : Cond.instanceMethod yX13_feed ∈ g_WS := g_tb (i := 1137) (by decide +kernel) rfl
theorem sl_X13_feed : Cond.selects yX13_feed.cls yX13_feed yX13_feed ∈ g_WS := g_tb (i := 1138) (by decide +kernel) rfl
abbrev mX13_extend : MT := (yX13_extend, cX13_extend, 5, (some .int), 1)
theorem cl_X13_extend : CLk mX13_extend 2 := ⟨g_tb (i := 1150) (by decide +kernel) rfl, g_tb (i := 14) (by decide +kernel) rfl, ⟨by decide +kernel, by decide +kernel, by decide +kernel⟩, by decide⟩
theorem im_X13_extend : Cond.instanceMethod yX13_extend ∈ g_WS := g_tb (i := 1149) (by decide +kernel) rfl
theorem sl_X13_extend : Cond.selects yX13_extend.cls yX13_extend yX13_extend ∈ g_WS := g_sl (i := 38) (by decide +kernel) rfl
abbrev mX13_write : MT := (yX13_write, cX13_write, 6, (some .int), 1)
theorem cl_X13_write : CLk mX13_write 2 := ⟨g_tb (i := 1143) (by decide +kernel) rfl, g_tb (i := 14) (by decide +kernel) rfl, ⟨by decide +kernel, by decide +kernel, by decide +kernel⟩, by decide⟩
theorem im_X13_write : Cond.instanceMethod yX13_write ∈ g_WS := g_tb (i := 1141) (by decide +kernel) rfl
theorem sl_X13_write : Cond.selects yX13_write.cls yX13_write yX13_write ∈ g_WS := g_tb (i := 1142) (by decide +kernel) rfl
abbrev mX13_fill : MT := (yX13_fill, cX13_fill, 8, (some .int), 1)
theorem cl_X13_fill : CLk mX13_fill 4 := ⟨g_tb (i := 1154) (by decide +kernel) rfl, g_tb (i := 14) (by decide +kernel) rfl, ⟨by decide +kernel, by decide +kernel, by decide +kernel⟩, by decide⟩
theorem im_X13_fill : Cond.instanceMethod yX13_fill ∈ g_WS := g_tb (i := 1152) (by decide +kernel) rfl
theorem sl_X13_fill : Cond.selects yX13_fill.cls yX13_fill yX13_fill ∈ g_WS := g_tb (i := 1153) (by decide +kernel) rfl
abbrev mX13_clear : MT := (yX13_clear, cX13_clear, 4, (some .int), 1)
theorem cl_X13_clear : CLk mX13_clear 1 := ⟨g_tb (i := 1159) (by decide +kernel) rfl, g_tb (i := 14) (by decide +kernel) rfl, ⟨by decide +kernel, by decide +kernel, by decide +kernel⟩, by decide⟩
theorem im_X13_clear : Cond.instanceMethod yX13_clear ∈ g_WS := g_tb (i := 1157) (by decide +kernel) rfl
theorem sl_X13_clear : Cond.selects yX13_clear.cls yX13_clear yX13_clear ∈ g_WS := g_tb (i := 1158) (by decide +kernel) rfl
abbrev mX13_lengthBits : MT := (yX13_lengthBits, cX13_lengthBits, 1, (some .int), 1)
theorem cl_X13_lengthBits : CLk mX13_lengthBits 1 := ⟨g_tb (i := 1217) (by decide +kernel) rfl, g_tb (i := 14) (by decide +kernel) rfl, ⟨by decide +kernel, by decide +kernel, by decide +kernel⟩, by decide⟩
theorem sm_X13_lengthBits : Cond.static yX13_lengthBits ∈ g_WS := g_tb (i := 1216) (by decide +kernel) rfl
abbrev mX13_lengthBase : MT := (yX13_lengthBase, cX13_lengthBase, 1, (some .int), 1)
theorem cl_X13_lengthBase : CLk mX13_lengthBase 1 := ⟨g_tb (i := 1214) (by decide +kernel) rfl, g_tb (i := 14) (by decide +kernel) rfl, ⟨by decide +kernel, by decide +kernel, by decide +kernel⟩, by decide⟩
theorem sm_X13_lengthBase : Cond.static yX13_lengthBase ∈ g_WS := g_tb (i := 1213) (by decide +kernel) rfl
abbrev mX13_distanceBits : MT := (yX13_distanceBits, cX13_distanceBits, 1, (some .int), 1)
theorem cl_X13_distanceBits : CLk mX13_distanceBits 1 := ⟨g_tb (i := 1226) (by decide +kernel) rfl, g_tb (i := 14) (by decide +kernel) rfl, ⟨by decide +kernel, by decide +kernel, by decide +kernel⟩, by decide⟩
theorem sm_X13_distanceBits : Cond.static yX13_distanceBits ∈ g_WS := g_tb (i := 1225) (by decide +kernel) rfl
abbrev mX13_distanceBase : MT := (yX13_distanceBase, cX13_distanceBase, 1, (some .int), 1)
theorem cl_X13_distanceBase : CLk mX13_distanceBase 1 := ⟨g_tb (i := 1223) (by decide +kernel) rfl, g_tb (i := 14) (by decide +kernel) rfl, ⟨by decide +kernel, by decide +kernel, by decide +kernel⟩, by decide⟩
theorem sm_X13_distanceBase : Cond.static yX13_distanceBase ∈ g_WS := g_tb (i := 1222) (by decide +kernel) rfl
abbrev mX13_lengthSymbol : MT := (yX13_lengthSymbol, cX13_lengthSymbol, 2, (some .int), 1)
theorem cl_X13_lengthSymbol : CLk mX13_lengthSymbol 1 := ⟨g_tb (i := 1211) (by decide +kernel) rfl, g_tb (i := 14) (by decide +kernel) rfl, ⟨by decide +kernel, by decide +kernel, by decide +kernel⟩, by decide⟩
theorem sm_X13_lengthSymbol : Cond.static yX13_lengthSymbol ∈ g_WS := g_tb (i := 1210) (by decide +kernel) rfl
abbrev mX13_distanceSymbol : MT := (yX13_distanceSymbol, cX13_distanceSymbol, 2, (some .int), 1)
theorem cl_X13_distanceSymbol : CLk mX13_distanceSymbol 1 := ⟨g_tb (i := 1220) (by decide +kernel) rfl, g_tb (i := 14) (by decide +kernel) rfl, ⟨by decide +kernel, by decide +kernel, by decide +kernel⟩, by decide⟩
theorem sm_X13_distanceSymbol : Cond.static yX13_distanceSymbol ∈ g_WS := g_tb (i := 1219) (by decide +kernel) rfl
abbrev mX13_smallOrder : MT := (yX13_smallOrder, cX13_smallOrder, 1, (some .int), 1)
theorem cl_X13_smallOrder : CLk mX13_smallOrder 1 := ⟨g_tb (i := 1253) (by decide +kernel) rfl, g_tb (i := 14) (by decide +kernel) rfl, ⟨by decide +kernel, by decide +kernel, by decide +kernel⟩, by decide⟩
theorem sm_X13_smallOrder : Cond.static yX13_smallOrder ∈ g_WS := g_tb (i := 1252) (by decide +kernel) rfl
abbrev mX13_writeBit : MT := (yX13_writeBit, cX13_writeBit, 3, none, 0)
theorem cl_X13_writeBit : CLk mX13_writeBit 1 := ⟨g_tb (i := 1195) (by decide +kernel) rfl, g_tb (i := 14) (by decide +kernel) rfl, ⟨by decide +kernel, by decide +kernel, by decide +kernel⟩, by decide⟩
theorem im_X13_writeBit : Cond.instanceMethod yX13_writeBit ∈ g_WS := g_tb (i := 1194) (by decide +kernel) rfl
theorem sl_X13_writeBit : Cond.selects yX13_writeBit.cls yX13_writeBit yX13_writeBit ∈ g_WS := g_sl (i := 46) (by decide +kernel) rfl
abbrev mX13_writeNumber : MT := (yX13_writeNumber, cX13_writeNumber, 4, none, 0)
theorem cl_X13_writeNumber : CLk mX13_writeNumber 2 := ⟨g_tb (i := 1191) (by decide +kernel) rfl, g_tb (i := 14) (by decide +kernel) rfl, ⟨by decide +kernel, by decide +kernel, by decide +kernel⟩, by decide⟩
theorem im_X13_writeNumber : Cond.instanceMethod yX13_writeNumber ∈ g_WS := g_tb (i := 1190) (by decide +kernel) rfl
theorem sl_X13_writeNumber : Cond.selects yX13_writeNumber.cls yX13_writeNumber yX13_writeNumber ∈ g_WS := g_sl (i := 45) (by decide +kernel) rfl
abbrev mX13_codeOf : MT := (yX13_codeOf, cX13_codeOf, 8, (some .int), 1)
theorem cl_X13_codeOf : CLk mX13_codeOf 4 := ⟨g_tb (i := 1280) (by decide +kernel) rfl, g_tb (i := 14) (by decide +kernel) rfl, ⟨by decide +kernel, by decide +kernel, by decide +kernel⟩, by decide⟩
theorem sm_X13_codeOf : Cond.static yX13_codeOf ∈ g_WS := g_tb (i := 1279) (by decide +kernel) rfl
abbrev mX13_makeCodes : MT := (yX13_makeCodes, cX13_makeCodes, 5, none, 0)
theorem cl_X13_makeCodes : CLk mX13_makeCodes 3 := ⟨g_tb (i := 1277) (by decide +kernel) rfl, g_tb (i := 14) (by decide +kernel) rfl, ⟨by decide +kernel, by decide +kernel, by decide +kernel⟩, by decide⟩
theorem im_X13_makeCodes : Cond.instanceMethod yX13_makeCodes ∈ g_WS := g_tb (i := 1276) (by decide +kernel) rfl
theorem sl_X13_makeCodes : Cond.selects yX13_makeCodes.cls yX13_makeCodes yX13_makeCodes ∈ g_WS := g_sl (i := 60) (by decide +kernel) rfl
abbrev mX13_writeCode : MT := (yX13_writeCode, cX13_writeCode, 4, none, 0)
theorem cl_X13_writeCode : CLk mX13_writeCode 2 := ⟨g_tb (i := 1284) (by decide +kernel) rfl, g_tb (i := 14) (by decide +kernel) rfl, ⟨by decide +kernel, by decide +kernel, by decide +kernel⟩, by decide⟩
theorem im_X13_writeCode : Cond.instanceMethod yX13_writeCode ∈ g_WS := g_tb (i := 1283) (by decide +kernel) rfl
theorem sl_X13_writeCode : Cond.selects yX13_writeCode.cls yX13_writeCode yX13_writeCode ∈ g_WS := g_sl (i := 61) (by decide +kernel) rfl
abbrev mX13_notePairs : MT := (yX13_notePairs, cX13_notePairs, 6, none, 0)
theorem cl_X13_notePairs : CLk mX13_notePairs 3 := ⟨g_tb (i := 1187) (by decide +kernel) rfl, g_tb (i := 14) (by decide +kernel) rfl, ⟨by decide +kernel, by decide +kernel, by decide +kernel⟩, by decide⟩
theorem im_X13_notePairs : Cond.instanceMethod yX13_notePairs ∈ g_WS := g_tb (i := 1186) (by decide +kernel) rfl
theorem sl_X13_notePairs : Cond.selects yX13_notePairs.cls yX13_notePairs yX13_notePairs ∈ g_WS := g_sl (i := 44) (by decide +kernel) rfl
abbrev mX13_cutPart : MT := (yX13_cutPart, cX13_cutPart, 11, none, 0)
theorem cl_X13_cutPart : CLk mX13_cutPart 4 := ⟨g_tb (i := 1203) (by decide +kernel) rfl, g_tb (i := 14) (by decide +kernel) rfl, ⟨by decide +kernel, by decide +kernel, by decide +kernel⟩, by decide⟩
theorem im_X13_cutPart : Cond.instanceMethod yX13_cutPart ∈ g_WS := g_tb (i := 1202) (by decide +kernel) rfl
theorem sl_X13_cutPart : Cond.selects yX13_cutPart.cls yX13_cutPart yX13_cutPart ∈ g_WS := g_sl (i := 48) (by decide +kernel) rfl
abbrev mX13_countTokens : MT := (yX13_countTokens, cX13_countTokens, 2, none, 0)
theorem cl_X13_countTokens : CLk mX13_countTokens 0 := ⟨g_tb (i := 1208) (by decide +kernel) rfl, g_tb (i := 14) (by decide +kernel) rfl, ⟨by decide +kernel, by decide +kernel, by decide +kernel⟩, by decide⟩
theorem im_X13_countTokens : Cond.instanceMethod yX13_countTokens ∈ g_WS := g_tb (i := 1207) (by decide +kernel) rfl
theorem sl_X13_countTokens : Cond.selects yX13_countTokens.cls yX13_countTokens yX13_countTokens ∈ g_WS := g_sl (i := 49) (by decide +kernel) rfl
abbrev mX13_rank : MT := (yX13_rank, cX13_rank, 6, (some .int), 1)
theorem cl_X13_rank : CLk mX13_rank 2 := ⟨g_tb (i := 1234) (by decide +kernel) rfl, g_tb (i := 14) (by decide +kernel) rfl, ⟨by decide +kernel, by decide +kernel, by decide +kernel⟩, by decide⟩
theorem im_X13_rank : Cond.instanceMethod yX13_rank ∈ g_WS := g_tb (i := 1233) (by decide +kernel) rfl
theorem sl_X13_rank : Cond.selects yX13_rank.cls yX13_rank yX13_rank ∈ g_WS := g_sl (i := 51) (by decide +kernel) rfl
abbrev mX13_findLengths : MT := (yX13_findLengths, cX13_findLengths, 12, none, 0)
theorem cl_X13_findLengths : CLk mX13_findLengths 3 := ⟨g_tb (i := 1230) (by decide +kernel) rfl, g_tb (i := 14) (by decide +kernel) rfl, ⟨by decide +kernel, by decide +kernel, by decide +kernel⟩, by decide⟩
theorem im_X13_findLengths : Cond.instanceMethod yX13_findLengths ∈ g_WS := g_tb (i := 1229) (by decide +kernel) rfl
theorem sl_X13_findLengths : Cond.selects yX13_findLengths.cls yX13_findLengths yX13_findLengths ∈ g_WS := g_sl (i := 50) (by decide +kernel) rfl
abbrev mX13_takeItem : MT := (yX13_takeItem, cX13_takeItem, 5, none, 0)
theorem cl_X13_takeItem : CLk mX13_takeItem 3 := ⟨g_tb (i := 1238) (by decide +kernel) rfl, g_tb (i := 14) (by decide +kernel) rfl, ⟨by decide +kernel, by decide +kernel, by decide +kernel⟩, by decide⟩
theorem im_X13_takeItem : Cond.instanceMethod yX13_takeItem ∈ g_WS := g_tb (i := 1237) (by decide +kernel) rfl
theorem sl_X13_takeItem : Cond.selects yX13_takeItem.cls yX13_takeItem yX13_takeItem ∈ g_WS := g_sl (i := 52) (by decide +kernel) rfl
abbrev mX13_tell : MT := (yX13_tell, cX13_tell, 3, none, 0)
theorem cl_X13_tell : CLk mX13_tell 2 := ⟨g_tb (i := 1250) (by decide +kernel) rfl, g_tb (i := 14) (by decide +kernel) rfl, ⟨by decide +kernel, by decide +kernel, by decide +kernel⟩, by decide⟩
theorem im_X13_tell : Cond.instanceMethod yX13_tell ∈ g_WS := g_tb (i := 1249) (by decide +kernel) rfl
theorem sl_X13_tell : Cond.selects yX13_tell.cls yX13_tell yX13_tell ∈ g_WS := g_sl (i := 55) (by decide +kernel) rfl
abbrev mX13_tellRow : MT := (yX13_tellRow, cX13_tellRow, 7, none, 0)
theorem cl_X13_tellRow : CLk mX13_tellRow 1 := ⟨g_tb (i := 1246) (by decide +kernel) rfl, g_tb (i := 14) (by decide +kernel) rfl, ⟨by decide +kernel, by decide +kernel, by decide +kernel⟩, by decide⟩
theorem im_X13_tellRow : Cond.instanceMethod yX13_tellRow ∈ g_WS := g_tb (i := 1245) (by decide +kernel) rfl
theorem sl_X13_tellRow : Cond.selects yX13_tellRow.cls yX13_tellRow yX13_tellRow ∈ g_WS := g_sl (i := 54) (by decide +kernel) rfl
abbrev mX13_stepBits : MT := (yX13_stepBits, cX13_stepBits, 1, (some .int), 1)
theorem cl_X13_stepBits : CLk mX13_stepBits 1 := ⟨g_tb (i := 1260) (by decide +kernel) rfl, g_tb (i := 14) (by decide +kernel) rfl, ⟨by decide +kernel, by decide +kernel, by decide +kernel⟩, by decide⟩
theorem sm_X13_stepBits : Cond.static yX13_stepBits ∈ g_WS := g_tb (i := 1259) (by decide +kernel) rfl
abbrev mX13_needed : MT := (yX13_needed, cX13_needed, 5, (some .int), 1)
theorem cl_X13_needed : CLk mX13_needed 3 := ⟨g_tb (i := 1242) (by decide +kernel) rfl, g_tb (i := 14) (by decide +kernel) rfl, ⟨by decide +kernel, by decide +kernel, by decide +kernel⟩, by decide⟩
theorem im_X13_needed : Cond.instanceMethod yX13_needed ∈ g_WS := g_tb (i := 1241) (by decide +kernel) rfl
theorem sl_X13_needed : Cond.selects yX13_needed.cls yX13_needed yX13_needed ∈ g_WS := g_sl (i := 53) (by decide +kernel) rfl
abbrev mX13_bitsBy : MT := (yX13_bitsBy, cX13_bitsBy, 6, (some .int), 1)
theorem cl_X13_bitsBy : CLk mX13_bitsBy 1 := ⟨g_tb (i := 1257) (by decide +kernel) rfl, g_tb (i := 14) (by decide +kernel) rfl, ⟨by decide +kernel, by decide +kernel, by decide +kernel⟩, by decide⟩
theorem im_X13_bitsBy : Cond.instanceMethod yX13_bitsBy ∈ g_WS := g_tb (i := 1256) (by decide +kernel) rfl
theorem sl_X13_bitsBy : Cond.selects yX13_bitsBy.cls yX13_bitsBy yX13_bitsBy ∈ g_WS := g_sl (i := 56) (by decide +kernel) rfl
abbrev mX13_writeTokens : MT := (yX13_writeTokens, cX13_writeTokens, 5, none, 0)
theorem cl_X13_writeTokens : CLk mX13_writeTokens 1 := ⟨g_tb (i := 1273) (by decide +kernel) rfl, g_tb (i := 14) (by decide +kernel) rfl, ⟨by decide +kernel, by decide +kernel, by decide +kernel⟩, by decide⟩
theorem im_X13_writeTokens : Cond.instanceMethod yX13_writeTokens ∈ g_WS := g_tb (i := 1272) (by decide +kernel) rfl
theorem sl_X13_writeTokens : Cond.selects yX13_writeTokens.cls yX13_writeTokens yX13_writeTokens ∈ g_WS := g_sl (i := 59) (by decide +kernel) rfl
abbrev mX13_makeFixed : MT := (yX13_makeFixed, cX13_makeFixed, 2, none, 0)
theorem cl_X13_makeFixed : CLk mX13_makeFixed 0 := ⟨g_tb (i := 1264) (by decide +kernel) rfl, g_tb (i := 14) (by decide +kernel) rfl, ⟨by decide +kernel, by decide +kernel, by decide +kernel⟩, by decide⟩
theorem im_X13_makeFixed : Cond.instanceMethod yX13_makeFixed ∈ g_WS := g_tb (i := 1263) (by decide +kernel) rfl
theorem sl_X13_makeFixed : Cond.selects yX13_makeFixed.cls yX13_makeFixed yX13_makeFixed ∈ g_WS := g_sl (i := 57) (by decide +kernel) rfl
abbrev mX13_packPart : MT := (yX13_packPart, cX13_packPart, 14, none, 0)
theorem cl_X13_packPart : CLk mX13_packPart 5 := ⟨g_tb (i := 1199) (by decide +kernel) rfl, g_tb (i := 14) (by decide +kernel) rfl, ⟨by decide +kernel, by decide +kernel, by decide +kernel⟩, by decide⟩
theorem im_X13_packPart : Cond.instanceMethod yX13_packPart ∈ g_WS := g_tb (i := 1198) (by decide +kernel) rfl
theorem sl_X13_packPart : Cond.selects yX13_packPart.cls yX13_packPart yX13_packPart ∈ g_WS := g_sl (i := 47) (by decide +kernel) rfl
abbrev mX13_endByte : MT := (yX13_endByte, cX13_endByte, 1, none, 0)
theorem cl_X13_endByte : CLk mX13_endByte 0 := ⟨g_tb (i := 1268) (by decide +kernel) rfl, g_tb (i := 14) (by decide +kernel) rfl, ⟨by decide +kernel, by decide +kernel, by decide +kernel⟩, by decide⟩
theorem im_X13_endByte : Cond.instanceMethod yX13_endByte ∈ g_WS := g_tb (i := 1267) (by decide +kernel) rfl
theorem sl_X13_endByte : Cond.selects yX13_endByte.cls yX13_endByte yX13_endByte ∈ g_WS := g_sl (i := 58) (by decide +kernel) rfl
abbrev mX13_checkOf : MT := (yX13_checkOf, cX13_checkOf, 8, (some .long), 2)
theorem cl_X13_checkOf : CLk mX13_checkOf 3 := ⟨g_tb (i := 1287) (by decide +kernel) rfl, g_tb (i := 14) (by decide +kernel) rfl, ⟨by decide +kernel, by decide +kernel, by decide +kernel⟩, by decide⟩
theorem sm_X13_checkOf : Cond.static yX13_checkOf ∈ g_WS := g_tb (i := 1286) (by decide +kernel) rfl
abbrev mX13_pack : MT := (yX13_pack, cX13_pack, 9, (some .int), 1)
theorem cl_X13_pack : CLk mX13_pack 3 := ⟨g_tb (i := 1183) (by decide +kernel) rfl, g_tb (i := 14) (by decide +kernel) rfl, ⟨by decide +kernel, by decide +kernel, by decide +kernel⟩, by decide⟩
theorem im_X13_pack : Cond.instanceMethod yX13_pack ∈ g_WS := g_tb (i := 1182) (by decide +kernel) rfl
theorem sl_X13_pack : Cond.selects yX13_pack.cls yX13_pack yX13_pack ∈ g_WS := g_sl (i := 43) (by decide +kernel) rfl
abbrev mX13_readBit : MT := (yX13_readBit, cX13_readBit, 2, (some .int), 1)
theorem cl_X13_readBit : CLk mX13_readBit 0 := ⟨g_tb (i := 1361) (by decide +kernel) rfl, g_tb (i := 14) (by decide +kernel) rfl, ⟨by decide +kernel, by decide +kernel, by decide +kernel⟩, by decide⟩
theorem im_X13_readBit : Cond.instanceMethod yX13_readBit ∈ g_WS := g_tb (i := 1360) (by decide +kernel) rfl
theorem sl_X13_readBit : Cond.selects yX13_readBit.cls yX13_readBit yX13_readBit ∈ g_WS := g_sl (i := 68) (by decide +kernel) rfl
abbrev mX13_readNumber : MT := (yX13_readNumber, cX13_readNumber, 4, (some .int), 1)
theorem cl_X13_readNumber : CLk mX13_readNumber 1 := ⟨g_tb (i := 1357) (by decide +kernel) rfl, g_tb (i := 14) (by decide +kernel) rfl, ⟨by decide +kernel, by decide +kernel, by decide +kernel⟩, by decide⟩
theorem im_X13_readNumber : Cond.instanceMethod yX13_readNumber ∈ g_WS := g_tb (i := 1356) (by decide +kernel) rfl
theorem sl_X13_readNumber : Cond.selects yX13_readNumber.cls yX13_readNumber yX13_readNumber ∈ g_WS := g_sl (i := 67) (by decide +kernel) rfl
abbrev mX13_readSymbol : MT := (yX13_readSymbol, cX13_readSymbol, 4, (some .int), 1)
theorem cl_X13_readSymbol : CLk mX13_readSymbol 1 := ⟨g_tb (i := 1390) (by decide +kernel) rfl, g_tb (i := 14) (by decide +kernel) rfl, ⟨by decide +kernel, by decide +kernel, by decide +kernel⟩, by decide⟩
theorem im_X13_readSymbol : Cond.instanceMethod yX13_readSymbol ∈ g_WS := g_tb (i := 1389) (by decide +kernel) rfl
theorem sl_X13_readSymbol : Cond.selects yX13_readSymbol.cls yX13_readSymbol yX13_readSymbol ∈ g_WS := g_sl (i := 74) (by decide +kernel) rfl
abbrev mX13_toByte : MT := (yX13_toByte, cX13_toByte, 1, none, 0)
theorem cl_X13_toByte : CLk mX13_toByte 0 := ⟨g_tb (i := 1369) (by decide +kernel) rfl, g_tb (i := 14) (by decide +kernel) rfl, ⟨by decide +kernel, by decide +kernel, by decide +kernel⟩, by decide⟩
theorem im_X13_toByte : Cond.instanceMethod yX13_toByte ∈ g_WS := g_tb (i := 1368) (by decide +kernel) rfl
theorem sl_X13_toByte : Cond.selects yX13_toByte.cls yX13_toByte yX13_toByte ∈ g_WS := g_sl (i := 70) (by decide +kernel) rfl
abbrev mX13_makeByte : MT := (yX13_makeByte, cX13_makeByte, 2, none, 0)
theorem cl_X13_makeByte : CLk mX13_makeByte 1 := ⟨g_tb (i := 1373) (by decide +kernel) rfl, g_tb (i := 14) (by decide +kernel) rfl, ⟨by decide +kernel, by decide +kernel, by decide +kernel⟩, by decide⟩
theorem im_X13_makeByte : Cond.instanceMethod yX13_makeByte ∈ g_WS := g_tb (i := 1372) (by decide +kernel) rfl
theorem sl_X13_makeByte : Cond.selects yX13_makeByte.cls yX13_makeByte yX13_makeByte ∈ g_WS := g_sl (i := 71) (by decide +kernel) rfl
abbrev mX13_readStored : MT := (yX13_readStored, cX13_readStored, 3, none, 0)
theorem cl_X13_readStored : CLk mX13_readStored 0 := ⟨g_tb (i := 1365) (by decide +kernel) rfl, g_tb (i := 14) (by decide +kernel) rfl, ⟨by decide +kernel, by decide +kernel, by decide +kernel⟩, by decide⟩
theorem im_X13_readStored : Cond.instanceMethod yX13_readStored ∈ g_WS := g_tb (i := 1364) (by decide +kernel) rfl
theorem sl_X13_readStored : Cond.selects yX13_readStored.cls yX13_readStored yX13_readStored ∈ g_WS := g_sl (i := 69) (by decide +kernel) rfl
abbrev mX13_readMade : MT := (yX13_readMade, cX13_readMade, 8, none, 0)
theorem cl_X13_readMade : CLk mX13_readMade 0 := ⟨g_tb (i := 1394) (by decide +kernel) rfl, g_tb (i := 14) (by decide +kernel) rfl, ⟨by decide +kernel, by decide +kernel, by decide +kernel⟩, by decide⟩
theorem im_X13_readMade : Cond.instanceMethod yX13_readMade ∈ g_WS := g_tb (i := 1393) (by decide +kernel) rfl
theorem sl_X13_readMade : Cond.selects yX13_readMade.cls yX13_readMade yX13_readMade ∈ g_WS := g_sl (i := 75) (by decide +kernel) rfl
abbrev mX13_readSymbols : MT := (yX13_readSymbols, cX13_readSymbols, 7, none, 0)
theorem cl_X13_readSymbols : CLk mX13_readSymbols 1 := ⟨g_tb (i := 1386) (by decide +kernel) rfl, g_tb (i := 14) (by decide +kernel) rfl, ⟨by decide +kernel, by decide +kernel, by decide +kernel⟩, by decide⟩
theorem im_X13_readSymbols : Cond.instanceMethod yX13_readSymbols ∈ g_WS := g_tb (i := 1385) (by decide +kernel) rfl
theorem sl_X13_readSymbols : Cond.selects yX13_readSymbols.cls yX13_readSymbols yX13_readSymbols ∈ g_WS := g_sl (i := 73) (by decide +kernel) rfl
abbrev mX13_unpack : MT := (yX13_unpack, cX13_unpack, 12, (some .int), 1)
theorem cl_X13_unpack : CLk mX13_unpack 5 := ⟨g_tb (i := 1353) (by decide +kernel) rfl, g_tb (i := 14) (by decide +kernel) rfl, ⟨by decide +kernel, by decide +kernel, by decide +kernel⟩, by decide⟩
theorem im_X13_unpack : Cond.instanceMethod yX13_unpack ∈ g_WS := g_tb (i := 1352) (by decide +kernel) rfl
theorem sl_X13_unpack : Cond.selects yX13_unpack.cls yX13_unpack yX13_unpack ∈ g_WS := g_sl (i := 66) (by decide +kernel) rfl
abbrev mX13_add : MT := (yX13_add, cX13_add, 2, none, 0)
theorem cl_X13_add : CLk mX13_add 1 := ⟨g_tb (i := 1294) (by decide +kernel) rfl, g_tb (i := 14) (by decide +kernel) rfl, ⟨by decide +kernel, by decide +kernel, by decide +kernel⟩, by decide⟩
theorem im_X13_add : Cond.instanceMethod yX13_add ∈ g_WS := g_tb (i := 1293) (by decide +kernel) rfl
theorem sl_X13_add : Cond.selects yX13_add.cls yX13_add yX13_add ∈ g_WS := g_sl (i := 62) (by decide +kernel) rfl
abbrev mX13_store : MT := (yX13_store, cX13_store, 6, (some .int), 1)
theorem cl_X13_store : CLk mX13_store 3 := ⟨g_tb (i := 1179) (by decide +kernel) rfl, g_tb (i := 14) (by decide +kernel) rfl, ⟨by decide +kernel, by decide +kernel, by decide +kernel⟩, by decide⟩
theorem im_X13_store : Cond.instanceMethod yX13_store ∈ g_WS := g_tb (i := 1178) (by decide +kernel) rfl
theorem sl_X13_store : Cond.selects yX13_store.cls yX13_store yX13_store ∈ g_WS := g_sl (i := 42) (by decide +kernel) rfl
abbrev mX13_closeFragment : MT := (yX13_closeFragment, cX13_closeFragment, 1, none, 0)
theorem cl_X13_closeFragment : CLk mX13_closeFragment 0 := ⟨g_tb (i := 1299) (by decide +kernel) rfl, g_tb (i := 14) (by decide +kernel) rfl, ⟨by decide +kernel, by decide +kernel, by decide +kernel⟩, by decide⟩
theorem im_X13_closeFragment : Cond.instanceMethod yX13_closeFragment ∈ g_WS := g_tb (i := 1298) (by decide +kernel) rfl
theorem sl_X13_closeFragment : Cond.selects yX13_closeFragment.cls yX13_closeFragment yX13_closeFragment ∈ g_WS := g_sl (i := 63) (by decide +kernel) rfl
abbrev mX13_twin : MT := (yX13_twin, cX13_twin, 5, (some .int), 1)
theorem cl_X13_twin : CLk mX13_twin 1 := ⟨g_tb (i := 1167) (by decide +kernel) rfl, g_tb (i := 14) (by decide +kernel) rfl, ⟨by decide +kernel, by decide +kernel, by decide +kernel⟩, by decide⟩
theorem im_X13_twin : Cond.instanceMethod yX13_twin ∈ g_WS := g_tb (i := 1166) (by decide +kernel) rfl
theorem sl_X13_twin : Cond.selects yX13_twin.cls yX13_twin yX13_twin ∈ g_WS := g_sl (i := 39) (by decide +kernel) rfl
abbrev mX13_putBlock : MT := (yX13_putBlock, cX13_putBlock, 6, none, 0)
theorem cl_X13_putBlock : CLk mX13_putBlock 3 := ⟨g_tb (i := 1175) (by decide +kernel) rfl, g_tb (i := 14) (by decide +kernel) rfl, ⟨by decide +kernel, by decide +kernel, by decide +kernel⟩, by decide⟩
theorem im_X13_putBlock : Cond.instanceMethod yX13_putBlock ∈ g_WS := g_tb (i := 1174) (by decide +kernel) rfl
theorem sl_X13_putBlock : Cond.selects yX13_putBlock.cls yX13_putBlock yX13_putBlock ∈ g_WS := g_sl (i := 41) (by decide +kernel) rfl
abbrev mX13_putFile : MT := (yX13_putFile, cX13_putFile, 7, none, 0)
theorem cl_X13_putFile : CLk mX13_putFile 1 := ⟨g_tb (i := 1171) (by decide +kernel) rfl, g_tb (i := 14) (by decide +kernel) rfl, ⟨by decide +kernel, by decide +kernel, by decide +kernel⟩, by decide⟩
theorem im_X13_putFile : Cond.instanceMethod yX13_putFile ∈ g_WS := g_tb (i := 1170) (by decide +kernel) rfl
theorem sl_X13_putFile : Cond.selects yX13_putFile.cls yX13_putFile yX13_putFile ∈ g_WS := g_sl (i := 40) (by decide +kernel) rfl
abbrev mX13_put : MT := (yX13_put, cX13_put, 6, (some .int), 1)
theorem cl_X13_put : CLk mX13_put 3 := ⟨g_tb (i := 1163) (by decide +kernel) rfl, g_tb (i := 14) (by decide +kernel) rfl, ⟨by decide +kernel, by decide +kernel, by decide +kernel⟩, by decide⟩
theorem im_X13_put : Cond.instanceMethod yX13_put ∈ g_WS := g_tb (i := 1161) (by decide +kernel) rfl
theorem sl_X13_put : Cond.selects yX13_put.cls yX13_put yX13_put ∈ g_WS := g_tb (i := 1162) (by decide +kernel) rfl
abbrev mX13_about : MT := (yX13_about, cX13_about, 3, (some .int), 1)
theorem cl_X13_about : CLk mX13_about 2 := ⟨g_tb (i := 1303) (by decide +kernel) rfl, g_tb (i := 14) (by decide +kernel) rfl, ⟨by decide +kernel, by decide +kernel, by decide +kernel⟩, by decide⟩
theorem im_X13_about : Cond.instanceMethod yX13_about ∈ g_WS := g_tb (i := 1301) (by decide +kernel) rfl
theorem sl_X13_about : Cond.selects yX13_about.cls yX13_about yX13_about ∈ g_WS := g_tb (i := 1302) (by decide +kernel) rfl
abbrev mX13_number : MT := (yX13_number, cX13_number, 3, (some .int), 1)
theorem cl_X13_number : CLk mX13_number 2 := ⟨g_tb (i := 1307) (by decide +kernel) rfl, g_tb (i := 14) (by decide +kernel) rfl, ⟨by decide +kernel, by decide +kernel, by decide +kernel⟩, by decide⟩
theorem im_X13_number : Cond.instanceMethod yX13_number ∈ g_WS := g_tb (i := 1305) (by decide +kernel) rfl
theorem sl_X13_number : Cond.selects yX13_number.cls yX13_number yX13_number ∈ g_WS := g_tb (i := 1306) (by decide +kernel) rfl
abbrev mX13_fragments : MT := (yX13_fragments, cX13_fragments, 1, (some .int), 1)
theorem cl_X13_fragments : CLk mX13_fragments 0 := ⟨g_tb (i := 1311) (by decide +kernel) rfl, g_tb (i := 14) (by decide +kernel) rfl, ⟨by decide +kernel, by decide +kernel, by decide +kernel⟩, by decide⟩
theorem im_X13_fragments : Cond.instanceMethod yX13_fragments ∈ g_WS := g_tb (i := 1309) (by decide +kernel) rfl
theorem sl_X13_fragments : Cond.selects yX13_fragments.cls yX13_fragments yX13_fragments ∈ g_WS := g_tb (i := 1310) (by decide +kernel) rfl
abbrev mX13_fragment : MT := (yX13_fragment, cX13_fragment, 3, (some .int), 1)
theorem cl_X13_fragment : CLk mX13_fragment 2 := ⟨g_tb (i := 1315) (by decide +kernel) rfl, g_tb (i := 14) (by decide +kernel) rfl, ⟨by decide +kernel, by decide +kernel, by decide +kernel⟩, by decide⟩
theorem im_X13_fragment : Cond.instanceMethod yX13_fragment ∈ g_WS := g_tb (i := 1313) (by decide +kernel) rfl
theorem sl_X13_fragment : Cond.selects yX13_fragment.cls yX13_fragment yX13_fragment ∈ g_WS := g_tb (i := 1314) (by decide +kernel) rfl
abbrev mX13_size : MT := (yX13_size, cX13_size, 1, (some .int), 1)
theorem cl_X13_size : CLk mX13_size 0 := ⟨g_tb (i := 1319) (by decide +kernel) rfl, g_tb (i := 14) (by decide +kernel) rfl, ⟨by decide +kernel, by decide +kernel, by decide +kernel⟩, by decide⟩
theorem im_X13_size : Cond.instanceMethod yX13_size ∈ g_WS := g_tb (i := 1317) (by decide +kernel) rfl
theorem sl_X13_size : Cond.selects yX13_size.cls yX13_size yX13_size ∈ g_WS := g_tb (i := 1318) (by decide +kernel) rfl
abbrev mX13_eight : MT := (yX13_eight, cX13_eight, 7, (some .long), 2)
theorem cl_X13_eight : CLk mX13_eight 3 := ⟨g_tb (i := 1326) (by decide +kernel) rfl, g_tb (i := 14) (by decide +kernel) rfl, ⟨by decide +kernel, by decide +kernel, by decide +kernel⟩, by decide⟩
theorem sm_X13_eight : Cond.static yX13_eight ∈ g_WS := g_tb (i := 1325) (by decide +kernel) rfl
abbrev mX13_word : MT := (yX13_word, cX13_word, 2, (some .long), 2)
theorem cl_X13_word : CLk mX13_word 1 := ⟨g_tb (i := 1323) (by decide +kernel) rfl, g_tb (i := 14) (by decide +kernel) rfl, ⟨by decide +kernel, by decide +kernel, by decide +kernel⟩, by decide⟩
theorem im_X13_word : Cond.instanceMethod yX13_word ∈ g_WS := g_tb (i := 1321) (by decide +kernel) rfl
theorem sl_X13_word : Cond.selects yX13_word.cls yX13_word yX13_word ∈ g_WS := g_tb (i := 1322) (by decide +kernel) rfl
abbrev mX13_patch : MT := (yX13_patch, cX13_patch, 4, (some .int), 1)
theorem cl_X13_patch : CLk mX13_patch 2 := ⟨g_tb (i := 1332) (by decide +kernel) rfl, g_tb (i := 14) (by decide +kernel) rfl, ⟨by decide +kernel, by decide +kernel, by decide +kernel⟩, by decide⟩
theorem im_X13_patch : Cond.instanceMethod yX13_patch ∈ g_WS := g_tb (i := 1330) (by decide +kernel) rfl
theorem sl_X13_patch : Cond.selects yX13_patch.cls yX13_patch yX13_patch ∈ g_WS := g_tb (i := 1331) (by decide +kernel) rfl
abbrev mX13_cut : MT := (yX13_cut, cX13_cut, 3, (some .int), 1)
theorem cl_X13_cut : CLk mX13_cut 1 := ⟨g_tb (i := 1336) (by decide +kernel) rfl, g_tb (i := 14) (by decide +kernel) rfl, ⟨by decide +kernel, by decide +kernel, by decide +kernel⟩, by decide⟩
theorem im_X13_cut : Cond.instanceMethod yX13_cut ∈ g_WS := g_tb (i := 1334) (by decide +kernel) rfl
theorem sl_X13_cut : Cond.selects yX13_cut.cls yX13_cut yX13_cut ∈ g_WS := g_tb (i := 1335) (by decide +kernel) rfl
abbrev mX13_take : MT := (yX13_take, cX13_take, 5, (some .int), 1)
theorem cl_X13_take : CLk mX13_take 2 := ⟨g_tb (i := 1348) (by decide +kernel) rfl, g_tb (i := 14) (by decide +kernel) rfl, ⟨by decide +kernel, by decide +kernel, by decide +kernel⟩, by decide⟩
theorem im_X13_take : Cond.instanceMethod yX13_take ∈ g_WS := g_tb (i := 1347) (by decide +kernel) rfl
theorem sl_X13_take : Cond.selects yX13_take.cls yX13_take yX13_take ∈ g_WS := g_sl (i := 65) (by decide +kernel) rfl
abbrev mX13_lay : MT := (yX13_lay, cX13_lay, 8, none, 0)
theorem cl_X13_lay : CLk mX13_lay 6 := ⟨g_tb (i := 1399) (by decide +kernel) rfl, g_tb (i := 14) (by decide +kernel) rfl, ⟨by decide +kernel, by decide +kernel, by decide +kernel⟩, by decide⟩
theorem im_X13_lay : Cond.instanceMethod yX13_lay ∈ g_WS := g_tb (i := 1398) (by decide +kernel) rfl
theorem sl_X13_lay : Cond.selects yX13_lay.cls yX13_lay yX13_lay ∈ g_WS := g_sl (i := 76) (by decide +kernel) rfl
abbrev mX13_layAll : MT := (yX13_layAll, cX13_layAll, 9, (some .boolean), 1)
theorem cl_X13_layAll : CLk mX13_layAll 3 := ⟨g_tb (i := 1344) (by decide +kernel) rfl, g_tb (i := 14) (by decide +kernel) rfl, ⟨by decide +kernel, by decide +kernel, by decide +kernel⟩, by decide⟩
theorem im_X13_layAll : Cond.instanceMethod yX13_layAll ∈ g_WS := g_tb (i := 1343) (by decide +kernel) rfl
theorem sl_X13_layAll : Cond.selects yX13_layAll.cls yX13_layAll yX13_layAll ∈ g_WS := g_sl (i := 64) (by decide +kernel) rfl
abbrev mX13_read : MT := (yX13_read, cX13_read, 7, (some .int), 1)
theorem cl_X13_read : CLk mX13_read 3 := ⟨g_tb (i := 1340) (by decide +kernel) rfl, g_tb (i := 14) (by decide +kernel) rfl, ⟨by decide +kernel, by decide +kernel, by decide +kernel⟩, by decide⟩
theorem im_X13_read : Cond.instanceMethod yX13_read ∈ g_WS := g_tb (i := 1338) (by decide +kernel) rfl
theorem sl_X13_read : Cond.selects yX13_read.cls yX13_read yX13_read ∈ g_WS := g_tb (i := 1339) (by decide +kernel) rfl
abbrev mX13_out : MT := (yX13_out, cX13_out, 2, (some .long), 2)
theorem cl_X13_out : CLk mX13_out 1 := ⟨g_tb (i := 1403) (by decide +kernel) rfl, g_tb (i := 14) (by decide +kernel) rfl, ⟨by decide +kernel, by decide +kernel, by decide +kernel⟩, by decide⟩
theorem im_X13_out : Cond.instanceMethod yX13_out ∈ g_WS := g_tb (i := 1401) (by decide +kernel) rfl
theorem sl_X13_out : Cond.selects yX13_out.cls yX13_out yX13_out ∈ g_WS := g_tb (i := 1402) (by decide +kernel) rfl
abbrev mX13_taken : MT := (yX13_taken, cX13_taken, 1, (some .int), 1)
theorem cl_X13_taken : CLk mX13_taken 0 := ⟨g_tb (i := 1407) (by decide +kernel) rfl, g_tb (i := 14) (by decide +kernel) rfl, ⟨by decide +kernel, by decide +kernel, by decide +kernel⟩, by decide⟩
theorem im_X13_taken : Cond.instanceMethod yX13_taken ∈ g_WS := g_tb (i := 1405) (by decide +kernel) rfl
theorem sl_X13_taken : Cond.selects yX13_taken.cls yX13_taken yX13_taken ∈ g_WS := g_tb (i := 1406) (by decide +kernel) rfl
abbrev mX0_init : MT := (yX0_init, cX0_init, 2, none, 0)
theorem cl_X0_init : CLk mX0_init 1 := ⟨g_tb (i := 179) (by decide +kernel) rfl, g_tb (i := 10) (by decide +kernel) rfl, ⟨by decide +kernel, by decide +kernel, by decide +kernel⟩, by decide⟩
theorem im_X0_init : Cond.instanceMethod yX0_init ∈ g_WS := g_tb (i := 178) (by decide +kernel) rfl
abbrev mX0_bits : MT := (yX0_bits, cX0_bits, 3, none, 0)
theorem cl_X0_bits : CLk mX0_bits 2 := ⟨g_tb (i := 521) (by decide +kernel) rfl, g_tb (i := 10) (by decide +kernel) rfl, ⟨by decide +kernel, by decide +kernel, by decide +kernel⟩, by decide⟩
theorem im_X0_bits : Cond.instanceMethod yX0_bits ∈ g_WS := g_tb (i := 519) (by decide +kernel) rfl
theorem sl_X0_bits : Cond.selects yX0_bits.cls yX0_bits yX0_bits ∈ g_WS := g_tb (i := 520) (by decide +kernel) rfl
abbrev mX0_bitsToByte : MT := (yX0_bitsToByte, cX0_bitsToByte, 2, (some .int), 1)
theorem cl_X0_bitsToByte : CLk mX0_bitsToByte 1 := ⟨g_tb (i := 678) (by decide +kernel) rfl, g_tb (i := 10) (by decide +kernel) rfl, ⟨by decide +kernel, by decide +kernel, by decide +kernel⟩, by decide⟩
theorem im_X0_bitsToByte : Cond.instanceMethod yX0_bitsToByte ∈ g_WS := g_tb (i := 676) (by decide +kernel) rfl
theorem sl_X0_bitsToByte : Cond.selects yX0_bitsToByte.cls yX0_bitsToByte yX0_bitsToByte ∈ g_WS := g_tb (i := 677) (by decide +kernel) rfl
abbrev mX0_endByte : MT := (yX0_endByte, cX0_endByte, 1, none, 0)
theorem cl_X0_endByte : CLk mX0_endByte 0 := ⟨g_tb (i := 682) (by decide +kernel) rfl, g_tb (i := 10) (by decide +kernel) rfl, ⟨by decide +kernel, by decide +kernel, by decide +kernel⟩, by decide⟩
theorem im_X0_endByte : Cond.instanceMethod yX0_endByte ∈ g_WS := g_tb (i := 680) (by decide +kernel) rfl
theorem sl_X0_endByte : Cond.selects yX0_endByte.cls yX0_endByte yX0_endByte ∈ g_WS := g_tb (i := 681) (by decide +kernel) rfl
abbrev mX1_init : MT := (yX1_init, cX1_init, 2, none, 0)
theorem cl_X1_init : CLk mX1_init 1 := ⟨g_tb (i := 277) (by decide +kernel) rfl, g_tb (i := 13) (by decide +kernel) rfl, ⟨by decide +kernel, by decide +kernel, by decide +kernel⟩, by decide⟩
theorem im_X1_init : Cond.instanceMethod yX1_init ∈ g_WS := g_tb (i := 276) (by decide +kernel) rfl
abbrev mX1_begin : MT := (yX1_begin, cX1_begin, 3, none, 0)
theorem cl_X1_begin : CLk mX1_begin 2 := ⟨g_tb (i := 832) (by decide +kernel) rfl, g_tb (i := 13) (by decide +kernel) rfl, ⟨by decide +kernel, by decide +kernel, by decide +kernel⟩, by decide⟩
theorem im_X1_begin : Cond.instanceMethod yX1_begin ∈ g_WS := g_tb (i := 830) (by decide +kernel) rfl
theorem sl_X1_begin : Cond.selects yX1_begin.cls yX1_begin yX1_begin ∈ g_WS := g_tb (i := 831) (by decide +kernel) rfl
abbrev mX1_isMissing : MT := (yX1_isMissing, cX1_isMissing, 1, (some .boolean), 1)
theorem cl_X1_isMissing : CLk mX1_isMissing 0 := ⟨g_tb (i := 849) (by decide +kernel) rfl, g_tb (i := 13) (by decide +kernel) rfl, ⟨by decide +kernel, by decide +kernel, by decide +kernel⟩, by decide⟩
theorem im_X1_isMissing : Cond.instanceMethod yX1_isMissing ∈ g_WS := g_tb (i := 847) (by decide +kernel) rfl
theorem sl_X1_isMissing : Cond.selects yX1_isMissing.cls yX1_isMissing yX1_isMissing ∈ g_WS := g_tb (i := 848) (by decide +kernel) rfl
abbrev mX1_bit : MT := (yX1_bit, cX1_bit, 2, (some .int), 1)
theorem cl_X1_bit : CLk mX1_bit 0 := ⟨g_tb (i := 844) (by decide +kernel) rfl, g_tb (i := 13) (by decide +kernel) rfl, ⟨by decide +kernel, by decide +kernel, by decide +kernel⟩, by decide⟩
theorem im_X1_bit : Cond.instanceMethod yX1_bit ∈ g_WS := g_tb (i := 842) (by decide +kernel) rfl
theorem sl_X1_bit : Cond.selects yX1_bit.cls yX1_bit yX1_bit ∈ g_WS := g_tb (i := 843) (by decide +kernel) rfl
abbrev mX1_bits : MT := (yX1_bits, cX1_bits, 4, (some .int), 1)
theorem cl_X1_bits : CLk mX1_bits 1 := ⟨g_tb (i := 840) (by decide +kernel) rfl, g_tb (i := 13) (by decide +kernel) rfl, ⟨by decide +kernel, by decide +kernel, by decide +kernel⟩, by decide⟩
theorem im_X1_bits : Cond.instanceMethod yX1_bits ∈ g_WS := g_tb (i := 838) (by decide +kernel) rfl
theorem sl_X1_bits : Cond.selects yX1_bits.cls yX1_bits yX1_bits ∈ g_WS := g_tb (i := 839) (by decide +kernel) rfl
abbrev mX1_endByte : MT := (yX1_endByte, cX1_endByte, 1, none, 0)
theorem cl_X1_endByte : CLk mX1_endByte 0 := ⟨g_tb (i := 859) (by decide +kernel) rfl, g_tb (i := 13) (by decide +kernel) rfl, ⟨by decide +kernel, by decide +kernel, by decide +kernel⟩, by decide⟩
theorem im_X1_endByte : Cond.instanceMethod yX1_endByte ∈ g_WS := g_tb (i := 857) (by decide +kernel) rfl
theorem sl_X1_endByte : Cond.selects yX1_endByte.cls yX1_endByte yX1_endByte ∈ g_WS := g_tb (i := 858) (by decide +kernel) rfl
abbrev mX1_bytesLeft : MT := (yX1_bytesLeft, cX1_bytesLeft, 1, (some .int), 1)
theorem cl_X1_bytesLeft : CLk mX1_bytesLeft 0 := ⟨g_tb (i := 864) (by decide +kernel) rfl, g_tb (i := 13) (by decide +kernel) rfl, ⟨by decide +kernel, by decide +kernel, by decide +kernel⟩, by decide⟩
theorem im_X1_bytesLeft : Cond.instanceMethod yX1_bytesLeft ∈ g_WS := g_tb (i := 862) (by decide +kernel) rfl
theorem sl_X1_bytesLeft : Cond.selects yX1_bytesLeft.cls yX1_bytesLeft yX1_bytesLeft ∈ g_WS := g_tb (i := 863) (by decide +kernel) rfl
abbrev mX2_init : MT := (yX2_init, cX2_init, 2, none, 0)
theorem cl_X2_init : CLk mX2_init 1 := ⟨g_tb (i := 36) (by decide +kernel) rfl, g_tb (i := 3) (by decide +kernel) rfl, ⟨by decide +kernel, by decide +kernel, by decide +kernel⟩, by decide⟩
theorem im_X2_init : Cond.instanceMethod yX2_init ∈ g_WS := g_tb (i := 35) (by decide +kernel) rfl
abbrev mX2_count : MT := (yX2_count, cX2_count, 1, (some .int), 1)
theorem cl_X2_count : CLk mX2_count 0 := ⟨g_tb (i := 375) (by decide +kernel) rfl, g_tb (i := 3) (by decide +kernel) rfl, ⟨by decide +kernel, by decide +kernel, by decide +kernel⟩, by decide⟩
theorem im_X2_count : Cond.instanceMethod yX2_count ∈ g_WS := g_tb (i := 373) (by decide +kernel) rfl
theorem sl_X2_count : Cond.selects yX2_count.cls yX2_count yX2_count ∈ g_WS := g_tb (i := 374) (by decide +kernel) rfl
abbrev mX2_room : MT := (yX2_room, cX2_room, 1, (some .int), 1)
theorem cl_X2_room : CLk mX2_room 0 := ⟨g_tb (i := 367) (by decide +kernel) rfl, g_tb (i := 3) (by decide +kernel) rfl, ⟨by decide +kernel, by decide +kernel, by decide +kernel⟩, by decide⟩
theorem im_X2_room : Cond.instanceMethod yX2_room ∈ g_WS := g_tb (i := 365) (by decide +kernel) rfl
theorem sl_X2_room : Cond.selects yX2_room.cls yX2_room yX2_room ∈ g_WS := g_tb (i := 366) (by decide +kernel) rfl
abbrev mX2_at : MT := (yX2_at, cX2_at, 2, (some .int), 1)
theorem cl_X2_at : CLk mX2_at 1 := ⟨g_tb (i := 415) (by decide +kernel) rfl, g_tb (i := 3) (by decide +kernel) rfl, ⟨by decide +kernel, by decide +kernel, by decide +kernel⟩, by decide⟩
theorem im_X2_at : Cond.instanceMethod yX2_at ∈ g_WS := g_tb (i := 413) (by decide +kernel) rfl
theorem sl_X2_at : Cond.selects yX2_at.cls yX2_at yX2_at ∈ g_WS := g_tb (i := 414) (by decide +kernel) rfl
abbrev mX2_set : MT := (yX2_set, cX2_set, 3, none, 0)
theorem cl_X2_set : CLk mX2_set 2 := ⟨g_tb (i := 423) (by decide +kernel) rfl, g_tb (i := 3) (by decide +kernel) rfl, ⟨by decide +kernel, by decide +kernel, by decide +kernel⟩, by decide⟩
theorem im_X2_set : Cond.instanceMethod yX2_set ∈ g_WS := g_tb (i := 421) (by decide +kernel) rfl
theorem sl_X2_set : Cond.selects yX2_set.cls yX2_set yX2_set ∈ g_WS := g_tb (i := 422) (by decide +kernel) rfl
abbrev mX2_add : MT := (yX2_add, cX2_add, 2, none, 0)
theorem cl_X2_add : CLk mX2_add 1 := ⟨g_tb (i := 371) (by decide +kernel) rfl, g_tb (i := 3) (by decide +kernel) rfl, ⟨by decide +kernel, by decide +kernel, by decide +kernel⟩, by decide⟩
theorem im_X2_add : Cond.instanceMethod yX2_add ∈ g_WS := g_tb (i := 369) (by decide +kernel) rfl
theorem sl_X2_add : Cond.selects yX2_add.cls yX2_add yX2_add ∈ g_WS := g_tb (i := 370) (by decide +kernel) rfl
abbrev mX2_addZeros : MT := (yX2_addZeros, cX2_addZeros, 3, none, 0)
theorem cl_X2_addZeros : CLk mX2_addZeros 1 := ⟨g_tb (i := 809) (by decide +kernel) rfl, g_tb (i := 3) (by decide +kernel) rfl, ⟨by decide +kernel, by decide +kernel, by decide +kernel⟩, by decide⟩
theorem im_X2_addZeros : Cond.instanceMethod yX2_addZeros ∈ g_WS := g_tb (i := 807) (by decide +kernel) rfl
theorem sl_X2_addZeros : Cond.selects yX2_addZeros.cls yX2_addZeros yX2_addZeros ∈ g_WS := g_tb (i := 808) (by decide +kernel) rfl
abbrev mX2_addAll : MT := (yX2_addAll, cX2_addAll, 4, none, 0)
theorem cl_X2_addAll : CLk mX2_addAll 3 := ⟨g_tb (i := 717) (by decide +kernel) rfl, g_tb (i := 3) (by decide +kernel) rfl, ⟨by decide +kernel, by decide +kernel, by decide +kernel⟩, by decide⟩
theorem im_X2_addAll : Cond.instanceMethod yX2_addAll ∈ g_WS := g_tb (i := 715) (by decide +kernel) rfl
theorem sl_X2_addAll : Cond.selects yX2_addAll.cls yX2_addAll yX2_addAll ∈ g_WS := g_tb (i := 716) (by decide +kernel) rfl
abbrev mX2_keep : MT := (yX2_keep, cX2_keep, 2, none, 0)
theorem cl_X2_keep : CLk mX2_keep 1 := ⟨g_tb (i := 431) (by decide +kernel) rfl, g_tb (i := 3) (by decide +kernel) rfl, ⟨by decide +kernel, by decide +kernel, by decide +kernel⟩, by decide⟩
theorem im_X2_keep : Cond.instanceMethod yX2_keep ∈ g_WS := g_tb (i := 429) (by decide +kernel) rfl
theorem sl_X2_keep : Cond.selects yX2_keep.cls yX2_keep yX2_keep ∈ g_WS := g_tb (i := 430) (by decide +kernel) rfl
abbrev mX2_open : MT := (yX2_open, cX2_open, 3, none, 0)
theorem cl_X2_open : CLk mX2_open 2 := ⟨g_tb (i := 403) (by decide +kernel) rfl, g_tb (i := 3) (by decide +kernel) rfl, ⟨by decide +kernel, by decide +kernel, by decide +kernel⟩, by decide⟩
theorem im_X2_open : Cond.instanceMethod yX2_open ∈ g_WS := g_tb (i := 401) (by decide +kernel) rfl
theorem sl_X2_open : Cond.selects yX2_open.cls yX2_open yX2_open ∈ g_WS := g_tb (i := 402) (by decide +kernel) rfl
abbrev mX2_close : MT := (yX2_close, cX2_close, 3, none, 0)
theorem cl_X2_close : CLk mX2_close 2 := ⟨g_tb (i := 449) (by decide +kernel) rfl, g_tb (i := 3) (by decide +kernel) rfl, ⟨by decide +kernel, by decide +kernel, by decide +kernel⟩, by decide⟩
theorem im_X2_close : Cond.instanceMethod yX2_close ∈ g_WS := g_tb (i := 447) (by decide +kernel) rfl
theorem sl_X2_close : Cond.selects yX2_close.cls yX2_close yX2_close ∈ g_WS := g_tb (i := 448) (by decide +kernel) rfl
abbrev mX2_eightFrom : MT := (yX2_eightFrom, cX2_eightFrom, 5, (some .long), 2)
theorem cl_X2_eightFrom : CLk mX2_eightFrom 1 := ⟨g_tb (i := 780) (by decide +kernel) rfl, g_tb (i := 3) (by decide +kernel) rfl, ⟨by decide +kernel, by decide +kernel, by decide +kernel⟩, by decide⟩
theorem im_X2_eightFrom : Cond.instanceMethod yX2_eightFrom ∈ g_WS := g_tb (i := 778) (by decide +kernel) rfl
theorem sl_X2_eightFrom : Cond.selects yX2_eightFrom.cls yX2_eightFrom yX2_eightFrom ∈ g_WS := g_tb (i := 779) (by decide +kernel) rfl
abbrev mX2_threeFrom : MT := (yX2_threeFrom, cX2_threeFrom, 2, (some .int), 1)
theorem cl_X2_threeFrom : CLk mX2_threeFrom 1 := ⟨g_tb (i := 540) (by decide +kernel) rfl, g_tb (i := 3) (by decide +kernel) rfl, ⟨by decide +kernel, by decide +kernel, by decide +kernel⟩, by decide⟩
theorem im_X2_threeFrom : Cond.instanceMethod yX2_threeFrom ∈ g_WS := g_tb (i := 538) (by decide +kernel) rfl
theorem sl_X2_threeFrom : Cond.selects yX2_threeFrom.cls yX2_threeFrom yX2_threeFrom ∈ g_WS := g_tb (i := 539) (by decide +kernel) rfl
abbrev mX2_isZero : MT := (yX2_isZero, cX2_isZero, 4, (some .boolean), 1)
theorem cl_X2_isZero : CLk mX2_isZero 2 := ⟨g_tb (i := 496) (by decide +kernel) rfl, g_tb (i := 3) (by decide +kernel) rfl, ⟨by decide +kernel, by decide +kernel, by decide +kernel⟩, by decide⟩
theorem im_X2_isZero : Cond.instanceMethod yX2_isZero ∈ g_WS := g_tb (i := 494) (by decide +kernel) rfl
theorem sl_X2_isZero : Cond.selects yX2_isZero.cls yX2_isZero yX2_isZero ∈ g_WS := g_tb (i := 495) (by decide +kernel) rfl
abbrev mX2_sameFrom : MT := (yX2_sameFrom, cX2_sameFrom, 7, (some .int), 1)
theorem cl_X2_sameFrom : CLk mX2_sameFrom 3 := ⟨g_tb (i := 466) (by decide +kernel) rfl, g_tb (i := 3) (by decide +kernel) rfl, ⟨by decide +kernel, by decide +kernel, by decide +kernel⟩, by decide⟩
theorem im_X2_sameFrom : Cond.instanceMethod yX2_sameFrom ∈ g_WS := g_tb (i := 464) (by decide +kernel) rfl
theorem sl_X2_sameFrom : Cond.selects yX2_sameFrom.cls yX2_sameFrom yX2_sameFrom ∈ g_WS := g_tb (i := 465) (by decide +kernel) rfl
abbrev mX3_init : MT := (yX3_init, cX3_init, 3, none, 0)
theorem cl_X3_init : CLk mX3_init 1 := ⟨g_tb (i := 160) (by decide +kernel) rfl, g_tb (i := 8) (by decide +kernel) rfl, ⟨by decide +kernel, by decide +kernel, by decide +kernel⟩, by decide⟩
theorem im_X3_init : Cond.instanceMethod yX3_init ∈ g_WS := g_tb (i := 159) (by decide +kernel) rfl
abbrev mX3_symbols : MT := (yX3_symbols, cX3_symbols, 1, (some .int), 1)
theorem cl_X3_symbols : CLk mX3_symbols 0 := ⟨g_tb (i := 598) (by decide +kernel) rfl, g_tb (i := 8) (by decide +kernel) rfl, ⟨by decide +kernel, by decide +kernel, by decide +kernel⟩, by decide⟩
theorem im_X3_symbols : Cond.instanceMethod yX3_symbols ∈ g_WS := g_tb (i := 596) (by decide +kernel) rfl
theorem sl_X3_symbols : Cond.selects yX3_symbols.cls yX3_symbols yX3_symbols ∈ g_WS := g_tb (i := 597) (by decide +kernel) rfl
abbrev mX3_forget : MT := (yX3_forget, cX3_forget, 2, none, 0)
theorem cl_X3_forget : CLk mX3_forget 0 := ⟨g_tb (i := 531) (by decide +kernel) rfl, g_tb (i := 8) (by decide +kernel) rfl, ⟨by decide +kernel, by decide +kernel, by decide +kernel⟩, by decide⟩
theorem im_X3_forget : Cond.instanceMethod yX3_forget ∈ g_WS := g_tb (i := 529) (by decide +kernel) rfl
theorem sl_X3_forget : Cond.selects yX3_forget.cls yX3_forget yX3_forget ∈ g_WS := g_tb (i := 530) (by decide +kernel) rfl
abbrev mX3_count : MT := (yX3_count, cX3_count, 2, none, 0)
theorem cl_X3_count : CLk mX3_count 1 := ⟨g_tb (i := 575) (by decide +kernel) rfl, g_tb (i := 8) (by decide +kernel) rfl, ⟨by decide +kernel, by decide +kernel, by decide +kernel⟩, by decide⟩
theorem im_X3_count : Cond.instanceMethod yX3_count ∈ g_WS := g_tb (i := 573) (by decide +kernel) rfl
theorem sl_X3_count : Cond.selects yX3_count.cls yX3_count yX3_count ∈ g_WS := g_tb (i := 574) (by decide +kernel) rfl
abbrev mX3_countOf : MT := (yX3_countOf, cX3_countOf, 2, (some .int), 1)
theorem cl_X3_countOf : CLk mX3_countOf 1 := ⟨g_tb (i := 603) (by decide +kernel) rfl, g_tb (i := 8) (by decide +kernel) rfl, ⟨by decide +kernel, by decide +kernel, by decide +kernel⟩, by decide⟩
theorem im_X3_countOf : Cond.instanceMethod yX3_countOf ∈ g_WS := g_tb (i := 601) (by decide +kernel) rfl
theorem sl_X3_countOf : Cond.selects yX3_countOf.cls yX3_countOf yX3_countOf ∈ g_WS := g_tb (i := 602) (by decide +kernel) rfl
abbrev mX3_lengthOf : MT := (yX3_lengthOf, cX3_lengthOf, 2, (some .int), 1)
theorem cl_X3_lengthOf : CLk mX3_lengthOf 1 := ⟨g_tb (i := 641) (by decide +kernel) rfl, g_tb (i := 8) (by decide +kernel) rfl, ⟨by decide +kernel, by decide +kernel, by decide +kernel⟩, by decide⟩
theorem im_X3_lengthOf : Cond.instanceMethod yX3_lengthOf ∈ g_WS := g_tb (i := 639) (by decide +kernel) rfl
theorem sl_X3_lengthOf : Cond.selects yX3_lengthOf.cls yX3_lengthOf yX3_lengthOf ∈ g_WS := g_tb (i := 640) (by decide +kernel) rfl
abbrev mX3_turnedOf : MT := (yX3_turnedOf, cX3_turnedOf, 2, (some .int), 1)
theorem cl_X3_turnedOf : CLk mX3_turnedOf 1 := ⟨g_tb (i := 697) (by decide +kernel) rfl, g_tb (i := 8) (by decide +kernel) rfl, ⟨by decide +kernel, by decide +kernel, by decide +kernel⟩, by decide⟩
theorem im_X3_turnedOf : Cond.instanceMethod yX3_turnedOf ∈ g_WS := g_tb (i := 695) (by decide +kernel) rfl
theorem sl_X3_turnedOf : Cond.selects yX3_turnedOf.cls yX3_turnedOf yX3_turnedOf ∈ g_WS := g_tb (i := 696) (by decide +kernel) rfl
abbrev mX3_setLength : MT := (yX3_setLength, cX3_setLength, 3, none, 0)
theorem cl_X3_setLength : CLk mX3_setLength 2 := ⟨g_tb (i := 197) (by decide +kernel) rfl, g_tb (i := 8) (by decide +kernel) rfl, ⟨by decide +kernel, by decide +kernel, by decide +kernel⟩, by decide⟩
theorem im_X3_setLength : Cond.instanceMethod yX3_setLength ∈ g_WS := g_tb (i := 195) (by decide +kernel) rfl
theorem sl_X3_setLength : Cond.selects yX3_setLength.cls yX3_setLength yX3_setLength ∈ g_WS := g_tb (i := 196) (by decide +kernel) rfl
abbrev mX3_makeCodes : MT := (yX3_makeCodes, cX3_makeCodes, 4, none, 0)
theorem cl_X3_makeCodes : CLk mX3_makeCodes 0 := ⟨g_tb (i := 201) (by decide +kernel) rfl, g_tb (i := 8) (by decide +kernel) rfl, ⟨by decide +kernel, by decide +kernel, by decide +kernel⟩, by decide⟩
theorem im_X3_makeCodes : Cond.instanceMethod yX3_makeCodes ∈ g_WS := g_tb (i := 199) (by decide +kernel) rfl
theorem sl_X3_makeCodes : Cond.selects yX3_makeCodes.cls yX3_makeCodes yX3_makeCodes ∈ g_WS := g_tb (i := 200) (by decide +kernel) rfl
abbrev mX3_turn : MT := (yX3_turn, cX3_turn, 4, (some .int), 1)
theorem cl_X3_turn : CLk mX3_turn 2 := ⟨g_tb (i := 204) (by decide +kernel) rfl, g_tb (i := 8) (by decide +kernel) rfl, ⟨by decide +kernel, by decide +kernel, by decide +kernel⟩, by decide⟩
theorem sm_X3_turn : Cond.static yX3_turn ∈ g_WS := g_tb (i := 203) (by decide +kernel) rfl
abbrev mX3_used : MT := (yX3_used, cX3_used, 2, (some .int), 1)
theorem cl_X3_used : CLk mX3_used 0 := ⟨g_tb (i := 633) (by decide +kernel) rfl, g_tb (i := 8) (by decide +kernel) rfl, ⟨by decide +kernel, by decide +kernel, by decide +kernel⟩, by decide⟩
theorem im_X3_used : Cond.instanceMethod yX3_used ∈ g_WS := g_tb (i := 631) (by decide +kernel) rfl
theorem sl_X3_used : Cond.selects yX3_used.cls yX3_used yX3_used ∈ g_WS := g_tb (i := 632) (by decide +kernel) rfl
abbrev mX3_bitsFor : MT := (yX3_bitsFor, cX3_bitsFor, 4, (some .int), 1)
theorem cl_X3_bitsFor : CLk mX3_bitsFor 1 := ⟨g_tb (i := 670) (by decide +kernel) rfl, g_tb (i := 8) (by decide +kernel) rfl, ⟨by decide +kernel, by decide +kernel, by decide +kernel⟩, by decide⟩
theorem im_X3_bitsFor : Cond.instanceMethod yX3_bitsFor ∈ g_WS := g_tb (i := 668) (by decide +kernel) rfl
theorem sl_X3_bitsFor : Cond.selects yX3_bitsFor.cls yX3_bitsFor yX3_bitsFor ∈ g_WS := g_tb (i := 669) (by decide +kernel) rfl
abbrev mX4_init : MT := (yX4_init, cX4_init, 1, none, 0)
theorem cl_X4_init : CLk mX4_init 0 := ⟨g_tb (i := 29) (by decide +kernel) rfl, g_tb (i := 2) (by decide +kernel) rfl, ⟨by decide +kernel, by decide +kernel, by decide +kernel⟩, by decide⟩
theorem im_X4_init : Cond.instanceMethod yX4_init ∈ g_WS := g_tb (i := 28) (by decide +kernel) rfl
abbrev mX4_bytes : MT := (yX4_bytes, cX4_bytes, 1, (some (.object "SharedBlocks$Bytes")), 3)
theorem cl_X4_bytes : CLk mX4_bytes 0 := ⟨g_tb (i := 457) (by decide +kernel) rfl, g_tb (i := 2) (by decide +kernel) rfl, ⟨by decide +kernel, by decide +kernel, by decide +kernel⟩, by decide⟩
theorem im_X4_bytes : Cond.instanceMethod yX4_bytes ∈ g_WS := g_tb (i := 455) (by decide +kernel) rfl
theorem sl_X4_bytes : Cond.selects yX4_bytes.cls yX4_bytes yX4_bytes ∈ g_WS := g_tb (i := 456) (by decide +kernel) rfl
abbrev mX4_room : MT := (yX4_room, cX4_room, 1, (some .int), 1)
theorem cl_X4_room : CLk mX4_room 0 := ⟨g_tb (i := 390) (by decide +kernel) rfl, g_tb (i := 2) (by decide +kernel) rfl, ⟨by decide +kernel, by decide +kernel, by decide +kernel⟩, by decide⟩
theorem im_X4_room : Cond.instanceMethod yX4_room ∈ g_WS := g_tb (i := 388) (by decide +kernel) rfl
theorem sl_X4_room : Cond.selects yX4_room.cls yX4_room yX4_room ∈ g_WS := g_tb (i := 389) (by decide +kernel) rfl
abbrev mX4_start : MT := (yX4_start, cX4_start, 2, (some .int), 1)
theorem cl_X4_start : CLk mX4_start 1 := ⟨g_tb (i := 399) (by decide +kernel) rfl, g_tb (i := 2) (by decide +kernel) rfl, ⟨by decide +kernel, by decide +kernel, by decide +kernel⟩, by decide⟩
theorem im_X4_start : Cond.instanceMethod yX4_start ∈ g_WS := g_tb (i := 397) (by decide +kernel) rfl
theorem sl_X4_start : Cond.selects yX4_start.cls yX4_start yX4_start ∈ g_WS := g_tb (i := 398) (by decide +kernel) rfl
abbrev mX4_count : MT := (yX4_count, cX4_count, 2, (some .int), 1)
theorem cl_X4_count : CLk mX4_count 1 := ⟨g_tb (i := 427) (by decide +kernel) rfl, g_tb (i := 2) (by decide +kernel) rfl, ⟨by decide +kernel, by decide +kernel, by decide +kernel⟩, by decide⟩
theorem im_X4_count : Cond.instanceMethod yX4_count ∈ g_WS := g_tb (i := 425) (by decide +kernel) rfl
theorem sl_X4_count : Cond.selects yX4_count.cls yX4_count yX4_count ∈ g_WS := g_tb (i := 426) (by decide +kernel) rfl
abbrev mX4_set : MT := (yX4_set, cX4_set, 3, none, 0)
theorem cl_X4_set : CLk mX4_set 2 := ⟨g_tb (i := 419) (by decide +kernel) rfl, g_tb (i := 2) (by decide +kernel) rfl, ⟨by decide +kernel, by decide +kernel, by decide +kernel⟩, by decide⟩
theorem im_X4_set : Cond.instanceMethod yX4_set ∈ g_WS := g_tb (i := 417) (by decide +kernel) rfl
theorem sl_X4_set : Cond.selects yX4_set.cls yX4_set yX4_set ∈ g_WS := g_tb (i := 418) (by decide +kernel) rfl
abbrev mX4_open : MT := (yX4_open, cX4_open, 4, (some .int), 1)
theorem cl_X4_open : CLk mX4_open 2 := ⟨g_tb (i := 395) (by decide +kernel) rfl, g_tb (i := 2) (by decide +kernel) rfl, ⟨by decide +kernel, by decide +kernel, by decide +kernel⟩, by decide⟩
theorem im_X4_open : Cond.instanceMethod yX4_open ∈ g_WS := g_tb (i := 393) (by decide +kernel) rfl
theorem sl_X4_open : Cond.selects yX4_open.cls yX4_open yX4_open ∈ g_WS := g_tb (i := 394) (by decide +kernel) rfl
abbrev mX4_drop : MT := (yX4_drop, cX4_drop, 3, none, 0)
theorem cl_X4_drop : CLk mX4_drop 1 := ⟨g_tb (i := 444) (by decide +kernel) rfl, g_tb (i := 2) (by decide +kernel) rfl, ⟨by decide +kernel, by decide +kernel, by decide +kernel⟩, by decide⟩
theorem im_X4_drop : Cond.instanceMethod yX4_drop ∈ g_WS := g_tb (i := 442) (by decide +kernel) rfl
theorem sl_X4_drop : Cond.selects yX4_drop.cls yX4_drop yX4_drop ∈ g_WS := g_tb (i := 443) (by decide +kernel) rfl
abbrev mX4_shiftBehind : MT := (yX4_shiftBehind, cX4_shiftBehind, 4, none, 0)
theorem cl_X4_shiftBehind : CLk mX4_shiftBehind 2 := ⟨g_tb (i := 410) (by decide +kernel) rfl, g_tb (i := 2) (by decide +kernel) rfl, ⟨by decide +kernel, by decide +kernel, by decide +kernel⟩, by decide⟩
theorem im_X4_shiftBehind : Cond.instanceMethod yX4_shiftBehind ∈ g_WS := g_tb (i := 409) (by decide +kernel) rfl
theorem sl_X4_shiftBehind : Cond.selects yX4_shiftBehind.cls yX4_shiftBehind yX4_shiftBehind ∈ g_WS := g_sl (i := 2) (by decide +kernel) rfl
abbrev mX4_twin : MT := (yX4_twin, cX4_twin, 4, (some .int), 1)
theorem cl_X4_twin : CLk mX4_twin 1 := ⟨g_tb (i := 462) (by decide +kernel) rfl, g_tb (i := 2) (by decide +kernel) rfl, ⟨by decide +kernel, by decide +kernel, by decide +kernel⟩, by decide⟩
theorem im_X4_twin : Cond.instanceMethod yX4_twin ∈ g_WS := g_tb (i := 460) (by decide +kernel) rfl
theorem sl_X4_twin : Cond.selects yX4_twin.cls yX4_twin yX4_twin ∈ g_WS := g_tb (i := 461) (by decide +kernel) rfl
abbrev mX5_init : MT := (yX5_init, cX5_init, 2, none, 0)
theorem cl_X5_init : CLk mX5_init 0 := ⟨g_tb (i := 58) (by decide +kernel) rfl, g_tb (i := 4) (by decide +kernel) rfl, ⟨by decide +kernel, by decide +kernel, by decide +kernel⟩, by decide⟩
theorem im_X5_init : Cond.instanceMethod yX5_init ∈ g_WS := g_tb (i := 57) (by decide +kernel) rfl
abbrev mX5_begin : MT := (yX5_begin, cX5_begin, 2, none, 0)
theorem cl_X5_begin : CLk mX5_begin 1 := ⟨g_tb (i := 63) (by decide +kernel) rfl, g_tb (i := 4) (by decide +kernel) rfl, ⟨by decide +kernel, by decide +kernel, by decide +kernel⟩, by decide⟩
theorem im_X5_begin : Cond.instanceMethod yX5_begin ∈ g_WS := g_tb (i := 61) (by decide +kernel) rfl
theorem sl_X5_begin : Cond.selects yX5_begin.cls yX5_begin yX5_begin ∈ g_WS := g_tb (i := 62) (by decide +kernel) rfl
abbrev mX5_log : MT := (yX5_log, cX5_log, 1, (some .int), 1)
theorem cl_X5_log : CLk mX5_log 0 := ⟨g_tb (i := 800) (by decide +kernel) rfl, g_tb (i := 4) (by decide +kernel) rfl, ⟨by decide +kernel, by decide +kernel, by decide +kernel⟩, by decide⟩
theorem im_X5_log : Cond.instanceMethod yX5_log ∈ g_WS := g_tb (i := 798) (by decide +kernel) rfl
theorem sl_X5_log : Cond.selects yX5_log.cls yX5_log yX5_log ∈ g_WS := g_tb (i := 799) (by decide +kernel) rfl
abbrev mX5_blockBytes : MT := (yX5_blockBytes, cX5_blockBytes, 1, (some .int), 1)
theorem cl_X5_blockBytes : CLk mX5_blockBytes 0 := ⟨g_tb (i := 486) (by decide +kernel) rfl, g_tb (i := 4) (by decide +kernel) rfl, ⟨by decide +kernel, by decide +kernel, by decide +kernel⟩, by decide⟩
theorem im_X5_blockBytes : Cond.instanceMethod yX5_blockBytes ∈ g_WS := g_tb (i := 484) (by decide +kernel) rfl
theorem sl_X5_blockBytes : Cond.selects yX5_blockBytes.cls yX5_blockBytes yX5_blockBytes ∈ g_WS := g_tb (i := 485) (by decide +kernel) rfl
abbrev mX5_fact : MT := (yX5_fact, cX5_fact, 4, (some .int), 1)
theorem cl_X5_fact : CLk mX5_fact 2 := ⟨g_tb (i := 478) (by decide +kernel) rfl, g_tb (i := 4) (by decide +kernel) rfl, ⟨by decide +kernel, by decide +kernel, by decide +kernel⟩, by decide⟩
theorem im_X5_fact : Cond.instanceMethod yX5_fact ∈ g_WS := g_tb (i := 476) (by decide +kernel) rfl
theorem sl_X5_fact : Cond.selects yX5_fact.cls yX5_fact yX5_fact ∈ g_WS := g_tb (i := 477) (by decide +kernel) rfl
abbrev mX5_note : MT := (yX5_note, cX5_note, 5, none, 0)
theorem cl_X5_note : CLk mX5_note 3 := ⟨g_tb (i := 67) (by decide +kernel) rfl, g_tb (i := 4) (by decide +kernel) rfl, ⟨by decide +kernel, by decide +kernel, by decide +kernel⟩, by decide⟩
theorem im_X5_note : Cond.instanceMethod yX5_note ∈ g_WS := g_tb (i := 66) (by decide +kernel) rfl
theorem sl_X5_note : Cond.selects yX5_note.cls yX5_note yX5_note ∈ g_WS := g_sl (i := 0) (by decide +kernel) rfl
abbrev mX5_open : MT := (yX5_open, cX5_open, 5, none, 0)
theorem cl_X5_open : CLk mX5_open 3 := ⟨g_tb (i := 491) (by decide +kernel) rfl, g_tb (i := 4) (by decide +kernel) rfl, ⟨by decide +kernel, by decide +kernel, by decide +kernel⟩, by decide⟩
theorem im_X5_open : Cond.instanceMethod yX5_open ∈ g_WS := g_tb (i := 489) (by decide +kernel) rfl
theorem sl_X5_open : Cond.selects yX5_open.cls yX5_open yX5_open ∈ g_WS := g_tb (i := 490) (by decide +kernel) rfl
abbrev mX5_share : MT := (yX5_share, cX5_share, 4, none, 0)
theorem cl_X5_share : CLk mX5_share 2 := ⟨g_tb (i := 474) (by decide +kernel) rfl, g_tb (i := 4) (by decide +kernel) rfl, ⟨by decide +kernel, by decide +kernel, by decide +kernel⟩, by decide⟩
theorem im_X5_share : Cond.instanceMethod yX5_share ∈ g_WS := g_tb (i := 472) (by decide +kernel) rfl
theorem sl_X5_share : Cond.selects yX5_share.cls yX5_share yX5_share ∈ g_WS := g_tb (i := 473) (by decide +kernel) rfl
abbrev mX5_addBlock : MT := (yX5_addBlock, cX5_addBlock, 3, none, 0)
theorem cl_X5_addBlock : CLk mX5_addBlock 2 := ⟨g_tb (i := 505) (by decide +kernel) rfl, g_tb (i := 4) (by decide +kernel) rfl, ⟨by decide +kernel, by decide +kernel, by decide +kernel⟩, by decide⟩
theorem im_X5_addBlock : Cond.instanceMethod yX5_addBlock ∈ g_WS := g_tb (i := 503) (by decide +kernel) rfl
theorem sl_X5_addBlock : Cond.selects yX5_addBlock.cls yX5_addBlock yX5_addBlock ∈ g_WS := g_tb (i := 504) (by decide +kernel) rfl
abbrev mX5_addZeros : MT := (yX5_addZeros, cX5_addZeros, 3, none, 0)
theorem cl_X5_addZeros : CLk mX5_addZeros 2 := ⟨g_tb (i := 501) (by decide +kernel) rfl, g_tb (i := 4) (by decide +kernel) rfl, ⟨by decide +kernel, by decide +kernel, by decide +kernel⟩, by decide⟩
theorem im_X5_addZeros : Cond.instanceMethod yX5_addZeros ∈ g_WS := g_tb (i := 499) (by decide +kernel) rfl
theorem sl_X5_addZeros : Cond.selects yX5_addZeros.cls yX5_addZeros yX5_addZeros ∈ g_WS := g_tb (i := 500) (by decide +kernel) rfl
abbrev mX5_join : MT := (yX5_join, cX5_join, 3, none, 0)
theorem cl_X5_join : CLk mX5_join 2 := ⟨g_tb (i := 735) (by decide +kernel) rfl, g_tb (i := 4) (by decide +kernel) rfl, ⟨by decide +kernel, by decide +kernel, by decide +kernel⟩, by decide⟩
theorem im_X5_join : Cond.instanceMethod yX5_join ∈ g_WS := g_tb (i := 733) (by decide +kernel) rfl
theorem sl_X5_join : Cond.selects yX5_join.cls yX5_join yX5_join ∈ g_WS := g_tb (i := 734) (by decide +kernel) rfl
abbrev mX5_addFragment : MT := (yX5_addFragment, cX5_addFragment, 4, none, 0)
theorem cl_X5_addFragment : CLk mX5_addFragment 2 := ⟨g_tb (i := 727) (by decide +kernel) rfl, g_tb (i := 4) (by decide +kernel) rfl, ⟨by decide +kernel, by decide +kernel, by decide +kernel⟩, by decide⟩
theorem im_X5_addFragment : Cond.instanceMethod yX5_addFragment ∈ g_WS := g_tb (i := 725) (by decide +kernel) rfl
theorem sl_X5_addFragment : Cond.selects yX5_addFragment.cls yX5_addFragment yX5_addFragment ∈ g_WS := g_tb (i := 726) (by decide +kernel) rfl
abbrev mX5_fragmentCount : MT := (yX5_fragmentCount, cX5_fragmentCount, 1, (some .int), 1)
theorem cl_X5_fragmentCount : CLk mX5_fragmentCount 0 := ⟨g_tb (i := 756) (by decide +kernel) rfl, g_tb (i := 4) (by decide +kernel) rfl, ⟨by decide +kernel, by decide +kernel, by decide +kernel⟩, by decide⟩
theorem im_X5_fragmentCount : Cond.instanceMethod yX5_fragmentCount ∈ g_WS := g_tb (i := 754) (by decide +kernel) rfl
theorem sl_X5_fragmentCount : Cond.selects yX5_fragmentCount.cls yX5_fragmentCount yX5_fragmentCount ∈ g_WS := g_tb (i := 755) (by decide +kernel) rfl
abbrev mX5_fragmentBegin : MT := (yX5_fragmentBegin, cX5_fragmentBegin, 2, (some .int), 1)
theorem cl_X5_fragmentBegin : CLk mX5_fragmentBegin 1 := ⟨g_tb (i := 764) (by decide +kernel) rfl, g_tb (i := 4) (by decide +kernel) rfl, ⟨by decide +kernel, by decide +kernel, by decide +kernel⟩, by decide⟩
theorem im_X5_fragmentBegin : Cond.instanceMethod yX5_fragmentBegin ∈ g_WS := g_tb (i := 762) (by decide +kernel) rfl
theorem sl_X5_fragmentBegin : Cond.selects yX5_fragmentBegin.cls yX5_fragmentBegin yX5_fragmentBegin ∈ g_WS := g_tb (i := 763) (by decide +kernel) rfl
abbrev mX5_fragmentNumber : MT := (yX5_fragmentNumber, cX5_fragmentNumber, 2, (some .int), 1)
theorem cl_X5_fragmentNumber : CLk mX5_fragmentNumber 1 := ⟨g_tb (i := 768) (by decide +kernel) rfl, g_tb (i := 4) (by decide +kernel) rfl, ⟨by decide +kernel, by decide +kernel, by decide +kernel⟩, by decide⟩
theorem im_X5_fragmentNumber : Cond.instanceMethod yX5_fragmentNumber ∈ g_WS := g_tb (i := 766) (by decide +kernel) rfl
theorem sl_X5_fragmentNumber : Cond.selects yX5_fragmentNumber.cls yX5_fragmentNumber yX5_fragmentNumber ∈ g_WS := g_tb (i := 767) (by decide +kernel) rfl
abbrev mX5_blockNumber : MT := (yX5_blockNumber, cX5_blockNumber, 4, (some .int), 1)
theorem cl_X5_blockNumber : CLk mX5_blockNumber 2 := ⟨g_tb (i := 748) (by decide +kernel) rfl, g_tb (i := 4) (by decide +kernel) rfl, ⟨by decide +kernel, by decide +kernel, by decide +kernel⟩, by decide⟩
theorem im_X5_blockNumber : Cond.instanceMethod yX5_blockNumber ∈ g_WS := g_tb (i := 746) (by decide +kernel) rfl
theorem sl_X5_blockNumber : Cond.selects yX5_blockNumber.cls yX5_blockNumber yX5_blockNumber ∈ g_WS := g_tb (i := 747) (by decide +kernel) rfl
abbrev mX5_blockBegin : MT := (yX5_blockBegin, cX5_blockBegin, 5, (some .int), 1)
theorem cl_X5_blockBegin : CLk mX5_blockBegin 2 := ⟨g_tb (i := 814) (by decide +kernel) rfl, g_tb (i := 4) (by decide +kernel) rfl, ⟨by decide +kernel, by decide +kernel, by decide +kernel⟩, by decide⟩
theorem im_X5_blockBegin : Cond.instanceMethod yX5_blockBegin ∈ g_WS := g_tb (i := 812) (by decide +kernel) rfl
theorem sl_X5_blockBegin : Cond.selects yX5_blockBegin.cls yX5_blockBegin yX5_blockBegin ∈ g_WS := g_tb (i := 813) (by decide +kernel) rfl
abbrev mX5_wholeBytes : MT := (yX5_wholeBytes, cX5_wholeBytes, 3, (some .int), 1)
theorem cl_X5_wholeBytes : CLk mX5_wholeBytes 2 := ⟨g_tb (i := 820) (by decide +kernel) rfl, g_tb (i := 4) (by decide +kernel) rfl, ⟨by decide +kernel, by decide +kernel, by decide +kernel⟩, by decide⟩
theorem im_X5_wholeBytes : Cond.instanceMethod yX5_wholeBytes ∈ g_WS := g_tb (i := 818) (by decide +kernel) rfl
theorem sl_X5_wholeBytes : Cond.selects yX5_wholeBytes.cls yX5_wholeBytes yX5_wholeBytes ∈ g_WS := g_tb (i := 819) (by decide +kernel) rfl
abbrev mX6_init : MT := (yX6_init, cX6_init, 1, none, 0)
theorem cl_X6_init : CLk mX6_init 0 := ⟨g_tb (i := 134) (by decide +kernel) rfl, g_tb (i := 7) (by decide +kernel) rfl, ⟨by decide +kernel, by decide +kernel, by decide +kernel⟩, by decide⟩
theorem im_X6_init : Cond.instanceMethod yX6_init ∈ g_WS := g_tb (i := 133) (by decide +kernel) rfl
abbrev mX6_make : MT := (yX6_make, cX6_make, 7, none, 0)
theorem cl_X6_make : CLk mX6_make 2 := ⟨g_tb (i := 594) (by decide +kernel) rfl, g_tb (i := 7) (by decide +kernel) rfl, ⟨by decide +kernel, by decide +kernel, by decide +kernel⟩, by decide⟩
theorem im_X6_make : Cond.instanceMethod yX6_make ∈ g_WS := g_tb (i := 592) (by decide +kernel) rfl
theorem sl_X6_make : Cond.selects yX6_make.cls yX6_make yX6_make ∈ g_WS := g_tb (i := 593) (by decide +kernel) rfl
abbrev mX6_insert : MT := (yX6_insert, cX6_insert, 5, none, 0)
theorem cl_X6_insert : CLk mX6_insert 3 := ⟨g_tb (i := 607) (by decide +kernel) rfl, g_tb (i := 7) (by decide +kernel) rfl, ⟨by decide +kernel, by decide +kernel, by decide +kernel⟩, by decide⟩
theorem im_X6_insert : Cond.instanceMethod yX6_insert ∈ g_WS := g_tb (i := 606) (by decide +kernel) rfl
theorem sl_X6_insert : Cond.selects yX6_insert.cls yX6_insert yX6_insert ∈ g_WS := g_sl (i := 9) (by decide +kernel) rfl
abbrev mX6_begin : MT := (yX6_begin, cX6_begin, 3, none, 0)
theorem cl_X6_begin : CLk mX6_begin 1 := ⟨g_tb (i := 612) (by decide +kernel) rfl, g_tb (i := 7) (by decide +kernel) rfl, ⟨by decide +kernel, by decide +kernel, by decide +kernel⟩, by decide⟩
theorem im_X6_begin : Cond.instanceMethod yX6_begin ∈ g_WS := g_tb (i := 611) (by decide +kernel) rfl
theorem sl_X6_begin : Cond.selects yX6_begin.cls yX6_begin yX6_begin ∈ g_WS := g_sl (i := 10) (by decide +kernel) rfl
abbrev mX6_makeList : MT := (yX6_makeList, cX6_makeList, 12, (some .int), 1)
theorem cl_X6_makeList : CLk mX6_makeList 3 := ⟨g_tb (i := 616) (by decide +kernel) rfl, g_tb (i := 7) (by decide +kernel) rfl, ⟨by decide +kernel, by decide +kernel, by decide +kernel⟩, by decide⟩
theorem im_X6_makeList : Cond.instanceMethod yX6_makeList ∈ g_WS := g_tb (i := 615) (by decide +kernel) rfl
theorem sl_X6_makeList : Cond.selects yX6_makeList.cls yX6_makeList yX6_makeList ∈ g_WS := g_sl (i := 11) (by decide +kernel) rfl
abbrev mX6_takeItems : MT := (yX6_takeItems, cX6_takeItems, 7, (some .int), 1)
theorem cl_X6_takeItems : CLk mX6_takeItems 2 := ⟨g_tb (i := 621) (by decide +kernel) rfl, g_tb (i := 7) (by decide +kernel) rfl, ⟨by decide +kernel, by decide +kernel, by decide +kernel⟩, by decide⟩
theorem im_X6_takeItems : Cond.instanceMethod yX6_takeItems ∈ g_WS := g_tb (i := 620) (by decide +kernel) rfl
theorem sl_X6_takeItems : Cond.selects yX6_takeItems.cls yX6_takeItems yX6_takeItems ∈ g_WS := g_sl (i := 12) (by decide +kernel) rfl
abbrev mX7_init : MT := (yX7_init, cX7_init, 1, none, 0)
theorem cl_X7_init : CLk mX7_init 0 := ⟨g_tb (i := 104) (by decide +kernel) rfl, g_tb (i := 6) (by decide +kernel) rfl, ⟨by decide +kernel, by decide +kernel, by decide +kernel⟩, by decide⟩
theorem im_X7_init : Cond.instanceMethod yX7_init ∈ g_WS := g_tb (i := 103) (by decide +kernel) rfl
abbrev mX7_begin : MT := (yX7_begin, cX7_begin, 3, none, 0)
theorem cl_X7_begin : CLk mX7_begin 2 := ⟨g_tb (i := 517) (by decide +kernel) rfl, g_tb (i := 6) (by decide +kernel) rfl, ⟨by decide +kernel, by decide +kernel, by decide +kernel⟩, by decide⟩
theorem im_X7_begin : Cond.instanceMethod yX7_begin ∈ g_WS := g_tb (i := 515) (by decide +kernel) rfl
theorem sl_X7_begin : Cond.selects yX7_begin.cls yX7_begin yX7_begin ∈ g_WS := g_tb (i := 516) (by decide +kernel) rfl
abbrev mX7_headOf : MT := (yX7_headOf, cX7_headOf, 1, (some .int), 1)
theorem cl_X7_headOf : CLk mX7_headOf 1 := ⟨g_tb (i := 543) (by decide +kernel) rfl, g_tb (i := 6) (by decide +kernel) rfl, ⟨by decide +kernel, by decide +kernel, by decide +kernel⟩, by decide⟩
theorem sm_X7_headOf : Cond.static yX7_headOf ∈ g_WS := g_tb (i := 542) (by decide +kernel) rfl
abbrev mX7_know : MT := (yX7_know, cX7_know, 5, none, 0)
theorem cl_X7_know : CLk mX7_know 2 := ⟨g_tb (i := 586) (by decide +kernel) rfl, g_tb (i := 6) (by decide +kernel) rfl, ⟨by decide +kernel, by decide +kernel, by decide +kernel⟩, by decide⟩
theorem im_X7_know : Cond.instanceMethod yX7_know ∈ g_WS := g_tb (i := 584) (by decide +kernel) rfl
theorem sl_X7_know : Cond.selects yX7_know.cls yX7_know yX7_know ∈ g_WS := g_tb (i := 585) (by decide +kernel) rfl
abbrev mX7_find : MT := (yX7_find, cX7_find, 11, (some .boolean), 1)
theorem cl_X7_find : CLk mX7_find 3 := ⟨g_tb (i := 535) (by decide +kernel) rfl, g_tb (i := 6) (by decide +kernel) rfl, ⟨by decide +kernel, by decide +kernel, by decide +kernel⟩, by decide⟩
theorem im_X7_find : Cond.instanceMethod yX7_find ∈ g_WS := g_tb (i := 533) (by decide +kernel) rfl
theorem sl_X7_find : Cond.selects yX7_find.cls yX7_find yX7_find ∈ g_WS := g_tb (i := 534) (by decide +kernel) rfl
abbrev mX7_length : MT := (yX7_length, cX7_length, 1, (some .int), 1)
theorem cl_X7_length : CLk mX7_length 0 := ⟨g_tb (i := 549) (by decide +kernel) rfl, g_tb (i := 6) (by decide +kernel) rfl, ⟨by decide +kernel, by decide +kernel, by decide +kernel⟩, by decide⟩
theorem im_X7_length : Cond.instanceMethod yX7_length ∈ g_WS := g_tb (i := 547) (by decide +kernel) rfl
theorem sl_X7_length : Cond.selects yX7_length.cls yX7_length yX7_length ∈ g_WS := g_tb (i := 548) (by decide +kernel) rfl
abbrev mX7_distance : MT := (yX7_distance, cX7_distance, 1, (some .int), 1)
theorem cl_X7_distance : CLk mX7_distance 0 := ⟨g_tb (i := 554) (by decide +kernel) rfl, g_tb (i := 6) (by decide +kernel) rfl, ⟨by decide +kernel, by decide +kernel, by decide +kernel⟩, by decide⟩
theorem im_X7_distance : Cond.instanceMethod yX7_distance ∈ g_WS := g_tb (i := 552) (by decide +kernel) rfl
theorem sl_X7_distance : Cond.selects yX7_distance.cls yX7_distance yX7_distance ∈ g_WS := g_tb (i := 553) (by decide +kernel) rfl
abbrev mX8_init : MT := (yX8_init, cX8_init, 3, none, 0)
theorem cl_X8_init : CLk mX8_init 1 := ⟨g_tb (i := 98) (by decide +kernel) rfl, g_tb (i := 5) (by decide +kernel) rfl, ⟨by decide +kernel, by decide +kernel, by decide +kernel⟩, by decide⟩
theorem im_X8_init : Cond.instanceMethod yX8_init ∈ g_WS := g_tb (i := 97) (by decide +kernel) rfl
abbrev mX8_pack : MT := (yX8_pack, cX8_pack, 8, none, 0)
theorem cl_X8_pack : CLk mX8_pack 3 := ⟨g_tb (i := 513) (by decide +kernel) rfl, g_tb (i := 5) (by decide +kernel) rfl, ⟨by decide +kernel, by decide +kernel, by decide +kernel⟩, by decide⟩
theorem im_X8_pack : Cond.instanceMethod yX8_pack ∈ g_WS := g_tb (i := 511) (by decide +kernel) rfl
theorem sl_X8_pack : Cond.selects yX8_pack.cls yX8_pack yX8_pack ∈ g_WS := g_tb (i := 512) (by decide +kernel) rfl
abbrev mX8_gather : MT := (yX8_gather, cX8_gather, 7, none, 0)
theorem cl_X8_gather : CLk mX8_gather 3 := ⟨g_tb (i := 527) (by decide +kernel) rfl, g_tb (i := 5) (by decide +kernel) rfl, ⟨by decide +kernel, by decide +kernel, by decide +kernel⟩, by decide⟩
theorem im_X8_gather : Cond.instanceMethod yX8_gather ∈ g_WS := g_tb (i := 526) (by decide +kernel) rfl
theorem sl_X8_gather : Cond.selects yX8_gather.cls yX8_gather yX8_gather ∈ g_WS := g_sl (i := 5) (by decide +kernel) rfl
abbrev mX8_addItem : MT := (yX8_addItem, cX8_addItem, 3, none, 0)
theorem cl_X8_addItem : CLk mX8_addItem 2 := ⟨g_tb (i := 558) (by decide +kernel) rfl, g_tb (i := 5) (by decide +kernel) rfl, ⟨by decide +kernel, by decide +kernel, by decide +kernel⟩, by decide⟩
theorem im_X8_addItem : Cond.instanceMethod yX8_addItem ∈ g_WS := g_tb (i := 557) (by decide +kernel) rfl
theorem sl_X8_addItem : Cond.selects yX8_addItem.cls yX8_addItem yX8_addItem ∈ g_WS := g_sl (i := 6) (by decide +kernel) rfl
abbrev mX8_countMatch : MT := (yX8_countMatch, cX8_countMatch, 3, none, 0)
theorem cl_X8_countMatch : CLk mX8_countMatch 2 := ⟨g_tb (i := 571) (by decide +kernel) rfl, g_tb (i := 5) (by decide +kernel) rfl, ⟨by decide +kernel, by decide +kernel, by decide +kernel⟩, by decide⟩
theorem im_X8_countMatch : Cond.instanceMethod yX8_countMatch ∈ g_WS := g_tb (i := 570) (by decide +kernel) rfl
theorem sl_X8_countMatch : Cond.selects yX8_countMatch.cls yX8_countMatch yX8_countMatch ∈ g_WS := g_sl (i := 7) (by decide +kernel) rfl
abbrev mX8_makeCodes : MT := (yX8_makeCodes, cX8_makeCodes, 1, none, 0)
theorem cl_X8_makeCodes : CLk mX8_makeCodes 0 := ⟨g_tb (i := 590) (by decide +kernel) rfl, g_tb (i := 5) (by decide +kernel) rfl, ⟨by decide +kernel, by decide +kernel, by decide +kernel⟩, by decide⟩
theorem im_X8_makeCodes : Cond.instanceMethod yX8_makeCodes ∈ g_WS := g_tb (i := 589) (by decide +kernel) rfl
theorem sl_X8_makeCodes : Cond.selects yX8_makeCodes.cls yX8_makeCodes yX8_makeCodes ∈ g_WS := g_sl (i := 8) (by decide +kernel) rfl
abbrev mX8_makeSizes : MT := (yX8_makeSizes, cX8_makeSizes, 2, none, 0)
theorem cl_X8_makeSizes : CLk mX8_makeSizes 0 := ⟨g_tb (i := 653) (by decide +kernel) rfl, g_tb (i := 5) (by decide +kernel) rfl, ⟨by decide +kernel, by decide +kernel, by decide +kernel⟩, by decide⟩
theorem im_X8_makeSizes : Cond.instanceMethod yX8_makeSizes ∈ g_WS := g_tb (i := 652) (by decide +kernel) rfl
theorem sl_X8_makeSizes : Cond.selects yX8_makeSizes.cls yX8_makeSizes yX8_makeSizes ∈ g_WS := g_sl (i := 18) (by decide +kernel) rfl
abbrev mX8_toldSymbols : MT := (yX8_toldSymbols, cX8_toldSymbols, 1, (some .int), 1)
theorem cl_X8_toldSymbols : CLk mX8_toldSymbols 0 := ⟨g_tb (i := 629) (by decide +kernel) rfl, g_tb (i := 5) (by decide +kernel) rfl, ⟨by decide +kernel, by decide +kernel, by decide +kernel⟩, by decide⟩
theorem im_X8_toldSymbols : Cond.instanceMethod yX8_toldSymbols ∈ g_WS := g_tb (i := 628) (by decide +kernel) rfl
theorem sl_X8_toldSymbols : Cond.selects yX8_toldSymbols.cls yX8_toldSymbols yX8_toldSymbols ∈ g_WS := g_sl (i := 14) (by decide +kernel) rfl
abbrev mX8_toldDistances : MT := (yX8_toldDistances, cX8_toldDistances, 1, (some .int), 1)
theorem cl_X8_toldDistances : CLk mX8_toldDistances 0 := ⟨g_tb (i := 637) (by decide +kernel) rfl, g_tb (i := 5) (by decide +kernel) rfl, ⟨by decide +kernel, by decide +kernel, by decide +kernel⟩, by decide⟩
theorem im_X8_toldDistances : Cond.instanceMethod yX8_toldDistances ∈ g_WS := g_tb (i := 636) (by decide +kernel) rfl
theorem sl_X8_toldDistances : Cond.selects yX8_toldDistances.cls yX8_toldDistances yX8_toldDistances ∈ g_WS := g_sl (i := 15) (by decide +kernel) rfl
abbrev mX8_toldSizes : MT := (yX8_toldSizes, cX8_toldSizes, 2, (some .int), 1)
theorem cl_X8_toldSizes : CLk mX8_toldSizes 0 := ⟨g_tb (i := 661) (by decide +kernel) rfl, g_tb (i := 5) (by decide +kernel) rfl, ⟨by decide +kernel, by decide +kernel, by decide +kernel⟩, by decide⟩
theorem im_X8_toldSizes : Cond.instanceMethod yX8_toldSizes ∈ g_WS := g_tb (i := 660) (by decide +kernel) rfl
theorem sl_X8_toldSizes : Cond.selects yX8_toldSizes.cls yX8_toldSizes yX8_toldSizes ∈ g_WS := g_sl (i := 20) (by decide +kernel) rfl
abbrev mX8_makeTold : MT := (yX8_makeTold, cX8_makeTold, 7, none, 0)
theorem cl_X8_makeTold : CLk mX8_makeTold 0 := ⟨g_tb (i := 625) (by decide +kernel) rfl, g_tb (i := 5) (by decide +kernel) rfl, ⟨by decide +kernel, by decide +kernel, by decide +kernel⟩, by decide⟩
theorem im_X8_makeTold : Cond.instanceMethod yX8_makeTold ∈ g_WS := g_tb (i := 624) (by decide +kernel) rfl
theorem sl_X8_makeTold : Cond.selects yX8_makeTold.cls yX8_makeTold yX8_makeTold ∈ g_WS := g_sl (i := 13) (by decide +kernel) rfl
abbrev mX8_tellSame : MT := (yX8_tellSame, cX8_tellSame, 5, none, 0)
theorem cl_X8_tellSame : CLk mX8_tellSame 2 := ⟨g_tb (i := 645) (by decide +kernel) rfl, g_tb (i := 5) (by decide +kernel) rfl, ⟨by decide +kernel, by decide +kernel, by decide +kernel⟩, by decide⟩
theorem im_X8_tellSame : Cond.instanceMethod yX8_tellSame ∈ g_WS := g_tb (i := 644) (by decide +kernel) rfl
theorem sl_X8_tellSame : Cond.selects yX8_tellSame.cls yX8_tellSame yX8_tellSame ∈ g_WS := g_sl (i := 16) (by decide +kernel) rfl
abbrev mX8_addTold : MT := (yX8_addTold, cX8_addTold, 3, none, 0)
theorem cl_X8_addTold : CLk mX8_addTold 2 := ⟨g_tb (i := 649) (by decide +kernel) rfl, g_tb (i := 5) (by decide +kernel) rfl, ⟨by decide +kernel, by decide +kernel, by decide +kernel⟩, by decide⟩
theorem im_X8_addTold : Cond.instanceMethod yX8_addTold ∈ g_WS := g_tb (i := 648) (by decide +kernel) rfl
theorem sl_X8_addTold : Cond.selects yX8_addTold.cls yX8_addTold yX8_addTold ∈ g_WS := g_sl (i := 17) (by decide +kernel) rfl
abbrev mX8_bestSort : MT := (yX8_bestSort, cX8_bestSort, 6, (some .int), 1)
theorem cl_X8_bestSort : CLk mX8_bestSort 1 := ⟨g_tb (i := 657) (by decide +kernel) rfl, g_tb (i := 5) (by decide +kernel) rfl, ⟨by decide +kernel, by decide +kernel, by decide +kernel⟩, by decide⟩
theorem im_X8_bestSort : Cond.instanceMethod yX8_bestSort ∈ g_WS := g_tb (i := 656) (by decide +kernel) rfl
theorem sl_X8_bestSort : Cond.selects yX8_bestSort.cls yX8_bestSort yX8_bestSort ∈ g_WS := g_sl (i := 19) (by decide +kernel) rfl
abbrev mX8_tellStored : MT := (yX8_tellStored, cX8_tellStored, 5, none, 0)
theorem cl_X8_tellStored : CLk mX8_tellStored 3 := ⟨g_tb (i := 688) (by decide +kernel) rfl, g_tb (i := 5) (by decide +kernel) rfl, ⟨by decide +kernel, by decide +kernel, by decide +kernel⟩, by decide⟩
theorem im_X8_tellStored : Cond.instanceMethod yX8_tellStored ∈ g_WS := g_tb (i := 687) (by decide +kernel) rfl
theorem sl_X8_tellStored : Cond.selects yX8_tellStored.cls yX8_tellStored yX8_tellStored ∈ g_WS := g_sl (i := 21) (by decide +kernel) rfl
abbrev mX8_tellHeader : MT := (yX8_tellHeader, cX8_tellHeader, 3, none, 0)
theorem cl_X8_tellHeader : CLk mX8_tellHeader 0 := ⟨g_tb (i := 709) (by decide +kernel) rfl, g_tb (i := 5) (by decide +kernel) rfl, ⟨by decide +kernel, by decide +kernel, by decide +kernel⟩, by decide⟩
theorem im_X8_tellHeader : Cond.instanceMethod yX8_tellHeader ∈ g_WS := g_tb (i := 708) (by decide +kernel) rfl
theorem sl_X8_tellHeader : Cond.selects yX8_tellHeader.cls yX8_tellHeader yX8_tellHeader ∈ g_WS := g_sl (i := 23) (by decide +kernel) rfl
abbrev mX8_tellItems : MT := (yX8_tellItems, cX8_tellItems, 7, none, 0)
theorem cl_X8_tellItems : CLk mX8_tellItems 2 := ⟨g_tb (i := 693) (by decide +kernel) rfl, g_tb (i := 5) (by decide +kernel) rfl, ⟨by decide +kernel, by decide +kernel, by decide +kernel⟩, by decide⟩
theorem im_X8_tellItems : Cond.instanceMethod yX8_tellItems ∈ g_WS := g_tb (i := 692) (by decide +kernel) rfl
theorem sl_X8_tellItems : Cond.selects yX8_tellItems.cls yX8_tellItems yX8_tellItems ∈ g_WS := g_sl (i := 22) (by decide +kernel) rfl
abbrev mX9_init : MT := (yX9_init, cX9_init, 1, none, 0)
theorem cl_X9_init : CLk mX9_init 0 := ⟨g_tb (i := 261) (by decide +kernel) rfl, g_tb (i := 12) (by decide +kernel) rfl, ⟨by decide +kernel, by decide +kernel, by decide +kernel⟩, by decide⟩
theorem im_X9_init : Cond.instanceMethod yX9_init ∈ g_WS := g_tb (i := 260) (by decide +kernel) rfl
abbrev mX9_make : MT := (yX9_make, cX9_make, 8, (some .boolean), 1)
theorem cl_X9_make : CLk mX9_make 4 := ⟨g_tb (i := 875) (by decide +kernel) rfl, g_tb (i := 12) (by decide +kernel) rfl, ⟨by decide +kernel, by decide +kernel, by decide +kernel⟩, by decide⟩
theorem im_X9_make : Cond.instanceMethod yX9_make ∈ g_WS := g_tb (i := 873) (by decide +kernel) rfl
theorem sl_X9_make : Cond.selects yX9_make.cls yX9_make yX9_make ∈ g_WS := g_tb (i := 874) (by decide +kernel) rfl
abbrev mX9_lengthAt : MT := (yX9_lengthAt, cX9_lengthAt, 3, (some .int), 1)
theorem cl_X9_lengthAt : CLk mX9_lengthAt 2 := ⟨g_tb (i := 879) (by decide +kernel) rfl, g_tb (i := 12) (by decide +kernel) rfl, ⟨by decide +kernel, by decide +kernel, by decide +kernel⟩, by decide⟩
theorem im_X9_lengthAt : Cond.instanceMethod yX9_lengthAt ∈ g_WS := g_tb (i := 878) (by decide +kernel) rfl
theorem sl_X9_lengthAt : Cond.selects yX9_lengthAt.cls yX9_lengthAt yX9_lengthAt ∈ g_WS := g_sl (i := 30) (by decide +kernel) rfl
abbrev mX9_sort : MT := (yX9_sort, cX9_sort, 7, none, 0)
theorem cl_X9_sort : CLk mX9_sort 3 := ⟨g_tb (i := 883) (by decide +kernel) rfl, g_tb (i := 12) (by decide +kernel) rfl, ⟨by decide +kernel, by decide +kernel, by decide +kernel⟩, by decide⟩
theorem im_X9_sort : Cond.instanceMethod yX9_sort ∈ g_WS := g_tb (i := 882) (by decide +kernel) rfl
theorem sl_X9_sort : Cond.selects yX9_sort.cls yX9_sort yX9_sort ∈ g_WS := g_sl (i := 31) (by decide +kernel) rfl
abbrev mX9_symbol : MT := (yX9_symbol, cX9_symbol, 7, (some .int), 1)
theorem cl_X9_symbol : CLk mX9_symbol 1 := ⟨g_tb (i := 891) (by decide +kernel) rfl, g_tb (i := 12) (by decide +kernel) rfl, ⟨by decide +kernel, by decide +kernel, by decide +kernel⟩, by decide⟩
theorem im_X9_symbol : Cond.instanceMethod yX9_symbol ∈ g_WS := g_tb (i := 889) (by decide +kernel) rfl
theorem sl_X9_symbol : Cond.selects yX9_symbol.cls yX9_symbol yX9_symbol ∈ g_WS := g_tb (i := 890) (by decide +kernel) rfl
abbrev mX10_init : MT := (yX10_init, cX10_init, 3, none, 0)
theorem cl_X10_init : CLk mX10_init 2 := ⟨g_tb (i := 255) (by decide +kernel) rfl, g_tb (i := 11) (by decide +kernel) rfl, ⟨by decide +kernel, by decide +kernel, by decide +kernel⟩, by decide⟩
theorem im_X10_init : Cond.instanceMethod yX10_init ∈ g_WS := g_tb (i := 254) (by decide +kernel) rfl
abbrev mX10_unpack : MT := (yX10_unpack, cX10_unpack, 8, (some .boolean), 1)
theorem cl_X10_unpack : CLk mX10_unpack 3 := ⟨g_tb (i := 827) (by decide +kernel) rfl, g_tb (i := 11) (by decide +kernel) rfl, ⟨by decide +kernel, by decide +kernel, by decide +kernel⟩, by decide⟩
theorem im_X10_unpack : Cond.instanceMethod yX10_unpack ∈ g_WS := g_tb (i := 825) (by decide +kernel) rfl
theorem sl_X10_unpack : Cond.selects yX10_unpack.cls yX10_unpack yX10_unpack ∈ g_WS := g_tb (i := 826) (by decide +kernel) rfl
abbrev mX10_readBeginning : MT := (yX10_readBeginning, cX10_readBeginning, 3, (some .boolean), 1)
theorem cl_X10_readBeginning : CLk mX10_readBeginning 0 := ⟨g_tb (i := 836) (by decide +kernel) rfl, g_tb (i := 11) (by decide +kernel) rfl, ⟨by decide +kernel, by decide +kernel, by decide +kernel⟩, by decide⟩
theorem im_X10_readBeginning : Cond.instanceMethod yX10_readBeginning ∈ g_WS := g_tb (i := 835) (by decide +kernel) rfl
theorem sl_X10_readBeginning : Cond.selects yX10_readBeginning.cls yX10_readBeginning yX10_readBeginning ∈ g_WS := g_sl (i := 27) (by decide +kernel) rfl
abbrev mX10_readCheck : MT := (yX10_readCheck, cX10_readCheck, 3, (some .boolean), 1)
theorem cl_X10_readCheck : CLk mX10_readCheck 0 := ⟨g_tb (i := 919) (by decide +kernel) rfl, g_tb (i := 11) (by decide +kernel) rfl, ⟨by decide +kernel, by decide +kernel, by decide +kernel⟩, by decide⟩
theorem im_X10_readCheck : Cond.instanceMethod yX10_readCheck ∈ g_WS := g_tb (i := 918) (by decide +kernel) rfl
theorem sl_X10_readCheck : Cond.selects yX10_readCheck.cls yX10_readCheck yX10_readCheck ∈ g_WS := g_sl (i := 37) (by decide +kernel) rfl
abbrev mX10_readStored : MT := (yX10_readStored, cX10_readStored, 4, (some .boolean), 1)
theorem cl_X10_readStored : CLk mX10_readStored 0 := ⟨g_tb (i := 855) (by decide +kernel) rfl, g_tb (i := 11) (by decide +kernel) rfl, ⟨by decide +kernel, by decide +kernel, by decide +kernel⟩, by decide⟩
theorem im_X10_readStored : Cond.instanceMethod yX10_readStored ∈ g_WS := g_tb (i := 854) (by decide +kernel) rfl
theorem sl_X10_readStored : Cond.selects yX10_readStored.cls yX10_readStored yX10_readStored ∈ g_WS := g_sl (i := 28) (by decide +kernel) rfl
abbrev mX10_makeFixed : MT := (yX10_makeFixed, cX10_makeFixed, 2, (some .boolean), 1)
theorem cl_X10_makeFixed : CLk mX10_makeFixed 0 := ⟨g_tb (i := 870) (by decide +kernel) rfl, g_tb (i := 11) (by decide +kernel) rfl, ⟨by decide +kernel, by decide +kernel, by decide +kernel⟩, by decide⟩
theorem im_X10_makeFixed : Cond.instanceMethod yX10_makeFixed ∈ g_WS := g_tb (i := 869) (by decide +kernel) rfl
theorem sl_X10_makeFixed : Cond.selects yX10_makeFixed.cls yX10_makeFixed yX10_makeFixed ∈ g_WS := g_sl (i := 29) (by decide +kernel) rfl
abbrev mX10_readSizes : MT := (yX10_readSizes, cX10_readSizes, 5, (some .boolean), 1)
theorem cl_X10_readSizes : CLk mX10_readSizes 0 := ⟨g_tb (i := 905) (by decide +kernel) rfl, g_tb (i := 11) (by decide +kernel) rfl, ⟨by decide +kernel, by decide +kernel, by decide +kernel⟩, by decide⟩
theorem im_X10_readSizes : Cond.instanceMethod yX10_readSizes ∈ g_WS := g_tb (i := 904) (by decide +kernel) rfl
theorem sl_X10_readSizes : Cond.selects yX10_readSizes.cls yX10_readSizes yX10_readSizes ∈ g_WS := g_sl (i := 34) (by decide +kernel) rfl
abbrev mX10_readLengths : MT := (yX10_readLengths, cX10_readLengths, 7, (some .boolean), 1)
theorem cl_X10_readLengths : CLk mX10_readLengths 0 := ⟨g_tb (i := 910) (by decide +kernel) rfl, g_tb (i := 11) (by decide +kernel) rfl, ⟨by decide +kernel, by decide +kernel, by decide +kernel⟩, by decide⟩
theorem im_X10_readLengths : Cond.instanceMethod yX10_readLengths ∈ g_WS := g_tb (i := 909) (by decide +kernel) rfl
theorem sl_X10_readLengths : Cond.selects yX10_readLengths.cls yX10_readLengths yX10_readLengths ∈ g_WS := g_sl (i := 35) (by decide +kernel) rfl
abbrev mX10_makeCodes : MT := (yX10_makeCodes, cX10_makeCodes, 1, (some .boolean), 1)
theorem cl_X10_makeCodes : CLk mX10_makeCodes 0 := ⟨g_tb (i := 915) (by decide +kernel) rfl, g_tb (i := 11) (by decide +kernel) rfl, ⟨by decide +kernel, by decide +kernel, by decide +kernel⟩, by decide⟩
theorem im_X10_makeCodes : Cond.instanceMethod yX10_makeCodes ∈ g_WS := g_tb (i := 914) (by decide +kernel) rfl
theorem sl_X10_makeCodes : Cond.selects yX10_makeCodes.cls yX10_makeCodes yX10_makeCodes ∈ g_WS := g_sl (i := 36) (by decide +kernel) rfl
abbrev mX10_readSymbols : MT := (yX10_readSymbols, cX10_readSymbols, 6, (some .boolean), 1)
theorem cl_X10_readSymbols : CLk mX10_readSymbols 0 := ⟨g_tb (i := 887) (by decide +kernel) rfl, g_tb (i := 11) (by decide +kernel) rfl, ⟨by decide +kernel, by decide +kernel, by decide +kernel⟩, by decide⟩
theorem im_X10_readSymbols : Cond.instanceMethod yX10_readSymbols ∈ g_WS := g_tb (i := 886) (by decide +kernel) rfl
theorem sl_X10_readSymbols : Cond.selects yX10_readSymbols.cls yX10_readSymbols yX10_readSymbols ∈ g_WS := g_sl (i := 32) (by decide +kernel) rfl
abbrev mX10_repeat : MT := (yX10_repeat, cX10_repeat, 4, (some .boolean), 1)
theorem cl_X10_repeat : CLk mX10_repeat 2 := ⟨g_tb (i := 900) (by decide +kernel) rfl, g_tb (i := 11) (by decide +kernel) rfl, ⟨by decide +kernel, by decide +kernel, by decide +kernel⟩, by decide⟩
theorem im_X10_repeat : Cond.instanceMethod yX10_repeat ∈ g_WS := g_tb (i := 899) (by decide +kernel) rfl
theorem sl_X10_repeat : Cond.selects yX10_repeat.cls yX10_repeat yX10_repeat ∈ g_WS := g_sl (i := 33) (by decide +kernel) rfl
abbrev mX12_init : MT := (yX12_init, cX12_init, 1, none, 0)
theorem cl_X12_init : CLk mX12_init 0 := ⟨g_tb (i := 942) (by decide +kernel) rfl, g_tb (i := 15) (by decide +kernel) rfl, ⟨by decide +kernel, by decide +kernel, by decide +kernel⟩, by decide⟩
theorem im_X12_init : Cond.instanceMethod yX12_init ∈ g_WS := g_tb (i := 941) (by decide +kernel) rfl
abbrev mX12_make : MT := (yX12_make, cX12_make, 10, (some .boolean), 1)
theorem cl_X12_make : CLk mX12_make 4 := ⟨g_tb (i := 1377) (by decide +kernel) rfl, g_tb (i := 15) (by decide +kernel) rfl, ⟨by decide +kernel, by decide +kernel, by decide +kernel⟩, by decide⟩
theorem im_X12_make : Cond.instanceMethod yX12_make ∈ g_WS := g_tb (i := 1375) (by decide +kernel) rfl
theorem sl_X12_make : Cond.selects yX12_make.cls yX12_make yX12_make ∈ g_WS := g_tb (i := 1376) (by decide +kernel) rfl
abbrev mX12_grow : MT := (yX12_grow, cX12_grow, 7, none, 0)
theorem cl_X12_grow : CLk mX12_grow 3 := ⟨g_tb (i := 1382) (by decide +kernel) rfl, g_tb (i := 15) (by decide +kernel) rfl, ⟨by decide +kernel, by decide +kernel, by decide +kernel⟩, by decide⟩
theorem im_X12_grow : Cond.instanceMethod yX12_grow ∈ g_WS := g_tb (i := 1381) (by decide +kernel) rfl
theorem sl_X12_grow : Cond.selects yX12_grow.cls yX12_grow yX12_grow ∈ g_WS := g_sl (i := 72) (by decide +kernel) rfl
theorem ml_X11_1 : Cond.methodLink RX11 1 Lib.objectInit ∈ g_WS := g_tb (i := 22) (by decide +kernel) rfl
theorem nw_X11_7 : NWk RX11 7 4 := ⟨RX4, TX4, 2, tyX4, rfl, rfl, iw_X4, tyX4_ok, g_tb (i := 25) (by decide +kernel) rfl, g_tb (i := 26) (by decide +kernel) rfl, g_tb (i := 2) (by decide +kernel) rfl, by decide +kernel⟩
theorem ml_X4_3 : Cond.methodLink RX4 3 Lib.objectInit ∈ g_WS := g_tb (i := 30) (by decide +kernel) rfl
theorem nw_X4_9 : NWk RX4 9 2 := ⟨RX2, TX2, 2, tyX2, rfl, rfl, iw_X2, tyX2_ok, g_tb (i := 31) (by decide +kernel) rfl, g_tb (i := 32) (by decide +kernel) rfl, g_tb (i := 3) (by decide +kernel) rfl, by decide +kernel⟩
theorem ct_X4_11 : Cond.constant RX4 11 (65536) ∈ g_WS := g_tb (i := 33) (by decide +kernel) rfl
theorem ml_X4_12 : Cond.methodLink RX4 12 yX2_init ∈ g_WS := g_tb (i := 34) (by decide +kernel) rfl
theorem ml_X2_1 : Cond.methodLink RX2 1 Lib.objectInit ∈ g_WS := g_tb (i := 37) (by decide +kernel) rfl
theorem nw_X11_16 : NWk RX11 16 5 := ⟨RX5, TX5, 7, tyX5, rfl, rfl, iw_X5, tyX5_ok, g_tb (i := 54) (by decide +kernel) rfl, g_tb (i := 55) (by decide +kernel) rfl, g_tb (i := 4) (by decide +kernel) rfl, by decide +kernel⟩
theorem ml_X11_18 : Cond.methodLink RX11 18 yX5_init ∈ g_WS := g_tb (i := 56) (by decide +kernel) rfl
theorem ml_X5_3 : Cond.methodLink RX5 3 Lib.objectInit ∈ g_WS := g_tb (i := 59) (by decide +kernel) rfl
theorem ml_X5_24 : Cond.methodLink RX5 24 yX5_begin ∈ g_WS := g_tb (i := 60) (by decide +kernel) rfl
theorem ml_X5_28 : Cond.methodLink RX5 28 yX5_note ∈ g_WS := g_tb (i := 64) (by decide +kernel) rfl
theorem nw_X11_23 : NWk RX11 23 2 := ⟨RX2, TX2, 2, tyX2, rfl, rfl, iw_X2, tyX2_ok, g_tb (i := 90) (by decide +kernel) rfl, g_tb (i := 32) (by decide +kernel) rfl, g_tb (i := 3) (by decide +kernel) rfl, by decide +kernel⟩
theorem ml_X11_25 : Cond.methodLink RX11 25 yX2_init ∈ g_WS := g_tb (i := 91) (by decide +kernel) rfl
theorem ct_X11_32 : Cond.constant RX11 32 (131072) ∈ g_WS := g_tb (i := 92) (by decide +kernel) rfl
theorem ct_X11_36 : Cond.constant RX11 36 (65536) ∈ g_WS := g_tb (i := 93) (by decide +kernel) rfl
theorem nw_X11_49 : NWk RX11 49 8 := ⟨RX8, TX8, 15, tyX8, rfl, rfl, iw_X8, tyX8_ok, g_tb (i := 94) (by decide +kernel) rfl, g_tb (i := 95) (by decide +kernel) rfl, g_tb (i := 5) (by decide +kernel) rfl, by decide +kernel⟩
theorem ml_X11_51 : Cond.methodLink RX11 51 yX8_init ∈ g_WS := g_tb (i := 96) (by decide +kernel) rfl
theorem ml_X8_3 : Cond.methodLink RX8 3 Lib.objectInit ∈ g_WS := g_tb (i := 99) (by decide +kernel) rfl
theorem nw_X8_9 : NWk RX8 9 7 := ⟨RX7, TX7, 7, tyX7, rfl, rfl, iw_X7, tyX7_ok, g_tb (i := 100) (by decide +kernel) rfl, g_tb (i := 101) (by decide +kernel) rfl, g_tb (i := 6) (by decide +kernel) rfl, by decide +kernel⟩
theorem ml_X7_3 : Cond.methodLink RX7 3 Lib.objectInit ∈ g_WS := g_tb (i := 105) (by decide +kernel) rfl
theorem ct_X7_11 : Cond.constant RX7 11 (32768) ∈ g_WS := g_tb (i := 106) (by decide +kernel) rfl
theorem ct_X7_16 : Cond.constant RX7 16 (65536) ∈ g_WS := g_tb (i := 107) (by decide +kernel) rfl
theorem nw_X8_18 : NWk RX8 18 6 := ⟨RX6, TX6, 6, tyX6, rfl, rfl, iw_X6, tyX6_ok, g_tb (i := 130) (by decide +kernel) rfl, g_tb (i := 131) (by decide +kernel) rfl, g_tb (i := 7) (by decide +kernel) rfl, by decide +kernel⟩
theorem ml_X6_3 : Cond.methodLink RX6 3 Lib.objectInit ∈ g_WS := g_tb (i := 135) (by decide +kernel) rfl
theorem nw_X8_25 : NWk RX8 25 3 := ⟨RX3, TX3, 3, tyX3, rfl, rfl, iw_X3, tyX3_ok, g_tb (i := 156) (by decide +kernel) rfl, g_tb (i := 157) (by decide +kernel) rfl, g_tb (i := 8) (by decide +kernel) rfl, by decide +kernel⟩
theorem ml_X8_27 : Cond.methodLink RX8 27 yX3_init ∈ g_WS := g_tb (i := 158) (by decide +kernel) rfl
theorem ml_X3_3 : Cond.methodLink RX3 3 Lib.objectInit ∈ g_WS := g_tb (i := 161) (by decide +kernel) rfl
theorem ml_X3_9 : Cond.methodLink RX3 9 Lib.Math.max.name ∈ g_WS := g_tb (i := 162) (by decide +kernel) rfl
theorem nw_X8_59 : NWk RX8 59 0 := ⟨RX0, TX0, 3, tyX0, rfl, rfl, iw_X0, tyX0_ok, g_tb (i := 175) (by decide +kernel) rfl, g_tb (i := 176) (by decide +kernel) rfl, g_tb (i := 10) (by decide +kernel) rfl, by decide +kernel⟩
theorem ml_X8_61 : Cond.methodLink RX8 61 yX0_init ∈ g_WS := g_tb (i := 177) (by decide +kernel) rfl
theorem ml_X0_1 : Cond.methodLink RX0 1 Lib.objectInit ∈ g_WS := g_tb (i := 180) (by decide +kernel) rfl
theorem ml_X8_72 : Cond.methodLink RX8 72 yX3_setLength ∈ g_WS := g_tb (i := 194) (by decide +kernel) rfl
theorem ml_X8_76 : Cond.methodLink RX8 76 yX3_makeCodes ∈ g_WS := g_tb (i := 198) (by decide +kernel) rfl
theorem ml_X3_27 : Cond.methodLink RX3 27 yX3_turn ∈ g_WS := g_tb (i := 202) (by decide +kernel) rfl
theorem nw_X11_58 : NWk RX11 58 10 := ⟨RX10, TX10, 10, tyX10, rfl, rfl, iw_X10, tyX10_ok, g_tb (i := 251) (by decide +kernel) rfl, g_tb (i := 252) (by decide +kernel) rfl, g_tb (i := 11) (by decide +kernel) rfl, by decide +kernel⟩
theorem ml_X11_60 : Cond.methodLink RX11 60 yX10_init ∈ g_WS := g_tb (i := 253) (by decide +kernel) rfl
theorem ml_X10_3 : Cond.methodLink RX10 3 Lib.objectInit ∈ g_WS := g_tb (i := 256) (by decide +kernel) rfl
theorem nw_X10_9 : NWk RX10 9 9 := ⟨RX9, TX9, 3, tyX9, rfl, rfl, iw_X9, tyX9_ok, g_tb (i := 257) (by decide +kernel) rfl, g_tb (i := 258) (by decide +kernel) rfl, g_tb (i := 12) (by decide +kernel) rfl, by decide +kernel⟩
theorem ml_X9_3 : Cond.methodLink RX9 3 Lib.objectInit ∈ g_WS := g_tb (i := 262) (by decide +kernel) rfl
theorem nw_X10_28 : NWk RX10 28 1 := ⟨RX1, TX1, 5, tyX1, rfl, rfl, iw_X1, tyX1_ok, g_tb (i := 273) (by decide +kernel) rfl, g_tb (i := 274) (by decide +kernel) rfl, g_tb (i := 13) (by decide +kernel) rfl, by decide +kernel⟩
theorem ml_X10_30 : Cond.methodLink RX10 30 yX1_init ∈ g_WS := g_tb (i := 275) (by decide +kernel) rfl
theorem ml_X1_1 : Cond.methodLink RX1 1 Lib.objectInit ∈ g_WS := g_tb (i := 278) (by decide +kernel) rfl
theorem ml_X11_71 : Cond.methodLink RX11 71 yX2_room ∈ g_WS := g_tb (i := 364) (by decide +kernel) rfl
theorem ml_X11_75 : Cond.methodLink RX11 75 yX2_add ∈ g_WS := g_tb (i := 368) (by decide +kernel) rfl
theorem ml_X11_78 : Cond.methodLink RX11 78 yX2_count ∈ g_WS := g_tb (i := 372) (by decide +kernel) rfl
theorem ml_X11_81 : Cond.methodLink RX11 81 yX11_writeTape ∈ g_WS := g_tb (i := 380) (by decide +kernel) rfl
theorem ml_X11_88 : Cond.methodLink RX11 88 yX11_isFile ∈ g_WS := g_tb (i := 384) (by decide +kernel) rfl
theorem ml_X11_92 : Cond.methodLink RX11 92 yX4_room ∈ g_WS := g_tb (i := 387) (by decide +kernel) rfl
theorem ml_X4_25 : Cond.methodLink RX4 25 yX2_room ∈ g_WS := g_tb (i := 391) (by decide +kernel) rfl
theorem ml_X11_93 : Cond.methodLink RX11 93 yX4_open ∈ g_WS := g_tb (i := 392) (by decide +kernel) rfl
theorem ml_X4_29 : Cond.methodLink RX4 29 yX4_start ∈ g_WS := g_tb (i := 396) (by decide +kernel) rfl
theorem ml_X4_37 : Cond.methodLink RX4 37 yX2_open ∈ g_WS := g_tb (i := 400) (by decide +kernel) rfl
theorem ml_X2_21 : Cond.methodLink RX2 21 arraycopyName ∈ g_WS := g_tb (i := 404) (by decide +kernel) rfl
theorem ml_X4_40 : Cond.methodLink RX4 40 yX4_shiftBehind ∈ g_WS := g_tb (i := 407) (by decide +kernel) rfl
theorem ml_X4_49 : Cond.methodLink RX4 49 Lib.Math.max.name ∈ g_WS := g_tb (i := 411) (by decide +kernel) rfl
theorem ml_X11_96 : Cond.methodLink RX11 96 yX2_at ∈ g_WS := g_tb (i := 412) (by decide +kernel) rfl
theorem ml_X11_100 : Cond.methodLink RX11 100 yX4_set ∈ g_WS := g_tb (i := 416) (by decide +kernel) rfl
theorem ml_X4_33 : Cond.methodLink RX4 33 yX2_set ∈ g_WS := g_tb (i := 420) (by decide +kernel) rfl
theorem ml_X11_104 : Cond.methodLink RX11 104 yX4_count ∈ g_WS := g_tb (i := 424) (by decide +kernel) rfl
theorem ml_X11_85 : Cond.methodLink RX11 85 yX2_keep ∈ g_WS := g_tb (i := 428) (by decide +kernel) rfl
theorem ct_X11_106 : Cond.constant RX11 106 (1103515245) ∈ g_WS := g_tb (i := 436) (by decide +kernel) rfl
theorem ml_X11_107 : Cond.methodLink RX11 107 yX4_drop ∈ g_WS := g_tb (i := 441) (by decide +kernel) rfl
theorem ml_X4_43 : Cond.methodLink RX4 43 yX4_count ∈ g_WS := g_tb (i := 445) (by decide +kernel) rfl
theorem ml_X4_46 : Cond.methodLink RX4 46 yX2_close ∈ g_WS := g_tb (i := 446) (by decide +kernel) rfl
theorem ml_X11_110 : Cond.methodLink RX11 110 yX4_bytes ∈ g_WS := g_tb (i := 454) (by decide +kernel) rfl
theorem ml_X11_114 : Cond.methodLink RX11 114 yX5_begin ∈ g_WS := g_tb (i := 458) (by decide +kernel) rfl
theorem ml_X11_117 : Cond.methodLink RX11 117 yX4_twin ∈ g_WS := g_tb (i := 459) (by decide +kernel) rfl
theorem ml_X4_55 : Cond.methodLink RX4 55 yX2_sameFrom ∈ g_WS := g_tb (i := 463) (by decide +kernel) rfl
theorem ml_X2_31 : Cond.methodLink RX2 31 Lib.Math.min.name ∈ g_WS := g_tb (i := 467) (by decide +kernel) rfl
theorem ml_X2_37 : Cond.methodLink RX2 37 Lib.Math.max.name ∈ g_WS := g_tb (i := 470) (by decide +kernel) rfl
theorem ml_X11_120 : Cond.methodLink RX11 120 yX5_share ∈ g_WS := g_tb (i := 471) (by decide +kernel) rfl
theorem ml_X5_42 : Cond.methodLink RX5 42 yX5_fact ∈ g_WS := g_tb (i := 475) (by decide +kernel) rfl
theorem ml_X11_123 : Cond.methodLink RX11 123 yX11_putBlocks ∈ g_WS := g_tb (i := 479) (by decide +kernel) rfl
theorem ml_X11_127 : Cond.methodLink RX11 127 yX5_blockBytes ∈ g_WS := g_tb (i := 483) (by decide +kernel) rfl
theorem ml_X11_137 : Cond.methodLink RX11 137 yX4_start ∈ g_WS := g_tb (i := 487) (by decide +kernel) rfl
theorem ml_X11_140 : Cond.methodLink RX11 140 yX5_open ∈ g_WS := g_tb (i := 488) (by decide +kernel) rfl
theorem ml_X11_143 : Cond.methodLink RX11 143 Lib.Math.min.name ∈ g_WS := g_tb (i := 492) (by decide +kernel) rfl
theorem ml_X11_148 : Cond.methodLink RX11 148 yX2_isZero ∈ g_WS := g_tb (i := 493) (by decide +kernel) rfl
theorem ml_X2_27 : Cond.methodLink RX2 27 yX2_at ∈ g_WS := g_tb (i := 497) (by decide +kernel) rfl
theorem ml_X11_152 : Cond.methodLink RX11 152 yX5_addZeros ∈ g_WS := g_tb (i := 498) (by decide +kernel) rfl
theorem ml_X5_46 : Cond.methodLink RX5 46 yX5_addBlock ∈ g_WS := g_tb (i := 502) (by decide +kernel) rfl
theorem ml_X11_155 : Cond.methodLink RX11 155 yX11_append ∈ g_WS := g_tb (i := 506) (by decide +kernel) rfl
theorem ml_X11_172 : Cond.methodLink RX11 172 yX8_pack ∈ g_WS := g_tb (i := 510) (by decide +kernel) rfl
theorem ml_X8_79 : Cond.methodLink RX8 79 yX7_begin ∈ g_WS := g_tb (i := 514) (by decide +kernel) rfl
theorem ml_X8_82 : Cond.methodLink RX8 82 yX0_bits ∈ g_WS := g_tb (i := 518) (by decide +kernel) rfl
theorem ml_X0_20 : Cond.methodLink RX0 20 yX2_add ∈ g_WS := g_tb (i := 522) (by decide +kernel) rfl
theorem ml_X8_85 : Cond.methodLink RX8 85 Lib.Math.min.name ∈ g_WS := g_tb (i := 523) (by decide +kernel) rfl
theorem ml_X8_91 : Cond.methodLink RX8 91 yX8_gather ∈ g_WS := g_tb (i := 524) (by decide +kernel) rfl
theorem ml_X8_129 : Cond.methodLink RX8 129 yX3_forget ∈ g_WS := g_tb (i := 528) (by decide +kernel) rfl
theorem ml_X8_132 : Cond.methodLink RX8 132 yX7_find ∈ g_WS := g_tb (i := 532) (by decide +kernel) rfl
theorem ml_X7_46 : Cond.methodLink RX7 46 Lib.Math.min.name ∈ g_WS := g_tb (i := 536) (by decide +kernel) rfl
theorem ml_X7_31 : Cond.methodLink RX7 31 yX2_threeFrom ∈ g_WS := g_tb (i := 537) (by decide +kernel) rfl
theorem ml_X7_37 : Cond.methodLink RX7 37 yX7_headOf ∈ g_WS := g_tb (i := 541) (by decide +kernel) rfl
theorem ct_X7_30 : Cond.constant RX7 30 (-1640531535) ∈ g_WS := g_tb (i := 544) (by decide +kernel) rfl
theorem ml_X7_52 : Cond.methodLink RX7 52 yX2_sameFrom ∈ g_WS := g_tb (i := 545) (by decide +kernel) rfl
theorem ml_X8_136 : Cond.methodLink RX8 136 yX7_length ∈ g_WS := g_tb (i := 546) (by decide +kernel) rfl
theorem ml_X8_140 : Cond.methodLink RX8 140 Lib.Math.max.name ∈ g_WS := g_tb (i := 550) (by decide +kernel) rfl
theorem ml_X8_143 : Cond.methodLink RX8 143 yX7_distance ∈ g_WS := g_tb (i := 551) (by decide +kernel) rfl
theorem ml_X8_146 : Cond.methodLink RX8 146 yX8_addItem ∈ g_WS := g_tb (i := 555) (by decide +kernel) rfl
theorem ml_X11_226 : Cond.methodLink RX11 226 yX11_halvings ∈ g_WS := g_tb (i := 562) (by decide +kernel) rfl
theorem ml_X8_155 : Cond.methodLink RX8 155 yX8_countMatch ∈ g_WS := g_tb (i := 568) (by decide +kernel) rfl
theorem ml_X8_163 : Cond.methodLink RX8 163 yX3_count ∈ g_WS := g_tb (i := 572) (by decide +kernel) rfl
theorem ml_X8_158 : Cond.methodLink RX8 158 yX2_at ∈ g_WS := g_tb (i := 582) (by decide +kernel) rfl
theorem ml_X8_166 : Cond.methodLink RX8 166 yX7_know ∈ g_WS := g_tb (i := 583) (by decide +kernel) rfl
theorem ml_X8_95 : Cond.methodLink RX8 95 yX8_makeCodes ∈ g_WS := g_tb (i := 587) (by decide +kernel) rfl
theorem ml_X8_176 : Cond.methodLink RX8 176 yX6_make ∈ g_WS := g_tb (i := 591) (by decide +kernel) rfl
theorem ml_X6_31 : Cond.methodLink RX6 31 yX3_symbols ∈ g_WS := g_tb (i := 595) (by decide +kernel) rfl
theorem ml_X6_37 : Cond.methodLink RX6 37 yX3_setLength ∈ g_WS := g_tb (i := 599) (by decide +kernel) rfl
theorem ml_X6_41 : Cond.methodLink RX6 41 yX3_countOf ∈ g_WS := g_tb (i := 600) (by decide +kernel) rfl
theorem ml_X6_45 : Cond.methodLink RX6 45 yX6_insert ∈ g_WS := g_tb (i := 604) (by decide +kernel) rfl
theorem ml_X6_61 : Cond.methodLink RX6 61 Lib.Math.min.name ∈ g_WS := g_tb (i := 608) (by decide +kernel) rfl
theorem ml_X6_49 : Cond.methodLink RX6 49 yX6_begin ∈ g_WS := g_tb (i := 609) (by decide +kernel) rfl
theorem ml_X6_53 : Cond.methodLink RX6 53 yX6_makeList ∈ g_WS := g_tb (i := 613) (by decide +kernel) rfl
theorem ml_X6_66 : Cond.methodLink RX6 66 Lib.Math.max.name ∈ g_WS := g_tb (i := 617) (by decide +kernel) rfl
theorem ml_X6_57 : Cond.methodLink RX6 57 yX6_takeItems ∈ g_WS := g_tb (i := 618) (by decide +kernel) rfl
theorem ml_X8_96 : Cond.methodLink RX8 96 yX8_makeTold ∈ g_WS := g_tb (i := 622) (by decide +kernel) rfl
theorem ml_X8_192 : Cond.methodLink RX8 192 yX8_toldSymbols ∈ g_WS := g_tb (i := 626) (by decide +kernel) rfl
theorem ml_X8_183 : Cond.methodLink RX8 183 yX3_used ∈ g_WS := g_tb (i := 630) (by decide +kernel) rfl
theorem ml_X8_195 : Cond.methodLink RX8 195 yX8_toldDistances ∈ g_WS := g_tb (i := 634) (by decide +kernel) rfl
theorem ml_X8_189 : Cond.methodLink RX8 189 yX3_lengthOf ∈ g_WS := g_tb (i := 638) (by decide +kernel) rfl
theorem ml_X8_198 : Cond.methodLink RX8 198 yX8_tellSame ∈ g_WS := g_tb (i := 642) (by decide +kernel) rfl
theorem ml_X8_201 : Cond.methodLink RX8 201 yX8_addTold ∈ g_WS := g_tb (i := 646) (by decide +kernel) rfl
theorem ml_X8_99 : Cond.methodLink RX8 99 yX8_makeSizes ∈ g_WS := g_tb (i := 650) (by decide +kernel) rfl
theorem ml_X8_102 : Cond.methodLink RX8 102 yX8_bestSort ∈ g_WS := g_tb (i := 654) (by decide +kernel) rfl
theorem ml_X8_204 : Cond.methodLink RX8 204 yX8_toldSizes ∈ g_WS := g_tb (i := 658) (by decide +kernel) rfl
theorem ml_X8_207 : Cond.methodLink RX8 207 yX3_bitsFor ∈ g_WS := g_tb (i := 667) (by decide +kernel) rfl
theorem ml_X3_30 : Cond.methodLink RX3 30 yX3_countOf ∈ g_WS := g_tb (i := 671) (by decide +kernel) rfl
theorem ml_X8_214 : Cond.methodLink RX8 214 yX0_bitsToByte ∈ g_WS := g_tb (i := 675) (by decide +kernel) rfl
theorem ml_X8_105 : Cond.methodLink RX8 105 yX0_endByte ∈ g_WS := g_tb (i := 679) (by decide +kernel) rfl
theorem ml_X0_26 : Cond.methodLink RX0 26 yX0_bitsToByte ∈ g_WS := g_tb (i := 683) (by decide +kernel) rfl
theorem ml_X0_30 : Cond.methodLink RX0 30 yX0_bits ∈ g_WS := g_tb (i := 684) (by decide +kernel) rfl
theorem ml_X8_108 : Cond.methodLink RX8 108 yX8_tellStored ∈ g_WS := g_tb (i := 685) (by decide +kernel) rfl
theorem ct_X8_217 : Cond.constant RX8 217 (65535) ∈ g_WS := g_tb (i := 689) (by decide +kernel) rfl
theorem ml_X8_111 : Cond.methodLink RX8 111 yX8_tellItems ∈ g_WS := g_tb (i := 690) (by decide +kernel) rfl
theorem ml_X8_218 : Cond.methodLink RX8 218 yX3_turnedOf ∈ g_WS := g_tb (i := 694) (by decide +kernel) rfl
theorem ml_X11_229 : Cond.methodLink RX11 229 yX11_lengthBits ∈ g_WS := g_tb (i := 701) (by decide +kernel) rfl
theorem ml_X11_232 : Cond.methodLink RX11 232 yX11_distanceBits ∈ g_WS := g_tb (i := 705) (by decide +kernel) rfl
theorem ml_X8_115 : Cond.methodLink RX8 115 yX8_tellHeader ∈ g_WS := g_tb (i := 706) (by decide +kernel) rfl
theorem ct_X11_235 : Cond.constant RX11 235 (65521) ∈ g_WS := g_tb (i := 713) (by decide +kernel) rfl
theorem ml_X11_165 : Cond.methodLink RX11 165 yX2_addAll ∈ g_WS := g_tb (i := 714) (by decide +kernel) rfl
theorem ct_X11_175 : Cond.constant RX11 175 (16777216) ∈ g_WS := g_tb (i := 718) (by decide +kernel) rfl
theorem ml_X11_159 : Cond.methodLink RX11 159 yX5_addBlock ∈ g_WS := g_tb (i := 719) (by decide +kernel) rfl
theorem ml_X11_130 : Cond.methodLink RX11 130 yX11_closeFragment ∈ g_WS := g_tb (i := 720) (by decide +kernel) rfl
theorem ml_X11_169 : Cond.methodLink RX11 169 yX5_addFragment ∈ g_WS := g_tb (i := 724) (by decide +kernel) rfl
theorem ml_X11_134 : Cond.methodLink RX11 134 yX11_joinFragment ∈ g_WS := g_tb (i := 728) (by decide +kernel) rfl
theorem ml_X11_162 : Cond.methodLink RX11 162 yX5_join ∈ g_WS := g_tb (i := 732) (by decide +kernel) rfl
theorem ml_X11_176 : Cond.methodLink RX11 176 yX5_fact ∈ g_WS := g_tb (i := 740) (by decide +kernel) rfl
theorem ml_X11_179 : Cond.methodLink RX11 179 yX5_blockNumber ∈ g_WS := g_tb (i := 745) (by decide +kernel) rfl
theorem ml_X11_182 : Cond.methodLink RX11 182 yX5_fragmentCount ∈ g_WS := g_tb (i := 753) (by decide +kernel) rfl
theorem ml_X11_185 : Cond.methodLink RX11 185 yX5_fragmentBegin ∈ g_WS := g_tb (i := 761) (by decide +kernel) rfl
theorem ml_X11_188 : Cond.methodLink RX11 188 yX5_fragmentNumber ∈ g_WS := g_tb (i := 765) (by decide +kernel) rfl
theorem ml_X11_191 : Cond.methodLink RX11 191 yX2_eightFrom ∈ g_WS := g_tb (i := 777) (by decide +kernel) rfl
theorem ml_X11_195 : Cond.methodLink RX11 195 yX2_set ∈ g_WS := g_tb (i := 785) (by decide +kernel) rfl
theorem ml_X11_196 : Cond.methodLink RX11 196 Lib.MathLoose.min_long.x ∈ g_WS := g_tb (i := 794) (by decide +kernel) rfl
theorem ml_X11_199 : Cond.methodLink RX11 199 yX5_log ∈ g_WS := g_tb (i := 797) (by decide +kernel) rfl
theorem ml_X11_202 : Cond.methodLink RX11 202 Lib.Math.max.name ∈ g_WS := g_tb (i := 801) (by decide +kernel) rfl
theorem ml_X11_205 : Cond.methodLink RX11 205 yX11_readPiece ∈ g_WS := g_tb (i := 802) (by decide +kernel) rfl
theorem ml_X11_209 : Cond.methodLink RX11 209 yX2_addZeros ∈ g_WS := g_tb (i := 806) (by decide +kernel) rfl
theorem ml_X2_17 : Cond.methodLink RX2 17 yX2_add ∈ g_WS := g_tb (i := 810) (by decide +kernel) rfl
theorem ml_X11_211 : Cond.methodLink RX11 211 yX5_blockBegin ∈ g_WS := g_tb (i := 811) (by decide +kernel) rfl
theorem ml_X5_50 : Cond.methodLink RX5 50 yX5_blockNumber ∈ g_WS := g_tb (i := 815) (by decide +kernel) rfl
theorem ct_X5_53 : Cond.constant RX5 53 (16777215) ∈ g_WS := g_tb (i := 816) (by decide +kernel) rfl
theorem ml_X11_214 : Cond.methodLink RX11 214 yX5_wholeBytes ∈ g_WS := g_tb (i := 817) (by decide +kernel) rfl
theorem ml_X5_54 : Cond.methodLink RX5 54 yX5_blockBytes ∈ g_WS := g_tb (i := 821) (by decide +kernel) rfl
theorem ml_X5_58 : Cond.methodLink RX5 58 Lib.Math.min.name ∈ g_WS := g_tb (i := 822) (by decide +kernel) rfl
theorem ct_X11_217 : Cond.constant RX11 217 (16777215) ∈ g_WS := g_tb (i := 823) (by decide +kernel) rfl
theorem ml_X11_218 : Cond.methodLink RX11 218 yX10_unpack ∈ g_WS := g_tb (i := 824) (by decide +kernel) rfl
theorem ml_X10_41 : Cond.methodLink RX10 41 yX2_keep ∈ g_WS := g_tb (i := 828) (by decide +kernel) rfl
theorem ml_X10_51 : Cond.methodLink RX10 51 yX1_begin ∈ g_WS := g_tb (i := 829) (by decide +kernel) rfl
theorem ml_X10_55 : Cond.methodLink RX10 55 yX10_readBeginning ∈ g_WS := g_tb (i := 833) (by decide +kernel) rfl
theorem ml_X10_64 : Cond.methodLink RX10 64 yX1_bits ∈ g_WS := g_tb (i := 837) (by decide +kernel) rfl
theorem ml_X1_33 : Cond.methodLink RX1 33 yX1_bit ∈ g_WS := g_tb (i := 841) (by decide +kernel) rfl
theorem ml_X1_27 : Cond.methodLink RX1 27 yX2_at ∈ g_WS := g_tb (i := 845) (by decide +kernel) rfl
theorem ml_X10_86 : Cond.methodLink RX10 86 yX1_isMissing ∈ g_WS := g_tb (i := 846) (by decide +kernel) rfl
theorem ct_X10_59 : Cond.constant RX10 59 (1048576) ∈ g_WS := g_tb (i := 850) (by decide +kernel) rfl
theorem ml_X10_60 : Cond.methodLink RX10 60 yX1_bit ∈ g_WS := g_tb (i := 851) (by decide +kernel) rfl
theorem ml_X10_68 : Cond.methodLink RX10 68 yX10_readStored ∈ g_WS := g_tb (i := 852) (by decide +kernel) rfl
theorem ml_X10_95 : Cond.methodLink RX10 95 yX1_endByte ∈ g_WS := g_tb (i := 856) (by decide +kernel) rfl
theorem ct_X10_108 : Cond.constant RX10 108 (65535) ∈ g_WS := g_tb (i := 860) (by decide +kernel) rfl
theorem ml_X10_98 : Cond.methodLink RX10 98 yX1_bytesLeft ∈ g_WS := g_tb (i := 861) (by decide +kernel) rfl
theorem ml_X10_101 : Cond.methodLink RX10 101 yX2_count ∈ g_WS := g_tb (i := 865) (by decide +kernel) rfl
theorem ml_X10_109 : Cond.methodLink RX10 109 yX2_add ∈ g_WS := g_tb (i := 866) (by decide +kernel) rfl
theorem ml_X10_71 : Cond.methodLink RX10 71 yX10_makeFixed ∈ g_WS := g_tb (i := 867) (by decide +kernel) rfl
theorem ml_X10_115 : Cond.methodLink RX10 115 yX9_make ∈ g_WS := g_tb (i := 872) (by decide +kernel) rfl
theorem ml_X9_21 : Cond.methodLink RX9 21 yX9_lengthAt ∈ g_WS := g_tb (i := 876) (by decide +kernel) rfl
theorem ml_X9_25 : Cond.methodLink RX9 25 yX9_sort ∈ g_WS := g_tb (i := 880) (by decide +kernel) rfl
theorem ml_X10_74 : Cond.methodLink RX10 74 yX10_readSymbols ∈ g_WS := g_tb (i := 884) (by decide +kernel) rfl
theorem ml_X10_128 : Cond.methodLink RX10 128 yX9_symbol ∈ g_WS := g_tb (i := 888) (by decide +kernel) rfl
theorem ml_X9_29 : Cond.methodLink RX9 29 yX1_bit ∈ g_WS := g_tb (i := 892) (by decide +kernel) rfl
theorem ml_X10_147 : Cond.methodLink RX10 147 yX10_repeat ∈ g_WS := g_tb (i := 897) (by decide +kernel) rfl
theorem ml_X10_151 : Cond.methodLink RX10 151 yX2_at ∈ g_WS := g_tb (i := 901) (by decide +kernel) rfl
theorem ml_X10_77 : Cond.methodLink RX10 77 yX10_readSizes ∈ g_WS := g_tb (i := 902) (by decide +kernel) rfl
theorem ml_X10_80 : Cond.methodLink RX10 80 yX10_readLengths ∈ g_WS := g_tb (i := 907) (by decide +kernel) rfl
theorem ml_X10_83 : Cond.methodLink RX10 83 yX10_makeCodes ∈ g_WS := g_tb (i := 912) (by decide +kernel) rfl
theorem ml_X10_89 : Cond.methodLink RX10 89 yX10_readCheck ∈ g_WS := g_tb (i := 916) (by decide +kernel) rfl
theorem ml_X13_1 : Cond.methodLink RX13 1 Lib.objectInit ∈ g_WS := g_tb (i := 934) (by decide +kernel) rfl
theorem ct_X13_20 : Cond.constant RX13 20 (65536) ∈ g_WS := g_tb (i := 935) (by decide +kernel) rfl
theorem ct_X13_61 : Cond.constant RX13 61 (131072) ∈ g_WS := g_tb (i := 936) (by decide +kernel) rfl
theorem ct_X13_74 : Cond.constant RX13 74 (66000) ∈ g_WS := g_tb (i := 937) (by decide +kernel) rfl
theorem nw_X13_123 : NWk RX13 123 12 := ⟨RX12, TX12, 2, tyX12, rfl, rfl, iw_X12, tyX12_ok, g_tb (i := 938) (by decide +kernel) rfl, g_tb (i := 939) (by decide +kernel) rfl, g_tb (i := 15) (by decide +kernel) rfl, by decide +kernel⟩
theorem ml_X12_1 : Cond.methodLink RX12 1 Lib.objectInit ∈ g_WS := g_tb (i := 943) (by decide +kernel) rfl
theorem ml_X13_145 : Cond.methodLink RX13 145 yX13_isFile ∈ g_WS := g_tb (i := 1144) (by decide +kernel) rfl
theorem ml_X13_149 : Cond.methodLink RX13 149 yX13_extend ∈ g_WS := g_tb (i := 1147) (by decide +kernel) rfl
theorem ct_X13_153 : Cond.constant RX13 153 (1103515245) ∈ g_WS := g_tb (i := 1155) (by decide +kernel) rfl
theorem ml_X13_364 : Cond.methodLink RX13 364 yX13_twin ∈ g_WS := g_tb (i := 1164) (by decide +kernel) rfl
theorem ml_X13_367 : Cond.methodLink RX13 367 yX13_putFile ∈ g_WS := g_tb (i := 1168) (by decide +kernel) rfl
theorem ml_X13_358 : Cond.methodLink RX13 358 yX13_putBlock ∈ g_WS := g_tb (i := 1172) (by decide +kernel) rfl
theorem ml_X13_349 : Cond.methodLink RX13 349 yX13_store ∈ g_WS := g_tb (i := 1176) (by decide +kernel) rfl
theorem ml_X13_335 : Cond.methodLink RX13 335 yX13_pack ∈ g_WS := g_tb (i := 1180) (by decide +kernel) rfl
theorem ml_X13_255 : Cond.methodLink RX13 255 yX13_notePairs ∈ g_WS := g_tb (i := 1184) (by decide +kernel) rfl
theorem ml_X13_210 : Cond.methodLink RX13 210 yX13_writeNumber ∈ g_WS := g_tb (i := 1188) (by decide +kernel) rfl
theorem ml_X13_170 : Cond.methodLink RX13 170 yX13_writeBit ∈ g_WS := g_tb (i := 1192) (by decide +kernel) rfl
theorem ml_X13_259 : Cond.methodLink RX13 259 yX13_packPart ∈ g_WS := g_tb (i := 1196) (by decide +kernel) rfl
theorem ml_X13_213 : Cond.methodLink RX13 213 yX13_cutPart ∈ g_WS := g_tb (i := 1200) (by decide +kernel) rfl
theorem ct_X13_181 : Cond.constant RX13 181 (32768) ∈ g_WS := g_tb (i := 1204) (by decide +kernel) rfl
theorem ml_X13_217 : Cond.methodLink RX13 217 yX13_countTokens ∈ g_WS := g_tb (i := 1205) (by decide +kernel) rfl
theorem ml_X13_182 : Cond.methodLink RX13 182 yX13_lengthSymbol ∈ g_WS := g_tb (i := 1209) (by decide +kernel) rfl
theorem ml_X13_161 : Cond.methodLink RX13 161 yX13_lengthBase ∈ g_WS := g_tb (i := 1212) (by decide +kernel) rfl
theorem ml_X13_154 : Cond.methodLink RX13 154 yX13_lengthBits ∈ g_WS := g_tb (i := 1215) (by decide +kernel) rfl
theorem ml_X13_185 : Cond.methodLink RX13 185 yX13_distanceSymbol ∈ g_WS := g_tb (i := 1218) (by decide +kernel) rfl
theorem ml_X13_164 : Cond.methodLink RX13 164 yX13_distanceBase ∈ g_WS := g_tb (i := 1221) (by decide +kernel) rfl
theorem ml_X13_158 : Cond.methodLink RX13 158 yX13_distanceBits ∈ g_WS := g_tb (i := 1224) (by decide +kernel) rfl
theorem ml_X13_220 : Cond.methodLink RX13 220 yX13_findLengths ∈ g_WS := g_tb (i := 1227) (by decide +kernel) rfl
theorem ml_X13_188 : Cond.methodLink RX13 188 yX13_rank ∈ g_WS := g_tb (i := 1231) (by decide +kernel) rfl
theorem ml_X13_191 : Cond.methodLink RX13 191 yX13_takeItem ∈ g_WS := g_tb (i := 1235) (by decide +kernel) rfl
theorem ml_X13_223 : Cond.methodLink RX13 223 yX13_needed ∈ g_WS := g_tb (i := 1239) (by decide +kernel) rfl
theorem ml_X13_227 : Cond.methodLink RX13 227 yX13_tellRow ∈ g_WS := g_tb (i := 1243) (by decide +kernel) rfl
theorem ml_X13_198 : Cond.methodLink RX13 198 yX13_tell ∈ g_WS := g_tb (i := 1247) (by decide +kernel) rfl
theorem ml_X13_230 : Cond.methodLink RX13 230 yX13_smallOrder ∈ g_WS := g_tb (i := 1251) (by decide +kernel) rfl
theorem ml_X13_233 : Cond.methodLink RX13 233 yX13_bitsBy ∈ g_WS := g_tb (i := 1254) (by decide +kernel) rfl
theorem ml_X13_237 : Cond.methodLink RX13 237 yX13_stepBits ∈ g_WS := g_tb (i := 1258) (by decide +kernel) rfl
theorem ml_X13_240 : Cond.methodLink RX13 240 yX13_makeFixed ∈ g_WS := g_tb (i := 1261) (by decide +kernel) rfl
theorem ml_X13_243 : Cond.methodLink RX13 243 yX13_endByte ∈ g_WS := g_tb (i := 1265) (by decide +kernel) rfl
theorem ct_X13_246 : Cond.constant RX13 246 (65535) ∈ g_WS := g_tb (i := 1269) (by decide +kernel) rfl
theorem ml_X13_247 : Cond.methodLink RX13 247 yX13_writeTokens ∈ g_WS := g_tb (i := 1270) (by decide +kernel) rfl
theorem ml_X13_202 : Cond.methodLink RX13 202 yX13_makeCodes ∈ g_WS := g_tb (i := 1274) (by decide +kernel) rfl
theorem ml_X13_174 : Cond.methodLink RX13 174 yX13_codeOf ∈ g_WS := g_tb (i := 1278) (by decide +kernel) rfl
theorem ml_X13_206 : Cond.methodLink RX13 206 yX13_writeCode ∈ g_WS := g_tb (i := 1281) (by decide +kernel) rfl
theorem ml_X13_263 : Cond.methodLink RX13 263 yX13_checkOf ∈ g_WS := g_tb (i := 1285) (by decide +kernel) rfl
theorem ct_X13_251 : Cond.constantLong RX13 251 (65521) ∈ g_WS := g_tb (i := 1288) (by decide +kernel) rfl
theorem ct_X13_253 : Cond.constantLong RX13 253 (65536) ∈ g_WS := g_tb (i := 1289) (by decide +kernel) rfl
theorem ct_X13_267 : Cond.constantLong RX13 267 (255) ∈ g_WS := g_tb (i := 1290) (by decide +kernel) rfl
theorem ml_X13_339 : Cond.methodLink RX13 339 yX13_add ∈ g_WS := g_tb (i := 1291) (by decide +kernel) rfl
theorem ct_X13_342 : Cond.constant RX13 342 (16777216) ∈ g_WS := g_tb (i := 1295) (by decide +kernel) rfl
theorem ml_X13_361 : Cond.methodLink RX13 361 yX13_closeFragment ∈ g_WS := g_tb (i := 1296) (by decide +kernel) rfl
theorem ml_X13_374 : Cond.methodLink RX13 374 yX13_eight ∈ g_WS := g_tb (i := 1324) (by decide +kernel) rfl
theorem ct_X13_370 : Cond.constantLong RX13 370 (8) ∈ g_WS := g_tb (i := 1327) (by decide +kernel) rfl
theorem ct_X13_372 : Cond.constantLong RX13 372 (7) ∈ g_WS := g_tb (i := 1328) (by decide +kernel) rfl
theorem ml_X13_392 : Cond.methodLink RX13 392 yX13_layAll ∈ g_WS := g_tb (i := 1341) (by decide +kernel) rfl
theorem ml_X13_385 : Cond.methodLink RX13 385 yX13_take ∈ g_WS := g_tb (i := 1345) (by decide +kernel) rfl
theorem ct_X13_377 : Cond.constant RX13 377 (16777215) ∈ g_WS := g_tb (i := 1349) (by decide +kernel) rfl
theorem ml_X13_381 : Cond.methodLink RX13 381 yX13_unpack ∈ g_WS := g_tb (i := 1350) (by decide +kernel) rfl
theorem ml_X13_304 : Cond.methodLink RX13 304 yX13_readNumber ∈ g_WS := g_tb (i := 1354) (by decide +kernel) rfl
theorem ml_X13_285 : Cond.methodLink RX13 285 yX13_readBit ∈ g_WS := g_tb (i := 1358) (by decide +kernel) rfl
theorem ml_X13_318 : Cond.methodLink RX13 318 yX13_readStored ∈ g_WS := g_tb (i := 1362) (by decide +kernel) rfl
theorem ml_X13_301 : Cond.methodLink RX13 301 yX13_toByte ∈ g_WS := g_tb (i := 1366) (by decide +kernel) rfl
theorem ml_X13_307 : Cond.methodLink RX13 307 yX13_makeByte ∈ g_WS := g_tb (i := 1370) (by decide +kernel) rfl
theorem ml_X13_310 : Cond.methodLink RX13 310 yX12_make ∈ g_WS := g_tb (i := 1374) (by decide +kernel) rfl
theorem ct_X12_17 : Cond.constant RX12 17 (32768) ∈ g_WS := g_tb (i := 1378) (by decide +kernel) rfl
theorem ml_X12_18 : Cond.methodLink RX12 18 yX12_grow ∈ g_WS := g_tb (i := 1379) (by decide +kernel) rfl
theorem ml_X13_321 : Cond.methodLink RX13 321 yX13_readSymbols ∈ g_WS := g_tb (i := 1383) (by decide +kernel) rfl
theorem ml_X13_314 : Cond.methodLink RX13 314 yX13_readSymbol ∈ g_WS := g_tb (i := 1387) (by decide +kernel) rfl
theorem ml_X13_324 : Cond.methodLink RX13 324 yX13_readMade ∈ g_WS := g_tb (i := 1391) (by decide +kernel) rfl
theorem ct_X13_327 : Cond.constantLong RX13 327 (256) ∈ g_WS := g_tb (i := 1395) (by decide +kernel) rfl
theorem ml_X13_388 : Cond.methodLink RX13 388 yX13_lay ∈ g_WS := g_tb (i := 1396) (by decide +kernel) rfl
theorem nl_X11_9 : (RX11, 9, yX4_init, "SharedBlocks") ∈ g_NM := List.mem_of_getElem? (i := 0) (by decide +kernel)
theorem nl_X8_11 : (RX8, 11, yX7_init, "SharedBlocks") ∈ g_NM := List.mem_of_getElem? (i := 1) (by decide +kernel)
theorem nl_X8_20 : (RX8, 20, yX6_init, "SharedBlocks") ∈ g_NM := List.mem_of_getElem? (i := 2) (by decide +kernel)
theorem nl_X8_68 : (RX8, 68, yX11_fixedLength, "SharedBlocks") ∈ g_NM := List.mem_of_getElem? (i := 3) (by decide +kernel)
theorem nl_X10_11 : (RX10, 11, yX9_init, "SharedBlocks") ∈ g_NM := List.mem_of_getElem? (i := 4) (by decide +kernel)
theorem nl_X8_149 : (RX8, 149, yX11_lengthSymbol, "SharedBlocks") ∈ g_NM := List.mem_of_getElem? (i := 5) (by decide +kernel)
theorem nl_X8_152 : (RX8, 152, yX11_distanceSymbol, "SharedBlocks") ∈ g_NM := List.mem_of_getElem? (i := 6) (by decide +kernel)
theorem nl_X8_170 : (RX8, 170, yX11_lengthBits, "SharedBlocks") ∈ g_NM := List.mem_of_getElem? (i := 7) (by decide +kernel)
theorem nl_X8_173 : (RX8, 173, yX11_distanceBits, "SharedBlocks") ∈ g_NM := List.mem_of_getElem? (i := 8) (by decide +kernel)
theorem nl_X8_186 : (RX8, 186, yX11_ordered, "SharedBlocks") ∈ g_NM := List.mem_of_getElem? (i := 9) (by decide +kernel)
theorem nl_X8_211 : (RX8, 211, yX11_sizeBits, "SharedBlocks") ∈ g_NM := List.mem_of_getElem? (i := 10) (by decide +kernel)
theorem nl_X8_221 : (RX8, 221, yX11_lengthBase, "SharedBlocks") ∈ g_NM := List.mem_of_getElem? (i := 11) (by decide +kernel)
theorem nl_X8_224 : (RX8, 224, yX11_distanceBase, "SharedBlocks") ∈ g_NM := List.mem_of_getElem? (i := 12) (by decide +kernel)
theorem nl_X8_118 : (RX8, 118, yX11_checkOf, "SharedBlocks") ∈ g_NM := List.mem_of_getElem? (i := 13) (by decide +kernel)
theorem nl_X10_112 : (RX10, 112, yX11_fixedLength, "SharedBlocks") ∈ g_NM := List.mem_of_getElem? (i := 14) (by decide +kernel)
theorem nl_X10_135 : (RX10, 135, yX11_lengthBase, "SharedBlocks") ∈ g_NM := List.mem_of_getElem? (i := 15) (by decide +kernel)
theorem nl_X10_138 : (RX10, 138, yX11_lengthBits, "SharedBlocks") ∈ g_NM := List.mem_of_getElem? (i := 16) (by decide +kernel)
theorem nl_X10_141 : (RX10, 141, yX11_distanceBase, "SharedBlocks") ∈ g_NM := List.mem_of_getElem? (i := 17) (by decide +kernel)
theorem nl_X10_144 : (RX10, 144, yX11_distanceBits, "SharedBlocks") ∈ g_NM := List.mem_of_getElem? (i := 18) (by decide +kernel)
theorem nl_X10_125 : (RX10, 125, yX11_ordered, "SharedBlocks") ∈ g_NM := List.mem_of_getElem? (i := 19) (by decide +kernel)
theorem nl_X10_132 : (RX10, 132, yX11_sizeBits, "SharedBlocks") ∈ g_NM := List.mem_of_getElem? (i := 20) (by decide +kernel)
theorem nl_X10_104 : (RX10, 104, yX11_checkOf, "SharedBlocks") ∈ g_NM := List.mem_of_getElem? (i := 21) (by decide +kernel)
theorem nl_X13_125 : (RX13, 125, yX12_init, "SharedBlocksModel") ∈ g_NM := List.mem_of_getElem? (i := 22) (by decide +kernel)
theorem wd_obj_i : Cond.instanceMethod Lib.objectInit ∈ g_WS := g_tb (i := 23) (by decide +kernel) rfl
theorem wd_max_s : Cond.static Lib.Math.max.name ∈ g_WS := g_tb (i := 163) (by decide +kernel) rfl
theorem wd_min_s : Cond.static Lib.Math.min.name ∈ g_WS := g_tb (i := 468) (by decide +kernel) rfl
theorem wd_minL_s : Cond.static Lib.MathLoose.min_long.x ∈ g_WS := g_tb (i := 795) (by decide +kernel) rfl
theorem wd_math : Cond.initialized "java/lang/Math" ∈ g_WS := g_tb (i := 9) (by decide +kernel) rfl
theorem wd_sys : Cond.initialized "java/lang/System" ∈ g_WS := g_tb (i := 16) (by decide +kernel) rfl
theorem wd_cpy_n : Cond.native arraycopyName ∈ g_WS := g_tb (i := 406) (by decide +kernel) rfl
theorem wd_cpy_s : Cond.static arraycopyName ∈ g_WS := g_tb (i := 405) (by decide +kernel) rfl
theorem wd_obj_c : Cond.code Lib.objectInit ⟨#[0xb1]⟩ 1 none ∈ g_WS := g_tb (i := 24) (by decide +kernel) rfl
theorem wd_max_c : Cond.code Lib.Math.max.name Lib.Math.max.code 2 (some .int) ∈ g_WS := g_tb (i := 164) (by decide +kernel) rfl
theorem wd_min_c : Cond.code Lib.Math.min.name Lib.Math.min.code 2 (some .int) ∈ g_WS := g_tb (i := 469) (by decide +kernel) rfl
theorem wd_minL_c : Cond.code Lib.MathLoose.min_long.x Lib.MathLoose.min_long.code 4 (some .long) ∈ g_WS := g_tb (i := 796) (by decide +kernel) rfl
theorem wd_aint : Cond.arrayClass .int ∈ g_WS := g_tb (i := 53) (by decide +kernel) rfl
theorem wd_abyte : Cond.arrayClass .byte ∈ g_WS := g_tb (i := 45) (by decide +kernel) rfl
theorem wd_aboolean : Cond.arrayClass .boolean ∈ g_WS := g_tb (i := 155) (by decide +kernel) rfl
theorem fn_289 : FLn RX13 289 12 0 := ⟨RX12, TX12, 2, rfl, by decide, rfl, iw_X12, by decide +kernel⟩
/-- where the references point once all is made -/
def RVL : List (List Nat) := [[2, 6, 11, 13, 15, 17, 19, 21, 23, 59, 0], [3, 5], [4, 0], [], [], [7, 8, 9, 10, 0, 0, 0], [], [], [], [], [12, 0], [], [14, 0], [], [16, 0], [], [18, 0], [], [20, 0], [], [22, 0], [], [58, 24, 27, 34, 38, 42, 46, 50, 54, 55, 0, 0, 56, 57, 0], [25, 26, 0, 0, 0, 0, 0], [], [], [28, 29, 30, 31, 32, 33], [], [], [], [], [], [], [35, 36, 37], [], [], [], [39, 40, 41], [], [], [], [43, 44, 45], [], [], [], [47, 48, 49], [], [], [], [51, 52, 53], [], [], [], [], [], [], [], [13, 0, 0], [73, 17, 60, 64, 68, 72, 0, 0, 0, 0], [61, 62, 63], [], [], [], [65, 66, 67], [], [], [], [69, 70, 71], [], [], [], [], [13, 0, 0, 0, 0], [0, 75, 76, 77, 78, 0, 0, 0, 0, 79, 80, 81, 82, 83, 84, 85, 0, 86, 0, 87, 88, 89, 0, 0, 90, 0, 91, 92, 0, 93, 94, 0, 95, 96, 0, 97, 98, 99, 100, 101, 102, 103, 104, 105, 106, 0, 107, 108, 109, 110, 112, 114, 116, 0, 0, 0, 0, 0, 0, 0, 0], [], [], [], [], [], [], [], [], [], [], [], [], [], [], [], [], [], [], [], [], [], [], [], [], [], [], [], [], [], [], [], [], [], [], [], [111, 0], [], [113, 0], [], [115, 0], [], []]
def RV : RVt := fun k j => (RVL.getD k []).getD j 0
theorem kc_0 : kc 0 = 11 := rfl
theorem RV_0_0 : RV 0 0 = 1 + 1 := rfl
theorem RV_0_1 : RV 0 1 = 5 + 1 := rfl
theorem RV_0_2 : RV 0 2 = 10 + 1 := rfl
theorem RV_0_3 : RV 0 3 = 12 + 1 := rfl
theorem RV_0_4 : RV 0 4 = 14 + 1 := rfl
theorem RV_0_5 : RV 0 5 = 16 + 1 := rfl
theorem RV_0_6 : RV 0 6 = 18 + 1 := rfl
theorem RV_0_7 : RV 0 7 = 20 + 1 := rfl
theorem RV_0_8 : RV 0 8 = 22 + 1 := rfl
theorem RV_0_9 : RV 0 9 = 58 + 1 := rfl
theorem kc_1 : kc 1 = 4 := rfl
theorem RV_1_0 : RV 1 0 = 2 + 1 := rfl
theorem RV_1_1 : RV 1 1 = 4 + 1 := rfl
theorem kc_2 : kc 2 = 2 := rfl
theorem RV_2_0 : RV 2 0 = 3 + 1 := rfl
theorem kc_3 : kc 3 = 101 := rfl
theorem kl_3 : kl 3 = 65536 := rfl
theorem kc_4 : kc 4 = 100 := rfl
theorem kl_4 : kl 4 = 65 := rfl
theorem kc_5 : kc 5 = 5 := rfl
theorem RV_5_0 : RV 5 0 = 6 + 1 := rfl
theorem RV_5_1 : RV 5 1 = 7 + 1 := rfl
theorem RV_5_2 : RV 5 2 = 8 + 1 := rfl
theorem RV_5_3 : RV 5 3 = 9 + 1 := rfl
theorem kc_6 : kc 6 = 100 := rfl
theorem kl_6 : kl 6 = 512 := rfl
theorem kc_7 : kc 7 = 100 := rfl
theorem kl_7 : kl 7 = 80 := rfl
theorem kc_8 : kc 8 = 100 := rfl
theorem kl_8 : kl 8 = 64 := rfl
theorem kc_9 : kc 9 = 100 := rfl
theorem kl_9 : kl 9 = 64 := rfl
theorem kc_10 : kc 10 = 2 := rfl
theorem RV_10_0 : RV 10 0 = 11 + 1 := rfl
theorem kc_11 : kc 11 = 101 := rfl
theorem kl_11 : kl 11 = 1024 := rfl
theorem kc_12 : kc 12 = 2 := rfl
theorem RV_12_0 : RV 12 0 = 13 + 1 := rfl
theorem kc_13 : kc 13 = 101 := rfl
theorem kl_13 : kl 13 = 131072 := rfl
theorem kc_14 : kc 14 = 2 := rfl
theorem RV_14_0 : RV 14 0 = 15 + 1 := rfl
theorem kc_15 : kc 15 = 101 := rfl
theorem kl_15 : kl 15 = 65536 := rfl
theorem kc_16 : kc 16 = 2 := rfl
theorem RV_16_0 : RV 16 0 = 17 + 1 := rfl
theorem kc_17 : kc 17 = 101 := rfl
theorem kl_17 : kl 17 = 65536 := rfl
theorem kc_18 : kc 18 = 2 := rfl
theorem RV_18_0 : RV 18 0 = 19 + 1 := rfl
theorem kc_19 : kc 19 = 101 := rfl
theorem kl_19 : kl 19 = 4096 := rfl
theorem kc_20 : kc 20 = 2 := rfl
theorem RV_20_0 : RV 20 0 = 21 + 1 := rfl
theorem kc_21 : kc 21 = 101 := rfl
theorem kl_21 : kl 21 = 4096 := rfl
theorem kc_22 : kc 22 = 8 := rfl
theorem RV_22_0 : RV 22 0 = 57 + 1 := rfl
theorem RV_22_1 : RV 22 1 = 23 + 1 := rfl
theorem RV_22_2 : RV 22 2 = 26 + 1 := rfl
theorem RV_22_3 : RV 22 3 = 33 + 1 := rfl
theorem RV_22_4 : RV 22 4 = 37 + 1 := rfl
theorem RV_22_5 : RV 22 5 = 41 + 1 := rfl
theorem RV_22_6 : RV 22 6 = 45 + 1 := rfl
theorem RV_22_7 : RV 22 7 = 49 + 1 := rfl
theorem RV_22_8 : RV 22 8 = 53 + 1 := rfl
theorem RV_22_9 : RV 22 9 = 54 + 1 := rfl
theorem RV_22_12 : RV 22 12 = 55 + 1 := rfl
theorem RV_22_13 : RV 22 13 = 56 + 1 := rfl
theorem kc_23 : kc 23 = 7 := rfl
theorem RV_23_0 : RV 23 0 = 24 + 1 := rfl
theorem RV_23_1 : RV 23 1 = 25 + 1 := rfl
theorem kc_24 : kc 24 = 100 := rfl
theorem kl_24 : kl 24 = 32768 := rfl
theorem kc_25 : kc 25 = 100 := rfl
theorem kl_25 : kl 25 = 65536 := rfl
theorem kc_26 : kc 26 = 6 := rfl
theorem RV_26_0 : RV 26 0 = 27 + 1 := rfl
theorem RV_26_1 : RV 26 1 = 28 + 1 := rfl
theorem RV_26_2 : RV 26 2 = 29 + 1 := rfl
theorem RV_26_3 : RV 26 3 = 30 + 1 := rfl
theorem RV_26_4 : RV 26 4 = 31 + 1 := rfl
theorem RV_26_5 : RV 26 5 = 32 + 1 := rfl
theorem kc_27 : kc 27 = 100 := rfl
theorem kl_27 : kl 27 = 288 := rfl
theorem kc_28 : kc 28 = 100 := rfl
theorem kl_28 : kl 28 = 288 := rfl
theorem kc_29 : kc 29 = 100 := rfl
theorem kl_29 : kl 29 = 288 := rfl
theorem kc_30 : kc 30 = 100 := rfl
theorem kl_30 : kl 30 = 576 := rfl
theorem kc_31 : kc 31 = 100 := rfl
theorem kl_31 : kl 31 = 576 := rfl
theorem kc_32 : kc 32 = 102 := rfl
theorem kl_32 : kl 32 = 8640 := rfl
theorem kc_33 : kc 33 = 3 := rfl
theorem RV_33_0 : RV 33 0 = 34 + 1 := rfl
theorem RV_33_1 : RV 33 1 = 35 + 1 := rfl
theorem RV_33_2 : RV 33 2 = 36 + 1 := rfl
theorem kc_34 : kc 34 = 100 := rfl
theorem kl_34 : kl 34 = 286 := rfl
theorem kc_35 : kc 35 = 100 := rfl
theorem kl_35 : kl 35 = 286 := rfl
theorem kc_36 : kc 36 = 100 := rfl
theorem kl_36 : kl 36 = 286 := rfl
theorem kc_37 : kc 37 = 3 := rfl
theorem RV_37_0 : RV 37 0 = 38 + 1 := rfl
theorem RV_37_1 : RV 37 1 = 39 + 1 := rfl
theorem RV_37_2 : RV 37 2 = 40 + 1 := rfl
theorem kc_38 : kc 38 = 100 := rfl
theorem kl_38 : kl 38 = 30 := rfl
theorem kc_39 : kc 39 = 100 := rfl
theorem kl_39 : kl 39 = 30 := rfl
theorem kc_40 : kc 40 = 100 := rfl
theorem kl_40 : kl 40 = 30 := rfl
theorem kc_41 : kc 41 = 3 := rfl
theorem RV_41_0 : RV 41 0 = 42 + 1 := rfl
theorem RV_41_1 : RV 41 1 = 43 + 1 := rfl
theorem RV_41_2 : RV 41 2 = 44 + 1 := rfl
theorem kc_42 : kc 42 = 100 := rfl
theorem kl_42 : kl 42 = 19 := rfl
theorem kc_43 : kc 43 = 100 := rfl
theorem kl_43 : kl 43 = 19 := rfl
theorem kc_44 : kc 44 = 100 := rfl
theorem kl_44 : kl 44 = 19 := rfl
theorem kc_45 : kc 45 = 3 := rfl
theorem RV_45_0 : RV 45 0 = 46 + 1 := rfl
theorem RV_45_1 : RV 45 1 = 47 + 1 := rfl
theorem RV_45_2 : RV 45 2 = 48 + 1 := rfl
theorem kc_46 : kc 46 = 100 := rfl
theorem kl_46 : kl 46 = 288 := rfl
theorem kc_47 : kc 47 = 100 := rfl
theorem kl_47 : kl 47 = 288 := rfl
theorem kc_48 : kc 48 = 100 := rfl
theorem kl_48 : kl 48 = 288 := rfl
theorem kc_49 : kc 49 = 3 := rfl
theorem RV_49_0 : RV 49 0 = 50 + 1 := rfl
theorem RV_49_1 : RV 49 1 = 51 + 1 := rfl
theorem RV_49_2 : RV 49 2 = 52 + 1 := rfl
theorem kc_50 : kc 50 = 100 := rfl
theorem kl_50 : kl 50 = 32 := rfl
theorem kc_51 : kc 51 = 100 := rfl
theorem kl_51 : kl 51 = 32 := rfl
theorem kc_52 : kc 52 = 100 := rfl
theorem kl_52 : kl 52 = 32 := rfl
theorem kc_53 : kc 53 = 100 := rfl
theorem kl_53 : kl 53 = 4096 := rfl
theorem kc_54 : kc 54 = 100 := rfl
theorem kl_54 : kl 54 = 4096 := rfl
theorem kc_55 : kc 55 = 100 := rfl
theorem kl_55 : kl 55 = 320 := rfl
theorem kc_56 : kc 56 = 100 := rfl
theorem kl_56 : kl 56 = 320 := rfl
theorem kc_57 : kc 57 = 0 := rfl
theorem RV_57_0 : RV 57 0 = 12 + 1 := rfl
theorem kc_58 : kc 58 = 10 := rfl
theorem RV_58_0 : RV 58 0 = 72 + 1 := rfl
theorem RV_58_1 : RV 58 1 = 16 + 1 := rfl
theorem RV_58_2 : RV 58 2 = 59 + 1 := rfl
theorem RV_58_3 : RV 58 3 = 63 + 1 := rfl
theorem RV_58_4 : RV 58 4 = 67 + 1 := rfl
theorem RV_58_5 : RV 58 5 = 71 + 1 := rfl
theorem kc_59 : kc 59 = 9 := rfl
theorem RV_59_0 : RV 59 0 = 60 + 1 := rfl
theorem RV_59_1 : RV 59 1 = 61 + 1 := rfl
theorem RV_59_2 : RV 59 2 = 62 + 1 := rfl
theorem kc_60 : kc 60 = 100 := rfl
theorem kl_60 : kl 60 = 16 := rfl
theorem kc_61 : kc 61 = 100 := rfl
theorem kl_61 : kl 61 = 288 := rfl
theorem kc_62 : kc 62 = 100 := rfl
theorem kl_62 : kl 62 = 16 := rfl
theorem kc_63 : kc 63 = 9 := rfl
theorem RV_63_0 : RV 63 0 = 64 + 1 := rfl
theorem RV_63_1 : RV 63 1 = 65 + 1 := rfl
theorem RV_63_2 : RV 63 2 = 66 + 1 := rfl
theorem kc_64 : kc 64 = 100 := rfl
theorem kl_64 : kl 64 = 16 := rfl
theorem kc_65 : kc 65 = 100 := rfl
theorem kl_65 : kl 65 = 288 := rfl
theorem kc_66 : kc 66 = 100 := rfl
theorem kl_66 : kl 66 = 16 := rfl
theorem kc_67 : kc 67 = 9 := rfl
theorem RV_67_0 : RV 67 0 = 68 + 1 := rfl
theorem RV_67_1 : RV 67 1 = 69 + 1 := rfl
theorem RV_67_2 : RV 67 2 = 70 + 1 := rfl
theorem kc_68 : kc 68 = 100 := rfl
theorem kl_68 : kl 68 = 16 := rfl
theorem kc_69 : kc 69 = 100 := rfl
theorem kl_69 : kl 69 = 288 := rfl
theorem kc_70 : kc 70 = 100 := rfl
theorem kl_70 : kl 70 = 16 := rfl
theorem kc_71 : kc 71 = 100 := rfl
theorem kl_71 : kl 71 = 320 := rfl
theorem kc_72 : kc 72 = 1 := rfl
theorem RV_72_0 : RV 72 0 = 12 + 1 := rfl
theorem kc_73 : kc 73 = 13 := rfl
theorem RV_73_1 : RV 73 1 = 74 + 1 := rfl
theorem RV_73_2 : RV 73 2 = 75 + 1 := rfl
theorem RV_73_3 : RV 73 3 = 76 + 1 := rfl
theorem RV_73_4 : RV 73 4 = 77 + 1 := rfl
theorem RV_73_9 : RV 73 9 = 78 + 1 := rfl
theorem RV_73_10 : RV 73 10 = 79 + 1 := rfl
theorem RV_73_11 : RV 73 11 = 80 + 1 := rfl
theorem RV_73_12 : RV 73 12 = 81 + 1 := rfl
theorem RV_73_13 : RV 73 13 = 82 + 1 := rfl
theorem RV_73_14 : RV 73 14 = 83 + 1 := rfl
theorem RV_73_15 : RV 73 15 = 84 + 1 := rfl
theorem RV_73_17 : RV 73 17 = 85 + 1 := rfl
theorem RV_73_19 : RV 73 19 = 86 + 1 := rfl
theorem RV_73_20 : RV 73 20 = 87 + 1 := rfl
theorem RV_73_21 : RV 73 21 = 88 + 1 := rfl
theorem RV_73_24 : RV 73 24 = 89 + 1 := rfl
theorem RV_73_26 : RV 73 26 = 90 + 1 := rfl
theorem RV_73_27 : RV 73 27 = 91 + 1 := rfl
theorem RV_73_29 : RV 73 29 = 92 + 1 := rfl
theorem RV_73_30 : RV 73 30 = 93 + 1 := rfl
theorem RV_73_32 : RV 73 32 = 94 + 1 := rfl
theorem RV_73_33 : RV 73 33 = 95 + 1 := rfl
theorem RV_73_35 : RV 73 35 = 96 + 1 := rfl
theorem RV_73_36 : RV 73 36 = 97 + 1 := rfl
theorem RV_73_37 : RV 73 37 = 98 + 1 := rfl
theorem RV_73_38 : RV 73 38 = 99 + 1 := rfl
theorem RV_73_39 : RV 73 39 = 100 + 1 := rfl
theorem RV_73_40 : RV 73 40 = 101 + 1 := rfl
theorem RV_73_41 : RV 73 41 = 102 + 1 := rfl
theorem RV_73_42 : RV 73 42 = 103 + 1 := rfl
theorem RV_73_43 : RV 73 43 = 104 + 1 := rfl
theorem RV_73_44 : RV 73 44 = 105 + 1 := rfl
theorem RV_73_46 : RV 73 46 = 106 + 1 := rfl
theorem RV_73_47 : RV 73 47 = 107 + 1 := rfl
theorem RV_73_48 : RV 73 48 = 108 + 1 := rfl
theorem RV_73_49 : RV 73 49 = 109 + 1 := rfl
theorem RV_73_50 : RV 73 50 = 111 + 1 := rfl
theorem RV_73_51 : RV 73 51 = 113 + 1 := rfl
theorem RV_73_52 : RV 73 52 = 115 + 1 := rfl
theorem kc_74 : kc 74 = 101 := rfl
theorem kl_74 : kl 74 = 1024 := rfl
theorem kc_75 : kc 75 = 100 := rfl
theorem kl_75 : kl 75 = 64 := rfl
theorem kc_76 : kc 76 = 100 := rfl
theorem kl_76 : kl 76 = 64 := rfl
theorem kc_77 : kc 77 = 101 := rfl
theorem kl_77 : kl 77 = 65536 := rfl
theorem kc_78 : kc 78 = 100 := rfl
theorem kl_78 : kl 78 = 64 := rfl
theorem kc_79 : kc 79 = 100 := rfl
theorem kl_79 : kl 79 = 64 := rfl
theorem kc_80 : kc 80 = 100 := rfl
theorem kl_80 : kl 80 = 64 := rfl
theorem kc_81 : kc 81 = 100 := rfl
theorem kl_81 : kl 81 = 64 := rfl
theorem kc_82 : kc 82 = 100 := rfl
theorem kl_82 : kl 82 = 64 := rfl
theorem kc_83 : kc 83 = 100 := rfl
theorem kl_83 : kl 83 = 64 := rfl
theorem kc_84 : kc 84 = 100 := rfl
theorem kl_84 : kl 84 = 64 := rfl
theorem kc_85 : kc 85 = 100 := rfl
theorem kl_85 : kl 85 = 128 := rfl
theorem kc_86 : kc 86 = 100 := rfl
theorem kl_86 : kl 86 = 64 := rfl
theorem kc_87 : kc 87 = 100 := rfl
theorem kl_87 : kl 87 = 64 := rfl
theorem kc_88 : kc 88 = 101 := rfl
theorem kl_88 : kl 88 = 65536 := rfl
theorem kc_89 : kc 89 = 101 := rfl
theorem kl_89 : kl 89 = 131072 := rfl
theorem kc_90 : kc 90 = 101 := rfl
theorem kl_90 : kl 90 = 4096 := rfl
theorem kc_91 : kc 91 = 101 := rfl
theorem kl_91 : kl 91 = 4096 := rfl
theorem kc_92 : kc 92 = 101 := rfl
theorem kl_92 : kl 92 = 65536 := rfl
theorem kc_93 : kc 93 = 101 := rfl
theorem kl_93 : kl 93 = 66000 := rfl
theorem kc_94 : kc 94 = 100 := rfl
theorem kl_94 : kl 94 = 65536 := rfl
theorem kc_95 : kc 95 = 100 := rfl
theorem kl_95 : kl 95 = 65536 := rfl
theorem kc_96 : kc 96 = 100 := rfl
theorem kl_96 : kl 96 = 4096 := rfl
theorem kc_97 : kc 97 = 100 := rfl
theorem kl_97 : kl 97 = 4096 := rfl
theorem kc_98 : kc 98 = 100 := rfl
theorem kl_98 : kl 98 = 339 := rfl
theorem kc_99 : kc 99 = 100 := rfl
theorem kl_99 : kl 99 = 339 := rfl
theorem kc_100 : kc 100 = 100 := rfl
theorem kl_100 : kl 100 = 339 := rfl
theorem kc_101 : kc 101 = 100 := rfl
theorem kl_101 : kl 101 = 288 := rfl
theorem kc_102 : kc 102 = 100 := rfl
theorem kl_102 : kl 102 = 600 := rfl
theorem kc_103 : kc 103 = 100 := rfl
theorem kl_103 : kl 103 = 600 := rfl
theorem kc_104 : kc 104 = 100 := rfl
theorem kl_104 : kl 104 = 9000 := rfl
theorem kc_105 : kc 105 = 100 := rfl
theorem kl_105 : kl 105 = 320 := rfl
theorem kc_106 : kc 106 = 100 := rfl
theorem kl_106 : kl 106 = 320 := rfl
theorem kc_107 : kc 107 = 100 := rfl
theorem kl_107 : kl 107 = 320 := rfl
theorem kc_108 : kc 108 = 100 := rfl
theorem kl_108 : kl 108 = 339 := rfl
theorem kc_109 : kc 109 = 12 := rfl
theorem RV_109_0 : RV 109 0 = 110 + 1 := rfl
theorem kc_110 : kc 110 = 100 := rfl
theorem kl_110 : kl 110 = 1300 := rfl
theorem kc_111 : kc 111 = 12 := rfl
theorem RV_111_0 : RV 111 0 = 112 + 1 := rfl
theorem kc_112 : kc 112 = 100 := rfl
theorem kl_112 : kl 112 = 1300 := rfl
theorem kc_113 : kc 113 = 12 := rfl
theorem RV_113_0 : RV 113 0 = 114 + 1 := rfl
theorem kc_114 : kc 114 = 100 := rfl
theorem kl_114 : kl 114 = 1300 := rfl
theorem kc_115 : kc 115 = 100 := rfl
theorem kl_115 : kl 115 = 339 := rfl
theorem fr_0_0 : g_fr 0 0 = 1 := rfl
theorem fr_0_1 : g_fr 0 1 = 0 := rfl
theorem fr_0_2 : g_fr 0 2 = 0 := rfl
theorem fr_1_0 : g_fr 1 0 = 1 := rfl
theorem fr_1_1 : g_fr 1 1 = 0 := rfl
theorem fr_1_2 : g_fr 1 2 = 0 := rfl
theorem fr_1_3 : g_fr 1 3 = 0 := rfl
theorem fr_1_4 : g_fr 1 4 = 0 := rfl
theorem fr_2_0 : g_fr 2 0 = 1 := rfl
theorem fr_2_1 : g_fr 2 1 = 0 := rfl
theorem fr_3_0 : g_fr 3 0 = 1 := rfl
theorem fr_3_1 : g_fr 3 1 = 1 := rfl
theorem fr_3_2 : g_fr 3 2 = 1 := rfl
theorem fr_4_0 : g_fr 4 0 = 1 := rfl
theorem fr_4_1 : g_fr 4 1 = 1 := rfl
theorem fr_5_0 : g_fr 5 0 = 1 := rfl
theorem fr_5_1 : g_fr 5 1 = 1 := rfl
theorem fr_5_2 : g_fr 5 2 = 1 := rfl
theorem fr_5_3 : g_fr 5 3 = 1 := rfl
theorem fr_5_4 : g_fr 5 4 = 0 := rfl
theorem fr_5_5 : g_fr 5 5 = 0 := rfl
theorem fr_5_6 : g_fr 5 6 = 0 := rfl
theorem fr_6_0 : g_fr 6 0 = 1 := rfl
theorem fr_6_1 : g_fr 6 1 = 1 := rfl
theorem fr_6_2 : g_fr 6 2 = 1 := rfl
theorem fr_6_3 : g_fr 6 3 = 1 := rfl
theorem fr_6_4 : g_fr 6 4 = 1 := rfl
theorem fr_6_5 : g_fr 6 5 = 1 := rfl
theorem fr_7_0 : g_fr 7 0 = 1 := rfl
theorem fr_7_1 : g_fr 7 1 = 1 := rfl
theorem fr_7_2 : g_fr 7 2 = 0 := rfl
theorem fr_7_3 : g_fr 7 3 = 0 := rfl
theorem fr_7_4 : g_fr 7 4 = 0 := rfl
theorem fr_7_5 : g_fr 7 5 = 0 := rfl
theorem fr_7_6 : g_fr 7 6 = 0 := rfl
theorem fr_8_0 : g_fr 8 0 = 1 := rfl
theorem fr_8_1 : g_fr 8 1 = 1 := rfl
theorem fr_8_2 : g_fr 8 2 = 1 := rfl
theorem fr_8_3 : g_fr 8 3 = 1 := rfl
theorem fr_8_4 : g_fr 8 4 = 1 := rfl
theorem fr_8_5 : g_fr 8 5 = 1 := rfl
theorem fr_8_6 : g_fr 8 6 = 1 := rfl
theorem fr_8_7 : g_fr 8 7 = 1 := rfl
theorem fr_8_8 : g_fr 8 8 = 1 := rfl
theorem fr_8_9 : g_fr 8 9 = 1 := rfl
theorem fr_8_10 : g_fr 8 10 = 0 := rfl
theorem fr_8_11 : g_fr 8 11 = 0 := rfl
theorem fr_8_12 : g_fr 8 12 = 1 := rfl
theorem fr_8_13 : g_fr 8 13 = 1 := rfl
theorem fr_8_14 : g_fr 8 14 = 0 := rfl
theorem fr_9_0 : g_fr 9 0 = 1 := rfl
theorem fr_9_1 : g_fr 9 1 = 1 := rfl
theorem fr_9_2 : g_fr 9 2 = 1 := rfl
theorem fr_10_0 : g_fr 10 0 = 1 := rfl
theorem fr_10_1 : g_fr 10 1 = 1 := rfl
theorem fr_10_2 : g_fr 10 2 = 1 := rfl
theorem fr_10_3 : g_fr 10 3 = 1 := rfl
theorem fr_10_4 : g_fr 10 4 = 1 := rfl
theorem fr_10_5 : g_fr 10 5 = 1 := rfl
theorem fr_10_6 : g_fr 10 6 = 0 := rfl
theorem fr_10_7 : g_fr 10 7 = 0 := rfl
theorem fr_10_8 : g_fr 10 8 = 0 := rfl
theorem fr_10_9 : g_fr 10 9 = 0 := rfl
theorem fr_11_0 : g_fr 11 0 = 1 := rfl
theorem fr_11_1 : g_fr 11 1 = 1 := rfl
theorem fr_11_2 : g_fr 11 2 = 1 := rfl
theorem fr_11_3 : g_fr 11 3 = 1 := rfl
theorem fr_11_4 : g_fr 11 4 = 1 := rfl
theorem fr_11_5 : g_fr 11 5 = 1 := rfl
theorem fr_11_6 : g_fr 11 6 = 1 := rfl
theorem fr_11_7 : g_fr 11 7 = 1 := rfl
theorem fr_11_8 : g_fr 11 8 = 1 := rfl
theorem fr_11_9 : g_fr 11 9 = 1 := rfl
theorem fr_11_10 : g_fr 11 10 = 0 := rfl
theorem fr_12_0 : g_fr 12 0 = 1 := rfl
theorem fr_12_1 : g_fr 12 1 = 0 := rfl
theorem fr_13_0 : g_fr 13 0 = 0 := rfl
theorem fr_13_1 : g_fr 13 1 = 1 := rfl
theorem fr_13_2 : g_fr 13 2 = 1 := rfl
theorem fr_13_3 : g_fr 13 3 = 1 := rfl
theorem fr_13_4 : g_fr 13 4 = 1 := rfl
theorem fr_13_5 : g_fr 13 5 = 0 := rfl
theorem fr_13_6 : g_fr 13 6 = 0 := rfl
theorem fr_13_7 : g_fr 13 7 = 0 := rfl
theorem fr_13_8 : g_fr 13 8 = 0 := rfl
theorem fr_13_9 : g_fr 13 9 = 1 := rfl
theorem fr_13_10 : g_fr 13 10 = 1 := rfl
theorem fr_13_11 : g_fr 13 11 = 1 := rfl
theorem fr_13_12 : g_fr 13 12 = 1 := rfl
theorem fr_13_13 : g_fr 13 13 = 1 := rfl
theorem fr_13_14 : g_fr 13 14 = 1 := rfl
theorem fr_13_15 : g_fr 13 15 = 1 := rfl
theorem fr_13_16 : g_fr 13 16 = 0 := rfl
theorem fr_13_17 : g_fr 13 17 = 1 := rfl
theorem fr_13_18 : g_fr 13 18 = 0 := rfl
theorem fr_13_19 : g_fr 13 19 = 1 := rfl
theorem fr_13_20 : g_fr 13 20 = 1 := rfl
theorem fr_13_21 : g_fr 13 21 = 1 := rfl
theorem fr_13_22 : g_fr 13 22 = 0 := rfl
theorem fr_13_23 : g_fr 13 23 = 0 := rfl
theorem fr_13_24 : g_fr 13 24 = 1 := rfl
theorem fr_13_25 : g_fr 13 25 = 0 := rfl
theorem fr_13_26 : g_fr 13 26 = 1 := rfl
theorem fr_13_27 : g_fr 13 27 = 1 := rfl
theorem fr_13_28 : g_fr 13 28 = 0 := rfl
theorem fr_13_29 : g_fr 13 29 = 1 := rfl
theorem fr_13_30 : g_fr 13 30 = 1 := rfl
theorem fr_13_31 : g_fr 13 31 = 0 := rfl
theorem fr_13_32 : g_fr 13 32 = 1 := rfl
theorem fr_13_33 : g_fr 13 33 = 1 := rfl
theorem fr_13_34 : g_fr 13 34 = 0 := rfl
theorem fr_13_35 : g_fr 13 35 = 1 := rfl
theorem fr_13_36 : g_fr 13 36 = 1 := rfl
theorem fr_13_37 : g_fr 13 37 = 1 := rfl
theorem fr_13_38 : g_fr 13 38 = 1 := rfl
theorem fr_13_39 : g_fr 13 39 = 1 := rfl
theorem fr_13_40 : g_fr 13 40 = 1 := rfl
theorem fr_13_41 : g_fr 13 41 = 1 := rfl
theorem fr_13_42 : g_fr 13 42 = 1 := rfl
theorem fr_13_43 : g_fr 13 43 = 1 := rfl
theorem fr_13_44 : g_fr 13 44 = 1 := rfl
theorem fr_13_45 : g_fr 13 45 = 0 := rfl
theorem fr_13_46 : g_fr 13 46 = 1 := rfl
theorem fr_13_47 : g_fr 13 47 = 1 := rfl
theorem fr_13_48 : g_fr 13 48 = 1 := rfl
theorem fr_13_49 : g_fr 13 49 = 1 := rfl
theorem fr_13_50 : g_fr 13 50 = 1 := rfl
theorem fr_13_51 : g_fr 13 51 = 1 := rfl
theorem fr_13_52 : g_fr 13 52 = 1 := rfl
theorem fr_13_53 : g_fr 13 53 = 2 := rfl
theorem fr_13_54 : g_fr 13 54 = 0 := rfl
theorem fr_13_55 : g_fr 13 55 = 0 := rfl
theorem fr_13_56 : g_fr 13 56 = 0 := rfl
theorem fr_13_57 : g_fr 13 57 = 0 := rfl
theorem fr_13_58 : g_fr 13 58 = 2 := rfl
theorem fr_13_59 : g_fr 13 59 = 0 := rfl
theorem fr_13_60 : g_fr 13 60 = 0 := rfl
