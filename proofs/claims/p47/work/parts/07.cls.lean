-- the classes as the tables have them
theorem cw_0 : ∀ w ∈ u_ws RX0 TX0 12, w ∈ UW := by
  intro w hw
  obtain ⟨k, hk, rfl⟩ := List.mem_map.mp hw
  have hk := List.mem_range.mp hk
  match k, hk with
  | 0, _ => exact (qm_2 (i := 15) rfl rfl)
  | 1, _ => exact (qm_2 (i := 17) rfl rfl)
  | 2, _ => exact (qm_2 (i := 19) rfl rfl)
  | 3, _ => exact (qm_2 (i := 21) rfl rfl)
  | 4, _ => exact (qm_2 (i := 23) rfl rfl)
  | 5, _ => exact (qm_2 (i := 25) rfl rfl)
  | 6, _ => exact (qm_2 (i := 27) rfl rfl)
  | 7, _ => exact (qm_2 (i := 29) rfl rfl)
  | 8, _ => exact (qm_2 (i := 31) rfl rfl)
  | 9, _ => exact (qm_2 (i := 33) rfl rfl)
  | 10, _ => exact (qm_2 (i := 35) rfl rfl)
  | 11, _ => exact (qm_2 (i := 37) rfl rfl)
  | k + 12, h => omega
theorem clk_0 : ClOK 0 RX0 TX0 12 := ⟨rfl, cw_0⟩
theorem cw_1 : ∀ w ∈ u_ws RX1 TX1 3, w ∈ UW := by
  intro w hw
  obtain ⟨k, hk, rfl⟩ := List.mem_map.mp hw
  have hk := List.mem_range.mp hk
  match k, hk with
  | 0, _ => exact (qm_1 (i := 228) rfl rfl)
  | 1, _ => exact (qm_1 (i := 230) rfl rfl)
  | 2, _ => exact (qm_1 (i := 232) rfl rfl)
  | k + 3, h => omega
theorem clk_1 : ClOK 1 RX1 TX1 3 := ⟨rfl, cw_1⟩
theorem cw_2 : ∀ w ∈ u_ws RX2 TX2 6, w ∈ UW := by
  intro w hw
  obtain ⟨k, hk, rfl⟩ := List.mem_map.mp hw
  have hk := List.mem_range.mp hk
  match k, hk with
  | 0, _ => exact (qm_1 (i := 167) rfl rfl)
  | 1, _ => exact (qm_1 (i := 169) rfl rfl)
  | 2, _ => exact (qm_1 (i := 171) rfl rfl)
  | 3, _ => exact (qm_1 (i := 173) rfl rfl)
  | 4, _ => exact (qm_1 (i := 175) rfl rfl)
  | 5, _ => exact (qm_1 (i := 177) rfl rfl)
  | k + 6, h => omega
theorem clk_2 : ClOK 2 RX2 TX2 6 := ⟨rfl, cw_2⟩
theorem cw_3 : ∀ w ∈ u_ws RX3 TX3 5, w ∈ UW := by
  intro w hw
  obtain ⟨k, hk, rfl⟩ := List.mem_map.mp hw
  have hk := List.mem_range.mp hk
  match k, hk with
  | 0, _ => exact (qm_1 (i := 96) rfl rfl)
  | 1, _ => exact (qm_1 (i := 98) rfl rfl)
  | 2, _ => exact (qm_1 (i := 100) rfl rfl)
  | 3, _ => exact (qm_1 (i := 102) rfl rfl)
  | 4, _ => exact (qm_1 (i := 104) rfl rfl)
  | k + 5, h => omega
theorem clk_3 : ClOK 3 RX3 TX3 5 := ⟨rfl, cw_3⟩
theorem cw_4 : ∀ w ∈ u_ws RX4 TX4 2, w ∈ UW := by
  intro w hw
  obtain ⟨k, hk, rfl⟩ := List.mem_map.mp hw
  have hk := List.mem_range.mp hk
  match k, hk with
  | 0, _ => exact (qm_2 (i := 71) rfl rfl)
  | 1, _ => exact (qm_2 (i := 73) rfl rfl)
  | k + 2, h => omega
theorem clk_4 : ClOK 4 RX4 TX4 2 := ⟨rfl, cw_4⟩
theorem cw_5 : ∀ w ∈ u_ws RX5 TX5 6, w ∈ UW := by
  intro w hw
  obtain ⟨k, hk, rfl⟩ := List.mem_map.mp hw
  have hk := List.mem_range.mp hk
  match k, hk with
  | 0, _ => exact (qm_1 (i := 125) rfl rfl)
  | 1, _ => exact (qm_1 (i := 127) rfl rfl)
  | 2, _ => exact (qm_1 (i := 129) rfl rfl)
  | 3, _ => exact (qm_1 (i := 131) rfl rfl)
  | 4, _ => exact (qm_1 (i := 133) rfl rfl)
  | 5, _ => exact (qm_1 (i := 135) rfl rfl)
  | k + 6, h => omega
theorem clk_5 : ClOK 5 RX5 TX5 6 := ⟨rfl, cw_5⟩
theorem cw_6 : ∀ w ∈ u_ws RX6 TX6 5, w ∈ UW := by
  intro w hw
  obtain ⟨k, hk, rfl⟩ := List.mem_map.mp hw
  have hk := List.mem_range.mp hk
  match k, hk with
  | 0, _ => exact (qm_2 (i := 50) rfl rfl)
  | 1, _ => exact (qm_2 (i := 52) rfl rfl)
  | 2, _ => exact (qm_2 (i := 54) rfl rfl)
  | 3, _ => exact (qm_2 (i := 56) rfl rfl)
  | 4, _ => exact (qm_2 (i := 58) rfl rfl)
  | k + 5, h => omega
theorem clk_6 : ClOK 6 RX6 TX6 5 := ⟨rfl, cw_6⟩
theorem cw_7 : ∀ w ∈ u_ws RX7 TX7 2, w ∈ UW := by
  intro w hw
  obtain ⟨k, hk, rfl⟩ := List.mem_map.mp hw
  have hk := List.mem_range.mp hk
  match k, hk with
  | 0, _ => exact (qm_1 (i := 69) rfl rfl)
  | 1, _ => exact (qm_1 (i := 71) rfl rfl)
  | k + 2, h => omega
theorem clk_7 : ClOK 7 RX7 TX7 2 := ⟨rfl, cw_7⟩
theorem cw_8 : ∀ w ∈ u_ws RX8 TX8 1, w ∈ UW := by
  intro w hw
  obtain ⟨k, hk, rfl⟩ := List.mem_map.mp hw
  have hk := List.mem_range.mp hk
  match k, hk with
  | 0, _ => exact (qm_1 (i := 146) rfl rfl)
  | k + 1, h => omega
theorem clk_8 : ClOK 8 RX8 TX8 1 := ⟨rfl, cw_8⟩
theorem cw_9 : ∀ w ∈ u_ws RX9 TX9 8, w ∈ UW := by
  intro w hw
  obtain ⟨k, hk, rfl⟩ := List.mem_map.mp hw
  have hk := List.mem_range.mp hk
  match k, hk with
  | 0, _ => exact (qm_1 (i := 202) rfl rfl)
  | 1, _ => exact (qm_1 (i := 204) rfl rfl)
  | 2, _ => exact (qm_1 (i := 206) rfl rfl)
  | 3, _ => exact (qm_1 (i := 208) rfl rfl)
  | 4, _ => exact (qm_1 (i := 210) rfl rfl)
  | 5, _ => exact (qm_1 (i := 212) rfl rfl)
  | 6, _ => exact (qm_1 (i := 214) rfl rfl)
  | 7, _ => exact (qm_1 (i := 216) rfl rfl)
  | k + 8, h => omega
theorem clk_9 : ClOK 9 RX9 TX9 8 := ⟨rfl, cw_9⟩
theorem cw_10 : ∀ w ∈ u_ws RX10 TX10 11, w ∈ UW := by
  intro w hw
  obtain ⟨k, hk, rfl⟩ := List.mem_map.mp hw
  have hk := List.mem_range.mp hk
  match k, hk with
  | 0, _ => exact (qm_2 (i := 96) rfl rfl)
  | 1, _ => exact (qm_2 (i := 98) rfl rfl)
  | 2, _ => exact (qm_2 (i := 100) rfl rfl)
  | 3, _ => exact (qm_2 (i := 102) rfl rfl)
  | 4, _ => exact (qm_2 (i := 104) rfl rfl)
  | 5, _ => exact (qm_2 (i := 106) rfl rfl)
  | 6, _ => exact (qm_2 (i := 108) rfl rfl)
  | 7, _ => exact (qm_2 (i := 110) rfl rfl)
  | 8, _ => exact (qm_2 (i := 112) rfl rfl)
  | 9, _ => exact (qm_2 (i := 114) rfl rfl)
  | 10, _ => exact (qm_2 (i := 116) rfl rfl)
  | k + 11, h => omega
theorem clk_10 : ClOK 10 RX10 TX10 11 := ⟨rfl, cw_10⟩
theorem cw_11 : ∀ w ∈ u_ws RX11 TX11 7, w ∈ UW := by
  intro w hw
  obtain ⟨k, hk, rfl⟩ := List.mem_map.mp hw
  have hk := List.mem_range.mp hk
  match k, hk with
  | 0, _ => exact (qm_2 (i := 167) rfl rfl)
  | 1, _ => exact (qm_2 (i := 169) rfl rfl)
  | 2, _ => exact (qm_2 (i := 171) rfl rfl)
  | 3, _ => exact (qm_2 (i := 173) rfl rfl)
  | 4, _ => exact (qm_2 (i := 175) rfl rfl)
  | 5, _ => exact (qm_2 (i := 177) rfl rfl)
  | 6, _ => exact (qm_2 (i := 179) rfl rfl)
  | k + 7, h => omega
theorem clk_11 : ClOK 11 RX11 TX11 7 := ⟨rfl, cw_11⟩
theorem cw_12 : ∀ w ∈ u_ws RX12 TX12 3, w ∈ UW := by
  intro w hw
  obtain ⟨k, hk, rfl⟩ := List.mem_map.mp hw
  have hk := List.mem_range.mp hk
  match k, hk with
  | 0, _ => exact (qm_3 (i := 90) rfl rfl)
  | 1, _ => exact (qm_3 (i := 92) rfl rfl)
  | 2, _ => exact (qm_3 (i := 94) rfl rfl)
  | k + 3, h => omega
theorem clk_12 : ClOK 12 RX12 TX12 3 := ⟨rfl, cw_12⟩
theorem cw_13 : ∀ w ∈ u_ws RX13 TX13 4, w ∈ UW := by
  intro w hw
  obtain ⟨k, hk, rfl⟩ := List.mem_map.mp hw
  have hk := List.mem_range.mp hk
  match k, hk with
  | 0, _ => exact (qm_4 (i := 160) rfl rfl)
  | 1, _ => exact (qm_4 (i := 162) rfl rfl)
  | 2, _ => exact (qm_4 (i := 164) rfl rfl)
  | 3, _ => exact (qm_4 (i := 166) rfl rfl)
  | k + 4, h => omega
theorem clk_13 : ClOK 13 RX13 TX13 4 := ⟨rfl, cw_13⟩
theorem cw_14 : ∀ w ∈ u_ws RJx4a65c TJx4a65c 3, w ∈ UW := by
  intro w hw
  obtain ⟨k, hk, rfl⟩ := List.mem_map.mp hw
  have hk := List.mem_range.mp hk
  match k, hk with
  | 0, _ => exact (qm_2 (i := 151) rfl rfl)
  | 1, _ => exact (qm_2 (i := 147) rfl rfl)
  | 2, _ => exact (qm_2 (i := 149) rfl rfl)
  | k + 3, h => omega
theorem clk_14 : ClOK 14 RJx4a65c TJx4a65c 3 := ⟨rfl, cw_14⟩
theorem cw_15 : ∀ w ∈ u_ws RJx35411 TJx35411 4, w ∈ UW := by
  intro w hw
  obtain ⟨k, hk, rfl⟩ := List.mem_map.mp hw
  have hk := List.mem_range.mp hk
  match k, hk with
  | 0, _ => exact (qm_2 (i := 212) rfl rfl)
  | 1, _ => exact (qm_2 (i := 214) rfl rfl)
  | 2, _ => exact (qm_2 (i := 216) rfl rfl)
  | 3, _ => exact (qm_2 (i := 218) rfl rfl)
  | k + 4, h => omega
theorem clk_15 : ClOK 15 RJx35411 TJx35411 4 := ⟨rfl, cw_15⟩
theorem cw_16 : ∀ w ∈ u_ws RJ6 TJ6 1, w ∈ UW := by
  intro w hw
  obtain ⟨k, hk, rfl⟩ := List.mem_map.mp hw
  have hk := List.mem_range.mp hk
  match k, hk with
  | 0, _ => exact (qm_6 (i := 18) rfl rfl)
  | k + 1, h => omega
theorem clk_16 : ClOK 16 RJ6 TJ6 1 := ⟨rfl, cw_16⟩
theorem cw_17 : ∀ w ∈ u_ws RJ4 TJ4 4, w ∈ UW := by
  intro w hw
  obtain ⟨k, hk, rfl⟩ := List.mem_map.mp hw
  have hk := List.mem_range.mp hk
  match k, hk with
  | 0, _ => exact (qm_3 (i := 210) rfl rfl)
  | 1, _ => exact (qm_3 (i := 212) rfl rfl)
  | 2, _ => exact (qm_3 (i := 214) rfl rfl)
  | 3, _ => exact (qm_3 (i := 216) rfl rfl)
  | k + 4, h => omega
theorem clk_17 : ClOK 17 RJ4 TJ4 4 := ⟨rfl, cw_17⟩
theorem cw_18 : ∀ w ∈ u_ws RJ0 TJ0 4, w ∈ UW := by
  intro w hw
  obtain ⟨k, hk, rfl⟩ := List.mem_map.mp hw
  have hk := List.mem_range.mp hk
  match k, hk with
  | 0, _ => exact (qm_4 (i := 228) rfl rfl)
  | 1, _ => exact (qm_4 (i := 230) rfl rfl)
  | 2, _ => exact (qm_4 (i := 232) rfl rfl)
  | 3, _ => exact (qm_4 (i := 234) rfl rfl)
  | k + 4, h => omega
theorem clk_18 : ClOK 18 RJ0 TJ0 4 := ⟨rfl, cw_18⟩
theorem cw_19 : ∀ w ∈ u_ws RX29 TX29 1, w ∈ UW := by
  intro w hw
  obtain ⟨k, hk, rfl⟩ := List.mem_map.mp hw
  have hk := List.mem_range.mp hk
  match k, hk with
  | 0, _ => exact (qm_6 (i := 196) rfl rfl)
  | k + 1, h => omega
theorem clk_19 : ClOK 19 RX29 TX29 1 := ⟨rfl, cw_19⟩
theorem cw_20 : ∀ w ∈ u_ws RX28 TX28 12, w ∈ UW := by
  intro w hw
  obtain ⟨k, hk, rfl⟩ := List.mem_map.mp hw
  have hk := List.mem_range.mp hk
  match k, hk with
  | 0, _ => exact (qm_6 (i := 178) rfl rfl)
  | 1, _ => exact (qm_6 (i := 180) rfl rfl)
  | 2, _ => exact (qm_6 (i := 182) rfl rfl)
  | 3, _ => exact (qm_6 (i := 184) rfl rfl)
  | 4, _ => exact (qm_6 (i := 186) rfl rfl)
  | 5, _ => exact (qm_6 (i := 188) rfl rfl)
  | 6, _ => exact (qm_6 (i := 190) rfl rfl)
  | 7, _ => exact (qm_6 (i := 192) rfl rfl)
  | 8, _ => exact (qm_6 (i := 170) rfl rfl)
  | 9, _ => exact (qm_6 (i := 172) rfl rfl)
  | 10, _ => exact (qm_6 (i := 174) rfl rfl)
  | 11, _ => exact (qm_6 (i := 176) rfl rfl)
  | k + 12, h => omega
theorem clk_20 : ClOK 20 RX28 TX28 12 := ⟨rfl, cw_20⟩
theorem cw_21 : ∀ w ∈ u_ws RX24 TX24 6, w ∈ UW := by
  intro w hw
  obtain ⟨k, hk, rfl⟩ := List.mem_map.mp hw
  have hk := List.mem_range.mp hk
  match k, hk with
  | 0, _ => exact (qm_7 (i := 181) rfl rfl)
  | 1, _ => exact (qm_7 (i := 183) rfl rfl)
  | 2, _ => exact (qm_7 (i := 185) rfl rfl)
  | 3, _ => exact (qm_7 (i := 187) rfl rfl)
  | 4, _ => exact (qm_7 (i := 177) rfl rfl)
  | 5, _ => exact (qm_7 (i := 179) rfl rfl)
  | k + 6, h => omega
theorem clk_21 : ClOK 21 RX24 TX24 6 := ⟨rfl, cw_21⟩
theorem cw_22 : ∀ w ∈ u_ws RX27 TX27 2, w ∈ UW := by
  intro w hw
  obtain ⟨k, hk, rfl⟩ := List.mem_map.mp hw
  have hk := List.mem_range.mp hk
  match k, hk with
  | 0, _ => exact (qm_9 (i := 79) rfl rfl)
  | 1, _ => exact (qm_9 (i := 81) rfl rfl)
  | k + 2, h => omega
theorem clk_22 : ClOK 22 RX27 TX27 2 := ⟨rfl, cw_22⟩
theorem cw_23 : ∀ w ∈ u_ws RX26 TX26 5, w ∈ UW := by
  intro w hw
  obtain ⟨k, hk, rfl⟩ := List.mem_map.mp hw
  have hk := List.mem_range.mp hk
  match k, hk with
  | 0, _ => exact (qm_9 (i := 141) rfl rfl)
  | 1, _ => exact (qm_9 (i := 143) rfl rfl)
  | 2, _ => exact (qm_9 (i := 145) rfl rfl)
  | 3, _ => exact (qm_9 (i := 147) rfl rfl)
  | 4, _ => exact (qm_9 (i := 149) rfl rfl)
  | k + 5, h => omega
theorem clk_23 : ClOK 23 RX26 TX26 5 := ⟨rfl, cw_23⟩
