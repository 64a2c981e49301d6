-- the classes as the tables have them
theorem cw_0 : ∀ w ∈ u_ws RX0 TX0 12, w ∈ UW := by
  intro w hw
  obtain ⟨k, hk, rfl⟩ := List.mem_map.mp hw
  have hk := List.mem_range.mp hk
  match k, hk with
  | 0, _ => exact (qm_1 (i := 224) rfl rfl)
  | 1, _ => exact (qm_1 (i := 226) rfl rfl)
  | 2, _ => exact (qm_1 (i := 228) rfl rfl)
  | 3, _ => exact (qm_1 (i := 230) rfl rfl)
  | 4, _ => exact (qm_1 (i := 232) rfl rfl)
  | 5, _ => exact (qm_1 (i := 234) rfl rfl)
  | 6, _ => exact (qm_1 (i := 236) rfl rfl)
  | 7, _ => exact (qm_1 (i := 238) rfl rfl)
  | 8, _ => exact (qm_2 (i := 0) rfl rfl)
  | 9, _ => exact (qm_2 (i := 2) rfl rfl)
  | 10, _ => exact (qm_2 (i := 4) rfl rfl)
  | 11, _ => exact (qm_2 (i := 6) rfl rfl)
  | k + 12, h => omega
theorem clk_0 : ClOK 0 RX0 TX0 12 := ⟨rfl, cw_0⟩
theorem cw_1 : ∀ w ∈ u_ws RX1 TX1 3, w ∈ UW := by
  intro w hw
  obtain ⟨k, hk, rfl⟩ := List.mem_map.mp hw
  have hk := List.mem_range.mp hk
  match k, hk with
  | 0, _ => exact (qm_1 (i := 197) rfl rfl)
  | 1, _ => exact (qm_1 (i := 199) rfl rfl)
  | 2, _ => exact (qm_1 (i := 201) rfl rfl)
  | k + 3, h => omega
theorem clk_1 : ClOK 1 RX1 TX1 3 := ⟨rfl, cw_1⟩
theorem cw_2 : ∀ w ∈ u_ws RX2 TX2 6, w ∈ UW := by
  intro w hw
  obtain ⟨k, hk, rfl⟩ := List.mem_map.mp hw
  have hk := List.mem_range.mp hk
  match k, hk with
  | 0, _ => exact (qm_1 (i := 136) rfl rfl)
  | 1, _ => exact (qm_1 (i := 138) rfl rfl)
  | 2, _ => exact (qm_1 (i := 140) rfl rfl)
  | 3, _ => exact (qm_1 (i := 142) rfl rfl)
  | 4, _ => exact (qm_1 (i := 144) rfl rfl)
  | 5, _ => exact (qm_1 (i := 146) rfl rfl)
  | k + 6, h => omega
theorem clk_2 : ClOK 2 RX2 TX2 6 := ⟨rfl, cw_2⟩
theorem cw_3 : ∀ w ∈ u_ws RX3 TX3 5, w ∈ UW := by
  intro w hw
  obtain ⟨k, hk, rfl⟩ := List.mem_map.mp hw
  have hk := List.mem_range.mp hk
  match k, hk with
  | 0, _ => exact (qm_1 (i := 64) rfl rfl)
  | 1, _ => exact (qm_1 (i := 66) rfl rfl)
  | 2, _ => exact (qm_1 (i := 68) rfl rfl)
  | 3, _ => exact (qm_1 (i := 70) rfl rfl)
  | 4, _ => exact (qm_1 (i := 72) rfl rfl)
  | k + 5, h => omega
theorem clk_3 : ClOK 3 RX3 TX3 5 := ⟨rfl, cw_3⟩
theorem cw_4 : ∀ w ∈ u_ws RX4 TX4 2, w ∈ UW := by
  intro w hw
  obtain ⟨k, hk, rfl⟩ := List.mem_map.mp hw
  have hk := List.mem_range.mp hk
  match k, hk with
  | 0, _ => exact (qm_2 (i := 41) rfl rfl)
  | 1, _ => exact (qm_2 (i := 43) rfl rfl)
  | k + 2, h => omega
theorem clk_4 : ClOK 4 RX4 TX4 2 := ⟨rfl, cw_4⟩
theorem cw_5 : ∀ w ∈ u_ws RX5 TX5 6, w ∈ UW := by
  intro w hw
  obtain ⟨k, hk, rfl⟩ := List.mem_map.mp hw
  have hk := List.mem_range.mp hk
  match k, hk with
  | 0, _ => exact (qm_1 (i := 93) rfl rfl)
  | 1, _ => exact (qm_1 (i := 95) rfl rfl)
  | 2, _ => exact (qm_1 (i := 97) rfl rfl)
  | 3, _ => exact (qm_1 (i := 99) rfl rfl)
  | 4, _ => exact (qm_1 (i := 101) rfl rfl)
  | 5, _ => exact (qm_1 (i := 103) rfl rfl)
  | k + 6, h => omega
theorem clk_5 : ClOK 5 RX5 TX5 6 := ⟨rfl, cw_5⟩
theorem cw_6 : ∀ w ∈ u_ws RX6 TX6 5, w ∈ UW := by
  intro w hw
  obtain ⟨k, hk, rfl⟩ := List.mem_map.mp hw
  have hk := List.mem_range.mp hk
  match k, hk with
  | 0, _ => exact (qm_2 (i := 20) rfl rfl)
  | 1, _ => exact (qm_2 (i := 22) rfl rfl)
  | 2, _ => exact (qm_2 (i := 24) rfl rfl)
  | 3, _ => exact (qm_2 (i := 26) rfl rfl)
  | 4, _ => exact (qm_2 (i := 28) rfl rfl)
  | k + 5, h => omega
theorem clk_6 : ClOK 6 RX6 TX6 5 := ⟨rfl, cw_6⟩
theorem cw_7 : ∀ w ∈ u_ws RX7 TX7 2, w ∈ UW := by
  intro w hw
  obtain ⟨k, hk, rfl⟩ := List.mem_map.mp hw
  have hk := List.mem_range.mp hk
  match k, hk with
  | 0, _ => exact (qm_1 (i := 36) rfl rfl)
  | 1, _ => exact (qm_1 (i := 38) rfl rfl)
  | k + 2, h => omega
theorem clk_7 : ClOK 7 RX7 TX7 2 := ⟨rfl, cw_7⟩
theorem cw_8 : ∀ w ∈ u_ws RX8 TX8 1, w ∈ UW := by
  intro w hw
  obtain ⟨k, hk, rfl⟩ := List.mem_map.mp hw
  have hk := List.mem_range.mp hk
  match k, hk with
  | 0, _ => exact (qm_1 (i := 114) rfl rfl)
  | k + 1, h => omega
theorem clk_8 : ClOK 8 RX8 TX8 1 := ⟨rfl, cw_8⟩
theorem cw_9 : ∀ w ∈ u_ws RX9 TX9 8, w ∈ UW := by
  intro w hw
  obtain ⟨k, hk, rfl⟩ := List.mem_map.mp hw
  have hk := List.mem_range.mp hk
  match k, hk with
  | 0, _ => exact (qm_1 (i := 171) rfl rfl)
  | 1, _ => exact (qm_1 (i := 173) rfl rfl)
  | 2, _ => exact (qm_1 (i := 175) rfl rfl)
  | 3, _ => exact (qm_1 (i := 177) rfl rfl)
  | 4, _ => exact (qm_1 (i := 179) rfl rfl)
  | 5, _ => exact (qm_1 (i := 181) rfl rfl)
  | 6, _ => exact (qm_1 (i := 183) rfl rfl)
  | 7, _ => exact (qm_1 (i := 185) rfl rfl)
  | k + 8, h => omega
theorem clk_9 : ClOK 9 RX9 TX9 8 := ⟨rfl, cw_9⟩
theorem cw_10 : ∀ w ∈ u_ws RX10 TX10 11, w ∈ UW := by
  intro w hw
  obtain ⟨k, hk, rfl⟩ := List.mem_map.mp hw
  have hk := List.mem_range.mp hk
  match k, hk with
  | 0, _ => exact (qm_2 (i := 66) rfl rfl)
  | 1, _ => exact (qm_2 (i := 68) rfl rfl)
  | 2, _ => exact (qm_2 (i := 70) rfl rfl)
  | 3, _ => exact (qm_2 (i := 72) rfl rfl)
  | 4, _ => exact (qm_2 (i := 74) rfl rfl)
  | 5, _ => exact (qm_2 (i := 76) rfl rfl)
  | 6, _ => exact (qm_2 (i := 78) rfl rfl)
  | 7, _ => exact (qm_2 (i := 80) rfl rfl)
  | 8, _ => exact (qm_2 (i := 82) rfl rfl)
  | 9, _ => exact (qm_2 (i := 84) rfl rfl)
  | 10, _ => exact (qm_2 (i := 86) rfl rfl)
  | k + 11, h => omega
theorem clk_10 : ClOK 10 RX10 TX10 11 := ⟨rfl, cw_10⟩
theorem cw_11 : ∀ w ∈ u_ws RX11 TX11 36, w ∈ UW := by
  intro w hw
  obtain ⟨k, hk, rfl⟩ := List.mem_map.mp hw
  have hk := List.mem_range.mp hk
  match k, hk with
  | 0, _ => exact (qm_5 (i := 72) rfl rfl)
  | 1, _ => exact (qm_5 (i := 74) rfl rfl)
  | 2, _ => exact (qm_5 (i := 76) rfl rfl)
  | 3, _ => exact (qm_5 (i := 78) rfl rfl)
  | 4, _ => exact (qm_5 (i := 80) rfl rfl)
  | 5, _ => exact (qm_5 (i := 82) rfl rfl)
  | 6, _ => exact (qm_5 (i := 84) rfl rfl)
  | 7, _ => exact (qm_5 (i := 86) rfl rfl)
  | 8, _ => exact (qm_5 (i := 88) rfl rfl)
  | 9, _ => exact (qm_5 (i := 90) rfl rfl)
  | 10, _ => exact (qm_5 (i := 92) rfl rfl)
  | 11, _ => exact (qm_5 (i := 94) rfl rfl)
  | 12, _ => exact (qm_5 (i := 96) rfl rfl)
  | 13, _ => exact (qm_5 (i := 98) rfl rfl)
  | 14, _ => exact (qm_5 (i := 100) rfl rfl)
  | 15, _ => exact (qm_5 (i := 102) rfl rfl)
  | 16, _ => exact (qm_5 (i := 104) rfl rfl)
  | 17, _ => exact (qm_5 (i := 106) rfl rfl)
  | 18, _ => exact (qm_5 (i := 108) rfl rfl)
  | 19, _ => exact (qm_5 (i := 110) rfl rfl)
  | 20, _ => exact (qm_5 (i := 112) rfl rfl)
  | 21, _ => exact (qm_5 (i := 114) rfl rfl)
  | 22, _ => exact (qm_5 (i := 116) rfl rfl)
  | 23, _ => exact (qm_5 (i := 118) rfl rfl)
  | 24, _ => exact (qm_5 (i := 120) rfl rfl)
  | 25, _ => exact (qm_5 (i := 122) rfl rfl)
  | 26, _ => exact (qm_5 (i := 124) rfl rfl)
  | 27, _ => exact (qm_5 (i := 126) rfl rfl)
  | 28, _ => exact (qm_5 (i := 128) rfl rfl)
  | 29, _ => exact (qm_5 (i := 130) rfl rfl)
  | 30, _ => exact (qm_5 (i := 132) rfl rfl)
  | 31, _ => exact (qm_5 (i := 134) rfl rfl)
  | 32, _ => exact (qm_5 (i := 136) rfl rfl)
  | 33, _ => exact (qm_5 (i := 138) rfl rfl)
  | 34, _ => exact (qm_5 (i := 140) rfl rfl)
  | 35, _ => exact (qm_5 (i := 142) rfl rfl)
  | k + 36, h => omega
theorem clk_11 : ClOK 11 RX11 TX11 36 := ⟨rfl, cw_11⟩
