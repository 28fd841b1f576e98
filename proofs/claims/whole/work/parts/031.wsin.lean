theorem wsIn_of {ws : List Cond} (h : ws.all (fun w => decide (w ∈ lw_tbl) && goodWord w) = true) : ∀ w ∈ ws, w ∈ WS := by
  intro w hw
  have h1 := List.all_eq_true.mp h w hw
  simp only [Bool.and_eq_true, decide_eq_true_eq] at h1
  exact List.mem_filter.mpr h1
theorem wsIn0 : ∀ w ∈ u_ws RX0 TX0 6, w ∈ WS := wsIn_of (by decide +kernel)
theorem wsIn1 : ∀ w ∈ u_ws RX1 TX1 2, w ∈ WS := wsIn_of (by decide +kernel)
theorem wsIn2 : ∀ w ∈ u_ws RX2 TX2 4, w ∈ WS := wsIn_of (by decide +kernel)
theorem wsIn3 : ∀ w ∈ u_ws RX3 TX3 18, w ∈ WS := wsIn_of (by decide +kernel)
theorem wsIn4 : ∀ w ∈ u_ws RX4 TX4 7, w ∈ WS := wsIn_of (by decide +kernel)
theorem wsIn5 : ∀ w ∈ u_ws RX5 TX5 5, w ∈ WS := wsIn_of (by decide +kernel)
theorem wsIn6 : ∀ w ∈ u_ws RX6 TX6 11, w ∈ WS := wsIn_of (by decide +kernel)
theorem wsIn7 : ∀ w ∈ u_ws RX7 TX7 8, w ∈ WS := wsIn_of (by decide +kernel)
theorem wsIn8 : ∀ w ∈ u_ws RX8 TX8 15, w ∈ WS := wsIn_of (by decide +kernel)
theorem wsIn9 : ∀ w ∈ u_ws RX9 TX9 0, w ∈ WS := wsIn_of (by decide +kernel)
theorem wsIn10 : ∀ w ∈ u_ws RX10 TX10 5, w ∈ WS := wsIn_of (by decide +kernel)
theorem wsIn11 : ∀ w ∈ u_ws RX11 TX11 13, w ∈ WS := wsIn_of (by decide +kernel)
theorem wsIn12 : ∀ w ∈ u_ws RX12 TX12 81, w ∈ WS := wsIn_of (by decide +kernel)
