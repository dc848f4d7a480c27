set_option maxRecDepth 1000000 in
set_option maxHeartbeats 4000000 in
theorem lwRun2_12 : ab_ai room_1 nCl nRn false tF5 nSL tS5 tN5 tR5 tO5 tA5 4 tK5 nmm tM5  [g10, g14] (ab_lx 88 89 pgL) (fun pc S => decide (pc = 389) && ab_mtS 96 28 lwC S) pgL 14 183 lwD2_12 = true := by decide +kernel
set_option maxRecDepth 1000000 in
set_option maxHeartbeats 4000000 in
theorem lwRun2_13 : ab_ai room_1 nCl nRn false tF5 nSL tS5 tN5 tR5 tO5 tA5 4 tK5 nmm tM5  [g10, g14] (ab_lx 88 89 pgL) (fun pc S => decide (pc = 389) && ab_mtS 96 28 lwC S) pgL 14 183 lwD2_13 = true := by decide +kernel
set_option maxRecDepth 1000000 in
set_option maxHeartbeats 4000000 in
theorem lwRun2_14 : ab_ai room_1 nCl nRn false tF5 nSL tS5 tN5 tR5 tO5 tA5 4 tK5 nmm tM5  [g10, g14] (ab_lx 88 89 pgL) (fun pc S => decide (pc = 389) && ab_mtS 96 28 lwC S) pgL 14 183 lwD2_14 = true := by decide +kernel
set_option maxRecDepth 1000000 in
set_option maxHeartbeats 4000000 in
theorem lwRun2_15 : ab_ai room_1 nCl nRn false tF5 nSL tS5 tN5 tR5 tO5 tA5 4 tK5 nmm tM5  [g10, g14] (ab_lx 88 89 pgL) (fun pc S => decide (pc = 389) && ab_mtS 96 28 lwC S) pgL 14 183 lwD2_15 = true := by decide +kernel
set_option maxRecDepth 1000000 in
set_option maxHeartbeats 4000000 in
theorem lwRun2_16 : ab_ai room_1 nCl nRn false tF5 nSL tS5 tN5 tR5 tO5 tA5 4 tK5 nmm tM5  [g10, g14] (ab_lx 88 89 pgL) (fun pc S => decide (pc = 389) && ab_mtS 96 28 lwC S) pgL 14 183 lwD2_16 = true := by decide +kernel
set_option maxRecDepth 1000000 in
set_option maxHeartbeats 4000000 in
theorem lwRun2_17 : ab_ai room_1 nCl nRn false tF5 nSL tS5 tN5 tR5 tO5 tA5 4 tK5 nmm tM5  [g10, g14] (ab_lx 88 89 pgL) (fun pc S => decide (pc = 389) && ab_mtS 96 28 lwC S) pgL 14 183 lwD2_17 = true := by decide +kernel
