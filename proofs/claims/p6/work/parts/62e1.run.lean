set_option maxRecDepth 1000000 in
set_option maxHeartbeats 4000000 in
theorem lwRun4_6 : ab_ai room_1 nCl nRn false tF5 nSL tS5 tN5 tR5 tO5 tA5 4 tK5 nmm tM5  [g26, g43] (ab_lx 88 89 pgL) (fun pc S => decide (pc = 389) && ab_mtS 96 28 lwC S) pgL 8 278 lwD4_6 = true := by decide +kernel
set_option maxRecDepth 1000000 in
set_option maxHeartbeats 4000000 in
theorem lwRun4_7 : ab_ai room_1 nCl nRn false tF5 nSL tS5 tN5 tR5 tO5 tA5 4 tK5 nmm tM5  [g26, g43] (ab_lx 88 89 pgL) (fun pc S => decide (pc = 389) && ab_mtS 96 28 lwC S) pgL 8 278 lwD4_7 = true := by decide +kernel
set_option maxRecDepth 1000000 in
set_option maxHeartbeats 4000000 in
theorem lwRun4_8 : ab_ai room_1 nCl nRn false tF5 nSL tS5 tN5 tR5 tO5 tA5 4 tK5 nmm tM5  [g26, g43] (ab_lx 88 89 pgL) (fun pc S => decide (pc = 389) && ab_mtS 96 28 lwC S) pgL 8 278 lwD4_8 = true := by decide +kernel
set_option maxRecDepth 1000000 in
set_option maxHeartbeats 4000000 in
theorem lwRun4_9 : ab_ai room_1 nCl nRn false tF5 nSL tS5 tN5 tR5 tO5 tA5 4 tK5 nmm tM5  [g26, g43] (ab_lx 88 89 pgL) (fun pc S => decide (pc = 389) && ab_mtS 96 28 lwC S) pgL 8 278 lwD4_9 = true := by decide +kernel
set_option maxRecDepth 1000000 in
set_option maxHeartbeats 4000000 in
theorem lwRun4_10 : ab_ai room_1 nCl nRn false tF5 nSL tS5 tN5 tR5 tO5 tA5 4 tK5 nmm tM5  [g26, g43] (ab_lx 88 89 pgL) (fun pc S => decide (pc = 389) && ab_mtS 96 28 lwC S) pgL 8 278 lwD4_10 = true := by decide +kernel
set_option maxRecDepth 1000000 in
set_option maxHeartbeats 4000000 in
theorem lwRun4_11 : ab_ai room_1 nCl nRn false tF5 nSL tS5 tN5 tR5 tO5 tA5 4 tK5 nmm tM5  [g26, g43] (ab_lx 88 89 pgL) (fun pc S => decide (pc = 389) && ab_mtS 96 28 lwC S) pgL 8 278 lwD4_11 = true := by decide +kernel
