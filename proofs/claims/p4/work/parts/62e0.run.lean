set_option maxRecDepth 1000000 in
set_option maxHeartbeats 4000000 in
theorem lwRun4_0 : ab_ai room_1 nCl nRn false tF5 nSL tS5 tN5 tR5 tO5 tA5 4 tK5 nmm tM5  [g26, g43] (ab_lx 88 89 pgL) (fun pc S => decide (pc = 389) && ab_mtS 96 28 lwC S) pgL 9 279 lwD4_0 = true := by decide +kernel
