theorem lwEO6 (l : Launch) : ∀ en ∈ [g174, g175], ab_enOk l nCl nRn nSL nNF nNM nTc nmm en := ab_mc (mg174 l) (ab_mc (mg175 l) (ab_mn))
set_option maxRecDepth 1000000 in
set_option maxHeartbeats 4000000 in
theorem lwRun6 : ab_ai room_1 nCl nRn false tF5 nSL tS5 tN5 tR5 tO5 tA5 4 tK5 nmm tM5  [g174, g175] (ab_lx 88 89 pgL) (fun pc S => decide (pc = 389) && ab_mtS 96 28 lwC S) pgL 10 320 lwB = true := by decide +kernel
