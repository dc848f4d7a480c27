theorem lwEO1 (l : Launch) : ∀ en ∈ [g8, g9], ab_enOk l nCl nRn nSL nNF nNM nTc nmm en := ab_mc (mg8 l) (ab_mc (mg9 l) (ab_mn))
set_option maxRecDepth 1000000 in
set_option maxHeartbeats 4000000 in
theorem lwRun1 : ab_ai room_1 nCl nRn false tF5 nSL tS5 tN5 tR5 tO5 tA5 4 tK5 nmm tM5  [g8, g9] (ab_lx 88 89 pgL) (fun pc S => decide (pc = 389) && ab_mtS 96 28 lwC S) pgL 12 117 lwB = true := by decide +kernel
