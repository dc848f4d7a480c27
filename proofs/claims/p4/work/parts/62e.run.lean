theorem lwEO4 (l : Launch) : ∀ en ∈ [g26, g43], ab_enOk l nCl nRn nSL nNF nNM nTc nmm en := ab_mc (mg26 l) (ab_mc (mg43 l) (ab_mn))
set_option maxRecDepth 1000000 in
set_option maxHeartbeats 4000000 in
theorem lwRun4 : ab_ai room_1 nCl nRn false tF5 nSL tS5 tN5 tR5 tO5 tA5 4 tK5 nmm tM5  [g26, g43] (ab_lx 88 89 pgL) (fun pc S => lwCut4.any (fun d => decide (d.1 = pc) && ab_mtS 96 28 d.2 S)) pgL 8 264 lwB = true := by decide +kernel
