theorem lwEO2 (l : Launch) : ∀ en ∈ [g10, g14], ab_enOk l nCl nRn nSL nNF nNM nTc nmm en := ab_mc (mg10 l) (ab_mc (mg14 l) (ab_mn))
set_option maxRecDepth 1000000 in
set_option maxHeartbeats 4000000 in
theorem lwRun2 : ab_ai room_1 nCl nRn false tF5 nSL tS5 tN5 tR5 tO5 tA5 4 tK5 nmm tM5  [g10, g14] (ab_lx 88 89 pgL) (fun pc S => lwCut2.any (fun d => decide (d.1 = pc) && ab_mtS 96 28 d.2 S)) pgL 14 140 lwB = true := by decide +kernel
