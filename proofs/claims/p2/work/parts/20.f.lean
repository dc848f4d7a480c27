/-- LevelMachine$Memory.init()V -/
def f0 : ab_N := (114, ([], 1, [(0, .inl (1, [(2, 0), (2, 0)]))], [(1, 0)]), [([], 3, [(0, .inl (1, [(1, 1), (1, 2)])), (1, .inr (.inl (640, 0, 0, 0, 0))), (2, .inr (.inl (640, 0, 0, 0, 0)))], none)], { frames := 1, cells := 2, slots := 1280, locals := 40 })
set_option maxRecDepth 1000000 in
set_option maxHeartbeats 4000000 in
theorem mf0 (l : Launch) : ab_enOk l nCl nRn nSL nNF nNM nTc nmm f0 := ab_meth0 (FT := tF1) (ST := tS1) (NT := tN1) (RT := tR1) (OI := tO1) (AC := tA1) (KT := tK1) (MT := tM1) (EN := []) (pg := pg114) (ini := true) (fuel := 13) (sp := []) (cuts := []) tB1 (by decide) pg114_ok (fun _ => rfl) (ab_mn) (by decide) (by decide +kernel)
/-- LevelMachine$Segment.init(I)V -/
def f1 : ab_N := (129, ([(13, 13), (0, 0)], 1, [(0, .inl (2, [(0, 1), (0, 1), (0, 1), (0, 1), (0, 1), (0, 1)]))], [(1, 0), (0, 0)]), [([(13, 13), (0, 0)], 1, [(0, .inl (2, [(0, 0), (0, 1), (0, 1), (0, 1), (0, 1), (0, 1)]))], none)], { frames := 1, cells := 0, slots := 0, locals := 40 })
set_option maxRecDepth 1000000 in
set_option maxHeartbeats 4000000 in
theorem mf1 (l : Launch) : ab_enOk l nCl nRn nSL nNF nNM nTc nmm f1 := ab_meth0 (FT := tF2) (ST := tS2) (NT := tN2) (RT := tR2) (OI := tO2) (AC := tA2) (KT := tK2) (MT := tM2) (EN := []) (pg := pg129) (ini := true) (fuel := 8) (sp := []) (cuts := []) tB2 (by decide) pg129_ok (fun _ => rfl) (ab_mn) (by decide) (by decide +kernel)
/-- LevelMachine$Segment.init(I)V -/
def f2 : ab_N := (129, ([(12, 12), (0, 0)], 1, [(0, .inl (2, [(0, 1), (0, 1), (0, 1), (0, 1), (0, 1), (0, 1)]))], [(1, 0), (0, 0)]), [([(12, 12), (0, 0)], 1, [(0, .inl (2, [(0, 0), (0, 1), (0, 1), (0, 1), (0, 1), (0, 1)]))], none)], { frames := 1, cells := 0, slots := 0, locals := 40 })
set_option maxRecDepth 1000000 in
set_option maxHeartbeats 4000000 in
theorem mf2 (l : Launch) : ab_enOk l nCl nRn nSL nNF nNM nTc nmm f2 := ab_meth0 (FT := tF2) (ST := tS2) (NT := tN2) (RT := tR2) (OI := tO2) (AC := tA2) (KT := tK2) (MT := tM2) (EN := []) (pg := pg129) (ini := true) (fuel := 8) (sp := []) (cuts := []) tB2 (by decide) pg129_ok (fun _ => rfl) (ab_mn) (by decide) (by decide +kernel)
/-- LevelMachine$Instruction.init()V -/
def f3 : ab_N := (110, ([], 1, [], [(1, 0)]), [([], 1, [], none)], { frames := 1, cells := 0, slots := 0, locals := 40 })
set_option maxRecDepth 1000000 in
set_option maxHeartbeats 4000000 in
theorem mf3 (l : Launch) : ab_enOk l nCl nRn nSL nNF nNM nTc nmm f3 := ab_meth0 (FT := tF0) (ST := tS0) (NT := tN0) (RT := tR0) (OI := tO0) (AC := tA0) (KT := tK0) (MT := tM0) (EN := []) (pg := pg110) (ini := true) (fuel := 5) (sp := []) (cuts := []) tB0 (by decide) pg110_ok (fun _ => rfl) (ab_mn) (by decide) (by decide +kernel)
/-- LevelMachine.init()V -/
def f4 : ab_N := (0, ([(0, 0)], 1, [(0, .inl (3, [(2, 0), (2, 0), (2, 0), (2, 0), (2, 0), (2, 0), (2, 0), (0, 0), (0, 0), (0, 0), (0, 0), (0, 0), (0, 0)]))], [(1, 0)]), [([(0, 0), (12, 12), (0, 0), (0, 0), (13, 13), (0, 0), (13, 13), (0, 0), (13, 13), (0, 0), (12, 12), (0, 0), (13, 13), (0, 0), (0, 0), (0, 0), (0, 0), (0, 0), (0, 0)], 20, [(0, .inl (3, [(1, 1), (1, 2), (1, 3), (1, 4), (1, 5), (1, 6), (1, 7), (0, 0), (0, 0), (0, 0), (0, 0), (0, 0), (0, 0)])), (1, .inl (1, [(1, 8), (1, 9)])), (2, .inr (.inl (7, 0, 0, 0, 0))), (3, .inr (.inl (7, 0, 0, 0, 0))), (4, .inr (.inr (0, [(1, 10), (1, 11), (1, 12), (1, 13), (1, 14)]))), (5, .inr (.inr (0, [(1, 15), (1, 16), (1, 17), (1, 18), (1, 19)]))), (6, .inl (2, [(0, 1), (0, 2), (0, 2), (0, 2), (0, 2), (0, 2)])), (7, .inl (0, [(0, 3), (0, 3), (0, 3), (0, 3), (0, 3)])), (8, .inr (.inl (640, 0, 0, 0, 0))), (9, .inr (.inl (640, 0, 0, 0, 0))), (10, .inl (2, [(0, 4), (0, 5), (0, 5), (0, 5), (0, 5), (0, 5)])), (11, .inl (2, [(0, 6), (0, 7), (0, 7), (0, 7), (0, 7), (0, 7)])), (12, .inl (2, [(0, 8), (0, 9), (0, 9), (0, 9), (0, 9), (0, 9)])), (13, .inl (2, [(0, 10), (0, 11), (0, 11), (0, 11), (0, 11), (0, 11)])), (14, .inl (2, [(0, 12), (0, 13), (0, 13), (0, 13), (0, 13), (0, 13)])), (15, .inl (2, [(0, 4), (0, 14), (0, 14), (0, 14), (0, 14), (0, 14)])), (16, .inl (2, [(0, 6), (0, 15), (0, 15), (0, 15), (0, 15), (0, 15)])), (17, .inl (2, [(0, 8), (0, 16), (0, 16), (0, 16), (0, 16), (0, 16)])), (18, .inl (2, [(0, 10), (0, 17), (0, 17), (0, 17), (0, 17), (0, 17)])), (19, .inl (2, [(0, 12), (0, 18), (0, 18), (0, 18), (0, 18), (0, 18)]))], none)], { frames := 2, cells := 19, slots := 1377, locals := 61 })
set_option maxRecDepth 1000000 in
set_option maxHeartbeats 4000000 in
theorem mf4 (l : Launch) : ab_enOk l nCl nRn nSL nNF nNM nTc nmm f4 := ab_meth0 (FT := tF3) (ST := tS3) (NT := tN3) (RT := tR3) (OI := tO3) (AC := tA3) (KT := tK3) (MT := tM3) (EN := [f3, f0, f1, f2]) (pg := pg0) (ini := true) (fuel := 173) (sp := []) (cuts := []) tB3 (by decide) pg0_ok (fun _ => rfl) (ab_mc (mf3 l) (ab_mc (mf0 l) (ab_mc (mf1 l) (ab_mc (mf2 l) ab_mn)))) (by decide) (by decide +kernel)
/-- LevelMachineModel.init()V -/
def f5 : ab_N := (51, ([(0, 0)], 1, [(0, .inl (4, [(2, 0), (2, 0), (2, 0), (2, 0), (2, 0), (2, 0), (0, 0), (0, 0), (0, 0), (0, 0), (0, 0), (0, 0), (0, 0), (0, 0), (0, 0), (0, 0), (0, 0)]))], [(1, 0)]), [([(0, 0)], 7, [(0, .inl (4, [(1, 1), (1, 2), (1, 3), (1, 4), (1, 5), (1, 6), (0, 0), (0, 0), (0, 0), (0, 0), (0, 0), (0, 0), (0, 0), (0, 0), (0, 0), (0, 0), (0, 0)])), (1, .inr (.inl (640, 0, 0, 0, 0))), (2, .inr (.inl (7, 0, 0, 0, 0))), (3, .inr (.inl (25, 0, 0, 0, 0))), (4, .inr (.inl (640, 0, 0, 0, 0))), (5, .inr (.inl (7, 0, 0, 0, 0))), (6, .inr (.inl (25, 0, 0, 0, 0)))], none)], { frames := 1, cells := 6, slots := 1344, locals := 40 })
set_option maxRecDepth 1000000 in
set_option maxHeartbeats 4000000 in
theorem mf5 (l : Launch) : ab_enOk l nCl nRn nSL nNF nNM nTc nmm f5 := ab_meth0 (FT := tF4) (ST := tS4) (NT := tN4) (RT := tR4) (OI := tO4) (AC := tA4) (KT := tK4) (MT := tM4) (EN := []) (pg := pg51) (ini := true) (fuel := 29) (sp := []) (cuts := []) tB4 (by decide) pg51_ok (fun _ => rfl) (ab_mn) (by decide) (by decide +kernel)
