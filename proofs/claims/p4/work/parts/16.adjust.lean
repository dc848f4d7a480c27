theorem aj_0 : decode prog_1_method_32_code 0 = .ok (.aload_n 0, 1) := ab_pgd pg31_ok (by decide +kernel)
theorem aj_1 : decode prog_1_method_32_code 1 = .ok (.getfield 16, 3) := ab_pgd pg31_ok (by decide +kernel)
theorem aj_4 : decode prog_1_method_32_code 4 = .ok (.iload_n 1, 1) := ab_pgd pg31_ok (by decide +kernel)
theorem aj_5 : decode prog_1_method_32_code 5 = .ok (.iaload, 1) := ab_pgd pg31_ok (by decide +kernel)
theorem aj_6 : decode prog_1_method_32_code 6 = .ok (.iconst 4, 1) := ab_pgd pg31_ok (by decide +kernel)
theorem aj_7 : decode prog_1_method_32_code 7 = .ok (.irem, 1) := ab_pgd pg31_ok (by decide +kernel)
theorem aj_8 : decode prog_1_method_32_code 8 = .ok (.istore_n 3, 1) := ab_pgd pg31_ok (by decide +kernel)
theorem aj_9 : decode prog_1_method_32_code 9 = .ok (.aload_n 0, 1) := ab_pgd pg31_ok (by decide +kernel)
theorem aj_10 : decode prog_1_method_32_code 10 = .ok (.getfield 16, 3) := ab_pgd pg31_ok (by decide +kernel)
theorem aj_13 : decode prog_1_method_32_code 13 = .ok (.bipush 6, 2) := ab_pgd pg31_ok (by decide +kernel)
theorem aj_15 : decode prog_1_method_32_code 15 = .ok (.iaload, 1) := ab_pgd pg31_ok (by decide +kernel)
theorem aj_16 : decode prog_1_method_32_code 16 = .ok (.bipush 6, 2) := ab_pgd pg31_ok (by decide +kernel)
theorem aj_18 : decode prog_1_method_32_code 18 = .ok (.iand, 1) := ab_pgd pg31_ok (by decide +kernel)
theorem aj_19 : decode prog_1_method_32_code 19 = .ok (.istore 4, 2) := ab_pgd pg31_ok (by decide +kernel)
theorem aj_21 : decode prog_1_method_32_code 21 = .ok (.aload_n 0, 1) := ab_pgd pg31_ok (by decide +kernel)
theorem aj_22 : decode prog_1_method_32_code 22 = .ok (.getfield 16, 3) := ab_pgd pg31_ok (by decide +kernel)
theorem aj_25 : decode prog_1_method_32_code 25 = .ok (.bipush 6, 2) := ab_pgd pg31_ok (by decide +kernel)
theorem aj_27 : decode prog_1_method_32_code 27 = .ok (.iload 4, 2) := ab_pgd pg31_ok (by decide +kernel)
theorem aj_29 : decode prog_1_method_32_code 29 = .ok (.iload_n 3, 1) := ab_pgd pg31_ok (by decide +kernel)
theorem aj_30 : decode prog_1_method_32_code 30 = .ok (.iload_n 2, 1) := ab_pgd pg31_ok (by decide +kernel)
theorem aj_31 : decode prog_1_method_32_code 31 = .ok (.if_icmp .ge 7, 3) := ab_pgd pg31_ok (by decide +kernel)
theorem aj_34 : decode prog_1_method_32_code 34 = .ok (.iconst 1, 1) := ab_pgd pg31_ok (by decide +kernel)
theorem aj_35 : decode prog_1_method_32_code 35 = .ok (.goto 4, 3) := ab_pgd pg31_ok (by decide +kernel)
theorem aj_38 : decode prog_1_method_32_code 38 = .ok (.iconst 0, 1) := ab_pgd pg31_ok (by decide +kernel)
theorem aj_39 : decode prog_1_method_32_code 39 = .ok (.iadd, 1) := ab_pgd pg31_ok (by decide +kernel)
theorem aj_40 : decode prog_1_method_32_code 40 = .ok (.iastore, 1) := ab_pgd pg31_ok (by decide +kernel)
theorem aj_41 : decode prog_1_method_32_code 41 = .ok (.iload_n 3, 1) := ab_pgd pg31_ok (by decide +kernel)
theorem aj_42 : decode prog_1_method_32_code 42 = .ok (.iload_n 2, 1) := ab_pgd pg31_ok (by decide +kernel)
theorem aj_43 : decode prog_1_method_32_code 43 = .ok (.if_icmp .ge 15, 3) := ab_pgd pg31_ok (by decide +kernel)
theorem aj_46 : decode prog_1_method_32_code 46 = .ok (.aload_n 0, 1) := ab_pgd pg31_ok (by decide +kernel)
theorem aj_47 : decode prog_1_method_32_code 47 = .ok (.getfield 16, 3) := ab_pgd pg31_ok (by decide +kernel)
theorem aj_50 : decode prog_1_method_32_code 50 = .ok (.iload_n 1, 1) := ab_pgd pg31_ok (by decide +kernel)
theorem aj_51 : decode prog_1_method_32_code 51 = .ok (.dup2, 1) := ab_pgd pg31_ok (by decide +kernel)
theorem aj_52 : decode prog_1_method_32_code 52 = .ok (.iaload, 1) := ab_pgd pg31_ok (by decide +kernel)
theorem aj_53 : decode prog_1_method_32_code 53 = .ok (.iload_n 2, 1) := ab_pgd pg31_ok (by decide +kernel)
theorem aj_54 : decode prog_1_method_32_code 54 = .ok (.iload_n 3, 1) := ab_pgd pg31_ok (by decide +kernel)
theorem aj_55 : decode prog_1_method_32_code 55 = .ok (.isub, 1) := ab_pgd pg31_ok (by decide +kernel)
theorem aj_56 : decode prog_1_method_32_code 56 = .ok (.iadd, 1) := ab_pgd pg31_ok (by decide +kernel)
theorem aj_57 : decode prog_1_method_32_code 57 = .ok (.iastore, 1) := ab_pgd pg31_ok (by decide +kernel)
theorem aj_58 : decode prog_1_method_32_code 58 = .ok (.iconst 1, 1) := ab_pgd pg31_ok (by decide +kernel)
theorem aj_59 : decode prog_1_method_32_code 59 = .ok (.ireturn, 1) := ab_pgd pg31_ok (by decide +kernel)
theorem aj_own {x : Int32} (h : ab_in (0, 65535) x) : ¬ (Int32.ofInt 4) = 0 ∧ (x - x / Int32.ofInt 4 * Int32.ofInt 4).toInt = x.toInt % 4 := by
  obtain ⟨h1, h2⟩ := h
  dsimp only at h1 h2
  have e4 : (Int32.ofInt 4).toInt = 4 := by rw [Int32.toInt_ofInt]; exact ab_bm (by omega) (by omega)
  refine ⟨fun q => ?_, ?_⟩
  · rw [q, Int32.toInt_zero] at e4
    omega
  · have := ab_remV (x := x) (y := Int32.ofInt 4) (by omega) (by omega)
    rw [e4] at this
    exact this
theorem aj_sum {x w o : Int32} (hx : ab_in (0, 65535) x) (hw : ab_in (0, 3) w) (ho : o.toInt = x.toInt % 4) (hlt : o.toInt < w.toInt) : ab_in (0, 65535) (x + (w - o)) := by
  obtain ⟨h1, h2⟩ := hx
  obtain ⟨h3, h4⟩ := hw
  dsimp only at h1 h2 h3 h4
  have e1 : (w - o).toInt = w.toInt - o.toInt := by
    rw [Int32.toInt_sub]
    exact ab_bm (by omega) (by omega)
  have e2 : (x + (w - o)).toInt = x.toInt + (w.toInt - o.toInt) := by
    rw [Int32.toInt_add, e1]
    exact ab_bm (by omega) (by omega)
  unfold ab_in
  rw [e2]
  dsimp only
  omega
theorem aj_fl {x : Int32} (b : Bool) (hx : ab_in (0, 65535) x) : ab_in (0, 65535) ((x &&& Int32.ofInt 6) + Int32.ofInt (if b then 1 else 0)) := by
  have e6 : (Int32.ofInt 6).toInt = 6 := by rw [Int32.toInt_ofInt]; exact ab_bm (by omega) (by omega)
  have h := ab_andL (x := x) (y := Int32.ofInt 6) (by omega)
  have eb : (Int32.ofInt (if b then 1 else 0)).toInt = (if b then 1 else 0) := by rw [Int32.toInt_ofInt]; exact ab_bm (by split <;> omega) (by split <;> omega)
  have e2 : ((x &&& Int32.ofInt 6) + Int32.ofInt (if b then 1 else 0)).toInt = (x &&& Int32.ofInt 6).toInt + (if b then 1 else 0) := by
    rw [Int32.toInt_add, eb]
    exact ab_bm (by split <;> omega) (by split <;> omega)
  unfold ab_in
  rw [e2]
  dsimp only
  split <;> omega
/-- adjust -/
def gA : ab_N := (31, ([(0, 4), (0, 3), (0, 2), ((-2147483648), 2147483647), (0, 65535), ((-2147483648), 2147483647), (0, 65535), ((-2147483648), 2147483647)], 8, [(0, .inl (3, [(1, 1), (1, 2), (1, 3), (1, 4), (1, 5), (1, 6), (1, 7), (0, 2), (0, 3), (0, 4), (0, 5), (0, 6), (0, 7)])), (2, .inr (.inl (7, 0, 65535, 0, 65535)))], [(1, 0), (0, 0), (0, 1)]), [([(0, 4), (0, 3), (0, 2), ((-2147483648), 2147483647), (0, 65535), ((-2147483648), 2147483647), (0, 65535), ((-2147483648), 2147483647), (1, 1)], 8, [(0, .inl (3, [(1, 1), (1, 2), (1, 3), (1, 4), (1, 5), (1, 6), (1, 7), (0, 2), (0, 3), (0, 4), (0, 5), (0, 6), (0, 7)])), (2, .inr (.inl (7, 0, 65535, 0, 65535)))], some (0, 8))], { frames := 0, cells := 0, slots := 0, locals := 0 })
set_option maxHeartbeats 4000000 in
theorem mgA (l : Launch) : ab_enOk l nCl nRn nSL nNF nNM nTc nmm gA := by
  intro D sa dT vs0 hs0 ws vals sz he hnh hw ha
  refine Met.ofW (cc := prog_1_method_32_code) (maxL := 5) (ret := some .boolean) (by decide) rfl ?_
  intro p e s m args below meth c s₁ B hml hv
  obtain ⟨rfl, hsz, hP, hK, hD0, hSX⟩ := hv
  have hts := atoms_spec (ws := .code (nmm 31).1 prog_1_method_32_code 5 (some .boolean) :: nTc) B.pre
  have hts2 : ∀ w ∈ nTc, w.before vals.toArray s = true := fun w h => hts w (List.mem_cons_of_mem _ h)
  have hown : s.vm.findClass "LevelMachine" = some m.cls := findClass_of_methodNamed B.named
  subst hsz
  have hD := hD0.self (sz := s.heap.size)
  have hA : ∀ q, s.heap.size ≤ q → va_A ws s.heap.size q := fun q h => Or.inr h
  generalize hAe : va_A ws s.heap.size = A at hD hA ⊢
  have hlk := B.notSynchronized
  have hrt := B.returns
  have hx := B.exec
  have hb := B.bytes
  obtain ⟨q0, e0, g01, g02, g03⟩ := hw.2 0 0 _ rfl
  obtain ⟨q1, e1, g11, g12, g13⟩ := hw.2 1 2 _ rfl
  obtain ⟨fw, rfl, hfw⟩ := g03
  obtain ⟨f, rfl, hf0⟩ := g13
  have hf : ∀ i, i < 7 → ab_in (0, 65535) (f i) := by
    intro i hi
    have := hf0 i hi
    unfold ab_b5 at this
    split at this <;> exact this
  have hws : ws = [(q0, .inr (3, fw)), (q1, .inl (dT 0, 7, .inl f))] := by
    have hl := hw.1
    match ws, hl, g02, g12 with
    | [a, b], _, h1, h2 =>
      cases h1
      cases h2
      rfl
  obtain ⟨wr, hfr, hcr⟩ := ab_at hfw (k := 1) (a := (1, 2)) rfl
  obtain ⟨qq, hq1, hq2⟩ := ab_cv1 hcr
  rw [g11] at hq1
  cases hq1
  rw [hq2] at hfr
  obtain ⟨r, hr0, hrI⟩ := ab_e_at he (k := 0) rfl
  obtain ⟨wi, hw0, hwI⟩ := ab_e_at he (k := 1) rfl
  have hva : vals = [.ref q0, .int r, .int wi] := by
    have ha2 : [((1, 0) : ab_V), (0, 0), (0, 1)].map (ab_cv sa vs0 hs0) = vals.map some := ha
    have hl := ab_lenL ha2
    match vals, hl, ha2 with
    | [a, b, c], _, h =>
      simp only [List.map_cons, List.map_nil, List.cons.injEq] at h
      obtain ⟨x, k1, k2⟩ := ab_cv1 h.1
      obtain ⟨x2, k3, k4⟩ := ab_cv0 h.2.1
      obtain ⟨x3, k5, k6⟩ := ab_cv0 h.2.2.1
      rw [g01] at k1
      rw [hr0] at k3
      rw [hw0] at k5
      cases k1
      cases k3
      cases k5
      rw [k2, k4, k6]
  have hl := lv_entry vals (n := 5) (by rw [(ab_lo_ok _ _ 0 ha).2.2, ← ab_lenL ha]; decide)
  rw [lg_entry_eq]
  generalize (lg_sl vals ++ List.replicate (5 - (lg_sl vals).length) Slot.unset).toArray = ls at hl ⊢
  rw [hva] at hl
  have hl : lv_has ls 5 [(0, .ref q0), (1, .int r), (2, .int wi)] := hl
  rw [hws] at hP hD
  have hlink := hts2 _ tw87
  have hrN := ab_inN hrI (by decide) (by decide : (4 : Int) < (7 : Nat))
  have hget : ∀ {H : Heap} {locs : List Loc} {pc : Nat} {ls : Array Slot} {rest : List Value} {Q : State → Prop} {g : Nat → Int32}, va_P D nCl [(q0, .inr (3, fw)), (q1, .inl (dT 0, 7, .inl g))] H → decode prog_1_method_32_code pc = .ok (.getfield 16, 3) → W p l e { frames := 0, cells := 0, slots := 0, locals := 0 } s m vals.toArray below meth c H locs 0 0 Q (F0 m (pc + 3) ls (.ref q1 :: rest)) → W p l e { frames := 0, cells := 0, slots := 0, locals := 0 } s m vals.toArray below meth c H locs 0 0 Q (F0 m pc ls (.ref q0 :: rest)) := by
    intro H locs pc ls rest Q g hP hd kk
    exact va_get (C := "LevelMachine") (T := nT3) (N := 13) hx hb hts2 nU3 hown hK hP 0 rfl rfl 1 (by decide) hlink (fun _ h => h) hfr hd kk
  have fin : ∀ (g : Nat → Int32) (H : Heap) (locs : List Loc) (ls : Array Slot), va_P D nCl [(q0, .inr (3, fw)), (q1, .inl (dT 0, 7, .inl g))] H → va_D A [(q0, .inr (3, fw)), (q1, .inl (dT 0, 7, .inl g))] → va_S A s.heap H locs → (∀ i, i < 7 → ab_in (0, 65535) (g i)) → W p l e { frames := 0, cells := 0, slots := 0, locals := 0 } s m vals.toArray below meth c H locs 0 0 (MQ below (ab_Q nCl D sa dT vs0 hs0 ws s.heap.size gA.2.2.1) vals.toArray s 0 0 A) (F0 m 58 ls []) := by
    intro g H locs ls k1 k2 k3 k4
    refine lv_iconst (v := 1) hx hb aj_58 rfl ?_
    refine W.zret (ty := .boolean) hx hb hrt rfl (fun t ht hW => ⟨⟨_, List.mem_cons_self, [1], [], [(q0, .inr (3, fw)), (q1, .inl (dT 0, 7, .inl g))], some (.int 1), ?_, ?_, ?_, rfl, ?_, ?_, ?_⟩, ?_⟩) k3.2.2 aj_59 hlk
    · exact ab_e_app he (ab_e_one ⟨by decide, by decide⟩)
    · rw [List.append_nil]
      exact hnh
    · have : vs0.length = 8 := he.1
      show some (ab_cv sa (vs0 ++ [1]) (hs0 ++ []) (0, 8)) = some (some (Value.int 1))
      rw [ab_cv0' (x := 1) (by rw [← this]; exact ab_end vs0 1)]
    · have m5 := ab_w_mono [1] [] hw
      refine ⟨rfl, fun j a x hj => ?_⟩
      match j, hj with
      | 0, hj =>
        obtain ⟨qa, ea, n1, n2, n3⟩ := m5.2 0 a x hj
        rw [g02] at n2
        cases n2
        exact ⟨q0, _, n1, rfl, n3⟩
      | 1, hj =>
        obtain ⟨qa, ea, n1, n2, n3⟩ := m5.2 1 a x hj
        rw [g12] at n2
        cases n2
        cases hj
        exact ⟨q1, _, n1, rfl, g, rfl, fun i hi => by unfold ab_b5; split <;> exact k4 i hi⟩
      | j + 2, hj => cases hj
    · rw [ht]
      exact k1
    · rw [hAe]
      exact k2
    · rw [hAe]
      exact k3.F ht
  have tail : ∀ (g : Nat → Int32) (H : Heap) (locs : List Loc) (ls : Array Slot) (o oth : Int32), va_P D nCl [(q0, .inr (3, fw)), (q1, .inl (dT 0, 7, .inl g))] H → va_D A [(q0, .inr (3, fw)), (q1, .inl (dT 0, 7, .inl g))] → va_S A s.heap H locs → (∀ i, i < 7 → ab_in (0, 65535) (g i)) → g r.toNatClampNeg = f r.toNatClampNeg → o.toInt = (f r.toNatClampNeg).toInt % 4 → lv_has ls 5 [(4, .int oth), (3, .int o), (0, .ref q0), (1, .int r), (2, .int wi)] → W p l e { frames := 0, cells := 0, slots := 0, locals := 0 } s m vals.toArray below meth c H locs 0 0 (MQ below (ab_Q nCl D sa dT vs0 hs0 ws s.heap.size gA.2.2.1) vals.toArray s 0 0 A) (F0 m 41 ls []) := by
    intro g H locs ls o oth k1 k2 k3 k4 k5 k6 hl
    refine lv_iload_n hx hb aj_41 rfl (lv_at hl 1 rfl) ?_
    refine lv_iload_n hx hb aj_42 rfl (lv_at hl 4 rfl) ?_
    refine lv_icmp_ge hx hb aj_43 (tgt := 58) (by decide) (fun _ => fin g H locs ls k1 k2 k3 k4) (fun hlt => ?_)
    have hlt := Int32.lt_iff_toInt_lt.mp (Int32.not_le.mp hlt)
    refine lv_aload_n hx hb aj_46 rfl (lv_at hl 2 rfl) (hget k1 aj_47 ?_)
    refine lv_iload_n hx hb aj_50 rfl (lv_at hl 3 rfl) ?_
    refine lv_dup2_11 hx hb aj_51 rfl rfl ?_
    refine va_iald hx hb hK k1 1 0 rfl rfl hrN.1 aj_52 ?_
    refine lv_iload_n hx hb aj_53 rfl (lv_at hl 4 rfl) ?_
    refine lv_iload_n hx hb aj_54 rfl (lv_at hl 1 rfl) ?_
    refine lv_isub hx hb aj_55 (lv_iadd hx hb aj_56 ?_)
    refine va_iast hx hb hK k1 k2 k3 1 0 rfl rfl hrN.1 aj_57 (fun H1 locs1 r1 r2 r3 => ?_)
    refine fin _ H1 locs1 ls r1 r2 r3 (fun i hi => ?_)
    unfold upd
    split
    · exact aj_sum (k4 _ hrN.2.1) hwI (by rw [k5]; exact k6) hlt
    · exact k4 i hi
  have ho := aj_own (hf _ hrN.2.1)
  have h67 : vp_in (6 : Int32) 7 := by
    unfold vp_in
    decide
  refine lv_aload_n hx hb aj_0 rfl (lv_at hl 0 rfl) (hget hP aj_1 ?_)
  refine lv_iload_n hx hb aj_4 rfl (lv_at hl 1 rfl) ?_
  refine va_iald hx hb hK hP 1 0 rfl rfl hrN.1 aj_5 ?_
  refine lv_iconst (v := Int32.ofInt 4) hx hb aj_6 rfl (lv_irem hx hb aj_7 ho.1 ?_)
  refine lv_istore_n hx hb aj_8 rfl hl (by decide) rfl (fun ls3 hl3 => ?_)
  refine lv_aload_n hx hb aj_9 rfl (lv_at hl3 1 rfl) (hget hP aj_10 ?_)
  refine lv_bipush (v := 6) hx hb aj_13 (by decide) ?_
  refine va_iald hx hb hK hP 1 0 rfl rfl h67 aj_15 ?_
  refine lv_bipush (v := Int32.ofInt 6) hx hb aj_16 (by decide) (lv_iand hx hb aj_18 ?_)
  refine lv_istore hx hb aj_19 hl3 (by decide) rfl (fun ls4 hl4 => ?_)
  refine lv_aload_n hx hb aj_21 rfl (lv_at hl4 2 rfl) (hget hP aj_22 ?_)
  refine lv_bipush (v := 6) hx hb aj_25 (by decide) ?_
  refine lv_iload hx hb aj_27 (lv_at hl4 0 rfl) ?_
  refine lv_iload_n hx hb aj_29 rfl (lv_at hl4 1 rfl) ?_
  refine lv_iload_n hx hb aj_30 rfl (lv_at hl4 4 rfl) ?_
  have hst : ∀ (b : Bool), W p l e { frames := 0, cells := 0, slots := 0, locals := 0 } s m vals.toArray below meth c s.heap [] 0 0 (MQ below (ab_Q nCl D sa dT vs0 hs0 ws s.heap.size gA.2.2.1) vals.toArray s 0 0 A) (F0 m 39 ls4 [.int (Int32.ofInt (if b then 1 else 0)), .int (f (6 : Int32).toNatClampNeg &&& Int32.ofInt 6), .int 6, .ref q1]) := by
    intro b
    refine lv_iadd hx hb aj_39 ?_
    refine va_iast hx hb hK hP hD va_S.rf 1 0 rfl rfl h67 aj_40 (fun H1 locs1 r1 r2 r3 => ?_)
    refine tail _ H1 locs1 ls4 _ _ r1 r2 r3 (fun i hi => ?_) ?_ ho.2 hl4
    · unfold upd
      split
      · exact aj_fl b (hf 6 (by decide))
      · exact hf i hi
    · unfold upd
      rw [if_neg]
      have hz : (6 : Int32).toNatClampNeg = 6 := by decide
      rw [hz]
      have h1 := hrN.2.2
      have h2 := hrI.2
      dsimp only at h2
      omega
  refine lv_icmp_ge hx hb aj_31 (tgt := 38) (by decide) (fun _ => ?_) (fun _ => ?_)
  · refine lv_iconst (v := Int32.ofInt 0) hx hb aj_38 rfl ?_
    exact hst false
  · refine lv_iconst (v := Int32.ofInt 1) hx hb aj_34 rfl (lv_goto hx hb aj_35 (tgt := 39) (by decide) ?_)
    exact hst true
