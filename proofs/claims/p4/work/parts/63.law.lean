theorem lx_st {p : Program} {s : State} {m : MethodId} {meth : Method} {c : Code} {b L : Nat} {xs : Nat → Int32} (C0 : lw_At p s m meth c b L xs) : ∃ sa : Nat → Nat, ab_SX nRn nSL nNF nNM sa (fun q => s.heap.size ≤ q) s s.heap := by
  have hs := flat_of_before _ C0.2.2.2.2.2.2.2.2.2
  have ha0 : (Cond.arrayOf (Term.static "LevelMachine$Instruction" "MOST_Q" "[I") .int).before #[Value.ref b] s = true := hs _ (by decide +kernel)
  have hl0 : (Cond.eq (.length (Term.static "LevelMachine$Instruction" "MOST_Q" "[I")) (.int 22)).before #[Value.ref b] s = true := hs _ (by decide +kernel)
  have he0 : ∀ j : Nat, j < 22 → (Term.elem (Term.static "LevelMachine$Instruction" "MOST_Q" "[I") (.int (Int32.ofNat j))).eval #[Value.ref b] s none [] s = some (.int (Int32.ofInt (([7, 7, 4, 4, 4, 4, 3, 3, 7, 7, 7, 7, 7, 3, 4, 7, 7, 7, 7, 7, 7, 4] : List Int).getD j 0))) := by
    intro j hj
    match j, hj with
    | 0, _ => exact (va_eqt (z := 7) (show (Cond.eq (.elem (Term.static "LevelMachine$Instruction" "MOST_Q" "[I") (.int 0)) (.int 7)).before #[Value.ref b] s = true from hs _ (by decide +kernel))).trans (by decide +kernel)
    | 1, _ => exact (va_eqt (z := 7) (show (Cond.eq (.elem (Term.static "LevelMachine$Instruction" "MOST_Q" "[I") (.int 1)) (.int 7)).before #[Value.ref b] s = true from hs _ (by decide +kernel))).trans (by decide +kernel)
    | 2, _ => exact (va_eqt (z := 4) (show (Cond.eq (.elem (Term.static "LevelMachine$Instruction" "MOST_Q" "[I") (.int 2)) (.int 4)).before #[Value.ref b] s = true from hs _ (by decide +kernel))).trans (by decide +kernel)
    | 3, _ => exact (va_eqt (z := 4) (show (Cond.eq (.elem (Term.static "LevelMachine$Instruction" "MOST_Q" "[I") (.int 3)) (.int 4)).before #[Value.ref b] s = true from hs _ (by decide +kernel))).trans (by decide +kernel)
    | 4, _ => exact (va_eqt (z := 4) (show (Cond.eq (.elem (Term.static "LevelMachine$Instruction" "MOST_Q" "[I") (.int 4)) (.int 4)).before #[Value.ref b] s = true from hs _ (by decide +kernel))).trans (by decide +kernel)
    | 5, _ => exact (va_eqt (z := 4) (show (Cond.eq (.elem (Term.static "LevelMachine$Instruction" "MOST_Q" "[I") (.int 5)) (.int 4)).before #[Value.ref b] s = true from hs _ (by decide +kernel))).trans (by decide +kernel)
    | 6, _ => exact (va_eqt (z := 3) (show (Cond.eq (.elem (Term.static "LevelMachine$Instruction" "MOST_Q" "[I") (.int 6)) (.int 3)).before #[Value.ref b] s = true from hs _ (by decide +kernel))).trans (by decide +kernel)
    | 7, _ => exact (va_eqt (z := 3) (show (Cond.eq (.elem (Term.static "LevelMachine$Instruction" "MOST_Q" "[I") (.int 7)) (.int 3)).before #[Value.ref b] s = true from hs _ (by decide +kernel))).trans (by decide +kernel)
    | 8, _ => exact (va_eqt (z := 7) (show (Cond.eq (.elem (Term.static "LevelMachine$Instruction" "MOST_Q" "[I") (.int 8)) (.int 7)).before #[Value.ref b] s = true from hs _ (by decide +kernel))).trans (by decide +kernel)
    | 9, _ => exact (va_eqt (z := 7) (show (Cond.eq (.elem (Term.static "LevelMachine$Instruction" "MOST_Q" "[I") (.int 9)) (.int 7)).before #[Value.ref b] s = true from hs _ (by decide +kernel))).trans (by decide +kernel)
    | 10, _ => exact (va_eqt (z := 7) (show (Cond.eq (.elem (Term.static "LevelMachine$Instruction" "MOST_Q" "[I") (.int 10)) (.int 7)).before #[Value.ref b] s = true from hs _ (by decide +kernel))).trans (by decide +kernel)
    | 11, _ => exact (va_eqt (z := 7) (show (Cond.eq (.elem (Term.static "LevelMachine$Instruction" "MOST_Q" "[I") (.int 11)) (.int 7)).before #[Value.ref b] s = true from hs _ (by decide +kernel))).trans (by decide +kernel)
    | 12, _ => exact (va_eqt (z := 7) (show (Cond.eq (.elem (Term.static "LevelMachine$Instruction" "MOST_Q" "[I") (.int 12)) (.int 7)).before #[Value.ref b] s = true from hs _ (by decide +kernel))).trans (by decide +kernel)
    | 13, _ => exact (va_eqt (z := 3) (show (Cond.eq (.elem (Term.static "LevelMachine$Instruction" "MOST_Q" "[I") (.int 13)) (.int 3)).before #[Value.ref b] s = true from hs _ (by decide +kernel))).trans (by decide +kernel)
    | 14, _ => exact (va_eqt (z := 4) (show (Cond.eq (.elem (Term.static "LevelMachine$Instruction" "MOST_Q" "[I") (.int 14)) (.int 4)).before #[Value.ref b] s = true from hs _ (by decide +kernel))).trans (by decide +kernel)
    | 15, _ => exact (va_eqt (z := 7) (show (Cond.eq (.elem (Term.static "LevelMachine$Instruction" "MOST_Q" "[I") (.int 15)) (.int 7)).before #[Value.ref b] s = true from hs _ (by decide +kernel))).trans (by decide +kernel)
    | 16, _ => exact (va_eqt (z := 7) (show (Cond.eq (.elem (Term.static "LevelMachine$Instruction" "MOST_Q" "[I") (.int 16)) (.int 7)).before #[Value.ref b] s = true from hs _ (by decide +kernel))).trans (by decide +kernel)
    | 17, _ => exact (va_eqt (z := 7) (show (Cond.eq (.elem (Term.static "LevelMachine$Instruction" "MOST_Q" "[I") (.int 17)) (.int 7)).before #[Value.ref b] s = true from hs _ (by decide +kernel))).trans (by decide +kernel)
    | 18, _ => exact (va_eqt (z := 7) (show (Cond.eq (.elem (Term.static "LevelMachine$Instruction" "MOST_Q" "[I") (.int 18)) (.int 7)).before #[Value.ref b] s = true from hs _ (by decide +kernel))).trans (by decide +kernel)
    | 19, _ => exact (va_eqt (z := 7) (show (Cond.eq (.elem (Term.static "LevelMachine$Instruction" "MOST_Q" "[I") (.int 19)) (.int 7)).before #[Value.ref b] s = true from hs _ (by decide +kernel))).trans (by decide +kernel)
    | 20, _ => exact (va_eqt (z := 7) (show (Cond.eq (.elem (Term.static "LevelMachine$Instruction" "MOST_Q" "[I") (.int 20)) (.int 7)).before #[Value.ref b] s = true from hs _ (by decide +kernel))).trans (by decide +kernel)
    | 21, _ => exact (va_eqt (z := 4) (show (Cond.eq (.elem (Term.static "LevelMachine$Instruction" "MOST_Q" "[I") (.int 21)) (.int 4)).before #[Value.ref b] s = true from hs _ (by decide +kernel))).trans (by decide +kernel)
    | j + 22, hj => omega
  obtain ⟨a0, b0, c0⟩ := va_Tof (A := fun q => s.heap.size ≤ q) (by decide : 22 < 2 ^ 31) ha0 (va_eqt hl0) he0 (fun a h => by omega)
  have z0 := va_Zof (A := fun q => s.heap.size ≤ q) (C0.2.2.2.2.2.1 _ (List.mem_append_right _ (List.mem_of_getElem? (i := 239) (by decide +kernel)))) (C0.2.2.2.2.2.1 _ (List.mem_append_right _ (List.mem_of_getElem? (i := 4) (by decide +kernel)))) b0 (fun a h => by omega)
  have ha1 : (Cond.arrayOf (Term.static "LevelMachine$Instruction" "TAILS" "[I") .int).before #[Value.ref b] s = true := hs _ (by decide +kernel)
  have hl1 : (Cond.eq (.length (Term.static "LevelMachine$Instruction" "TAILS" "[I")) (.int 22)).before #[Value.ref b] s = true := hs _ (by decide +kernel)
  have he1 : ∀ j : Nat, j < 22 → (Term.elem (Term.static "LevelMachine$Instruction" "TAILS" "[I") (.int (Int32.ofNat j))).eval #[Value.ref b] s none [] s = some (.int (Int32.ofInt (([0, 1, 0, 0, 0, 0, 1, 1, 1, 1, 1, 0, 0, 0, 0, 2, 2, 1, 1, 0, 0, 0] : List Int).getD j 0))) := by
    intro j hj
    match j, hj with
    | 0, _ => exact (va_eqt (z := 0) (show (Cond.eq (.elem (Term.static "LevelMachine$Instruction" "TAILS" "[I") (.int 0)) (.int 0)).before #[Value.ref b] s = true from hs _ (by decide +kernel))).trans (by decide +kernel)
    | 1, _ => exact (va_eqt (z := 1) (show (Cond.eq (.elem (Term.static "LevelMachine$Instruction" "TAILS" "[I") (.int 1)) (.int 1)).before #[Value.ref b] s = true from hs _ (by decide +kernel))).trans (by decide +kernel)
    | 2, _ => exact (va_eqt (z := 0) (show (Cond.eq (.elem (Term.static "LevelMachine$Instruction" "TAILS" "[I") (.int 2)) (.int 0)).before #[Value.ref b] s = true from hs _ (by decide +kernel))).trans (by decide +kernel)
    | 3, _ => exact (va_eqt (z := 0) (show (Cond.eq (.elem (Term.static "LevelMachine$Instruction" "TAILS" "[I") (.int 3)) (.int 0)).before #[Value.ref b] s = true from hs _ (by decide +kernel))).trans (by decide +kernel)
    | 4, _ => exact (va_eqt (z := 0) (show (Cond.eq (.elem (Term.static "LevelMachine$Instruction" "TAILS" "[I") (.int 4)) (.int 0)).before #[Value.ref b] s = true from hs _ (by decide +kernel))).trans (by decide +kernel)
    | 5, _ => exact (va_eqt (z := 0) (show (Cond.eq (.elem (Term.static "LevelMachine$Instruction" "TAILS" "[I") (.int 5)) (.int 0)).before #[Value.ref b] s = true from hs _ (by decide +kernel))).trans (by decide +kernel)
    | 6, _ => exact (va_eqt (z := 1) (show (Cond.eq (.elem (Term.static "LevelMachine$Instruction" "TAILS" "[I") (.int 6)) (.int 1)).before #[Value.ref b] s = true from hs _ (by decide +kernel))).trans (by decide +kernel)
    | 7, _ => exact (va_eqt (z := 1) (show (Cond.eq (.elem (Term.static "LevelMachine$Instruction" "TAILS" "[I") (.int 7)) (.int 1)).before #[Value.ref b] s = true from hs _ (by decide +kernel))).trans (by decide +kernel)
    | 8, _ => exact (va_eqt (z := 1) (show (Cond.eq (.elem (Term.static "LevelMachine$Instruction" "TAILS" "[I") (.int 8)) (.int 1)).before #[Value.ref b] s = true from hs _ (by decide +kernel))).trans (by decide +kernel)
    | 9, _ => exact (va_eqt (z := 1) (show (Cond.eq (.elem (Term.static "LevelMachine$Instruction" "TAILS" "[I") (.int 9)) (.int 1)).before #[Value.ref b] s = true from hs _ (by decide +kernel))).trans (by decide +kernel)
    | 10, _ => exact (va_eqt (z := 1) (show (Cond.eq (.elem (Term.static "LevelMachine$Instruction" "TAILS" "[I") (.int 10)) (.int 1)).before #[Value.ref b] s = true from hs _ (by decide +kernel))).trans (by decide +kernel)
    | 11, _ => exact (va_eqt (z := 0) (show (Cond.eq (.elem (Term.static "LevelMachine$Instruction" "TAILS" "[I") (.int 11)) (.int 0)).before #[Value.ref b] s = true from hs _ (by decide +kernel))).trans (by decide +kernel)
    | 12, _ => exact (va_eqt (z := 0) (show (Cond.eq (.elem (Term.static "LevelMachine$Instruction" "TAILS" "[I") (.int 12)) (.int 0)).before #[Value.ref b] s = true from hs _ (by decide +kernel))).trans (by decide +kernel)
    | 13, _ => exact (va_eqt (z := 0) (show (Cond.eq (.elem (Term.static "LevelMachine$Instruction" "TAILS" "[I") (.int 13)) (.int 0)).before #[Value.ref b] s = true from hs _ (by decide +kernel))).trans (by decide +kernel)
    | 14, _ => exact (va_eqt (z := 0) (show (Cond.eq (.elem (Term.static "LevelMachine$Instruction" "TAILS" "[I") (.int 14)) (.int 0)).before #[Value.ref b] s = true from hs _ (by decide +kernel))).trans (by decide +kernel)
    | 15, _ => exact (va_eqt (z := 2) (show (Cond.eq (.elem (Term.static "LevelMachine$Instruction" "TAILS" "[I") (.int 15)) (.int 2)).before #[Value.ref b] s = true from hs _ (by decide +kernel))).trans (by decide +kernel)
    | 16, _ => exact (va_eqt (z := 2) (show (Cond.eq (.elem (Term.static "LevelMachine$Instruction" "TAILS" "[I") (.int 16)) (.int 2)).before #[Value.ref b] s = true from hs _ (by decide +kernel))).trans (by decide +kernel)
    | 17, _ => exact (va_eqt (z := 1) (show (Cond.eq (.elem (Term.static "LevelMachine$Instruction" "TAILS" "[I") (.int 17)) (.int 1)).before #[Value.ref b] s = true from hs _ (by decide +kernel))).trans (by decide +kernel)
    | 18, _ => exact (va_eqt (z := 1) (show (Cond.eq (.elem (Term.static "LevelMachine$Instruction" "TAILS" "[I") (.int 18)) (.int 1)).before #[Value.ref b] s = true from hs _ (by decide +kernel))).trans (by decide +kernel)
    | 19, _ => exact (va_eqt (z := 0) (show (Cond.eq (.elem (Term.static "LevelMachine$Instruction" "TAILS" "[I") (.int 19)) (.int 0)).before #[Value.ref b] s = true from hs _ (by decide +kernel))).trans (by decide +kernel)
    | 20, _ => exact (va_eqt (z := 0) (show (Cond.eq (.elem (Term.static "LevelMachine$Instruction" "TAILS" "[I") (.int 20)) (.int 0)).before #[Value.ref b] s = true from hs _ (by decide +kernel))).trans (by decide +kernel)
    | 21, _ => exact (va_eqt (z := 0) (show (Cond.eq (.elem (Term.static "LevelMachine$Instruction" "TAILS" "[I") (.int 21)) (.int 0)).before #[Value.ref b] s = true from hs _ (by decide +kernel))).trans (by decide +kernel)
    | j + 22, hj => omega
  obtain ⟨a1, b1, c1⟩ := va_Tof (A := fun q => s.heap.size ≤ q) (by decide : 22 < 2 ^ 31) ha1 (va_eqt hl1) he1 (fun a h => by omega)
  have z1 := va_Zof (A := fun q => s.heap.size ≤ q) (C0.2.2.2.2.2.1 _ (List.mem_append_right _ (List.mem_of_getElem? (i := 245) (by decide +kernel)))) (C0.2.2.2.2.2.1 _ (List.mem_append_right _ (List.mem_of_getElem? (i := 4) (by decide +kernel)))) b1 (fun a h => by omega)
  refine ⟨fun t => match t with
    | 0 => a0
    | _ => a1, ab_mc (va_AO.of (C0.2.2.2.2.2.1 _ (List.mem_append_right _ (List.mem_of_getElem? (i := 30) (by decide +kernel))))) ab_mn, ab_mc (va_Nw.of rfl (C0.2.2.2.2.2.1 _ (List.mem_append_right _ (List.mem_of_getElem? (i := 37) (by decide +kernel))))) (ab_mc (va_Nw.of rfl (C0.2.2.2.2.2.1 _ (List.mem_append_right _ (List.mem_of_getElem? (i := 39) (by decide +kernel))))) (ab_mc (va_Nw.of rfl (C0.2.2.2.2.2.1 _ (List.mem_append_right _ (List.mem_of_getElem? (i := 41) (by decide +kernel))))) (ab_mc (va_Nw.of rfl (C0.2.2.2.2.2.1 _ (List.mem_append_right _ (List.mem_of_getElem? (i := 43) (by decide +kernel))))) (ab_mc (va_Nw.of rfl (C0.2.2.2.2.2.1 _ (List.mem_append_right _ (List.mem_of_getElem? (i := 45) (by decide +kernel))))) (ab_mc (va_Nw.of rfl (C0.2.2.2.2.2.1 _ (List.mem_append_right _ (List.mem_of_getElem? (i := 47) (by decide +kernel))))) (ab_mc (va_Nw.of rfl (C0.2.2.2.2.2.1 _ (List.mem_append_right _ (List.mem_of_getElem? (i := 68) (by decide +kernel))))) (ab_mc (va_Nw.of rfl (C0.2.2.2.2.2.1 _ (List.mem_append_right _ (List.mem_of_getElem? (i := 70) (by decide +kernel))))) (ab_mc (va_Nw.of rfl (C0.2.2.2.2.2.1 _ (List.mem_append_right _ (List.mem_of_getElem? (i := 72) (by decide +kernel))))) (ab_mc (va_Nw.of rfl (C0.2.2.2.2.2.1 _ (List.mem_append_right _ (List.mem_of_getElem? (i := 73) (by decide +kernel))))) (ab_mc (va_Nw.of rfl (C0.2.2.2.2.2.1 _ (List.mem_append_right _ (List.mem_of_getElem? (i := 74) (by decide +kernel))))) (ab_mn))))))))))), ab_mc (va_Nw.of rfl (C0.2.2.2.2.2.1 _ (List.mem_append_right _ (List.mem_of_getElem? (i := 63) (by decide +kernel))))) (ab_mn), fun t r h => ?_⟩
  match t, h with
  | 0, h => cases h; exact ⟨z0, c0⟩
  | 1, h => cases h; exact ⟨z1, c1⟩
  | t + 2, h => cases h
section
variable {p : Program} {l : Launch} {e : Env} {s : State} {m : MethodId} {below : List Frame} {meth : Method} {c : Code} {b L : Nat} {xs : Nat → Int32} {D : va_G} {dT : Nat → ClassId} {sa : Nat → Nat}
theorem lx_sv {sa : Nat → Nat} {vs : List Int32} {hs : List Nat} {sv : List Value} (h : ([] : List ab_V).map (ab_cv sa vs hs) = sv.map some) : sv = [] := by
  cases sv with
  | nil => rfl
  | cons a r => cases h
theorem ab_mt_is {cl : List vw_C} {A : Nat → Prop} {H0 : Heap} {nL : Nat} {vs vs0 : List Int32} {hs hs0 : List Nat} {C S : ab_S} {ls : Array Slot} {sv : List Value} {H : Heap} {locs : List Loc} (h : ab_mtS vs0.length hs0.length C S = true) (hv : ∃ v, vs = vs0 ++ v) (hh : ∃ v, hs = hs0 ++ v) (his : ab_is D cl A H0 sa dT nL vs hs S.1 S.2.1 S.2.2.1 S.2.2.2.1 S.2.2.2.2.1 ls sv H locs) : ∃ (vs' : List Int32) (hs' : List Nat), (∃ v, vs' = vs0 ++ v) ∧ (∃ v, hs' = hs0 ++ v) ∧ ab_is D cl A H0 sa dT nL vs' hs' C.1 C.2.1 C.2.2.1 C.2.2.2.1 C.2.2.2.2.1 ls sv H locs := by
  unfold ab_mtS at h
  generalize ab_un (ab_idL vs0.length, ab_idL hs0.length) C.1.length C.2.1 C.2.2.1 (C.2.2.2.1.map (fun q => q.2) ++ C.2.2.2.2.1) S.2.2.1 (C.2.2.2.1.map (fun q => (ab_lk S.2.2.2.1 q.1).getD (9, 0)) ++ S.2.2.2.2.1) = q at h
  obtain ⟨σ, π⟩ := q
  dsimp only at h
  unfold ab_mt2 at h
  simp only [Bool.and_eq_true, decide_eq_true_eq, List.all_eq_true] at h
  obtain ⟨c1, c0, c2, c3, c4, c5, c6, c7, c8, c9⟩ := h
  obtain ⟨h1, h2, h3, h4, ws, h5, h6, h7, h8⟩ := his
  obtain ⟨e1, l1⟩ := ab_ek_ok h1 c1
  obtain ⟨d1, d2, d3⟩ := ab_ck_ok h5 c3
  refine ⟨ab_pk 0 vs σ, ab_pk 0 hs π, ab_pk_px hv c4, ab_pk_px hh c5, e1, by simp [ab_pk, c0], ⟨⟨h3.1.1, h3.1.2.1, fun q hq => ?_⟩, fun q hq => ?_⟩, ab_su_dnL (by rw [c6]; exact h4), _, d3, ab_P_pw h6 d2, h7.sub _ d1 d2, h8⟩
  · obtain ⟨r, hr, rfl⟩ := List.mem_map.mp hq
    obtain ⟨v, hv1, hv2⟩ := ab_l_get h3 (c7 r hr)
    rw [ab_su_dn hv1]
    exact hv2
  · obtain ⟨v, hv1, hv2⟩ := ab_l_get h3 (c7 q hq)
    exact ⟨v, ab_su_dn hv1⟩
set_option maxHeartbeats 4000000 in
theorem lx_loop (C0 : lw_At p s m meth c b L xs) (hL : L ≤ 3584) (hTc : ∀ w ∈ nTc, w.before #[Value.ref b] s = true) (hK : va_K D nCl (ab_tys dT nRn) s) (SX : ab_SX nRn nSL nNF nNM sa (fun q => s.heap.size ≤ q) s s.heap) :
    ∀ (n : Nat) (vs : List Int32) (hs : List Nat) (ls : Array Slot) (H : Heap) (locs : List Loc) (i : Int32), (∃ h, hs = [b] ++ h) → ab_is D nCl (fun q => s.heap.size ≤ q) s.heap sa dT 4 vs hs lwJ.1 lwJ.2.1 lwJ.2.2.1 lwJ.2.2.2.1 [] ls []  H locs → ls[3]? = some (.val (.int i)) → (L : Int) ≤ i.toInt + (n : Int) → W p l e room_1 s m #[Value.ref b] below meth c H locs lwJ.2.2.2.2.2.1 lwJ.2.2.2.2.2.2 (lw_Z below #[Value.ref b] s) (F0 m 18 ls []) := by
  have X : ab_X p s m #[Value.ref b] c code "LevelMachineLaw" 4 D nCl (ab_tys dT nRn) (fun q => s.heap.size ≤ q) nTc := ⟨C0.1, C0.2.1, C0.2.2.2.1, C0.2.2.2.2.1, hTc, hK, fun _ h => h⟩
  obtain ⟨t1, t2, t3, t4, t5, t6, t7, t8, t9⟩ := tB5 s _ hTc SX.2.1 SX.2.2.1
  have hbl := C0.2.2.2.2.2.2.2.1
  have hA : ¬ s.heap.size ≤ b := by omega
  intro n
  induction n with
  | zero =>
    intro vs hs ls H locs i hh his hi hm
    obtain ⟨w, h1, h2⟩ := ab_l_get his.2.2.1 (i := 0) (a := (1, 0)) rfl
    obtain ⟨q, h3, rfl⟩ := ab_cv1 h1
    obtain ⟨v2, rfl⟩ := hh
    have e1 : ([b] ++ v2)[0]? = some b := rfl
    rw [h3] at e1
    cases e1
    obtain ⟨ws, k5, k6, k7, hS⟩ := id his.2.2.2.2
    refine lx_head C0 (by omega) hS (by decide) h2 hi (fun hle => ?_)
    omega
  | succ n ih =>
    intro vs hs ls H locs i hh his hi hm
    obtain ⟨w, h1, h2⟩ := ab_l_get his.2.2.1 (i := 0) (a := (1, 0)) rfl
    obtain ⟨q, h3, rfl⟩ := ab_cv1 h1
    obtain ⟨w2, h4, h5⟩ := ab_l_get his.2.2.1 (i := 3) (a := (0, 88)) rfl
    obtain ⟨x, h6, rfl⟩ := ab_cv0 h4
    have e3 : x = i := by
      rw [hi] at h5
      cases h5
      rfl
    subst e3
    obtain ⟨v2, rfl⟩ := hh
    have e1 : ([b] ++ v2)[0]? = some b := rfl
    rw [h3] at e1
    cases e1
    obtain ⟨ws, k5, k6, k7, hS⟩ := id his.2.2.2.2
    have hx0 : 0 ≤ x.toInt := (his.1.2 88 (0, 3584) x rfl h6).1
    refine lx_head C0 (by omega) hS (by decide) h2 hi (fun hle => ?_)
    have hlen : vs.length = 89 := his.1.1
    have hnl : ([b] ++ v2).length = 28 := his.2.1
    have hwl : (vs ++ [xs (x.toNatClampNeg + 0), xs (x.toNatClampNeg + 1), xs (x.toNatClampNeg + 2), xs (x.toNatClampNeg + 3), xs (x.toNatClampNeg + 4), xs (x.toNatClampNeg + 5), xs (x.toNatClampNeg + 6)]).length = 96 := by rw [List.length_append, hlen]; rfl
    have hwin : ∀ d : Nat, d < 7 → (vs ++ [xs (x.toNatClampNeg + 0), xs (x.toNatClampNeg + 1), xs (x.toNatClampNeg + 2), xs (x.toNatClampNeg + 3), xs (x.toNatClampNeg + 4), xs (x.toNatClampNeg + 5), xs (x.toNatClampNeg + 6)])[89 + d]? = some (xs (x.toNatClampNeg + d)) := by
      intro d hd
      rw [List.getElem?_append_right (by omega)]
      have : 89 + d - vs.length = d := by omega
      rw [this]
      match d, hd with
      | 0, _ => rfl
      | 1, _ => rfl
      | 2, _ => rfl
      | 3, _ => rfl
      | 4, _ => rfl
      | 5, _ => rfl
      | 6, _ => rfl
      | d + 7, hd => omega
    have m3 := ab_l_mono [xs (x.toNatClampNeg + 0), xs (x.toNatClampNeg + 1), xs (x.toNatClampNeg + 2), xs (x.toNatClampNeg + 3), xs (x.toNatClampNeg + 4), xs (x.toNatClampNeg + 5), xs (x.toNatClampNeg + 6)] [] his.2.2.1
    have m5 := ab_w_mono [xs (x.toNatClampNeg + 0), xs (x.toNatClampNeg + 1), xs (x.toNatClampNeg + 2), xs (x.toNatClampNeg + 3), xs (x.toNatClampNeg + 4), xs (x.toNatClampNeg + 5), xs (x.toNatClampNeg + 6)] [] k5
    rw [List.append_nil] at m3 m5
    have me : ab_e lwB.1 (vs ++ [xs (x.toNatClampNeg + 0), xs (x.toNatClampNeg + 1), xs (x.toNatClampNeg + 2), xs (x.toNatClampNeg + 3), xs (x.toNatClampNeg + 4), xs (x.toNatClampNeg + 5), xs (x.toNatClampNeg + 6)]) := by
      have := ab_e_set (ab_e_app his.1 (F := List.replicate 7 (-2147483648, 2147483647)) (ws := [xs (x.toNatClampNeg + 0), xs (x.toNatClampNeg + 1), xs (x.toNatClampNeg + 2), xs (x.toNatClampNeg + 3), xs (x.toNatClampNeg + 4), xs (x.toNatClampNeg + 5), xs (x.toNatClampNeg + 6)]) ⟨rfl, fun k i2 y a1 a2 => by
        rw [(List.mem_replicate.mp (List.mem_of_getElem? a1)).2]
        exact ab_full y⟩) 88 (i := (0, 3577)) (fun z hz => by
          rw [ab_app _ h6] at hz
          cases hz
          exact ⟨hx0, by dsimp only; omega⟩)
      exact this
    generalize hVe : vs ++ [xs (x.toNatClampNeg + 0), xs (x.toNatClampNeg + 1), xs (x.toNatClampNeg + 2), xs (x.toNatClampNeg + 3), xs (x.toNatClampNeg + 4), xs (x.toNatClampNeg + 5), xs (x.toNatClampNeg + 6)] = V at hwin hwl m3 m5 me
    have h6V : V[88]? = some x := by rw [← hVe]; exact ab_app _ h6
    generalize hNe : [b] ++ v2 = NN at h3 hnl m3 m5
    have gC : ab_G p l e room_1 s m #[Value.ref b] below meth c (lw_Z below #[Value.ref b] s) D nCl (fun q => s.heap.size ≤ q) sa dT 4 V NN 389 lwC.1 lwC.2.1 lwC.2.2.1 lwC.2.2.2.1 lwC.2.2.2.2.1 lwC.2.2.2.2.2.1 lwC.2.2.2.2.2.2 := by
      intro vs2 hs2 ls2 sv2 H2 locs2 hv2 hh2 his2
      obtain ⟨w3, j4, j5⟩ := ab_l_get his2.2.2.1 (i := 3) (a := (0, 88)) rfl
      obtain ⟨x2, j6, rfl⟩ := ab_cv0 j4
      have hsv := lx_sv his2.2.2.2.1
      obtain ⟨u1, rfl⟩ := hv2
      obtain ⟨u2, rfl⟩ := hh2
      have e2 := ab_app u1 h6V
      rw [j6] at e2
      cases e2
      subst hsv
      have e7 : (Int32.ofInt 7).toInt = 7 := by rw [Int32.toInt_ofInt]; exact ab_bm (by omega) (by omega)
      have e8 : (x + Int32.ofInt 7).toInt = x.toInt + 7 := by
        rw [Int32.toInt_add, e7]
        exact ab_bm (by omega) (by omega)
      have his3 := ab_grow (i := (7, 3584)) (x := x + Int32.ofInt 7) his2 ⟨by rw [e8]; dsimp only; omega, by rw [e8]; dsimp only; omega⟩
      have j7 := ab_mono [x + Int32.ofInt 7] [] j4
      rw [List.append_nil] at j7
      have j8 : ab_cv sa (V ++ u1 ++ [x + Int32.ofInt 7]) (NN ++ u2) (0, 184) = some (.int (x + Int32.ofInt 7)) := ab_cv0' (by
        have : (V ++ u1).length = 184 := his2.1.1
        rw [← this]
        exact ab_end _ _)
      refine lv_iinc (k := 3) (x := x) C0.1 C0.2.1 lx_dI his3.2.2.1.1 (by show some (3, (ab_cv sa (V ++ u1 ++ [x + Int32.ofInt 7]) (NN ++ u2) (0, 88)).getD .null) = some (3, Value.int x); rw [j7]; rfl) rfl (by decide) rfl (fun ls' h' => ?_)
      refine lv_goto C0.1 C0.2.1 lx_dG (tgt := 18) (by decide) ?_
      have hl' := ab_l_set his3.2.2.1 j8 h'
      have g3 := h'.2.2 (3, .int (x + Int32.ofInt 7)) List.mem_cons_self
      have hisS : ab_is D nCl (fun q => s.heap.size ≤ q) s.heap sa dT 4 (V ++ u1 ++ [x + Int32.ofInt 7]) (NN ++ u2) lwS.1 lwS.2.1 lwS.2.2.1 lwS.2.2.2.1 lwS.2.2.2.2.1 ls' [] H2 locs2 := ⟨his3.1, his3.2.1, hl', rfl, his3.2.2.2.2⟩
      obtain ⟨vs', hs', p1, p2, p3⟩ := ab_mt_is (vs0 := []) (hs0 := [b]) lwSJ ⟨_, rfl⟩ ⟨v2 ++ u2, by rw [← hNe, List.append_assoc]⟩ hisS
      exact ih vs' hs' ls' H2 locs2 (x + Int32.ofInt 7) p2 p3 g3 (by rw [e8]; omega)
    have hlx : ∀ (pc : Nat) (S : ab_S) (r : List (Nat × ab_S)), ab_lx 88 89 pgL pc S = some r → (∀ q ∈ r, ab_G p l e room_1 s m #[Value.ref b] below meth c (lw_Z below #[Value.ref b] s) D nCl (fun q => s.heap.size ≤ q) sa dT 4 V NN q.1 q.2.1 q.2.2.1 q.2.2.2.1 q.2.2.2.2.1 q.2.2.2.2.2.1 q.2.2.2.2.2.2.1 q.2.2.2.2.2.2.2) → ab_G p l e room_1 s m #[Value.ref b] below meth c (lw_Z below #[Value.ref b] s) D nCl (fun q => s.heap.size ≤ q) sa dT 4 V NN pc S.1 S.2.1 S.2.2.1 S.2.2.2.1 S.2.2.2.2.1 S.2.2.2.2.2.1 S.2.2.2.2.2.2 := fun pc S r h hg => ab_lx_ok (i := x) X pgL_ok C0.2.2.2.2.2.2.1 hbl hA h3 h6V (by omega) (by omega) (by omega) hwin S r h hg
    have hfC : ∀ (pc : Nat) (S : ab_S), (decide (pc = 389) && ab_mtS 96 28 lwC S) = true → ab_G p l e room_1 s m #[Value.ref b] below meth c (lw_Z below #[Value.ref b] s) D nCl (fun q => s.heap.size ≤ q) sa dT 4 V NN pc S.1 S.2.1 S.2.2.1 S.2.2.2.1 S.2.2.2.2.1 S.2.2.2.2.2.1 S.2.2.2.2.2.2 := by
      intro pc S hf
      rw [Bool.and_eq_true, decide_eq_true_eq] at hf
      obtain ⟨rfl, hf⟩ := hf
      exact ab_cutG (by rw [hwl, hnl]; exact hf) gC
    have hfD : ∀ cs : List (Nat × ab_S), (∀ d ∈ cs, ab_G p l e room_1 s m #[Value.ref b] below meth c (lw_Z below #[Value.ref b] s) D nCl (fun q => s.heap.size ≤ q) sa dT 4 V NN d.1 d.2.1 d.2.2.1 d.2.2.2.1 d.2.2.2.2.1 d.2.2.2.2.2.1 d.2.2.2.2.2.2.1 d.2.2.2.2.2.2.2) → ∀ (pc : Nat) (S : ab_S), cs.any (fun d => decide (d.1 = pc) && ab_mtS 96 28 d.2 S) = true → ab_G p l e room_1 s m #[Value.ref b] below meth c (lw_Z below #[Value.ref b] s) D nCl (fun q => s.heap.size ≤ q) sa dT 4 V NN pc S.1 S.2.1 S.2.2.1 S.2.2.2.1 S.2.2.2.2.1 S.2.2.2.2.2.1 S.2.2.2.2.2.2 := by
      intro cs hcs pc S hf
      obtain ⟨d, hd1, hd2⟩ := List.any_eq_true.mp hf
      rw [Bool.and_eq_true, decide_eq_true_eq] at hd2
      obtain ⟨rfl, hd2⟩ := hd2
      exact ab_cutG (by rw [hwl, hnl]; exact hd2) (hcs d hd1)
    have g0 : ab_G p l e room_1 s m #[Value.ref b] below meth c (lw_Z below #[Value.ref b] s) D nCl (fun q => s.heap.size ≤ q) sa dT 4 V NN 84 lwB.1 lwB.2.1 lwB.2.2.1 lwB.2.2.2.1 lwB.2.2.2.2.1 lwB.2.2.2.2.2.1 lwB.2.2.2.2.2.2 := ab_ai_ok (l := l) (e := e) (below := below) (meth := meth) (R := room_1) (Q := lw_Z below #[Value.ref b] s) (vs0 := V) (hs0 := NN) X SX (ini := false) (fun h => absurd h (by decide)) t1 t2 t3 t4 t5 t6 t7 t8 (lwEO0 l) t9 pgL_ok hlx hfC 14 84 lwB lwRun0
    have g1 : ab_G p l e room_1 s m #[Value.ref b] below meth c (lw_Z below #[Value.ref b] s) D nCl (fun q => s.heap.size ≤ q) sa dT 4 V NN 117 lwB.1 lwB.2.1 lwB.2.2.1 lwB.2.2.2.1 lwB.2.2.2.2.1 lwB.2.2.2.2.2.1 lwB.2.2.2.2.2.2 := ab_ai_ok (l := l) (e := e) (below := below) (meth := meth) (R := room_1) (Q := lw_Z below #[Value.ref b] s) (vs0 := V) (hs0 := NN) X SX (ini := false) (fun h => absurd h (by decide)) t1 t2 t3 t4 t5 t6 t7 t8 (lwEO1 l) t9 pgL_ok hlx hfC 12 117 lwB lwRun1
    have g2_0 : ab_G p l e room_1 s m #[Value.ref b] below meth c (lw_Z below #[Value.ref b] s) D nCl (fun q => s.heap.size ≤ q) sa dT 4 V NN 183 lwD2_0.1 lwD2_0.2.1 lwD2_0.2.2.1 lwD2_0.2.2.2.1 lwD2_0.2.2.2.2.1 lwD2_0.2.2.2.2.2.1 lwD2_0.2.2.2.2.2.2 := ab_ai_ok (l := l) (e := e) (below := below) (meth := meth) (R := room_1) (Q := lw_Z below #[Value.ref b] s) (vs0 := V) (hs0 := NN) X SX (ini := false) (fun h => absurd h (by decide)) t1 t2 t3 t4 t5 t6 t7 t8 (lwEO2 l) t9 pgL_ok hlx hfC 15 183 lwD2_0 lwRun2_0
    have g2_1 : ab_G p l e room_1 s m #[Value.ref b] below meth c (lw_Z below #[Value.ref b] s) D nCl (fun q => s.heap.size ≤ q) sa dT 4 V NN 183 lwD2_1.1 lwD2_1.2.1 lwD2_1.2.2.1 lwD2_1.2.2.2.1 lwD2_1.2.2.2.2.1 lwD2_1.2.2.2.2.2.1 lwD2_1.2.2.2.2.2.2 := ab_ai_ok (l := l) (e := e) (below := below) (meth := meth) (R := room_1) (Q := lw_Z below #[Value.ref b] s) (vs0 := V) (hs0 := NN) X SX (ini := false) (fun h => absurd h (by decide)) t1 t2 t3 t4 t5 t6 t7 t8 (lwEO2 l) t9 pgL_ok hlx hfC 15 183 lwD2_1 lwRun2_1
    have g2_2 : ab_G p l e room_1 s m #[Value.ref b] below meth c (lw_Z below #[Value.ref b] s) D nCl (fun q => s.heap.size ≤ q) sa dT 4 V NN 183 lwD2_2.1 lwD2_2.2.1 lwD2_2.2.2.1 lwD2_2.2.2.2.1 lwD2_2.2.2.2.2.1 lwD2_2.2.2.2.2.2.1 lwD2_2.2.2.2.2.2.2 := ab_ai_ok (l := l) (e := e) (below := below) (meth := meth) (R := room_1) (Q := lw_Z below #[Value.ref b] s) (vs0 := V) (hs0 := NN) X SX (ini := false) (fun h => absurd h (by decide)) t1 t2 t3 t4 t5 t6 t7 t8 (lwEO2 l) t9 pgL_ok hlx hfC 15 183 lwD2_2 lwRun2_2
    have g2_3 : ab_G p l e room_1 s m #[Value.ref b] below meth c (lw_Z below #[Value.ref b] s) D nCl (fun q => s.heap.size ≤ q) sa dT 4 V NN 183 lwD2_3.1 lwD2_3.2.1 lwD2_3.2.2.1 lwD2_3.2.2.2.1 lwD2_3.2.2.2.2.1 lwD2_3.2.2.2.2.2.1 lwD2_3.2.2.2.2.2.2 := ab_ai_ok (l := l) (e := e) (below := below) (meth := meth) (R := room_1) (Q := lw_Z below #[Value.ref b] s) (vs0 := V) (hs0 := NN) X SX (ini := false) (fun h => absurd h (by decide)) t1 t2 t3 t4 t5 t6 t7 t8 (lwEO2 l) t9 pgL_ok hlx hfC 15 183 lwD2_3 lwRun2_3
    have g2_4 : ab_G p l e room_1 s m #[Value.ref b] below meth c (lw_Z below #[Value.ref b] s) D nCl (fun q => s.heap.size ≤ q) sa dT 4 V NN 183 lwD2_4.1 lwD2_4.2.1 lwD2_4.2.2.1 lwD2_4.2.2.2.1 lwD2_4.2.2.2.2.1 lwD2_4.2.2.2.2.2.1 lwD2_4.2.2.2.2.2.2 := ab_ai_ok (l := l) (e := e) (below := below) (meth := meth) (R := room_1) (Q := lw_Z below #[Value.ref b] s) (vs0 := V) (hs0 := NN) X SX (ini := false) (fun h => absurd h (by decide)) t1 t2 t3 t4 t5 t6 t7 t8 (lwEO2 l) t9 pgL_ok hlx hfC 15 183 lwD2_4 lwRun2_4
    have g2_5 : ab_G p l e room_1 s m #[Value.ref b] below meth c (lw_Z below #[Value.ref b] s) D nCl (fun q => s.heap.size ≤ q) sa dT 4 V NN 183 lwD2_5.1 lwD2_5.2.1 lwD2_5.2.2.1 lwD2_5.2.2.2.1 lwD2_5.2.2.2.2.1 lwD2_5.2.2.2.2.2.1 lwD2_5.2.2.2.2.2.2 := ab_ai_ok (l := l) (e := e) (below := below) (meth := meth) (R := room_1) (Q := lw_Z below #[Value.ref b] s) (vs0 := V) (hs0 := NN) X SX (ini := false) (fun h => absurd h (by decide)) t1 t2 t3 t4 t5 t6 t7 t8 (lwEO2 l) t9 pgL_ok hlx hfC 15 183 lwD2_5 lwRun2_5
    have g2_6 : ab_G p l e room_1 s m #[Value.ref b] below meth c (lw_Z below #[Value.ref b] s) D nCl (fun q => s.heap.size ≤ q) sa dT 4 V NN 183 lwD2_6.1 lwD2_6.2.1 lwD2_6.2.2.1 lwD2_6.2.2.2.1 lwD2_6.2.2.2.2.1 lwD2_6.2.2.2.2.2.1 lwD2_6.2.2.2.2.2.2 := ab_ai_ok (l := l) (e := e) (below := below) (meth := meth) (R := room_1) (Q := lw_Z below #[Value.ref b] s) (vs0 := V) (hs0 := NN) X SX (ini := false) (fun h => absurd h (by decide)) t1 t2 t3 t4 t5 t6 t7 t8 (lwEO2 l) t9 pgL_ok hlx hfC 15 183 lwD2_6 lwRun2_6
    have g2_7 : ab_G p l e room_1 s m #[Value.ref b] below meth c (lw_Z below #[Value.ref b] s) D nCl (fun q => s.heap.size ≤ q) sa dT 4 V NN 183 lwD2_7.1 lwD2_7.2.1 lwD2_7.2.2.1 lwD2_7.2.2.2.1 lwD2_7.2.2.2.2.1 lwD2_7.2.2.2.2.2.1 lwD2_7.2.2.2.2.2.2 := ab_ai_ok (l := l) (e := e) (below := below) (meth := meth) (R := room_1) (Q := lw_Z below #[Value.ref b] s) (vs0 := V) (hs0 := NN) X SX (ini := false) (fun h => absurd h (by decide)) t1 t2 t3 t4 t5 t6 t7 t8 (lwEO2 l) t9 pgL_ok hlx hfC 15 183 lwD2_7 lwRun2_7
    have g2_8 : ab_G p l e room_1 s m #[Value.ref b] below meth c (lw_Z below #[Value.ref b] s) D nCl (fun q => s.heap.size ≤ q) sa dT 4 V NN 183 lwD2_8.1 lwD2_8.2.1 lwD2_8.2.2.1 lwD2_8.2.2.2.1 lwD2_8.2.2.2.2.1 lwD2_8.2.2.2.2.2.1 lwD2_8.2.2.2.2.2.2 := ab_ai_ok (l := l) (e := e) (below := below) (meth := meth) (R := room_1) (Q := lw_Z below #[Value.ref b] s) (vs0 := V) (hs0 := NN) X SX (ini := false) (fun h => absurd h (by decide)) t1 t2 t3 t4 t5 t6 t7 t8 (lwEO2 l) t9 pgL_ok hlx hfC 15 183 lwD2_8 lwRun2_8
    have g2_9 : ab_G p l e room_1 s m #[Value.ref b] below meth c (lw_Z below #[Value.ref b] s) D nCl (fun q => s.heap.size ≤ q) sa dT 4 V NN 183 lwD2_9.1 lwD2_9.2.1 lwD2_9.2.2.1 lwD2_9.2.2.2.1 lwD2_9.2.2.2.2.1 lwD2_9.2.2.2.2.2.1 lwD2_9.2.2.2.2.2.2 := ab_ai_ok (l := l) (e := e) (below := below) (meth := meth) (R := room_1) (Q := lw_Z below #[Value.ref b] s) (vs0 := V) (hs0 := NN) X SX (ini := false) (fun h => absurd h (by decide)) t1 t2 t3 t4 t5 t6 t7 t8 (lwEO2 l) t9 pgL_ok hlx hfC 15 183 lwD2_9 lwRun2_9
    have g2_10 : ab_G p l e room_1 s m #[Value.ref b] below meth c (lw_Z below #[Value.ref b] s) D nCl (fun q => s.heap.size ≤ q) sa dT 4 V NN 183 lwD2_10.1 lwD2_10.2.1 lwD2_10.2.2.1 lwD2_10.2.2.2.1 lwD2_10.2.2.2.2.1 lwD2_10.2.2.2.2.2.1 lwD2_10.2.2.2.2.2.2 := ab_ai_ok (l := l) (e := e) (below := below) (meth := meth) (R := room_1) (Q := lw_Z below #[Value.ref b] s) (vs0 := V) (hs0 := NN) X SX (ini := false) (fun h => absurd h (by decide)) t1 t2 t3 t4 t5 t6 t7 t8 (lwEO2 l) t9 pgL_ok hlx hfC 15 183 lwD2_10 lwRun2_10
    have g2_11 : ab_G p l e room_1 s m #[Value.ref b] below meth c (lw_Z below #[Value.ref b] s) D nCl (fun q => s.heap.size ≤ q) sa dT 4 V NN 183 lwD2_11.1 lwD2_11.2.1 lwD2_11.2.2.1 lwD2_11.2.2.2.1 lwD2_11.2.2.2.2.1 lwD2_11.2.2.2.2.2.1 lwD2_11.2.2.2.2.2.2 := ab_ai_ok (l := l) (e := e) (below := below) (meth := meth) (R := room_1) (Q := lw_Z below #[Value.ref b] s) (vs0 := V) (hs0 := NN) X SX (ini := false) (fun h => absurd h (by decide)) t1 t2 t3 t4 t5 t6 t7 t8 (lwEO2 l) t9 pgL_ok hlx hfC 14 183 lwD2_11 lwRun2_11
    have g2_12 : ab_G p l e room_1 s m #[Value.ref b] below meth c (lw_Z below #[Value.ref b] s) D nCl (fun q => s.heap.size ≤ q) sa dT 4 V NN 183 lwD2_12.1 lwD2_12.2.1 lwD2_12.2.2.1 lwD2_12.2.2.2.1 lwD2_12.2.2.2.2.1 lwD2_12.2.2.2.2.2.1 lwD2_12.2.2.2.2.2.2 := ab_ai_ok (l := l) (e := e) (below := below) (meth := meth) (R := room_1) (Q := lw_Z below #[Value.ref b] s) (vs0 := V) (hs0 := NN) X SX (ini := false) (fun h => absurd h (by decide)) t1 t2 t3 t4 t5 t6 t7 t8 (lwEO2 l) t9 pgL_ok hlx hfC 14 183 lwD2_12 lwRun2_12
    have g2_13 : ab_G p l e room_1 s m #[Value.ref b] below meth c (lw_Z below #[Value.ref b] s) D nCl (fun q => s.heap.size ≤ q) sa dT 4 V NN 183 lwD2_13.1 lwD2_13.2.1 lwD2_13.2.2.1 lwD2_13.2.2.2.1 lwD2_13.2.2.2.2.1 lwD2_13.2.2.2.2.2.1 lwD2_13.2.2.2.2.2.2 := ab_ai_ok (l := l) (e := e) (below := below) (meth := meth) (R := room_1) (Q := lw_Z below #[Value.ref b] s) (vs0 := V) (hs0 := NN) X SX (ini := false) (fun h => absurd h (by decide)) t1 t2 t3 t4 t5 t6 t7 t8 (lwEO2 l) t9 pgL_ok hlx hfC 14 183 lwD2_13 lwRun2_13
    have g2_14 : ab_G p l e room_1 s m #[Value.ref b] below meth c (lw_Z below #[Value.ref b] s) D nCl (fun q => s.heap.size ≤ q) sa dT 4 V NN 183 lwD2_14.1 lwD2_14.2.1 lwD2_14.2.2.1 lwD2_14.2.2.2.1 lwD2_14.2.2.2.2.1 lwD2_14.2.2.2.2.2.1 lwD2_14.2.2.2.2.2.2 := ab_ai_ok (l := l) (e := e) (below := below) (meth := meth) (R := room_1) (Q := lw_Z below #[Value.ref b] s) (vs0 := V) (hs0 := NN) X SX (ini := false) (fun h => absurd h (by decide)) t1 t2 t3 t4 t5 t6 t7 t8 (lwEO2 l) t9 pgL_ok hlx hfC 14 183 lwD2_14 lwRun2_14
    have g2_15 : ab_G p l e room_1 s m #[Value.ref b] below meth c (lw_Z below #[Value.ref b] s) D nCl (fun q => s.heap.size ≤ q) sa dT 4 V NN 183 lwD2_15.1 lwD2_15.2.1 lwD2_15.2.2.1 lwD2_15.2.2.2.1 lwD2_15.2.2.2.2.1 lwD2_15.2.2.2.2.2.1 lwD2_15.2.2.2.2.2.2 := ab_ai_ok (l := l) (e := e) (below := below) (meth := meth) (R := room_1) (Q := lw_Z below #[Value.ref b] s) (vs0 := V) (hs0 := NN) X SX (ini := false) (fun h => absurd h (by decide)) t1 t2 t3 t4 t5 t6 t7 t8 (lwEO2 l) t9 pgL_ok hlx hfC 14 183 lwD2_15 lwRun2_15
    have g2_16 : ab_G p l e room_1 s m #[Value.ref b] below meth c (lw_Z below #[Value.ref b] s) D nCl (fun q => s.heap.size ≤ q) sa dT 4 V NN 183 lwD2_16.1 lwD2_16.2.1 lwD2_16.2.2.1 lwD2_16.2.2.2.1 lwD2_16.2.2.2.2.1 lwD2_16.2.2.2.2.2.1 lwD2_16.2.2.2.2.2.2 := ab_ai_ok (l := l) (e := e) (below := below) (meth := meth) (R := room_1) (Q := lw_Z below #[Value.ref b] s) (vs0 := V) (hs0 := NN) X SX (ini := false) (fun h => absurd h (by decide)) t1 t2 t3 t4 t5 t6 t7 t8 (lwEO2 l) t9 pgL_ok hlx hfC 14 183 lwD2_16 lwRun2_16
    have g2_17 : ab_G p l e room_1 s m #[Value.ref b] below meth c (lw_Z below #[Value.ref b] s) D nCl (fun q => s.heap.size ≤ q) sa dT 4 V NN 183 lwD2_17.1 lwD2_17.2.1 lwD2_17.2.2.1 lwD2_17.2.2.2.1 lwD2_17.2.2.2.2.1 lwD2_17.2.2.2.2.2.1 lwD2_17.2.2.2.2.2.2 := ab_ai_ok (l := l) (e := e) (below := below) (meth := meth) (R := room_1) (Q := lw_Z below #[Value.ref b] s) (vs0 := V) (hs0 := NN) X SX (ini := false) (fun h => absurd h (by decide)) t1 t2 t3 t4 t5 t6 t7 t8 (lwEO2 l) t9 pgL_ok hlx hfC 14 183 lwD2_17 lwRun2_17
    have g2_18 : ab_G p l e room_1 s m #[Value.ref b] below meth c (lw_Z below #[Value.ref b] s) D nCl (fun q => s.heap.size ≤ q) sa dT 4 V NN 183 lwD2_18.1 lwD2_18.2.1 lwD2_18.2.2.1 lwD2_18.2.2.2.1 lwD2_18.2.2.2.2.1 lwD2_18.2.2.2.2.2.1 lwD2_18.2.2.2.2.2.2 := ab_ai_ok (l := l) (e := e) (below := below) (meth := meth) (R := room_1) (Q := lw_Z below #[Value.ref b] s) (vs0 := V) (hs0 := NN) X SX (ini := false) (fun h => absurd h (by decide)) t1 t2 t3 t4 t5 t6 t7 t8 (lwEO2 l) t9 pgL_ok hlx hfC 14 183 lwD2_18 lwRun2_18
    have g2_19 : ab_G p l e room_1 s m #[Value.ref b] below meth c (lw_Z below #[Value.ref b] s) D nCl (fun q => s.heap.size ≤ q) sa dT 4 V NN 183 lwD2_19.1 lwD2_19.2.1 lwD2_19.2.2.1 lwD2_19.2.2.2.1 lwD2_19.2.2.2.2.1 lwD2_19.2.2.2.2.2.1 lwD2_19.2.2.2.2.2.2 := ab_ai_ok (l := l) (e := e) (below := below) (meth := meth) (R := room_1) (Q := lw_Z below #[Value.ref b] s) (vs0 := V) (hs0 := NN) X SX (ini := false) (fun h => absurd h (by decide)) t1 t2 t3 t4 t5 t6 t7 t8 (lwEO2 l) t9 pgL_ok hlx hfC 14 183 lwD2_19 lwRun2_19
    have g2_20 : ab_G p l e room_1 s m #[Value.ref b] below meth c (lw_Z below #[Value.ref b] s) D nCl (fun q => s.heap.size ≤ q) sa dT 4 V NN 183 lwD2_20.1 lwD2_20.2.1 lwD2_20.2.2.1 lwD2_20.2.2.2.1 lwD2_20.2.2.2.2.1 lwD2_20.2.2.2.2.2.1 lwD2_20.2.2.2.2.2.2 := ab_ai_ok (l := l) (e := e) (below := below) (meth := meth) (R := room_1) (Q := lw_Z below #[Value.ref b] s) (vs0 := V) (hs0 := NN) X SX (ini := false) (fun h => absurd h (by decide)) t1 t2 t3 t4 t5 t6 t7 t8 (lwEO2 l) t9 pgL_ok hlx hfC 14 183 lwD2_20 lwRun2_20
    have g2_21 : ab_G p l e room_1 s m #[Value.ref b] below meth c (lw_Z below #[Value.ref b] s) D nCl (fun q => s.heap.size ≤ q) sa dT 4 V NN 183 lwD2_21.1 lwD2_21.2.1 lwD2_21.2.2.1 lwD2_21.2.2.2.1 lwD2_21.2.2.2.2.1 lwD2_21.2.2.2.2.2.1 lwD2_21.2.2.2.2.2.2 := ab_ai_ok (l := l) (e := e) (below := below) (meth := meth) (R := room_1) (Q := lw_Z below #[Value.ref b] s) (vs0 := V) (hs0 := NN) X SX (ini := false) (fun h => absurd h (by decide)) t1 t2 t3 t4 t5 t6 t7 t8 (lwEO2 l) t9 pgL_ok hlx hfC 14 183 lwD2_21 lwRun2_21
    have hc2 : ∀ d ∈ lwCut2, ab_G p l e room_1 s m #[Value.ref b] below meth c (lw_Z below #[Value.ref b] s) D nCl (fun q => s.heap.size ≤ q) sa dT 4 V NN d.1 d.2.1 d.2.2.1 d.2.2.2.1 d.2.2.2.2.1 d.2.2.2.2.2.1 d.2.2.2.2.2.2.1 d.2.2.2.2.2.2.2 := ab_mc g2_0 (ab_mc g2_1 (ab_mc g2_2 (ab_mc g2_3 (ab_mc g2_4 (ab_mc g2_5 (ab_mc g2_6 (ab_mc g2_7 (ab_mc g2_8 (ab_mc g2_9 (ab_mc g2_10 (ab_mc g2_11 (ab_mc g2_12 (ab_mc g2_13 (ab_mc g2_14 (ab_mc g2_15 (ab_mc g2_16 (ab_mc g2_17 (ab_mc g2_18 (ab_mc g2_19 (ab_mc g2_20 (ab_mc g2_21 (ab_mn))))))))))))))))))))))
    have g2 : ab_G p l e room_1 s m #[Value.ref b] below meth c (lw_Z below #[Value.ref b] s) D nCl (fun q => s.heap.size ≤ q) sa dT 4 V NN 140 lwB.1 lwB.2.1 lwB.2.2.1 lwB.2.2.2.1 lwB.2.2.2.2.1 lwB.2.2.2.2.2.1 lwB.2.2.2.2.2.2 := ab_ai_ok (l := l) (e := e) (below := below) (meth := meth) (R := room_1) (Q := lw_Z below #[Value.ref b] s) (vs0 := V) (hs0 := NN) X SX (ini := false) (fun h => absurd h (by decide)) t1 t2 t3 t4 t5 t6 t7 t8 (lwEO2 l) t9 pgL_ok hlx (hfD _ hc2) 14 140 lwB lwRun2
    have g3 : ab_G p l e room_1 s m #[Value.ref b] below meth c (lw_Z below #[Value.ref b] s) D nCl (fun q => s.heap.size ≤ q) sa dT 4 V NN 231 lwB.1 lwB.2.1 lwB.2.2.1 lwB.2.2.2.1 lwB.2.2.2.2.1 lwB.2.2.2.2.2.1 lwB.2.2.2.2.2.2 := ab_ai_ok (l := l) (e := e) (below := below) (meth := meth) (R := room_1) (Q := lw_Z below #[Value.ref b] s) (vs0 := V) (hs0 := NN) X SX (ini := false) (fun h => absurd h (by decide)) t1 t2 t3 t4 t5 t6 t7 t8 (lwEO3 l) t9 pgL_ok hlx hfC 14 231 lwB lwRun3
    have g4_0 : ab_G p l e room_1 s m #[Value.ref b] below meth c (lw_Z below #[Value.ref b] s) D nCl (fun q => s.heap.size ≤ q) sa dT 4 V NN 279 lwD4_0.1 lwD4_0.2.1 lwD4_0.2.2.1 lwD4_0.2.2.2.1 lwD4_0.2.2.2.2.1 lwD4_0.2.2.2.2.2.1 lwD4_0.2.2.2.2.2.2 := ab_ai_ok (l := l) (e := e) (below := below) (meth := meth) (R := room_1) (Q := lw_Z below #[Value.ref b] s) (vs0 := V) (hs0 := NN) X SX (ini := false) (fun h => absurd h (by decide)) t1 t2 t3 t4 t5 t6 t7 t8 (lwEO4 l) t9 pgL_ok hlx hfC 9 279 lwD4_0 lwRun4_0
    have hc4 : ∀ d ∈ lwCut4, ab_G p l e room_1 s m #[Value.ref b] below meth c (lw_Z below #[Value.ref b] s) D nCl (fun q => s.heap.size ≤ q) sa dT 4 V NN d.1 d.2.1 d.2.2.1 d.2.2.2.1 d.2.2.2.2.1 d.2.2.2.2.2.1 d.2.2.2.2.2.2.1 d.2.2.2.2.2.2.2 := ab_mc g4_0 (ab_mn)
    have g4 : ab_G p l e room_1 s m #[Value.ref b] below meth c (lw_Z below #[Value.ref b] s) D nCl (fun q => s.heap.size ≤ q) sa dT 4 V NN 264 lwB.1 lwB.2.1 lwB.2.2.1 lwB.2.2.2.1 lwB.2.2.2.2.1 lwB.2.2.2.2.2.1 lwB.2.2.2.2.2.2 := ab_ai_ok (l := l) (e := e) (below := below) (meth := meth) (R := room_1) (Q := lw_Z below #[Value.ref b] s) (vs0 := V) (hs0 := NN) X SX (ini := false) (fun h => absurd h (by decide)) t1 t2 t3 t4 t5 t6 t7 t8 (lwEO4 l) t9 pgL_ok hlx (hfD _ hc4) 8 264 lwB lwRun4
    have g5 : ab_G p l e room_1 s m #[Value.ref b] below meth c (lw_Z below #[Value.ref b] s) D nCl (fun q => s.heap.size ≤ q) sa dT 4 V NN 297 lwB.1 lwB.2.1 lwB.2.2.1 lwB.2.2.2.1 lwB.2.2.2.2.1 lwB.2.2.2.2.2.1 lwB.2.2.2.2.2.2 := ab_ai_ok (l := l) (e := e) (below := below) (meth := meth) (R := room_1) (Q := lw_Z below #[Value.ref b] s) (vs0 := V) (hs0 := NN) X SX (ini := false) (fun h => absurd h (by decide)) t1 t2 t3 t4 t5 t6 t7 t8 (lwEO5 l) t9 pgL_ok hlx hfC 12 297 lwB lwRun5
    have g6 : ab_G p l e room_1 s m #[Value.ref b] below meth c (lw_Z below #[Value.ref b] s) D nCl (fun q => s.heap.size ≤ q) sa dT 4 V NN 320 lwB.1 lwB.2.1 lwB.2.2.1 lwB.2.2.2.1 lwB.2.2.2.2.1 lwB.2.2.2.2.2.1 lwB.2.2.2.2.2.2 := ab_ai_ok (l := l) (e := e) (below := below) (meth := meth) (R := room_1) (Q := lw_Z below #[Value.ref b] s) (vs0 := V) (hs0 := NN) X SX (ini := false) (fun h => absurd h (by decide)) t1 t2 t3 t4 t5 t6 t7 t8 (lwEO6 l) t9 pgL_ok hlx hfC 10 320 lwB lwRun6
    have g7 : ab_G p l e room_1 s m #[Value.ref b] below meth c (lw_Z below #[Value.ref b] s) D nCl (fun q => s.heap.size ≤ q) sa dT 4 V NN 333 lwB.1 lwB.2.1 lwB.2.2.1 lwB.2.2.2.1 lwB.2.2.2.2.1 lwB.2.2.2.2.2.1 lwB.2.2.2.2.2.2 := ab_ai_ok (l := l) (e := e) (below := below) (meth := meth) (R := room_1) (Q := lw_Z below #[Value.ref b] s) (vs0 := V) (hs0 := NN) X SX (ini := false) (fun h => absurd h (by decide)) t1 t2 t3 t4 t5 t6 t7 t8 (lwEO7 l) t9 pgL_ok hlx hfC 12 333 lwB lwRun7
    have g8 : ab_G p l e room_1 s m #[Value.ref b] below meth c (lw_Z below #[Value.ref b] s) D nCl (fun q => s.heap.size ≤ q) sa dT 4 V NN 356 lwB.1 lwB.2.1 lwB.2.2.1 lwB.2.2.2.1 lwB.2.2.2.2.1 lwB.2.2.2.2.2.1 lwB.2.2.2.2.2.2 := ab_ai_ok (l := l) (e := e) (below := below) (meth := meth) (R := room_1) (Q := lw_Z below #[Value.ref b] s) (vs0 := V) (hs0 := NN) X SX (ini := false) (fun h => absurd h (by decide)) t1 t2 t3 t4 t5 t6 t7 t8 (lwEO8 l) t9 pgL_ok hlx hfC 14 356 lwB lwRun8
    have hcuts : ∀ d ∈ lwCuts, ab_G p l e room_1 s m #[Value.ref b] below meth c (lw_Z below #[Value.ref b] s) D nCl (fun q => s.heap.size ≤ q) sa dT 4 V NN d.1 d.2.1 d.2.2.1 d.2.2.2.1 d.2.2.2.2.1 d.2.2.2.2.2.1 d.2.2.2.2.2.2.1 d.2.2.2.2.2.2.2 := ab_mc gC (ab_mc g0 (ab_mc g1 (ab_mc g2 (ab_mc g3 (ab_mc g4 (ab_mc g5 (ab_mc g6 (ab_mc g7 (ab_mc g8 (ab_mn))))))))))
    have g := ab_ai_ok (l := l) (e := e) (below := below) (meth := meth) (R := room_1) (Q := lw_Z below #[Value.ref b] s) (vs0 := V) (hs0 := NN) X SX (ini := false) (EN := []) (Tc := nTc) (mm := nmm) (fun h => absurd h (by decide)) t1 t2 t3 t4 t5 t6 t7 t8 ab_mn t9 pgL_ok (ex := ab_lx 88 89 pgL) (fin := fun pc S => lwCuts.any (fun d => decide (d.1 = pc) && ab_mtS 96 28 d.2 S)) hlx
      (fun pc S hf => by
        obtain ⟨d, hd1, hd2⟩ := List.any_eq_true.mp hf
        rw [Bool.and_eq_true, decide_eq_true_eq] at hd2
        obtain ⟨rfl, hd2⟩ := hd2
        exact ab_cutG (by rw [hwl, hnl]; exact hd2) (hcuts d hd1)) 12 27 lwB lwBody
    exact g _ _ ls [] H locs ⟨[], (List.append_nil _).symm⟩ ⟨[], (List.append_nil _).symm⟩ ⟨me, hnl, m3, rfl, ws, m5, k6, k7, hS⟩
end
set_option maxHeartbeats 4000000 in
theorem whole_start {p : Program} {e : Env} {s : State} {m : MethodId} {below : List Frame} {meth : Method} {c : Code} (l : Launch) {b L : Nat} {xs : Nat → Int32} (hL : L ≤ 3584) (C0 : lw_At p s m meth c b L xs) : W p l e room_1 s m #[Value.ref b] below meth c s.heap [] 0 0 (lw_Z below #[Value.ref b] s) (entryFrame m ([Value.ref b] : List Value).toArray 4) := by
  have hTc : ∀ w ∈ nTc, w.before #[Value.ref b] s = true := fun w hw => C0.2.2.2.2.2.1 w (List.mem_filter.mp hw).1
  obtain ⟨D, dT, hK⟩ := lx_K hTc (C0.2.2.2.2.2.1 _ (List.mem_append_right _ (List.mem_of_getElem? (i := 30) (by decide +kernel))))
  obtain ⟨sa, SX⟩ := lx_st C0
  have X : ab_X p s m #[Value.ref b] c code "LevelMachineLaw" 4 D nCl (ab_tys dT nRn) (fun q => s.heap.size ≤ q) nTc := ⟨C0.1, C0.2.1, C0.2.2.2.1, C0.2.2.2.2.1, hTc, hK, fun _ h => h⟩
  obtain ⟨t1, t2, t3, t4, t5, t6, t7, t8, t9⟩ := tB5 s _ hTc SX.2.1 SX.2.2.1
  have g := ab_ai_ok (l := l) (e := e) (below := below) (meth := meth) (R := room_1) (Q := lw_Z below #[Value.ref b] s) (vs0 := []) (hs0 := [b]) X SX (ini := false) (fun h => absurd h (by decide)) t1 t2 t3 t4 t5 t6 t7 t8 (lwEF l) t9 pgL_ok (ex := fun _ _ => none) (fin := fun pc S => decide (pc = 18) && ab_mtS 0 1 lwJ S) (fun _ _ _ h => by cases h)
    (fun pc S hf => by
      rw [Bool.and_eq_true, decide_eq_true_eq] at hf
      obtain ⟨rfl, hf⟩ := hf
      refine ab_cutG (vs0 := []) (hs0 := [b]) hf (fun vs hs ls sv H locs hv hh his => ?_)
      have hsv := lx_sv his.2.2.2.1
      subst hsv
      obtain ⟨w2, h4, h5⟩ := ab_l_get his.2.2.1 (i := 3) (a := (0, 88)) rfl
      obtain ⟨x, h6, rfl⟩ := ab_cv0 h4
      have hx0 : 0 ≤ x.toInt := (his.1.2 88 (0, 3584) x rfl h6).1
      exact lx_loop C0 hL hTc hK SX L vs hs ls H locs x hh his h5 (by omega)) 40 0 _ lwPre
  have hl := lv_entry ([.ref b]) (n := 4) (Nat.le_of_ble_eq_true rfl)
  rw [lg_entry_eq]
  generalize (lg_sl ([.ref b]) ++ List.replicate (4 - (lg_sl ([.ref b])).length) Slot.unset).toArray = ls at hl ⊢
  have hl : lv_has ls 4 [(0, .ref b)] := hl
  refine g [] [b] ls [] s.heap [] ⟨[], rfl⟩ ⟨[], rfl⟩ ⟨⟨rfl, (fun k i x h1 _ => by cases h1)⟩, rfl, ⟨hl, fun q hq => ?_⟩, rfl, [], ⟨rfl, (fun j a x h => by cases h)⟩, (fun k q h => by cases h), ⟨(fun i j p2 q h => by cases h), (fun k q h => by cases h)⟩, va_S.rf⟩
  rcases List.mem_cons.mp hq with rfl | hq
  · exact ⟨_, rfl⟩
  · cases hq
set_option maxHeartbeats 4000000 in
theorem lw_walk (l : Launch) (b : Addr) (xs : List Int32) : MetFree l x (headSpec (Jvm.Cond.code x code maxLocals ret :: tables_1) room_1) (lw_P b xs) (fun _ _ _ _ _ => True) lw_Q := by
  refine MetFree.of_bodyS (code := code) (maxLocals := maxLocals) (ret := ret) (by decide) ?_ ?_
  · intro args s m h hn
    obtain ⟨meth, c, h1, h2, h3, h4, h5, h6, -, -⟩ := Cond.code_spec hn (atoms_spec (ws := Jvm.Cond.code x code maxLocals ret :: tables_1) h _ List.mem_cons_self)
    exact ⟨meth, c, h1, h2, h3, h4, h5, h6⟩
  · intro p e s m args below meth c s₁ B hml0 hP _
    obtain ⟨rfl, hx, hbd, hgv⟩ := hP
    obtain ⟨scr, harrAt, hlist, hof, hsmall⟩ := hx
    obtain ⟨hcb, hkn, -, -⟩ := State.arrayAt?_spec harrAt
    have hown : s.vm.findClass R_law = some m.cls := findClass_of_methodNamed B.named
    have hts0 : ∀ c ∈ (Jvm.Cond.code x code maxLocals ret :: tables_1), c.before #[Value.ref b] s = true := atoms_spec (ws := Jvm.Cond.code x code maxLocals ret :: tables_1) B.pre
    have hts : ∀ w ∈ lw_tbl, w.before #[Value.ref b] s = true := k2_hts_sels lw_privs (fun w hw => hts0 w (List.mem_cons_of_mem _ hw)) lw_privs_ok
    have hml : c.maxLocals = 4 := B.maxLocals_eq (hts0 _ List.mem_cons_self)
    have X₀ : Stand p l e room_1 s m #[Value.ref b] below meth c s₁ [] 0 0 := Stand.of_body B
    have hh0 : s₁.heap = s.heap := by rw [B.state]; rfl
    have hsz : scr.slots.size = xs.length := by rw [← Array.length_toList, hlist, List.length_map]
    have hval : ∀ j : Nat, j < xs.length → scr.slots[j]? = some (.int (xs.getD j 0)) := fun j hj => by
      rw [← Array.getElem?_toList, hlist]
      simp [hj]
    have hbl : b < s.heap.size := (Array.getElem?_eq_some_iff.mp hcb).1
    have hX : va_X b xs.length (fun j => xs.getD j 0) s s.heap := ⟨scr, hcb, hof, hkn, hsz, hval⟩
    have K : W p l e room_1 s m #[Value.ref b] below meth c s₁.heap [] 0 0 (lw_Z below #[Value.ref b] s) (entryFrame m ([Value.ref b] : List Value).toArray 4) := by
      rw [hh0]
      exact whole_start l hbd ⟨B.exec, B.bytes, B.returns, hml, hown, hts, hX, hbl, B.notSynchronized, hgv⟩
    obtain ⟨t, a1, o, b1, b2, b3⟩ := K s₁ rfl X₀
    exact ⟨t, o, a1, b1, b2, b3⟩
theorem lw_pre_spec {args : Array Value} {s : State} (h : (Jvm.Cond.and given_1 narrow_1).before args s = true) (hr : rest_1_c.before args s = true) : ∃ (b : Addr) (xs : List Int32), lw_P b xs args s := by
  have hs := flat_of_before _ h
  have hq := flat_of_before _ hr
  have hc : (Cond.count 1).before args s = true := hs _ (by decide +kernel)
  have harr : (Cond.arrayOf (.arg 0) .int).before args s = true := hs _ (by decide +kernel)
  have hle : (Cond.le (.length (.arg 0)) (.int 3584)).before args s = true := hs _ (by decide +kernel)
  have hlen : (Cond.isInt (.length (.arg 0))).before args s = true := hq _ (by decide +kernel)
  have hall : (Cond.all (.arg 0) (.isInt (.elem (.arg 0) (.index 0)))).before args s = true := hq _ (by decide +kernel)
  obtain ⟨b, xs, hb, hx⟩ := State.ints_of_pre rfl harr hlen hall
  have hsm : xs.length < 2 ^ 31 := hx.choose_spec.2.2.2
  have hev : (Term.length (.arg 0)).eval args s none [] s = some (.int xs.length.toInt32) := hx.length_eval hb
  have hv := Cond.le_ints hev (show (Term.int 3584).eval args s none [] s = some (.int 3584) from rfl)
  have hd : xs.length.toInt32 ≤ 3584 := by
    simpa [Cond.before, Cond.holds, hv] using hle
  have hN : xs.length ≤ 3584 := (Int32.ofNat_le_ofNat hsm (by decide)).mp (show Int32.ofNat xs.length ≤ Int32.ofNat 3584 from hd)
  exact ⟨b, xs, Cond.one_arg hc (show args[0]? = some (.ref b) from hb), hx, hN, h⟩
theorem lw_comes (l : Launch) : Comes l x (Jvm.Cond.code x code maxLocals ret :: tables_1) room_1 (fun tb e args s => Calls_1 tb e args s ∧ rest_1 tb e args s ∧ Pre_1 tb e args s)
    (fun _ _ args s o t => lw_Q args s o t) := by
  intro p e ha hc hk s m args below hf hfit hheap happ hpre
  obtain ⟨b, xs, hP⟩ := lw_pre_spec hpre.2.2 hpre.2.1
  obtain ⟨k, o, h1, h2, h3, hQ⟩ := lw_walk l b xs p e ha hc hk s m args below hf ((Spec.applies_iff_loose hf).mp happ).1 hP trivial
  exact ⟨k, o, h1, h2, h3, hQ⟩
theorem lw_frame {s t : State} {o : Outcome} {args : Array Value} (h : Framed s o t [] 600000 7302250) :
    Framed s o t (fieldLocs frame_1_writes args s ++ arrayLocs frame_1_arrays args s ++ staticLocs frame_1_statics s) 600000 7302250 := h
theorem lw_limb (L : Cond) (hL : ∀ (args : Array Value) (s t : State), L.after args s (.returned (some (.int 1))) t = true) :
    ArmFor flags0 classFile x code maxLocals ret World_1 tables_1 room_1 Calls_1 rest_1 Pre_1
      (fun tb e a s o t => postC L tb e a s o t ∧ Framed s o t (fieldLocs frame_1_writes a s ++ arrayLocs frame_1_arrays a s ++ staticLocs frame_1_statics s) 600000 7302250) := by
  intro l _ _ _ p e ha hc hk s m args below hf hfit hheap happ hpre
  obtain ⟨k, o, h1, h2, h3, rfl, hF⟩ := lw_comes l p e ha hc hk s m args below hf hfit hheap happ hpre
  exact ⟨k, _, h1, h2, h3, hL args s _, lw_frame hF⟩
theorem i_vc : Claimed_1_1 ∧ Claimed_1_2 := ⟨lw_limb limb_1_1 (fun args s t => by simp [limb_1_1, Cond.after, Cond.holds, Cond.value]), lw_limb limb_1_2 (fun args s t => Cond.after_iff.mpr (by
  first | (rw [show limb_1_2 = Cond.eq .result (.int 1) from rfl, Cond.eq_ints (x := 1) (y := 1) rfl rfl]; simp; done) | (simp [limb_1_2, Cond.value, Term.eval]; done)))⟩
