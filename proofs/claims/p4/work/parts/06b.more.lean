section
variable {p : Program} {l : Launch} {e : Env} {R : Room} {s : State} {m : MethodId} {args : Array Value} {below : List Frame} {meth : Method} {c : Code} {Q : State → Prop} {cc : ByteArray} {own : String} {nL : Nat} {D : va_G} {cl : List vw_C} {rn : List String} {A : Nat → Prop} {Ts : List Cond} {sa : Nat → Nat} {dT : Nat → ClassId} {vs0 : List Int32} {hs0 : List Nat} {pc : Nat} {E : List ab_I} {nh nc ns : Nat} {hp : ab_H} {loc : List (Nat × ab_V)} {st : List ab_V}
variable {SL : ab_SL} {NF : ab_NF} {NM : ab_NM}
theorem ab_gets (X : ab_X p s m args c cc own nL D cl (ab_tys dT rn) A Ts) (SX : ab_SX rn SL NF NM sa A s s.heap) {ix t : Nat} {r : String × String × String × List Int} (ht : SL[t]? = some r) (hl : (Cond.fieldLink own ix r.1 r.2.1 r.2.2.1).before args s = true) (hd : decode cc pc = .ok (.getstatic ix, 3)) (g : ab_G p l e R s m args below meth c Q D cl A sa dT nL vs0 hs0 (pc + 3) E nh hp loc ((3, t) :: st) nc ns) : ab_G p l e R s m args below meth c Q D cl A sa dT nL vs0 hs0 pc E nh hp loc st nc ns := by
  intro vs hs ls sv H locs hv hh his
  obtain ⟨ws, -, -, -, hS⟩ := his.2.2.2.2
  exact va_gets X.1 X.2.1 (SX.2.2.2 t r ht).1 hS X.2.2.2.1 hl (fun _ h => h) hd (g _ _ _ _ _ _ hv hh (ab_pv his rfl))
theorem ab_tald (X : ab_X p s m args c cc own nL D cl (ab_tys dT rn) A Ts) (SX : ab_SX rn SL NF NM sa A s s.heap) {t ki : Nat} {i : ab_I} {r : String × String × String × List Int} (ht : SL[t]? = some r) (hd : decode cc pc = .ok (.iaload, 1)) (hi1 : E[ki]? = some i) (h1 : 0 ≤ i.1) (h2 : i.2 < (r.2.2.2.length : Int)) (hr : ∀ x ∈ r.2.2.2, -2147483648 ≤ x ∧ x ≤ 2147483647) (g : ∀ (z : Nat) (x : Int), i.1 ≤ (z : Int) → (z : Int) ≤ i.2 → r.2.2.2[z]? = some x → ab_G p l e R s m args below meth c Q D cl A sa dT nL vs0 hs0 (pc + 1) (E.set ki ((z : Int), (z : Int)) ++ [(x, x)]) nh hp loc ((0, E.length) :: st) nc ns) : ab_G p l e R s m args below meth c Q D cl A sa dT nL vs0 hs0 pc E nh hp loc ((0, ki) :: (3, t) :: st) nc ns := by
  intro vs hs ls sv H locs hv0 hh his
  obtain ⟨w2, sv, rfl, hw2, his1⟩ := ab_pop his
  obtain ⟨w, sv, rfl, hw, his2⟩ := ab_pop his1
  obtain ⟨x, hx, rfl⟩ := ab_cv0 hw2
  cases hw
  obtain ⟨ws, -, -, -, hS⟩ := his2.2.2.2.2
  have hin := his2.1.2 ki i x hi1 hx
  obtain ⟨m1, m2, m3⟩ := ab_inN hin h1 h2
  have m4 : r.2.2.2[x.toNatClampNeg]? = some r.2.2.2[x.toNatClampNeg] := List.getElem?_eq_getElem m2
  have m5 : r.2.2.2.getD x.toNatClampNeg 0 = r.2.2.2[x.toNatClampNeg] := by simp [List.getD_eq_getElem?_getD, m4]
  obtain ⟨k1, k2⟩ := hr _ (List.mem_of_getElem? m4)
  have q := ab_push (ab_env his2 (ab_e_set his2.1 ki (i := ((x.toNatClampNeg : Int), (x.toNatClampNeg : Int))) (fun z hz => by
    rw [hx] at hz
    cases hz
    rw [m3]
    exact ⟨Int.le_refl _, Int.le_refl _⟩))) (ab_const k1 k2)
  rw [List.length_set] at q
  exact va_ti X.1 X.2.1 (SX.2.2.2 t r ht).2 hS m1 (by rw [m5]) hd (g _ _ (by rw [m3]; exact hin.1) (by rw [m3]; exact hin.2) m4 _ _ _ _ _ _ (ab_x1 _ hv0) hh q)
theorem ab_b5_l {lo hi lo0 hi0 lo1 hi1 lo2 hi2 : Int} {t : Nat} {x : Int32} (h : ab_in (ab_b5 lo hi lo0 hi0 t) x) : ab_in (ab_b5 (min lo lo1) (max hi hi1) (min lo0 lo2) (max hi0 hi2) t) x := by
  unfold ab_b5 ab_in at *
  by_cases hz : t % 5 = 0
  · rw [if_pos hz] at h ⊢
    dsimp only at *
    omega
  · rw [if_neg hz] at h ⊢
    dsimp only at *
    omega
theorem ab_b5_r {lo hi lo0 hi0 lo1 hi1 lo2 hi2 : Int} {t : Nat} {x : Int32} (h : ab_in (ab_b5 lo1 hi1 lo2 hi2 t) x) : ab_in (ab_b5 (min lo lo1) (max hi hi1) (min lo0 lo2) (max hi0 hi2) t) x := by
  unfold ab_b5 ab_in at *
  by_cases hz : t % 5 = 0
  · rw [if_pos hz] at h ⊢
    dsimp only at *
    omega
  · rw [if_neg hz] at h ⊢
    dsimp only at *
    omega
theorem ab_oinit (X : ab_X p s m args c cc own nL D cl (ab_tys dT rn) A Ts) {ix a : Nat} (hl : (Cond.methodLink own ix Lib.objectInit).before args s = true) (hi : (Cond.instanceMethod Lib.objectInit).before args s = true) (hc : (Cond.code Lib.objectInit ⟨#[0xb1]⟩ 1 none).before args s = true) (hd : decode cc pc = .ok (.invokespecial ix, 3)) (hf : 1 ≤ R.frames) (hr : st.length + 12 ≤ R.locals) (g : ab_G p l e R s m args below meth c Q D cl A sa dT nL vs0 hs0 (pc + 3) E nh hp loc st nc ns) : ab_G p l e R s m args below meth c Q D cl A sa dT nL vs0 hs0 pc E nh hp loc ((1, a) :: st) nc ns := by
  intro vs hs ls sv H locs hv0 hh his
  obtain ⟨w, sv, rfl, hw, his1⟩ := ab_pop his
  obtain ⟨q, hq, rfl⟩ := ab_cv1 hw
  refine W.objInit X.1 X.2.1 X.2.2.2.1 hl hi hc rfl (by rw [X.2.2.1]; exact his1.2.2.1.1.1) rfl hd hf ?_ (g _ _ _ _ _ _ hv0 hh his1)
  show 2 * 0 + (sv.map fun v => v.category).sum + 12 ≤ R.locals
  rw [ab_cat_sum his1.2.2.2.1]
  omega
theorem ab_acopy (X : ab_X p s m args c cc own nL D cl (ab_tys dT rn) A Ts) {ix a b ja jb n0 n1 kn kd ks : Nat} {lo hi lo0 hi0 lo1 hi1 lo2 hi2 : Int} {i1 : ab_I} (hl : (Cond.methodLink own ix arraycopyName).before args s = true) (hnat : (Cond.native arraycopyName).before args s = true) (hsta : (Cond.static arraycopyName).before args s = true) (hini : (Cond.initialized "java/lang/System").before args s = true) (hd : decode cc pc = .ok (.invokestatic ix, 3))
    (hfa : ab_fi hp a 0 = some (ja, .inr (.inl (n0, lo, hi, lo0, hi0)))) (hfb : ab_fi hp b 0 = some (jb, .inr (.inl (n1, lo1, hi1, lo2, hi2)))) (e1 : E[kn]? = some i1) (e2 : E[kd]? = some (0, 0)) (e3 : E[ks]? = some (0, 0)) (g1 : 0 ≤ i1.1) (g4 : i1.2 ≤ (n0 : Int)) (g5 : i1.2 ≤ (n1 : Int)) (hf : 1 ≤ R.frames) (hr : st.length + (nativeFrameWords "java/lang/System" "arraycopy" 5 + 11) ≤ R.locals)
    (g : ab_G p l e R s m args below meth c Q D cl A sa dT nL vs0 hs0 (pc + 3) E nh (hp.set jb (b, .inr (.inl (n1, min lo lo1, max hi hi1, min lo0 lo2, max hi0 hi2)))) loc st nc ns) : ab_G p l e R s m args below meth c Q D cl A sa dT nL vs0 hs0 pc E nh hp loc ((0, kn) :: (0, kd) :: (1, b) :: (0, ks) :: (1, a) :: st) nc ns := by
  intro vs hs ls sv H locs hv0 hh his
  obtain ⟨w1, sv, rfl, hw1, his1⟩ := ab_pop his
  obtain ⟨w2, sv, rfl, hw2, his2⟩ := ab_pop his1
  obtain ⟨w3, sv, rfl, hw3, his3⟩ := ab_pop his2
  obtain ⟨w4, sv, rfl, hw4, his4⟩ := ab_pop his3
  obtain ⟨w5, sv, rfl, hw5, his5⟩ := ab_pop his4
  obtain ⟨xn, hxn, rfl⟩ := ab_cv0 hw1
  obtain ⟨xd, hxd, rfl⟩ := ab_cv0 hw2
  obtain ⟨qb, hqb, rfl⟩ := ab_cv1 hw3
  obtain ⟨xs, hxs, rfl⟩ := ab_cv0 hw4
  obtain ⟨qa, hqa, rfl⟩ := ab_cv1 hw5
  obtain ⟨k1, k2, k3, k4, ws, k5, k6, k7, k8⟩ := id his5
  obtain ⟨ca, ga, ga2⟩ := ab_w_at k5 hfa hqa
  obtain ⟨f, rfl, ga3⟩ := ga2
  obtain ⟨cb, gb, gb2⟩ := ab_w_at k5 hfb hqb
  obtain ⟨f2, rfl, gb3⟩ := gb2
  have nn : ∀ (x : Int32), 0 ≤ x.toInt → ¬ x < 0 ∧ ((x.toNatClampNeg : Nat) : Int) = x.toInt := by
    intro x h
    refine ⟨fun q => ?_, ?_⟩
    · have := Int32.lt_iff_toInt_lt.mp q
      rw [Int32.toInt_zero] at this
      omega
    · show ((x.toInt.toNat : Nat) : Int) = x.toInt
      omega
  have r1 := k1.2 kn i1 xn e1 hxn
  have r2 := k1.2 kd (0, 0) xd e2 hxd
  have r3 := k1.2 ks (0, 0) xs e3 hxs
  unfold ab_in at r1 r2 r3
  dsimp only at r2 r3
  obtain ⟨a1, b1⟩ := nn xn (by omega)
  obtain ⟨a2, b2⟩ := nn xd (by omega)
  obtain ⟨a3, b3⟩ := nn xs (by omega)
  have z2 : xd.toNatClampNeg = 0 := by omega
  have z3 : xs.toNatClampNeg = 0 := by omega
  refine va_copyi X.1 X.2.1 (by rw [X.2.2.1, k3.1.1]) X.2.2.2.1 hl hnat hsta hini X.2.2.2.2.2.1 k6 k7 k8 ja jb 0 0 ga gb rfl rfl rfl a3 a2 a1 (by omega) (by omega) (fun _ _ => rfl) hf (by rw [ab_cat_sum k4]; exact hr) hd (fun H1 locs1 r1 r2 r3 => g _ _ _ _ _ _ hv0 hh ⟨k1, k2, k3, k4, _, ab_w_set k5 (ab_fi0 hfb) gb hqb ⟨_, rfl, fun t ht => ?_⟩, r1, r2, r3⟩)
  rw [z2, z3]
  by_cases hc : 0 ≤ t ∧ t < 0 + xn.toNatClampNeg
  · have e : va_cpy f f2 0 0 xn.toNatClampNeg t = f t := by
      unfold va_cpy
      rw [if_pos hc, Nat.zero_add, Nat.sub_zero]
    rw [e]
    exact ab_b5_l (ga3 t (by omega))
  · have e : va_cpy f f2 0 0 xn.toNatClampNeg t = f2 t := by
      unfold va_cpy
      rw [if_neg hc]
    rw [e]
    exact ab_b5_r (gb3 t ht)
def ab_NL (s : State) (args : Array Value) (own : String) (cl : List vw_C) (Ts : List Cond) (ix ci : Nat) (tl : List Bool) : Prop :=
  ∃ (C : String) (T : u_T) (N : Nat) (ty : Nat → FieldType), cl[ci]? = some (C, T, N) ∧ (∀ w ∈ u_ws C T N, w ∈ Ts) ∧ (∀ k, k < N → parseFieldDescriptor (T k).2.2.1 = some (ty k)) ∧ (Cond.classLink own ix C).before args s = true ∧ (Cond.instantiable C N).before args s = true ∧ (Cond.initialized C).before args s = true ∧ tl.length = N ∧ ∀ (k : Nat) (b : Bool), tl[k]? = some b → defaultValue (ty k) = if b then .int 0 else .null
theorem ab_hgrow {H0 : Heap} {vs : List Int32} {hs : List Nat} {ls : Array Slot} {sv : List Value} {H1 : Heap} {locs1 : List Loc} {q : Nat} (h1 : ab_e E vs) (h2 : hs.length = nh) (h3 : ab_l sa vs hs nL loc ls) (h4 : st.map (ab_cv sa vs hs) = sv.map some) {ws : va_W} (h5 : ab_w sa dT vs hs hp ws) {x : ab_C} {ce : va_E} (hx : ab_ce sa dT vs (hs ++ [q]) x ce) (r1 : va_P D cl (ws ++ [(q, ce)]) H1) (r2 : va_D A (ws ++ [(q, ce)])) (r3 : va_S A H0 H1 locs1) : ab_is D cl A H0 sa dT nL vs (hs ++ [q]) E (nh + 1) (hp ++ [(nh, x)]) loc ((1, nh) :: st) ls (.ref q :: sv) H1 locs1 := by
  have g3 := ab_l_mono [] [q] h3
  have g4 := ab_monoL [] [q] h4
  have g5 := ab_w_mono [] [q] h5
  rw [List.append_nil] at g3 g4 g5
  have hq : (hs ++ [q])[nh]? = some q := by rw [← h2]; exact ab_end hs q
  refine ⟨h1, by rw [List.length_append, h2]; rfl, g3, by rw [List.map_cons, List.map_cons, g4, ab_cv1' hq], ws ++ [(q, ce)], ab_w_app g5 ⟨rfl, fun j a y hj => ?_⟩, r1, r2, r3⟩
  cases j with
  | zero => cases hj; exact ⟨q, ce, hq, rfl, hx⟩
  | succ j => cases hj
theorem ab_newo (X : ab_X p s m args c cc own nL D cl (ab_tys dT rn) A Ts) {ix ci : Nat} {tl : List Bool} (hN : ab_NL s args own cl Ts ix ci tl) (hd : decode cc pc = .ok (.new ix, 3)) (hcap : nc + 1 ≤ R.cells ∧ ns + tl.length ≤ R.slots) (g : ab_G p l e R s m args below meth c Q D cl A sa dT nL vs0 hs0 (pc + 3) (E ++ [(0, 0)]) (nh + 1) (hp ++ [(nh, .inl (ci, tl.map (fun b => if b then (0, E.length) else (2, 0))))]) loc ((1, nh) :: st) (nc + 1) (ns + tl.length)) : ab_G p l e R s m args below meth c Q D cl A sa dT nL vs0 hs0 pc E nh hp loc st nc ns := by
  intro vs hs ls sv H locs hv0 hh his
  obtain ⟨C, T, N, ty, f1, f2, f3, f4, f5, f6, rfl, f8⟩ := hN
  obtain ⟨k1, k2, k3, k4, ws, k5, k6, k7, k8⟩ := ab_grow (i := (0, 0)) (x := 0) his ⟨by rw [Int32.toInt_zero]; exact Int.le_refl _, by rw [Int32.toInt_zero]; exact Int.le_refl _⟩
  have hz0 : (vs ++ [(0 : Int32)])[E.length]? = some 0 := by rw [← his.1.1]; exact ab_end vs 0
  have hcv : ∀ hs2 : List Nat, (tl.map (fun b => if b then ((0, E.length) : ab_V) else (2, 0))).map (ab_cv sa (vs ++ [0]) hs2) = (tl.map (fun b => if b then Value.int 0 else Value.null)).map some := by
    intro hs2
    rw [List.map_map, List.map_map]
    apply List.map_congr_left
    intro b _
    cases b
    · rfl
    · exact ab_cv0' hz0
  refine va_new (fs := tl.map (fun b => if b then Value.int 0 else Value.null)) X.1 X.2.1 X.2.2.2.2.1 f2 ty f3 X.2.2.2.1 f4 f5 f6 X.2.2.2.2.2.1 k6 k7 k8 X.2.2.2.2.2.2 f1 (fun j hj => ?_) hcap.1 hcap.2 hd (fun q H1 r1 r2 r3 => g _ _ _ _ _ _ (ab_x1 _ hv0) (ab_x1 _ hh) (ab_hgrow (x := .inl (ci, tl.map (fun b => if b then ((0, E.length) : ab_V) else (2, 0)))) k1 k2 k3 k4 k5 ⟨_, rfl, hcv _⟩ r1 r2 r3))
  have hb : tl[j]? = some tl[j] := List.getElem?_eq_getElem hj
  rw [f8 j _ hb]
  unfold vp_V
  rw [List.getD_eq_getElem?_getD, List.getElem?_map, hb]
  rfl
theorem ab_newai (X : ab_X p s m args c cc own nL D cl (ab_tys dT rn) A Ts) {k : Nat} {i : ab_I} (hw : (Cond.arrayClass (newarray.typeOf .int)).before args s = true) (hd : decode cc pc = .ok (.newarray .int, 2)) (hi : E[k]? = some i) (hii : i.1 = i.2) (h0 : 0 ≤ i.1) (hb : i.1.toNat * 4 ≤ 536870912) (hcap : nc + 1 ≤ R.cells ∧ ns + i.1.toNat ≤ R.slots) (g : ab_G p l e R s m args below meth c Q D cl A sa dT nL vs0 hs0 (pc + 2) E (nh + 1) (hp ++ [(nh, .inr (.inl (i.1.toNat, 0, 0, 0, 0)))]) loc ((1, nh) :: st) (nc + 1) (ns + i.1.toNat)) : ab_G p l e R s m args below meth c Q D cl A sa dT nL vs0 hs0 pc E nh hp loc ((0, k) :: st) nc ns := by
  intro vs hs ls sv H locs hv0 hh his
  obtain ⟨w, sv, rfl, hw2, his1⟩ := ab_pop his
  obtain ⟨x, hx, rfl⟩ := ab_cv0 hw2
  obtain ⟨k1, k2, k3, k4, ws, k5, k6, k7, k8⟩ := his1
  have hin := k1.2 k i x hi hx
  unfold ab_in at hin
  refine va_newa (a0 := (i.1.toNat, .inl (fun _ => 0))) X.1 X.2.1 hw rfl X.2.2.2.2.2.1 k6 k7 k8 X.2.2.2.2.2.2 (fun cA => rfl) (fun q => ?_) (N' := i.1.toNat) ?_ hb hcap.1 hcap.2 hd (fun q cA H1 r0 r1 r2 r3 => ?_)
  · have := Int32.lt_iff_toInt_lt.mp q
    rw [Int32.toInt_zero] at this
    omega
  · show x.toInt.toNat = i.1.toNat
    omega
  · have e1 := (X.2.2.2.2.2.1.2 0 (dT 0, .int) rfl).2
    have e2 := (r0.2 (ab_tys dT rn).length (cA, newarray.typeOf .int) (ab_end _ _)).2
    have e3 : cA = dT 0 := Option.some.inj ((show s.vm.findClass _ = some cA from e2).symm.trans (show s.vm.findClass _ = some (dT 0) from e1))
    subst e3
    exact g _ _ _ _ _ _ hv0 (ab_x1 _ hh) (ab_hgrow k1 k2 k3 k4 k5 ⟨_, rfl, fun _ _ => by unfold ab_b5 ab_in; split <;> exact ⟨by rw [Int32.toInt_zero]; exact Int.le_refl _, by rw [Int32.toInt_zero]; exact Int.le_refl _⟩⟩ r1 r2 r3)
theorem ab_newaq (X : ab_X p s m args c cc own nL D cl (ab_tys dT rn) A Ts) (SX : ab_SX rn SL NF NM sa A s s.heap) {ix k t : Nat} {C : String} {i : ab_I} (hC : rn[t]? = some C) (hl : (Cond.classLink own ix C).before args s = true) (hd : decode cc pc = .ok (.anewarray ix, 3)) (hi : E[k]? = some i) (hii : i.1 = i.2) (h0 : 0 ≤ i.1) (hb : i.1.toNat * 4 ≤ 536870912) (hcap : nc + 1 ≤ R.cells ∧ ns + i.1.toNat ≤ R.slots) (g : ab_G p l e R s m args below meth c Q D cl A sa dT nL vs0 hs0 (pc + 3) E (nh + 1) (hp ++ [(nh, .inr (.inr (t, List.replicate i.1.toNat (2, 0))))]) loc ((1, nh) :: st) (nc + 1) (ns + i.1.toNat)) : ab_G p l e R s m args below meth c Q D cl A sa dT nL vs0 hs0 pc E nh hp loc ((0, k) :: st) nc ns := by
  intro vs hs ls sv H locs hv0 hh his
  obtain ⟨w, sv, rfl, hw2, his1⟩ := ab_pop his
  obtain ⟨x, hx, rfl⟩ := ab_cv0 hw2
  obtain ⟨k1, k2, k3, k4, ws, k5, k6, k7, k8⟩ := his1
  have hin := k1.2 k i x hi hx
  unfold ab_in at hin
  refine va_newq X.1 X.2.1 X.2.2.2.1 hl (SX.1 C (List.mem_of_getElem? hC)) X.2.2.2.2.2.1 k6 k7 k8 X.2.2.2.2.2.2 (fun q => ?_) (N' := i.1.toNat) ?_ hb hcap.1 hcap.2 hd (fun q cA H1 r0 r1 r2 r3 => ?_)
  · have := Int32.lt_iff_toInt_lt.mp q
    rw [Int32.toInt_zero] at this
    omega
  · show x.toInt.toNat = i.1.toNat
    omega
  · obtain ⟨_, _, _, _, _, e1⟩ := (X.2.2.2.2.2.1.2 (t + 1) _ (ab_tys_at hC)).2
    obtain ⟨_, _, _, _, _, e2⟩ := (r0.2 (ab_tys dT rn).length (cA, .object C) (ab_end _ _)).2
    have e3 : cA = dT (t + 1) := Option.some.inj (e2.symm.trans e1)
    subst e3
    refine g _ _ _ _ _ _ hv0 (ab_x1 _ hh) (ab_hgrow k1 k2 k3 k4 k5 ⟨_, by rw [List.length_replicate], fun j a hj => ?_⟩ r1 r2 r3)
    have := List.mem_of_getElem? hj
    rw [(List.mem_replicate.mp this).2]
    rfl
theorem ab_aast (X : ab_X p s m args c cc own nL D cl (ab_tys dT rn) A Ts) {a b j jb t ki ci : Nat} {js fs : List ab_V} {r : vw_C} {i : ab_I} (hd : decode cc pc = .ok (.aastore, 1)) (hc : cl[ci]? = some r) (hC : rn[t]? = some r.1) (hf : ab_fi hp a 0 = some (j, .inr (.inr (t, js)))) (hfb : ab_fi hp b 0 = some (jb, .inl (ci, fs))) (hi1 : E[ki]? = some i) (hii : i.1 = i.2) (h1 : 0 ≤ i.1) (h2 : i.2 < (js.length : Int)) (g : ab_G p l e R s m args below meth c Q D cl A sa dT nL vs0 hs0 (pc + 1) E nh (hp.set j (a, .inr (.inr (t, js.set i.1.toNat (1, b))))) loc st nc ns) : ab_G p l e R s m args below meth c Q D cl A sa dT nL vs0 hs0 pc E nh hp loc ((1, b) :: (0, ki) :: (1, a) :: st) nc ns := by
  intro vs hs ls sv H locs hv0 hh his
  obtain ⟨w3, sv, rfl, hw3, his1⟩ := ab_pop his
  obtain ⟨w2, sv, rfl, hw2, his2⟩ := ab_pop his1
  obtain ⟨w, sv, rfl, hw, his3⟩ := ab_pop his2
  obtain ⟨qb, hqb, rfl⟩ := ab_cv1 hw3
  obtain ⟨x, hx, rfl⟩ := ab_cv0 hw2
  obtain ⟨q, hq, rfl⟩ := ab_cv1 hw
  obtain ⟨k1, k2, k3, k4, ws, k5, k6, k7, k8⟩ := id his3
  obtain ⟨ce, g1, g2⟩ := ab_w_at k5 hf hq
  obtain ⟨f, rfl, g3⟩ := g2
  obtain ⟨cb, gb1, gb2⟩ := ab_w_at k5 hfb hqb
  obtain ⟨fw, rfl, gb3⟩ := gb2
  have hin := k1.2 ki i x hi1 hx
  obtain ⟨m1, m2, m3⟩ := ab_inN hin h1 h2
  have m4 : x.toNatClampNeg = i.1.toNat := by unfold ab_in at hin; omega
  refine va_astq X.1 X.2.1 X.2.2.2.2.2.1 k6 k7 k8 j (t + 1) jb ci g1 (ab_tys_at hC) gb1 hc m1 hd (fun H1 locs1 r1 r2 r3 => g _ _ _ _ _ _ hv0 hh ⟨k1, k2, k3, k4, _, ab_w_set k5 (ab_fi0 hf) g1 hq ⟨_, by rw [List.length_set], fun z v hz => ?_⟩, r1, r2, r3⟩)
  unfold va_up
  rw [m4]
  by_cases hzz : z = i.1.toNat
  · subst hzz
    rw [List.getElem?_set_self (by omega)] at hz
    cases hz
    rw [if_pos rfl]
    exact hw3
  · rw [List.getElem?_set_ne (fun e => hzz e.symm)] at hz
    rw [if_neg hzz]
    exact g3 z v hz
end
