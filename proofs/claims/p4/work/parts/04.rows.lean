def ab_tys (dT : Nat → ClassId) (rn : List String) : List (ClassId × FieldType) := (dT 0, .int) :: (List.range rn.length).map (fun t => (dT (t + 1), .object (rn.getD t "")))
theorem ab_tys_at {dT : Nat → ClassId} {rn : List String} {t : Nat} {C : String} (h : rn[t]? = some C) : (ab_tys dT rn)[t + 1]? = some (dT (t + 1), .object C) := by
  show ((List.range rn.length).map (fun t => (dT (t + 1), FieldType.object (rn.getD t ""))))[t]? = _
  rw [List.getElem?_map, List.getElem?_range (List.getElem?_eq_some_iff.mp h).1]
  simp [List.getD_eq_getElem?_getD, h]
def ab_is (D : va_G) (cl : List vw_C) (A : Nat → Prop) (H0 : Heap) (sa : Nat → Nat) (dT : Nat → ClassId) (nL : Nat) (vs : List Int32) (hs : List Nat) (E : List ab_I) (nh : Nat) (hp : ab_H) (loc : List (Nat × ab_V)) (st : List ab_V) (ls : Array Slot) (sv : List Value) (H : Heap) (locs : List Loc) : Prop :=
  ab_e E vs ∧ hs.length = nh ∧ ab_l sa vs hs nL loc ls ∧ st.map (ab_cv sa vs hs) = sv.map some ∧ ∃ ws : va_W, ab_w sa dT vs hs hp ws ∧ va_P D cl ws H ∧ va_D A ws ∧ va_S A H0 H locs
def ab_X (p : Program) (s : State) (m : MethodId) (args : Array Value) (c : Code) (cc : ByteArray) (own : String) (nL : Nat) (D : va_G) (cl : List vw_C) (tys : List (ClassId × FieldType)) (A : Nat → Prop) (Ts : List Cond) : Prop :=
  p.tables.exec = Jvm.exec ∧ c.code = cc ∧ c.maxLocals = nL ∧ s.vm.findClass own = some m.cls ∧ (∀ w ∈ Ts, w.before args s = true) ∧ va_K D cl tys s ∧ (∀ q, s.heap.size ≤ q → A q)
def ab_G (p : Program) (l : Launch) (e : Env) (R : Room) (s : State) (m : MethodId) (args : Array Value) (below : List Frame) (meth : Method) (c : Code) (Q : State → Prop) (D : va_G) (cl : List vw_C) (A : Nat → Prop) (sa : Nat → Nat) (dT : Nat → ClassId) (nL : Nat) (vs0 : List Int32) (hs0 : List Nat) (pc : Nat) (E : List ab_I) (nh : Nat) (hp : ab_H) (loc : List (Nat × ab_V)) (st : List ab_V) (nc ns : Nat) : Prop :=
  ∀ (vs : List Int32) (hs : List Nat) (ls : Array Slot) (sv : List Value) (H : Heap) (locs : List Loc), (∃ v, vs = vs0 ++ v) → (∃ h, hs = hs0 ++ h) → ab_is D cl A s.heap sa dT nL vs hs E nh hp loc st ls sv H locs → W p l e R s m args below meth c H locs nc ns Q (F0 m pc ls sv)
theorem ab_x1 {α : Type} {vs vs0 : List α} (x : List α) (h : ∃ v, vs = vs0 ++ v) : ∃ v, vs ++ x = vs0 ++ v := by
  obtain ⟨v, rfl⟩ := h
  exact ⟨v ++ x, by rw [List.append_assoc]⟩
section
variable {p : Program} {l : Launch} {e : Env} {R : Room} {s : State} {m : MethodId} {args : Array Value} {below : List Frame} {meth : Method} {c : Code} {Q : State → Prop} {cc : ByteArray} {own : String} {nL : Nat} {D : va_G} {cl : List vw_C} {rn : List String} {A : Nat → Prop} {Ts : List Cond} {sa : Nat → Nat} {dT : Nat → ClassId} {vs0 : List Int32} {hs0 : List Nat} {pc : Nat} {E : List ab_I} {nh nc ns : Nat} {hp : ab_H} {loc : List (Nat × ab_V)} {st : List ab_V}
variable {H0 : Heap} {vs : List Int32} {hs : List Nat} {ls : Array Slot} {sv : List Value} {H : Heap} {locs : List Loc}
theorem ab_pop {a : ab_V} (h : ab_is D cl A H0 sa dT nL vs hs E nh hp loc (a :: st) ls sv H locs) : ∃ (v : Value) (sv' : List Value), sv = v :: sv' ∧ ab_cv sa vs hs a = some v ∧ ab_is D cl A H0 sa dT nL vs hs E nh hp loc st ls sv' H locs := by
  obtain ⟨h1, h2, h3, h4, h5⟩ := h
  cases sv with
  | nil => cases h4
  | cons v sv' =>
    simp only [List.map_cons, List.cons.injEq] at h4
    exact ⟨v, sv', rfl, h4.1, h1, h2, h3, h4.2, h5⟩
theorem ab_pv {a : ab_V} {v : Value} (h : ab_is D cl A H0 sa dT nL vs hs E nh hp loc st ls sv H locs) (hv : ab_cv sa vs hs a = some v) : ab_is D cl A H0 sa dT nL vs hs E nh hp loc (a :: st) ls (v :: sv) H locs := by
  obtain ⟨h1, h2, h3, h4, h5⟩ := h
  exact ⟨h1, h2, h3, by rw [List.map_cons, List.map_cons, h4, hv], h5⟩
theorem ab_grow {i : ab_I} {x : Int32} (h : ab_is D cl A H0 sa dT nL vs hs E nh hp loc st ls sv H locs) (hi : ab_in i x) : ab_is D cl A H0 sa dT nL (vs ++ [x]) hs (E ++ [i]) nh hp loc st ls sv H locs := by
  obtain ⟨h1, h2, h3, h4, ws, h5, h6⟩ := h
  have g3 := ab_l_mono [x] [] h3
  have g4 := ab_monoL [x] [] h4
  have g5 := ab_w_mono [x] [] h5
  rw [List.append_nil] at g3 g4 g5
  exact ⟨ab_e_app h1 (ab_e_one hi), h2, g3, g4, ws, g5, h6⟩
theorem ab_push {i : ab_I} {x : Int32} (h : ab_is D cl A H0 sa dT nL vs hs E nh hp loc st ls sv H locs) (hi : ab_in i x) : ab_is D cl A H0 sa dT nL (vs ++ [x]) hs (E ++ [i]) nh hp loc ((0, E.length) :: st) ls (.int x :: sv) H locs :=
  ab_pv (ab_grow h hi) (ab_cv0' (by rw [← h.1.1]; exact ab_end vs x))
theorem ab_env {E' : List ab_I} (h : ab_is D cl A H0 sa dT nL vs hs E nh hp loc st ls sv H locs) (he : ab_e E' vs) : ab_is D cl A H0 sa dT nL vs hs E' nh hp loc st ls sv H locs := ⟨he, h.2⟩
end
def ab_ic (cn : ClassFile.Cond) (x y : Int32) : Prop := match cn with
  | .eq => x = y
  | .ne => ¬ x = y
  | .lt => x < y
  | .ge => y ≤ x
  | .gt => y < x
  | .le => x ≤ y
theorem ab_ic_iff {cn : ClassFile.Cond} {x y : Int32} : ab_ic cn x y ↔ ab_cc cn x.toInt y.toInt := by
  cases cn <;> simp only [ab_ic, ab_cc, Int32.lt_iff_toInt_lt, Int32.le_iff_toInt_le, Int32.toInt_inj]
def ab_br (cn : ClassFile.Cond) (E : List ab_I) (kx ky : Nat) (ix iy : ab_I) : List (List ab_I) :=
  if (ab_rf cn ix iy).1.1 ≤ (ab_rf cn ix iy).1.2 ∧ (ab_rf cn ix iy).2.1 ≤ (ab_rf cn ix iy).2.2 then [(E.set kx (ab_rf cn ix iy).1).set ky (ab_rf cn ix iy).2] else []
def ab_br1 (cn : ClassFile.Cond) (E : List ab_I) (kx : Nat) (ix : ab_I) : List (List ab_I) :=
  if (ab_rf cn ix (0, 0)).1.1 ≤ (ab_rf cn ix (0, 0)).1.2 ∧ (ab_rf cn ix (0, 0)).2.1 ≤ (ab_rf cn ix (0, 0)).2.2 then [E.set kx (ab_rf cn ix (0, 0)).1] else []
theorem ab_br_ok {cn : ClassFile.Cond} {E : List ab_I} {kx ky : Nat} {ix iy : ab_I} {vs : List Int32} {x y : Int32} (he : ab_e E vs) (h1 : E[kx]? = some ix) (h2 : E[ky]? = some iy) (h3 : vs[kx]? = some x) (h4 : vs[ky]? = some y) (h : ab_ic cn x y) : ∃ E' ∈ ab_br cn E kx ky ix iy, ab_e E' vs := by
  obtain ⟨g1, g2⟩ := ab_rf_ok (he.2 kx ix x h1 h3) (he.2 ky iy y h2 h4) (ab_ic_iff.mp h)
  unfold ab_br
  rw [if_pos ⟨by omega, by omega⟩]
  refine ⟨_, List.mem_singleton.mpr rfl, ab_e_set (ab_e_set he kx (fun z hz => ?_)) ky (fun z hz => ?_)⟩
  · rw [h3] at hz; cases hz; exact g1
  · rw [h4] at hz; cases hz; exact g2
theorem ab_br1_ok {cn : ClassFile.Cond} {E : List ab_I} {kx : Nat} {ix : ab_I} {vs : List Int32} {x : Int32} (he : ab_e E vs) (h1 : E[kx]? = some ix) (h3 : vs[kx]? = some x) (h : ab_ic cn x 0) : ∃ E' ∈ ab_br1 cn E kx ix, ab_e E' vs := by
  have h := ab_ic_iff.mp h
  rw [Int32.toInt_zero] at h
  obtain ⟨g1, g2⟩ := ab_rf_ok (b := (0, 0)) (he.2 kx ix x h1 h3) ⟨Int.le_refl _, Int.le_refl _⟩ h
  unfold ab_br1
  rw [if_pos ⟨by omega, by omega⟩]
  refine ⟨_, List.mem_singleton.mpr rfl, ab_e_set he kx (fun z hz => ?_)⟩
  rw [h3] at hz; cases hz; exact g1
section
variable {p : Program} {l : Launch} {e : Env} {R : Room} {s : State} {m : MethodId} {args : Array Value} {below : List Frame} {meth : Method} {c : Code} {Q : State → Prop} {cc : ByteArray} {own : String} {nL : Nat} {D : va_G} {cl : List vw_C} {rn : List String} {A : Nat → Prop} {Ts : List Cond} {sa : Nat → Nat} {dT : Nat → ClassId} {vs0 : List Int32} {hs0 : List Nat} {pc : Nat} {E : List ab_I} {nh nc ns : Nat} {hp : ab_H} {loc : List (Nat × ab_V)} {st : List ab_V}
theorem ab_cmpR {H : Heap} {locs : List Loc} {ls : Array Slot} {rest : List Value} (hx : p.tables.exec = Jvm.exec) (hb : c.code = cc) {cn : ClassFile.Cond} {x y : Int32} {off : Int} {tgt : Nat} (hd : decode cc pc = .ok (.if_icmp cn off, 3)) (ht : (pc : Int) + off = (tgt : Int))
    (kt : ab_ic cn x y → W p l e R s m args below meth c H locs nc ns Q (F0 m tgt ls rest)) (kf : ¬ ab_ic cn x y → W p l e R s m args below meth c H locs nc ns Q (F0 m (pc + 3) ls rest)) : W p l e R s m args below meth c H locs nc ns Q (F0 m pc ls (.int y :: .int x :: rest)) := by
  cases cn
  · exact lv_icmp_eq hx hb hd ht kt kf
  · exact lv_icmp_ne hx hb hd ht kt (fun h => kf (fun q => q h))
  · exact lv_icmp_lt hx hb hd ht kt kf
  · exact lv_icmp_ge hx hb hd ht kt kf
  · exact lv_icmp_gt hx hb hd ht kt kf
  · exact lv_icmp_le hx hb hd ht kt kf
theorem ab_cmp0 {H : Heap} {locs : List Loc} {ls : Array Slot} {rest : List Value} (hx : p.tables.exec = Jvm.exec) (hb : c.code = cc) {cn : ClassFile.Cond} {x : Int32} {off : Int} {tgt : Nat} (hd : decode cc pc = .ok (.ifCond cn off, 3)) (ht : (pc : Int) + off = (tgt : Int))
    (kt : ab_ic cn x 0 → W p l e R s m args below meth c H locs nc ns Q (F0 m tgt ls rest)) (kf : ¬ ab_ic cn x 0 → W p l e R s m args below meth c H locs nc ns Q (F0 m (pc + 3) ls rest)) : W p l e R s m args below meth c H locs nc ns Q (F0 m pc ls (.int x :: rest)) := by
  cases cn
  · exact lv_if_eq hx hb hd ht kt kf
  · exact lv_if_ne hx hb hd ht kt (fun h => kf (fun q => q h))
  · exact lv_if_lt hx hb hd ht kt kf
  · exact lv_if_ge hx hb hd ht kt kf
  · exact lv_if_gt hx hb hd ht kt kf
  · exact lv_if_le hx hb hd ht kt kf
theorem ab_ic_ng {cn : ClassFile.Cond} {x y : Int32} (h : ¬ ab_ic cn x y) : ab_ic (ab_ng cn) x y := ab_ic_iff.mpr (ab_cc_ng (fun q => h (ab_ic_iff.mpr q)))
theorem ab_icmp (X : ab_X p s m args c cc own nL D cl (ab_tys dT rn) A Ts) {cn : ClassFile.Cond} {off : Int} {tgt kx ky : Nat} {ix iy : ab_I} (hd : decode cc pc = .ok (.if_icmp cn off, 3)) (ht : (pc : Int) + off = (tgt : Int)) (h1 : E[kx]? = some ix) (h2 : E[ky]? = some iy)
    (gt : ∀ E' ∈ ab_br cn E kx ky ix iy, ab_G p l e R s m args below meth c Q D cl A sa dT nL vs0 hs0 tgt E' nh hp loc st nc ns) (gf : ∀ E' ∈ ab_br (ab_ng cn) E kx ky ix iy, ab_G p l e R s m args below meth c Q D cl A sa dT nL vs0 hs0 (pc + 3) E' nh hp loc st nc ns) : ab_G p l e R s m args below meth c Q D cl A sa dT nL vs0 hs0 pc E nh hp loc ((0, ky) :: (0, kx) :: st) nc ns := by
  intro vs hs ls sv H locs hv hh his
  obtain ⟨vy, sv, rfl, hy, his1⟩ := ab_pop his
  obtain ⟨vx, sv, rfl, hx, his2⟩ := ab_pop his1
  obtain ⟨y, hyq, rfl⟩ := ab_cv0 hy
  obtain ⟨x, hxq, rfl⟩ := ab_cv0 hx
  refine ab_cmpR X.1 X.2.1 hd ht (fun h => ?_) (fun h => ?_)
  · obtain ⟨E', h3, h4⟩ := ab_br_ok his2.1 h1 h2 hxq hyq h
    exact gt E' h3 _ _ _ _ _ _ hv hh (ab_env his2 h4)
  · obtain ⟨E', h3, h4⟩ := ab_br_ok his2.1 h1 h2 hxq hyq (ab_ic_ng h)
    exact gf E' h3 _ _ _ _ _ _ hv hh (ab_env his2 h4)
theorem ab_ifc (X : ab_X p s m args c cc own nL D cl (ab_tys dT rn) A Ts) {cn : ClassFile.Cond} {off : Int} {tgt kx : Nat} {ix : ab_I} (hd : decode cc pc = .ok (.ifCond cn off, 3)) (ht : (pc : Int) + off = (tgt : Int)) (h1 : E[kx]? = some ix)
    (gt : ∀ E' ∈ ab_br1 cn E kx ix, ab_G p l e R s m args below meth c Q D cl A sa dT nL vs0 hs0 tgt E' nh hp loc st nc ns) (gf : ∀ E' ∈ ab_br1 (ab_ng cn) E kx ix, ab_G p l e R s m args below meth c Q D cl A sa dT nL vs0 hs0 (pc + 3) E' nh hp loc st nc ns) : ab_G p l e R s m args below meth c Q D cl A sa dT nL vs0 hs0 pc E nh hp loc ((0, kx) :: st) nc ns := by
  intro vs hs ls sv H locs hv hh his
  obtain ⟨vx, sv, rfl, hx, his1⟩ := ab_pop his
  obtain ⟨x, hxq, rfl⟩ := ab_cv0 hx
  refine ab_cmp0 X.1 X.2.1 hd ht (fun h => ?_) (fun h => ?_)
  · obtain ⟨E', h3, h4⟩ := ab_br1_ok his1.1 h1 hxq h
    exact gt E' h3 _ _ _ _ _ _ hv hh (ab_env his1 h4)
  · obtain ⟨E', h3, h4⟩ := ab_br1_ok his1.1 h1 hxq (ab_ic_ng h)
    exact gf E' h3 _ _ _ _ _ _ hv hh (ab_env his1 h4)
theorem ab_goto (X : ab_X p s m args c cc own nL D cl (ab_tys dT rn) A Ts) {off : Int} {tgt : Nat} (hd : decode cc pc = .ok (.goto off, 3)) (ht : (pc : Int) + off = (tgt : Int)) (g : ab_G p l e R s m args below meth c Q D cl A sa dT nL vs0 hs0 tgt E nh hp loc st nc ns) : ab_G p l e R s m args below meth c Q D cl A sa dT nL vs0 hs0 pc E nh hp loc st nc ns :=
  fun _ _ _ _ _ _ hv hh his => lv_goto X.1 X.2.1 hd ht (g _ _ _ _ _ _ hv hh his)
theorem ab_iconst (X : ab_X p s m args c cc own nL D cl (ab_tys dT rn) A Ts) {n : Int} (hd : decode cc pc = .ok (.iconst n, 1)) (hn : -2147483648 ≤ n ∧ n ≤ 2147483647) (g : ab_G p l e R s m args below meth c Q D cl A sa dT nL vs0 hs0 (pc + 1) (E ++ [(n, n)]) nh hp loc ((0, E.length) :: st) nc ns) : ab_G p l e R s m args below meth c Q D cl A sa dT nL vs0 hs0 pc E nh hp loc st nc ns :=
  fun _ _ _ _ _ _ hv hh his => lv_iconst X.1 X.2.1 hd rfl (g _ _ _ _ _ _ (ab_x1 _ hv) hh (ab_push his (ab_const hn.1 hn.2)))
theorem ab_bipush (X : ab_X p s m args c cc own nL D cl (ab_tys dT rn) A Ts) {n : Int} (hd : decode cc pc = .ok (.bipush n, 2)) (hn : -128 ≤ n ∧ n ≤ 127) (g : ab_G p l e R s m args below meth c Q D cl A sa dT nL vs0 hs0 (pc + 2) (E ++ [(n, n)]) nh hp loc ((0, E.length) :: st) nc ns) : ab_G p l e R s m args below meth c Q D cl A sa dT nL vs0 hs0 pc E nh hp loc st nc ns :=
  fun _ _ _ _ _ _ hv hh his => lv_bipush X.1 X.2.1 hd (ab_push8 hn.1 hn.2) (g _ _ _ _ _ _ (ab_x1 _ hv) hh (ab_push his (ab_const (by omega) (by omega))))
theorem ab_sipush (X : ab_X p s m args c cc own nL D cl (ab_tys dT rn) A Ts) {n : Int} (hd : decode cc pc = .ok (.sipush n, 3)) (hn : -32768 ≤ n ∧ n ≤ 32767) (g : ab_G p l e R s m args below meth c Q D cl A sa dT nL vs0 hs0 (pc + 3) (E ++ [(n, n)]) nh hp loc ((0, E.length) :: st) nc ns) : ab_G p l e R s m args below meth c Q D cl A sa dT nL vs0 hs0 pc E nh hp loc st nc ns :=
  fun _ _ _ _ _ _ hv hh his => lv_sipush X.1 X.2.1 hd (ab_push16 hn.1 hn.2) (g _ _ _ _ _ _ (ab_x1 _ hv) hh (ab_push his (ab_const (by omega) (by omega))))
theorem ab_ldc (X : ab_X p s m args c cc own nL D cl (ab_tys dT rn) A Ts) {ix : Nat} {n : Int} (hd : decode cc pc = .ok (.ldc ix, 2)) (hn : -2147483648 ≤ n ∧ n ≤ 2147483647) (hc : (Jvm.Cond.constant own ix (Int32.ofInt n)).before args s = true) (g : ab_G p l e R s m args below meth c Q D cl A sa dT nL vs0 hs0 (pc + 2) (E ++ [(n, n)]) nh hp loc ((0, E.length) :: st) nc ns) : ab_G p l e R s m args below meth c Q D cl A sa dT nL vs0 hs0 pc E nh hp loc st nc ns :=
  fun _ _ _ _ _ _ hv hh his => lv_ldc X.1 X.2.1 X.2.2.2.1 hc hd (g _ _ _ _ _ _ (ab_x1 _ hv) hh (ab_push his (ab_const hn.1 hn.2)))
theorem ab_ldcw (X : ab_X p s m args c cc own nL D cl (ab_tys dT rn) A Ts) {ix : Nat} {n : Int} (hd : decode cc pc = .ok (.ldc_w ix, 3)) (hn : -2147483648 ≤ n ∧ n ≤ 2147483647) (hc : (Jvm.Cond.constant own ix (Int32.ofInt n)).before args s = true) (g : ab_G p l e R s m args below meth c Q D cl A sa dT nL vs0 hs0 (pc + 3) (E ++ [(n, n)]) nh hp loc ((0, E.length) :: st) nc ns) : ab_G p l e R s m args below meth c Q D cl A sa dT nL vs0 hs0 pc E nh hp loc st nc ns :=
  fun _ _ _ _ _ _ hv hh his => lv_ldcw X.1 X.2.1 X.2.2.2.1 hc hd (g _ _ _ _ _ _ (ab_x1 _ hv) hh (ab_push his (ab_const hn.1 hn.2)))
theorem ab_iload_n (X : ab_X p s m args c cc own nL D cl (ab_tys dT rn) A Ts) {i : Fin 4} {k : Nat} (hd : decode cc pc = .ok (.iload_n i, 1)) (hl : ab_lk loc (i : Nat) = some (0, k)) (g : ab_G p l e R s m args below meth c Q D cl A sa dT nL vs0 hs0 (pc + 1) E nh hp loc ((0, k) :: st) nc ns) : ab_G p l e R s m args below meth c Q D cl A sa dT nL vs0 hs0 pc E nh hp loc st nc ns := by
  intro vs hs ls sv H locs hv hh his
  obtain ⟨w, h1, h2⟩ := ab_l_get his.2.2.1 hl
  obtain ⟨x, h3, rfl⟩ := ab_cv0 h1
  exact lv_iload_n X.1 X.2.1 hd rfl h2 (g _ _ _ _ _ _ hv hh (ab_pv his h1))
theorem ab_iload (X : ab_X p s m args c cc own nL D cl (ab_tys dT rn) A Ts) {i k : Nat} (hd : decode cc pc = .ok (.iload i, 2)) (hl : ab_lk loc i = some (0, k)) (g : ab_G p l e R s m args below meth c Q D cl A sa dT nL vs0 hs0 (pc + 2) E nh hp loc ((0, k) :: st) nc ns) : ab_G p l e R s m args below meth c Q D cl A sa dT nL vs0 hs0 pc E nh hp loc st nc ns := by
  intro vs hs ls sv H locs hv hh his
  obtain ⟨w, h1, h2⟩ := ab_l_get his.2.2.1 hl
  obtain ⟨x, h3, rfl⟩ := ab_cv0 h1
  exact lv_iload X.1 X.2.1 hd h2 (g _ _ _ _ _ _ hv hh (ab_pv his h1))
theorem ab_aload_n (X : ab_X p s m args c cc own nL D cl (ab_tys dT rn) A Ts) {i : Fin 4} {k : Nat} (hd : decode cc pc = .ok (.aload_n i, 1)) (hl : ab_lk loc (i : Nat) = some (1, k)) (g : ab_G p l e R s m args below meth c Q D cl A sa dT nL vs0 hs0 (pc + 1) E nh hp loc ((1, k) :: st) nc ns) : ab_G p l e R s m args below meth c Q D cl A sa dT nL vs0 hs0 pc E nh hp loc st nc ns := by
  intro vs hs ls sv H locs hv hh his
  obtain ⟨w, h1, h2⟩ := ab_l_get his.2.2.1 hl
  obtain ⟨x, h3, rfl⟩ := ab_cv1 h1
  exact lv_aload_n X.1 X.2.1 hd rfl h2 (g _ _ _ _ _ _ hv hh (ab_pv his h1))
theorem ab_aload (X : ab_X p s m args c cc own nL D cl (ab_tys dT rn) A Ts) {i k : Nat} (hd : decode cc pc = .ok (.aload i, 2)) (hl : ab_lk loc i = some (1, k)) (g : ab_G p l e R s m args below meth c Q D cl A sa dT nL vs0 hs0 (pc + 2) E nh hp loc ((1, k) :: st) nc ns) : ab_G p l e R s m args below meth c Q D cl A sa dT nL vs0 hs0 pc E nh hp loc st nc ns := by
  intro vs hs ls sv H locs hv hh his
  obtain ⟨w, h1, h2⟩ := ab_l_get his.2.2.1 hl
  obtain ⟨x, h3, rfl⟩ := ab_cv1 h1
  exact lv_aload X.1 X.2.1 hd h2 (g _ _ _ _ _ _ hv hh (ab_pv his h1))
theorem ab_istore_n (X : ab_X p s m args c cc own nL D cl (ab_tys dT rn) A Ts) {i : Fin 4} {k : Nat} (hd : decode cc pc = .ok (.istore_n i, 1)) (hi : (i : Nat) < nL) (g : ab_G p l e R s m args below meth c Q D cl A sa dT nL vs0 hs0 (pc + 1) E nh hp (ab_ls loc i (0, k)) st nc ns) : ab_G p l e R s m args below meth c Q D cl A sa dT nL vs0 hs0 pc E nh hp loc ((0, k) :: st) nc ns := by
  intro vs hs ls sv H locs hv hh his
  obtain ⟨vx, sv, rfl, hx, his1⟩ := ab_pop his
  obtain ⟨x, h3, rfl⟩ := ab_cv0 hx
  exact lv_istore_n X.1 X.2.1 hd rfl his1.2.2.1.1 hi rfl (fun ls' h' => g _ _ _ _ _ _ hv hh ⟨his1.1, his1.2.1, ab_l_set his1.2.2.1 hx h', his1.2.2.2⟩)
theorem ab_istore (X : ab_X p s m args c cc own nL D cl (ab_tys dT rn) A Ts) {i k : Nat} (hd : decode cc pc = .ok (.istore i, 2)) (hi : i < nL) (g : ab_G p l e R s m args below meth c Q D cl A sa dT nL vs0 hs0 (pc + 2) E nh hp (ab_ls loc i (0, k)) st nc ns) : ab_G p l e R s m args below meth c Q D cl A sa dT nL vs0 hs0 pc E nh hp loc ((0, k) :: st) nc ns := by
  intro vs hs ls sv H locs hv hh his
  obtain ⟨vx, sv, rfl, hx, his1⟩ := ab_pop his
  obtain ⟨x, h3, rfl⟩ := ab_cv0 hx
  exact lv_istore X.1 X.2.1 hd his1.2.2.1.1 hi rfl (fun ls' h' => g _ _ _ _ _ _ hv hh ⟨his1.1, his1.2.1, ab_l_set his1.2.2.1 hx h', his1.2.2.2⟩)
theorem ab_astore_n (X : ab_X p s m args c cc own nL D cl (ab_tys dT rn) A Ts) {i : Fin 4} {k : Nat} (hd : decode cc pc = .ok (.astore_n i, 1)) (hi : (i : Nat) < nL) (g : ab_G p l e R s m args below meth c Q D cl A sa dT nL vs0 hs0 (pc + 1) E nh hp (ab_ls loc i (1, k)) st nc ns) : ab_G p l e R s m args below meth c Q D cl A sa dT nL vs0 hs0 pc E nh hp loc ((1, k) :: st) nc ns := by
  intro vs hs ls sv H locs hv hh his
  obtain ⟨vx, sv, rfl, hx, his1⟩ := ab_pop his
  obtain ⟨x, h3, rfl⟩ := ab_cv1 hx
  exact lv_astore_n X.1 X.2.1 hd rfl his1.2.2.1.1 hi rfl (fun ls' h' => g _ _ _ _ _ _ hv hh ⟨his1.1, his1.2.1, ab_l_set his1.2.2.1 hx h', his1.2.2.2⟩)
theorem ab_astore (X : ab_X p s m args c cc own nL D cl (ab_tys dT rn) A Ts) {i k : Nat} (hd : decode cc pc = .ok (.astore i, 2)) (hi : i < nL) (g : ab_G p l e R s m args below meth c Q D cl A sa dT nL vs0 hs0 (pc + 2) E nh hp (ab_ls loc i (1, k)) st nc ns) : ab_G p l e R s m args below meth c Q D cl A sa dT nL vs0 hs0 pc E nh hp loc ((1, k) :: st) nc ns := by
  intro vs hs ls sv H locs hv hh his
  obtain ⟨vx, sv, rfl, hx, his1⟩ := ab_pop his
  obtain ⟨x, h3, rfl⟩ := ab_cv1 hx
  exact lv_astore X.1 X.2.1 hd his1.2.2.1.1 hi rfl (fun ls' h' => g _ _ _ _ _ _ hv hh ⟨his1.1, his1.2.1, ab_l_set his1.2.2.1 hx h', his1.2.2.2⟩)
theorem ab_iinc (X : ab_X p s m args c cc own nL D cl (ab_tys dT rn) A Ts) {i k : Nat} {n : Int} {j : ab_I} (hd : decode cc pc = .ok (.iinc i n, 3)) (hn : -2147483648 ≤ n ∧ n ≤ 2147483647) (hi : i < nL) (hl : ab_lk loc i = some (0, k)) (hk : E[k]? = some j) (g : ab_G p l e R s m args below meth c Q D cl A sa dT nL vs0 hs0 (pc + 3) (E ++ [ab_cl (j.1 + n, j.2 + n)]) nh hp (ab_ls loc i (0, E.length)) st nc ns) : ab_G p l e R s m args below meth c Q D cl A sa dT nL vs0 hs0 pc E nh hp loc st nc ns := by
  intro vs hs ls sv H locs hv hh his
  obtain ⟨w, h1, h2⟩ := ab_l_get his.2.2.1 hl
  obtain ⟨x, h3, rfl⟩ := ab_cv0 h1
  have his2 := ab_push his (ab_add (his.1.2 k j x hk h3) (ab_const hn.1 hn.2))
  obtain ⟨v2, sv2, e2, h4, his2⟩ := ab_pop his2
  cases e2
  have hm := List.mem_map_of_mem (f := fun q : Nat × ab_V => (q.1, (ab_cv sa (vs ++ [x + Int32.ofInt n]) hs q.2).getD .null)) (ab_lk_ok loc i (0, k) hl)
  have h5 := ab_mono [x + Int32.ofInt n] [] h1
  rw [List.append_nil] at h5
  dsimp only at hm
  rw [h5] at hm
  obtain ⟨kk, hkk⟩ := List.getElem?_of_mem hm
  exact lv_iinc X.1 X.2.1 hd his2.2.2.1.1 hkk rfl hi rfl (fun ls' h' => g _ _ _ _ _ _ (ab_x1 _ hv) hh ⟨his2.1, his2.2.1, ab_l_set his2.2.2.1 h4 h', his2.2.2.2⟩)
theorem ab_iadd (X : ab_X p s m args c cc own nL D cl (ab_tys dT rn) A Ts) {kx ky : Nat} {ix iy : ab_I} (hd : decode cc pc = .ok (.iadd, 1)) (h1 : E[kx]? = some ix) (h2 : E[ky]? = some iy) (g : ab_G p l e R s m args below meth c Q D cl A sa dT nL vs0 hs0 (pc + 1) (E ++ [ab_cl (ix.1 + iy.1, ix.2 + iy.2)]) nh hp loc ((0, E.length) :: st) nc ns) : ab_G p l e R s m args below meth c Q D cl A sa dT nL vs0 hs0 pc E nh hp loc ((0, ky) :: (0, kx) :: st) nc ns := by
  intro vs hs ls sv H locs hv hh his
  obtain ⟨vy, sv, rfl, hy, his1⟩ := ab_pop his
  obtain ⟨vx, sv, rfl, hx, his2⟩ := ab_pop his1
  obtain ⟨y, hyq, rfl⟩ := ab_cv0 hy
  obtain ⟨x, hxq, rfl⟩ := ab_cv0 hx
  exact lv_iadd X.1 X.2.1 hd (g _ _ _ _ _ _ (ab_x1 _ hv) hh (ab_push his2 (ab_add (his2.1.2 kx ix x h1 hxq) (his2.1.2 ky iy y h2 hyq))))
theorem ab_isub (X : ab_X p s m args c cc own nL D cl (ab_tys dT rn) A Ts) {kx ky : Nat} {ix iy : ab_I} (hd : decode cc pc = .ok (.isub, 1)) (h1 : E[kx]? = some ix) (h2 : E[ky]? = some iy) (g : ab_G p l e R s m args below meth c Q D cl A sa dT nL vs0 hs0 (pc + 1) (E ++ [ab_cl (ix.1 - iy.2, ix.2 - iy.1)]) nh hp loc ((0, E.length) :: st) nc ns) : ab_G p l e R s m args below meth c Q D cl A sa dT nL vs0 hs0 pc E nh hp loc ((0, ky) :: (0, kx) :: st) nc ns := by
  intro vs hs ls sv H locs hv hh his
  obtain ⟨vy, sv, rfl, hy, his1⟩ := ab_pop his
  obtain ⟨vx, sv, rfl, hx, his2⟩ := ab_pop his1
  obtain ⟨y, hyq, rfl⟩ := ab_cv0 hy
  obtain ⟨x, hxq, rfl⟩ := ab_cv0 hx
  exact lv_isub X.1 X.2.1 hd (g _ _ _ _ _ _ (ab_x1 _ hv) hh (ab_push his2 (ab_sub (his2.1.2 kx ix x h1 hxq) (his2.1.2 ky iy y h2 hyq))))
theorem ab_imul (X : ab_X p s m args c cc own nL D cl (ab_tys dT rn) A Ts) {kx ky : Nat} {ix iy : ab_I} (hd : decode cc pc = .ok (.imul, 1)) (h1 : E[kx]? = some ix) (h2 : E[ky]? = some iy) (g : ab_G p l e R s m args below meth c Q D cl A sa dT nL vs0 hs0 (pc + 1) (E ++ [ab_mulI ix iy]) nh hp loc ((0, E.length) :: st) nc ns) : ab_G p l e R s m args below meth c Q D cl A sa dT nL vs0 hs0 pc E nh hp loc ((0, ky) :: (0, kx) :: st) nc ns := by
  intro vs hs ls sv H locs hv hh his
  obtain ⟨vy, sv, rfl, hy, his1⟩ := ab_pop his
  obtain ⟨vx, sv, rfl, hx, his2⟩ := ab_pop his1
  obtain ⟨y, hyq, rfl⟩ := ab_cv0 hy
  obtain ⟨x, hxq, rfl⟩ := ab_cv0 hx
  exact lv_imul X.1 X.2.1 hd (g _ _ _ _ _ _ (ab_x1 _ hv) hh (ab_push his2 (ab_mul (his2.1.2 kx ix x h1 hxq) (his2.1.2 ky iy y h2 hyq))))
theorem ab_iand (X : ab_X p s m args c cc own nL D cl (ab_tys dT rn) A Ts) {kx ky : Nat} {ix iy : ab_I} (hd : decode cc pc = .ok (.iand, 1)) (h1 : E[kx]? = some ix) (h2 : E[ky]? = some iy) (g : ab_G p l e R s m args below meth c Q D cl A sa dT nL vs0 hs0 (pc + 1) (E ++ [ab_andI ix iy]) nh hp loc ((0, E.length) :: st) nc ns) : ab_G p l e R s m args below meth c Q D cl A sa dT nL vs0 hs0 pc E nh hp loc ((0, ky) :: (0, kx) :: st) nc ns := by
  intro vs hs ls sv H locs hv hh his
  obtain ⟨vy, sv, rfl, hy, his1⟩ := ab_pop his
  obtain ⟨vx, sv, rfl, hx, his2⟩ := ab_pop his1
  obtain ⟨y, hyq, rfl⟩ := ab_cv0 hy
  obtain ⟨x, hxq, rfl⟩ := ab_cv0 hx
  exact lv_iand X.1 X.2.1 hd (g _ _ _ _ _ _ (ab_x1 _ hv) hh (ab_push his2 (ab_and (his2.1.2 kx ix x h1 hxq) (his2.1.2 ky iy y h2 hyq))))
theorem ab_ior (X : ab_X p s m args c cc own nL D cl (ab_tys dT rn) A Ts) {kx ky : Nat} {ix iy : ab_I} (hd : decode cc pc = .ok (.ior, 1)) (h1 : E[kx]? = some ix) (h2 : E[ky]? = some iy) (g : ab_G p l e R s m args below meth c Q D cl A sa dT nL vs0 hs0 (pc + 1) (E ++ [ab_orI ix iy]) nh hp loc ((0, E.length) :: st) nc ns) : ab_G p l e R s m args below meth c Q D cl A sa dT nL vs0 hs0 pc E nh hp loc ((0, ky) :: (0, kx) :: st) nc ns := by
  intro vs hs ls sv H locs hv hh his
  obtain ⟨vy, sv, rfl, hy, his1⟩ := ab_pop his
  obtain ⟨vx, sv, rfl, hx, his2⟩ := ab_pop his1
  obtain ⟨y, hyq, rfl⟩ := ab_cv0 hy
  obtain ⟨x, hxq, rfl⟩ := ab_cv0 hx
  exact lv_ior X.1 X.2.1 hd (g _ _ _ _ _ _ (ab_x1 _ hv) hh (ab_push his2 (ab_or (his2.1.2 kx ix x h1 hxq) (his2.1.2 ky iy y h2 hyq))))
theorem ab_ixor (X : ab_X p s m args c cc own nL D cl (ab_tys dT rn) A Ts) {kx ky : Nat} {ix iy : ab_I} (hd : decode cc pc = .ok (.ixor, 1)) (h1 : E[kx]? = some ix) (h2 : E[ky]? = some iy) (g : ab_G p l e R s m args below meth c Q D cl A sa dT nL vs0 hs0 (pc + 1) (E ++ [ab_orI ix iy]) nh hp loc ((0, E.length) :: st) nc ns) : ab_G p l e R s m args below meth c Q D cl A sa dT nL vs0 hs0 pc E nh hp loc ((0, ky) :: (0, kx) :: st) nc ns := by
  intro vs hs ls sv H locs hv hh his
  obtain ⟨vy, sv, rfl, hy, his1⟩ := ab_pop his
  obtain ⟨vx, sv, rfl, hx, his2⟩ := ab_pop his1
  obtain ⟨y, hyq, rfl⟩ := ab_cv0 hy
  obtain ⟨x, hxq, rfl⟩ := ab_cv0 hx
  exact lv_ixor X.1 X.2.1 hd (g _ _ _ _ _ _ (ab_x1 _ hv) hh (ab_push his2 (ab_xor (his2.1.2 kx ix x h1 hxq) (his2.1.2 ky iy y h2 hyq))))
theorem ab_idiv (X : ab_X p s m args c cc own nL D cl (ab_tys dT rn) A Ts) {kx ky : Nat} {ix iy r : ab_I} (hd : decode cc pc = .ok (.idiv, 1)) (h1 : E[kx]? = some ix) (h2 : E[ky]? = some iy) (h3 : ab_divI ix iy = some r) (g : ab_G p l e R s m args below meth c Q D cl A sa dT nL vs0 hs0 (pc + 1) (E ++ [r]) nh hp loc ((0, E.length) :: st) nc ns) : ab_G p l e R s m args below meth c Q D cl A sa dT nL vs0 hs0 pc E nh hp loc ((0, ky) :: (0, kx) :: st) nc ns := by
  intro vs hs ls sv H locs hv hh his
  obtain ⟨vy, sv, rfl, hy, his1⟩ := ab_pop his
  obtain ⟨vx, sv, rfl, hx, his2⟩ := ab_pop his1
  obtain ⟨y, hyq, rfl⟩ := ab_cv0 hy
  obtain ⟨x, hxq, rfl⟩ := ab_cv0 hx
  obtain ⟨k1, k2⟩ := ab_div (his2.1.2 kx ix x h1 hxq) (his2.1.2 ky iy y h2 hyq) h3
  exact lv_idiv X.1 X.2.1 hd k1 (g _ _ _ _ _ _ (ab_x1 _ hv) hh (ab_push his2 k2))
theorem ab_irem (X : ab_X p s m args c cc own nL D cl (ab_tys dT rn) A Ts) {kx ky : Nat} {ix iy r : ab_I} (hd : decode cc pc = .ok (.irem, 1)) (h1 : E[kx]? = some ix) (h2 : E[ky]? = some iy) (h3 : ab_remI ix iy = some r) (g : ab_G p l e R s m args below meth c Q D cl A sa dT nL vs0 hs0 (pc + 1) (E ++ [r]) nh hp loc ((0, E.length) :: st) nc ns) : ab_G p l e R s m args below meth c Q D cl A sa dT nL vs0 hs0 pc E nh hp loc ((0, ky) :: (0, kx) :: st) nc ns := by
  intro vs hs ls sv H locs hv hh his
  obtain ⟨vy, sv, rfl, hy, his1⟩ := ab_pop his
  obtain ⟨vx, sv, rfl, hx, his2⟩ := ab_pop his1
  obtain ⟨y, hyq, rfl⟩ := ab_cv0 hy
  obtain ⟨x, hxq, rfl⟩ := ab_cv0 hx
  obtain ⟨k1, k2⟩ := ab_rem (his2.1.2 kx ix x h1 hxq) (his2.1.2 ky iy y h2 hyq) h3
  exact lv_irem X.1 X.2.1 hd k1 (g _ _ _ _ _ _ (ab_x1 _ hv) hh (ab_push his2 k2))

theorem ab_dup (X : ab_X p s m args c cc own nL D cl (ab_tys dT rn) A Ts) {a : ab_V} (hd : decode cc pc = .ok (.dup, 1)) (g : ab_G p l e R s m args below meth c Q D cl A sa dT nL vs0 hs0 (pc + 1) E nh hp loc (a :: a :: st) nc ns) : ab_G p l e R s m args below meth c Q D cl A sa dT nL vs0 hs0 pc E nh hp loc (a :: st) nc ns := by
  intro vs hs ls sv H locs hv hh his
  obtain ⟨vx, sv, rfl, hx, his1⟩ := ab_pop his
  exact lv_dup X.1 X.2.1 hd (ab_cat hx) (g _ _ _ _ _ _ hv hh (ab_pv (ab_pv his1 hx) hx))
theorem ab_popi (X : ab_X p s m args c cc own nL D cl (ab_tys dT rn) A Ts) {a : ab_V} (hd : decode cc pc = .ok (.pop, 1)) (g : ab_G p l e R s m args below meth c Q D cl A sa dT nL vs0 hs0 (pc + 1) E nh hp loc st nc ns) : ab_G p l e R s m args below meth c Q D cl A sa dT nL vs0 hs0 pc E nh hp loc (a :: st) nc ns := by
  intro vs hs ls sv H locs hv hh his
  obtain ⟨vx, sv, rfl, hx, his1⟩ := ab_pop his
  exact lv_pop X.1 X.2.1 hd (ab_cat hx) (g _ _ _ _ _ _ hv hh his1)
theorem ab_dupx1 (X : ab_X p s m args c cc own nL D cl (ab_tys dT rn) A Ts) {a b : ab_V} (hd : decode cc pc = .ok (.dup_x1, 1)) (g : ab_G p l e R s m args below meth c Q D cl A sa dT nL vs0 hs0 (pc + 1) E nh hp loc (a :: b :: a :: st) nc ns) : ab_G p l e R s m args below meth c Q D cl A sa dT nL vs0 hs0 pc E nh hp loc (a :: b :: st) nc ns := by
  intro vs hs ls sv H locs hv hh his
  obtain ⟨vx, sv, rfl, hx, his1⟩ := ab_pop his
  obtain ⟨vy, sv, rfl, hy, his2⟩ := ab_pop his1
  exact lv_dup_x1 X.1 X.2.1 hd (ab_cat hx) (ab_cat hy) (g _ _ _ _ _ _ hv hh (ab_pv (ab_pv (ab_pv his2 hx) hy) hx))
theorem ab_dupx2 (X : ab_X p s m args c cc own nL D cl (ab_tys dT rn) A Ts) {a b d : ab_V} (hd : decode cc pc = .ok (.dup_x2, 1)) (g : ab_G p l e R s m args below meth c Q D cl A sa dT nL vs0 hs0 (pc + 1) E nh hp loc (a :: b :: d :: a :: st) nc ns) : ab_G p l e R s m args below meth c Q D cl A sa dT nL vs0 hs0 pc E nh hp loc (a :: b :: d :: st) nc ns := by
  intro vs hs ls sv H locs hv hh his
  obtain ⟨vx, sv, rfl, hx, his1⟩ := ab_pop his
  obtain ⟨vy, sv, rfl, hy, his2⟩ := ab_pop his1
  obtain ⟨vz, sv, rfl, hz, his3⟩ := ab_pop his2
  exact lv_dup_x2 X.1 X.2.1 hd (ab_cat hx) (ab_cat hy) (ab_cat hz) (g _ _ _ _ _ _ hv hh (ab_pv (ab_pv (ab_pv (ab_pv his3 hx) hz) hy) hx))
theorem ab_dup2 (X : ab_X p s m args c cc own nL D cl (ab_tys dT rn) A Ts) {a b : ab_V} (hd : decode cc pc = .ok (.dup2, 1)) (g : ab_G p l e R s m args below meth c Q D cl A sa dT nL vs0 hs0 (pc + 1) E nh hp loc (a :: b :: a :: b :: st) nc ns) : ab_G p l e R s m args below meth c Q D cl A sa dT nL vs0 hs0 pc E nh hp loc (a :: b :: st) nc ns := by
  intro vs hs ls sv H locs hv hh his
  obtain ⟨vx, sv, rfl, hx, his1⟩ := ab_pop his
  obtain ⟨vy, sv, rfl, hy, his2⟩ := ab_pop his1
  exact lv_dup2_11 X.1 X.2.1 hd (ab_cat hx) (ab_cat hy) (g _ _ _ _ _ _ hv hh (ab_pv (ab_pv (ab_pv (ab_pv his2 hy) hx) hy) hx))
theorem ab_tab (X : ab_X p s m args c cc own nL D cl (ab_tys dT rn) A Ts) {df lo hi : Int} {offs : Array Int} {len kx td : Nat} {ix : ab_I} (hd : decode cc pc = .ok (.tableswitch df lo hi offs, len)) (h1 : E[kx]? = some ix)
    (gi : ∀ z : Int, ix.1 ≤ z → z ≤ ix.2 → lo ≤ z → z ≤ hi → ∃ (off : Int) (t : Nat), offs[(z - lo).toNat]? = some off ∧ (pc : Int) + off = (t : Int) ∧ ab_G p l e R s m args below meth c Q D cl A sa dT nL vs0 hs0 t (E.set kx (z, z)) nh hp loc st nc ns)
    (hdt : (pc : Int) + df = (td : Int)) (go : ix.1 < lo ∨ hi < ix.2 → ab_G p l e R s m args below meth c Q D cl A sa dT nL vs0 hs0 td E nh hp loc st nc ns) : ab_G p l e R s m args below meth c Q D cl A sa dT nL vs0 hs0 pc E nh hp loc ((0, kx) :: st) nc ns := by
  intro vs hs ls sv H locs hv hh his
  obtain ⟨vx, sv, rfl, hx, his1⟩ := ab_pop his
  obtain ⟨x, hxq, rfl⟩ := ab_cv0 hx
  have hi2 := his1.1.2 kx ix x h1 hxq
  by_cases hin : x.toInt < lo ∨ hi < x.toInt
  · exact lv_tableOut X.1 X.2.1 hd hin hdt (go (by have := hi2.1; have := hi2.2; omega) _ _ _ _ _ _ hv hh his1)
  · obtain ⟨off, t, g1, g2, g3⟩ := gi x.toInt hi2.1 hi2.2 (by omega) (by omega)
    exact lv_tableIn X.1 X.2.1 hd (by omega) (by omega) g1 g2 (g3 _ _ _ _ _ _ hv hh (ab_env his1 (ab_e_set his1.1 kx (fun z hz => by rw [hxq] at hz; cases hz; exact ⟨Int.le_refl _, Int.le_refl _⟩))))
theorem ab_lksw (X : ab_X p s m args c cc own nL D cl (ab_tys dT rn) A Ts) {df : Int} {ps : Array (Int × Int)} {len kx : Nat} {ix : ab_I} (hd : decode cc pc = .ok (.lookupswitch df ps, len)) (hp0 : (ps.toList.zip (ps.toList.drop 1)).all (fun (a, next) => a.1 < next.1) = true) (h1 : E[kx]? = some ix)
    (gi : ∀ x : Int32, ab_in ix x → ∃ (t : Nat) (E' : List ab_I), (pc : Int) + Op.lookupswitch.offset ps.toList df x.toInt = (t : Int) ∧ (∀ vs : List Int32, ab_e E vs → vs[kx]? = some x → ab_e E' vs) ∧ ab_G p l e R s m args below meth c Q D cl A sa dT nL vs0 hs0 t E' nh hp loc st nc ns) : ab_G p l e R s m args below meth c Q D cl A sa dT nL vs0 hs0 pc E nh hp loc ((0, kx) :: st) nc ns := by
  intro vs hs ls sv H locs hv hh his
  obtain ⟨vx, sv, rfl, hx, his1⟩ := ab_pop his
  obtain ⟨x, hxq, rfl⟩ := ab_cv0 hx
  obtain ⟨t, E', g1, g2, g3⟩ := gi x (his1.1.2 kx ix x h1 hxq)
  exact lv_lookup X.1 X.2.1 hd hp0 rfl g1 (g3 _ _ _ _ _ _ hv hh (ab_env his1 (g2 vs his1.1 hxq)))
def ab_FL (s : State) (args : Array Value) (own : String) (cl : List vw_C) (Ts : List Cond) (ix ci k fl : Nat) : Prop :=
  ∃ (C : String) (T : u_T) (N : Nat) (ty0 : Nat → FieldType) (ref : String), cl[ci]? = some (C, T, N) ∧ k < N ∧ (∀ w ∈ u_ws C T N, w ∈ Ts) ∧ (∀ k, k < N → parseFieldDescriptor (T k).2.2.1 = some (ty0 k)) ∧ (∀ a, a < N → ∀ b, b < N → a ≠ b → (T a).2.1 ≠ (T b).2.1) ∧
    (∀ x, s.fieldFound? (T k).1 (T k).2.1 (T k).2.2.1 = some x → s.fieldFound? ref (T k).2.1 (T k).2.2.1 = some x) ∧ ((Cond.fieldLink own ix ref (T k).2.1 (T k).2.2.1).before args s = true ∨ ∃ host, (Cond.fieldLinkNest own ix ref (T k).2.1 (T k).2.2.1 host).before args s = true) ∧
    (fl % 2 = 0 → ty0 k = .int) ∧ (fl % 2 = 1 → (∃ n, ty0 k = .object n) ∨ ∃ t, ty0 k = .array t) ∧ (fl < 2 → (T k).2.2.2 = false) ∧ (2 ≤ fl → fl < 4 → (T k).2.2.2 = true ∧ (T k).1 = own ∧ (Cond.fieldLink own ix ref (T k).2.1 (T k).2.2.1).before args s = true)
theorem ab_getf (X : ab_X p s m args c cc own nL D cl (ab_tys dT rn) A Ts) {ix ci k fl a j : Nat} {fs : List ab_V} {v : ab_V} (hF : ab_FL s args own cl Ts ix ci k fl) (hd : decode cc pc = .ok (.getfield ix, 3)) (hf : ab_fi hp a 0 = some (j, .inl (ci, fs))) (hv : fs[k]? = some v) (g : ab_G p l e R s m args below meth c Q D cl A sa dT nL vs0 hs0 (pc + 3) E nh hp loc (v :: st) nc ns) : ab_G p l e R s m args below meth c Q D cl A sa dT nL vs0 hs0 pc E nh hp loc ((1, a) :: st) nc ns := by
  intro vs hs ls sv H locs hv0 hh his
  obtain ⟨w, sv, rfl, hw, his1⟩ := ab_pop his
  obtain ⟨q, hq, rfl⟩ := ab_cv1 hw
  obtain ⟨h1, h2, h3, h4, ws, h5, h6, h7, h8⟩ := id his1
  obtain ⟨ce, g1, g2⟩ := ab_w_at h5 hf hq
  obtain ⟨fw, rfl, g3⟩ := g2
  obtain ⟨x, g4, g5⟩ := ab_at g3 hv
  obtain ⟨C, T, N, ty0, ref, f1, f2, f3, f4, f5, f6, f7, -⟩ := hF
  rcases f7 with f7 | ⟨host, f7⟩
  · exact va_get X.1 X.2.1 X.2.2.2.2.1 f3 X.2.2.2.1 X.2.2.2.2.2.1 h6 j g1 f1 k f2 f7 f6 g4 hd (g _ _ _ _ _ _ hv0 hh (ab_pv his1 g5))
  · exact va_getN X.1 X.2.1 X.2.2.2.2.1 f3 X.2.2.2.1 X.2.2.2.2.2.1 h6 j g1 f1 k f2 f7 f6 g4 hd (g _ _ _ _ _ _ hv0 hh (ab_pv his1 g5))
theorem ab_nar {ty : FieldType} {v : ab_V} {sa : Nat → Nat} {vs : List Int32} {hs : List Nat} {w : Value} {fl : Nat} (hv : ab_cv sa vs hs v = some w) (h0 : fl % 2 = 0 → ty = .int) (h1 : fl % 2 = 1 → (∃ n, ty = .object n) ∨ ∃ t, ty = .array t) (ht : (fl % 2 = 0 ∧ v.1 = 0) ∨ (fl % 2 = 1 ∧ v.1 ≠ 0)) : narrow ty w = w ∧ fits ty w = true := by
  obtain ⟨t, k⟩ := v
  rcases ht with ⟨a, b⟩ | ⟨a, b⟩
  · dsimp only at b
    subst b
    obtain ⟨x, -, rfl⟩ := ab_cv0 hv
    rw [h0 a]
    exact ⟨rfl, rfl⟩
  · rcases ab_tag hv with e | e | e | e <;> dsimp only at e b <;> subst e
    · exact absurd rfl b
    · obtain ⟨x, -, rfl⟩ := ab_cv1 hv
      rcases h1 a with ⟨n, rfl⟩ | ⟨n, rfl⟩ <;> exact ⟨rfl, rfl⟩
    · cases hv
      rcases h1 a with ⟨n, rfl⟩ | ⟨n, rfl⟩ <;> exact ⟨rfl, rfl⟩
    · cases hv
      rcases h1 a with ⟨n, rfl⟩ | ⟨n, rfl⟩ <;> exact ⟨rfl, rfl⟩
theorem ab_putf (X : ab_X p s m args c cc own nL D cl (ab_tys dT rn) A Ts) {ix ci k fl a j : Nat} {fs : List ab_V} {v : ab_V} (hF : ab_FL s args own cl Ts ix ci k fl) (hini : 2 ≤ fl → meth.name = "<init>") (hf4 : fl < 4) (hd : decode cc pc = .ok (.putfield ix, 3)) (hf : ab_fi hp a 0 = some (j, .inl (ci, fs))) (hk : k < fs.length) (ht : (fl % 2 = 0 ∧ v.1 = 0) ∨ (fl % 2 = 1 ∧ v.1 ≠ 0)) (g : ab_G p l e R s m args below meth c Q D cl A sa dT nL vs0 hs0 (pc + 3) E nh (hp.set j (a, .inl (ci, fs.set k v))) loc st nc ns) : ab_G p l e R s m args below meth c Q D cl A sa dT nL vs0 hs0 pc E nh hp loc (v :: (1, a) :: st) nc ns := by
  intro vs hs ls sv H locs hv0 hh his
  obtain ⟨w2, sv, rfl, hw2, his1⟩ := ab_pop his
  obtain ⟨w, sv, rfl, hw, his2⟩ := ab_pop his1
  obtain ⟨q, hq, rfl⟩ := ab_cv1 hw
  obtain ⟨h1, h2, h3, h4, ws, h5, h6, h7, h8⟩ := id his2
  obtain ⟨ce, g1, g2⟩ := ab_w_at h5 hf hq
  obtain ⟨fw, rfl, g3⟩ := g2
  obtain ⟨C, T, N, ty0, ref, f1, f2, f3, f4, f5, f6, f7, f8, f9, f10, f11⟩ := hF
  obtain ⟨n1, n2⟩ := ab_nar hw2 f8 f9 ht
  have hl : k < fw.length := by rw [← ab_lenL g3]; exact hk
  have kk : ∀ (H1 : Heap) (locs1 : List Loc), va_P D cl (ws.set j (q, .inr (ci, fw.set k w2))) H1 → va_D A (ws.set j (q, .inr (ci, fw.set k w2))) → va_S A s.heap H1 locs1 → W p l e R s m args below meth c H1 locs1 nc ns Q (F0 m (pc + 3) ls sv) := by
    intro H1 locs1 k1 k2 k3
    exact g _ _ _ _ _ _ hv0 hh ⟨h1, h2, h3, h4, _, ab_w_set h5 (ab_fi0 hf) g1 hq ⟨_, rfl, ab_setL g3 k hw2⟩, k1, k2, k3⟩
  by_cases hfl : fl < 2
  · rcases f7 with f7 | ⟨host, f7⟩
    · exact va_put X.1 X.2.1 X.2.2.2.2.1 f3 ty0 f4 f5 X.2.2.2.1 X.2.2.2.2.2.1 h6 h7 h8 j g1 f1 k f2 f7 f6 (f10 hfl) (f4 k f2) n1 n2 hl hd kk
    · exact va_putN X.1 X.2.1 X.2.2.2.2.1 f3 ty0 f4 f5 X.2.2.2.1 X.2.2.2.2.2.1 h6 h7 h8 j g1 f1 k f2 f7 f6 (f10 hfl) (f4 k f2) n1 n2 hl hd kk
  · obtain ⟨f12, f13, f14⟩ := f11 (by omega) hf4
    exact va_putF X.1 X.2.1 X.2.2.2.2.1 f3 ty0 f4 f5 X.2.2.2.1 X.2.2.2.2.2.1 h6 h7 h8 j g1 f1 k f2 f14 f6 f12 (hini (by omega)) f13 (f4 k f2) n1 n2 hl hd kk
theorem ab_inN {lo hi : Int} {n : Nat} {x : Int32} (h : ab_in (lo, hi) x) (h1 : 0 ≤ lo) (h2 : hi < (n : Int)) : vp_in x n ∧ x.toNatClampNeg < n ∧ ((x.toNatClampNeg : Nat) : Int) = x.toInt := by
  have g1 := h.1
  have g2 := h.2
  dsimp only at g1 g2
  have e : x.toNatClampNeg = x.toInt.toNat := rfl
  have g3 : x.toNatClampNeg < n := by rw [e]; omega
  refine ⟨fun q => ?_, g3, by rw [e]; omega⟩
  rcases q with q | q
  · have := Int32.lt_iff_toInt_lt.mp q
    rw [Int32.toInt_zero] at this
    omega
  · omega
def ab_ixI (i : ab_I) (lo hi lo0 hi0 : Int) : ab_I := if i.1 = i.2 then (if i.1 % 5 = 0 then (lo0, hi0) else (lo, hi)) else (min lo lo0, max hi hi0)
theorem ab_ixI_ok {i : ab_I} {lo hi lo0 hi0 : Int} {z : Nat} {x : Int32} (h1 : i.1 ≤ (z : Int)) (h2 : (z : Int) ≤ i.2) (h : ab_in (ab_b5 lo hi lo0 hi0 z) x) : ab_in (ab_ixI i lo hi lo0 hi0) x := by
  unfold ab_ixI
  unfold ab_b5 at h
  split
  · split
    · rw [if_pos (by omega)] at h
      exact h
    · rw [if_neg (by omega)] at h
      exact h
  · unfold ab_in at *
    split at h <;> dsimp only at * <;> omega
def ab_stI (i v : ab_I) (lo hi lo0 hi0 : Int) : Int × Int × Int × Int :=
  ((if i.1 = i.2 ∧ i.1 % 5 = 0 then lo else min lo v.1), (if i.1 = i.2 ∧ i.1 % 5 = 0 then hi else max hi v.2), (if i.1 = i.2 ∧ ¬ i.1 % 5 = 0 then lo0 else min lo0 v.1), (if i.1 = i.2 ∧ ¬ i.1 % 5 = 0 then hi0 else max hi0 v.2))
theorem ab_stI_old {i v : ab_I} {lo hi lo0 hi0 : Int} {z : Nat} {x : Int32} (h : ab_in (ab_b5 lo hi lo0 hi0 z) x) : ab_in (ab_b5 (ab_stI i v lo hi lo0 hi0).1 (ab_stI i v lo hi lo0 hi0).2.1 (ab_stI i v lo hi lo0 hi0).2.2.1 (ab_stI i v lo hi lo0 hi0).2.2.2 z) x := by
  unfold ab_stI
  unfold ab_b5 at *
  unfold ab_in at *
  dsimp only
  split at h
  · rename_i hz
    rw [if_pos hz]
    dsimp only at *
    split <;> omega
  · rename_i hz
    rw [if_neg hz]
    dsimp only at *
    split <;> omega
theorem ab_stI_new {i v : ab_I} {lo hi lo0 hi0 : Int} {z : Nat} {x : Int32} (h1 : i.1 ≤ (z : Int)) (h2 : (z : Int) ≤ i.2) (h : ab_in v x) : ab_in (ab_b5 (ab_stI i v lo hi lo0 hi0).1 (ab_stI i v lo hi lo0 hi0).2.1 (ab_stI i v lo hi lo0 hi0).2.2.1 (ab_stI i v lo hi lo0 hi0).2.2.2 z) x := by
  unfold ab_stI ab_b5
  unfold ab_in at *
  dsimp only
  split
  · rename_i hz
    dsimp only at *
    rw [if_neg (by omega), if_neg (by omega)]
    omega
  · rename_i hz
    dsimp only at *
    rw [if_neg (by omega), if_neg (by omega)]
    omega
theorem ab_iald (X : ab_X p s m args c cc own nL D cl (ab_tys dT rn) A Ts) {a j n ki : Nat} {lo hi lo0 hi0 : Int} {i : ab_I} (hd : decode cc pc = .ok (.iaload, 1)) (hf : ab_fi hp a 0 = some (j, .inr (.inl (n, lo, hi, lo0, hi0)))) (hi1 : E[ki]? = some i) (h1 : 0 ≤ i.1) (h2 : i.2 < (n : Int)) (g : ab_G p l e R s m args below meth c Q D cl A sa dT nL vs0 hs0 (pc + 1) (E ++ [ab_ixI i lo hi lo0 hi0]) nh hp loc ((0, E.length) :: st) nc ns) : ab_G p l e R s m args below meth c Q D cl A sa dT nL vs0 hs0 pc E nh hp loc ((0, ki) :: (1, a) :: st) nc ns := by
  intro vs hs ls sv H locs hv0 hh his
  obtain ⟨w2, sv, rfl, hw2, his1⟩ := ab_pop his
  obtain ⟨w, sv, rfl, hw, his2⟩ := ab_pop his1
  obtain ⟨x, hx, rfl⟩ := ab_cv0 hw2
  obtain ⟨q, hq, rfl⟩ := ab_cv1 hw
  obtain ⟨k1, k2, k3, k4, ws, k5, k6, k7, k8⟩ := id his2
  obtain ⟨ce, g1, g2⟩ := ab_w_at k5 hf hq
  obtain ⟨f, rfl, g3⟩ := g2
  have hin := k1.2 ki i x hi1 hx
  obtain ⟨m1, m2, m3⟩ := ab_inN hin h1 h2
  exact va_iald X.1 X.2.1 X.2.2.2.2.2.1 k6 j 0 g1 rfl m1 hd (g _ _ _ _ _ _ (ab_x1 _ hv0) hh (ab_push his2 (ab_ixI_ok (by rw [m3]; exact hin.1) (by rw [m3]; exact hin.2) (g3 _ m2))))
theorem ab_iast (X : ab_X p s m args c cc own nL D cl (ab_tys dT rn) A Ts) {a j n ki kx : Nat} {lo hi lo0 hi0 : Int} {i ix : ab_I} (hd : decode cc pc = .ok (.iastore, 1)) (hf : ab_fi hp a 0 = some (j, .inr (.inl (n, lo, hi, lo0, hi0)))) (hi1 : E[ki]? = some i) (hx1 : E[kx]? = some ix) (h1 : 0 ≤ i.1) (h2 : i.2 < (n : Int)) (g : ab_G p l e R s m args below meth c Q D cl A sa dT nL vs0 hs0 (pc + 1) E nh (hp.set j (a, .inr (.inl (n, ab_stI i ix lo hi lo0 hi0)))) loc st nc ns) : ab_G p l e R s m args below meth c Q D cl A sa dT nL vs0 hs0 pc E nh hp loc ((0, kx) :: (0, ki) :: (1, a) :: st) nc ns := by
  intro vs hs ls sv H locs hv0 hh his
  obtain ⟨w3, sv, rfl, hw3, his1⟩ := ab_pop his
  obtain ⟨w2, sv, rfl, hw2, his2⟩ := ab_pop his1
  obtain ⟨w, sv, rfl, hw, his3⟩ := ab_pop his2
  obtain ⟨y, hy, rfl⟩ := ab_cv0 hw3
  obtain ⟨x, hx, rfl⟩ := ab_cv0 hw2
  obtain ⟨q, hq, rfl⟩ := ab_cv1 hw
  obtain ⟨k1, k2, k3, k4, ws, k5, k6, k7, k8⟩ := id his3
  obtain ⟨ce, g1, g2⟩ := ab_w_at k5 hf hq
  obtain ⟨f, rfl, g3⟩ := g2
  have hin := k1.2 ki i x hi1 hx
  obtain ⟨m1, m2, m3⟩ := ab_inN hin h1 h2
  have my := k1.2 kx ix y hx1 hy
  refine va_iast X.1 X.2.1 X.2.2.2.2.2.1 k6 k7 k8 j 0 g1 rfl m1 hd (fun H1 locs1 r1 r2 r3 => g _ _ _ _ _ _ hv0 hh ⟨k1, k2, k3, k4, _, ab_w_set k5 (ab_fi0 hf) g1 hq ⟨_, rfl, fun t ht => ?_⟩, r1, r2, r3⟩)
  show ab_in (ab_b5 (ab_stI i ix lo hi lo0 hi0).1 (ab_stI i ix lo hi lo0 hi0).2.1 (ab_stI i ix lo hi lo0 hi0).2.2.1 (ab_stI i ix lo hi lo0 hi0).2.2.2 t) (if t = x.toNatClampNeg then y else f t)
  by_cases ht2 : t = x.toNatClampNeg
  · rw [if_pos ht2, ht2]
    exact ab_stI_new (by rw [m3]; exact hin.1) (by rw [m3]; exact hin.2) my
  · rw [if_neg ht2]
    exact ab_stI_old (g3 t ht)
theorem ab_aald (X : ab_X p s m args c cc own nL D cl (ab_tys dT rn) A Ts) {a j t ki : Nat} {js : List ab_V} {C : String} {i : ab_I} (hd : decode cc pc = .ok (.aaload, 1)) (hC : rn[t]? = some C) (hf : ab_fi hp a 0 = some (j, .inr (.inr (t, js)))) (hi1 : E[ki]? = some i) (h1 : 0 ≤ i.1) (h2 : i.2 < (js.length : Int)) (g : ∀ (z : Nat) (v : ab_V), i.1 ≤ (z : Int) → (z : Int) ≤ i.2 → js[z]? = some v → ab_G p l e R s m args below meth c Q D cl A sa dT nL vs0 hs0 (pc + 1) (E.set ki ((z : Int), (z : Int))) nh hp loc (v :: st) nc ns) : ab_G p l e R s m args below meth c Q D cl A sa dT nL vs0 hs0 pc E nh hp loc ((0, ki) :: (1, a) :: st) nc ns := by
  intro vs hs ls sv H locs hv0 hh his
  obtain ⟨w2, sv, rfl, hw2, his1⟩ := ab_pop his
  obtain ⟨w, sv, rfl, hw, his2⟩ := ab_pop his1
  obtain ⟨x, hx, rfl⟩ := ab_cv0 hw2
  obtain ⟨q, hq, rfl⟩ := ab_cv1 hw
  obtain ⟨k1, k2, k3, k4, ws, k5, k6, k7, k8⟩ := id his2
  obtain ⟨ce, g1, g2⟩ := ab_w_at k5 hf hq
  obtain ⟨f, rfl, g3⟩ := g2
  have hin := k1.2 ki i x hi1 hx
  obtain ⟨m1, m2, m3⟩ := ab_inN hin h1 h2
  have m4 : js[x.toNatClampNeg]? = some js[x.toNatClampNeg] := List.getElem?_eq_getElem m2
  refine va_aldq X.1 X.2.1 X.2.2.2.2.2.1 k6 j (t + 1) g1 (ab_tys_at hC) m1 hd (g _ _ (by rw [m3]; exact hin.1) (by rw [m3]; exact hin.2) m4 _ _ _ _ _ _ hv0 hh (ab_pv (ab_env his2 (ab_e_set k1 ki (fun z hz => ?_))) (g3 _ _ m4)))
  rw [hx] at hz
  cases hz
  rw [m3]
  exact ⟨Int.le_refl _, Int.le_refl _⟩
theorem ab_alen (X : ab_X p s m args c cc own nL D cl (ab_tys dT rn) A Ts) {a j n : Nat} {lo hi lo0 hi0 : Int} (hn : n < 2147483648) (hd : decode cc pc = .ok (.arraylength, 1)) (hf : ab_fi hp a 0 = some (j, .inr (.inl (n, lo, hi, lo0, hi0)))) (g : ab_G p l e R s m args below meth c Q D cl A sa dT nL vs0 hs0 (pc + 1) (E ++ [((n : Int), (n : Int))]) nh hp loc ((0, E.length) :: st) nc ns) : ab_G p l e R s m args below meth c Q D cl A sa dT nL vs0 hs0 pc E nh hp loc ((1, a) :: st) nc ns := by
  intro vs hs ls sv H locs hv0 hh his
  obtain ⟨w, sv, rfl, hw, his1⟩ := ab_pop his
  obtain ⟨q, hq, rfl⟩ := ab_cv1 hw
  obtain ⟨k1, k2, k3, k4, ws, k5, k6, k7, k8⟩ := id his1
  obtain ⟨ce, g1, g2⟩ := ab_w_at k5 hf hq
  obtain ⟨f, rfl, g3⟩ := g2
  have e : Int32.ofNat n = Int32.ofInt (n : Int) := rfl
  exact va_alen X.1 X.2.1 X.2.2.2.2.2.1 k6 j 0 g1 rfl e hd (g _ _ _ _ _ _ (ab_x1 _ hv0) hh (ab_push his1 (ab_const (by omega) (by omega))))
end
