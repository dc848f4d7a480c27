section
variable {p : Program} {l : Launch} {e : Env} {R : Room} {s : State} {m : MethodId} {args : Array Value} {below : List Frame} {meth : Method} {c : Code} {Q : State → Prop} {cc : ByteArray} {own : String} {nL : Nat} {D : va_G} {cl : List vw_C} {rn : List String} {A : Nat → Prop} {Ts : List Cond} {sa : Nat → Nat} {dT : Nat → ClassId} {vs0 : List Int32} {hs0 : List Nat} {pc : Nat} {E : List ab_I} {nh nc ns : Nat} {hp : ab_H} {loc : List (Nat × ab_V)} {st : List ab_V}
variable {SL : ab_SL} {NF : ab_NF} {NM : ab_NM} {Tc : List Cond}
def ab_cutsD (R : Room) (cl : List vw_C) (rn : List String) (ini : Bool) (FT : List (Nat × Nat × Nat × Nat)) (SL : ab_SL) (ST : List (Nat × Nat)) (NT : List (Nat × Nat × List Bool)) (RT : List (Nat × Nat)) (OI : List Nat) (AC : List Nat) (nL : Nat) (KT : List (Nat × Int)) (mm : Nat → ab_M) (MT : List (Nat × Nat × Nat × Nat × Nat)) (EN : List ab_N) (ex : Nat → ab_S → Option (List (Nat × ab_S))) (fin : Nat → ab_S → Bool) (n0 nh0 : Nat) (pg : List (Nat × ClassFile.Instr × Nat)) (fuel : Nat) : List (Nat × ab_S × List Nat) → Prop
  | [] => True
  | c :: r => (∃ EN1 : List ab_N, (∀ en ∈ EN1, en ∈ EN) ∧ ab_ai R cl rn ini FT SL ST NT RT OI AC nL KT mm MT EN1 ex (fun pc S => fin pc S || (c.2.2.filterMap (fun k => r[k]?)).any (fun d => decide (d.1 = pc) && ab_mtS n0 nh0 d.2.1 S)) pg fuel c.1 c.2.1 = true) ∧ ab_cutsD R cl rn ini FT SL ST NT RT OI AC nL KT mm MT EN ex fin n0 nh0 pg fuel r
theorem ab_cutsD_ok {KT : List (Nat × Int)} {mm : Nat → ab_M} {MT : List (Nat × Nat × Nat × Nat × Nat)} {EN : List ab_N} {pg : List (Nat × ClassFile.Instr × Nat)} {ex : Nat → ab_S → Option (List (Nat × ab_S))} {fin : Nat → ab_S → Bool} {fuel : Nat} (X : ab_X p s m args c cc own nL D cl (ab_tys dT rn) A Ts) (SX : ab_SX rn SL NF NM sa A s s.heap) {ini : Bool} {FT : List (Nat × Nat × Nat × Nat)} {ST : List (Nat × Nat)} {NT : List (Nat × Nat × List Bool)} {RT : List (Nat × Nat)} {OI AC : List Nat} (hini : ini = true → meth.name = "<init>") (hF : ∀ q ∈ FT, ab_FL s args own cl Ts q.1 q.2.1 q.2.2.1 q.2.2.2) (hST : ∀ q ∈ ST, ∀ r, SL[q.2]? = some r → (Cond.fieldLink own q.1 r.1 r.2.1 r.2.2.1).before args s = true) (hNT : ∀ q ∈ NT, ab_NL s args own cl Ts q.1 q.2.1 q.2.2) (hAI : (Cond.arrayClass (newarray.typeOf .int)).before args s = true) (hRT : ∀ q ∈ RT, ∀ C, rn[q.2]? = some C → (Cond.classLink own q.1 C).before args s = true) (hOI : ∀ ix ∈ OI, (Cond.methodLink own ix Lib.objectInit).before args s = true ∧ (Cond.instanceMethod Lib.objectInit).before args s = true ∧ (Cond.code Lib.objectInit ⟨#[0xb1]⟩ 1 none).before args s = true) (hAC : ∀ ix ∈ AC, (Cond.methodLink own ix arraycopyName).before args s = true ∧ (Cond.native arraycopyName).before args s = true ∧ (Cond.static arraycopyName).before args s = true ∧ (Cond.initialized "java/lang/System").before args s = true) (hK : ∀ q ∈ KT, (Jvm.Cond.constant own q.1 (Int32.ofInt q.2)).before args s = true) (hEN : ∀ en ∈ EN, ab_enOk l cl rn SL NF NM Tc mm en) (hMT : ∀ q ∈ MT, GoodIn Ts (.code (mm q.2.2.1).1 (mm q.2.2.1).2.1 (mm q.2.2.1).2.2.1 (mm q.2.2.1).2.2.2 :: Tc) ∧ ab_ML s args own cl q.2.1 q.1 (mm q.2.2.1).1 (mm q.2.2.1).2.2.2 q.2.2.2.1 q.2.2.2.2) (hpg : ∀ q ∈ pg, decode cc q.1 = .ok (q.2.1, q.2.2))
    (hex : ∀ (pc : Nat) (S : ab_S) (r : List (Nat × ab_S)), ex pc S = some r → (∀ q ∈ r, ab_G p l e R s m args below meth c Q D cl A sa dT nL vs0 hs0 q.1 q.2.1 q.2.2.1 q.2.2.2.1 q.2.2.2.2.1 q.2.2.2.2.2.1 q.2.2.2.2.2.2.1 q.2.2.2.2.2.2.2) → ab_G p l e R s m args below meth c Q D cl A sa dT nL vs0 hs0 pc S.1 S.2.1 S.2.2.1 S.2.2.2.1 S.2.2.2.2.1 S.2.2.2.2.2.1 S.2.2.2.2.2.2) (hfin : ∀ (pc : Nat) (S : ab_S), fin pc S = true → ab_G p l e R s m args below meth c Q D cl A sa dT nL vs0 hs0 pc S.1 S.2.1 S.2.2.1 S.2.2.2.1 S.2.2.2.2.1 S.2.2.2.2.2.1 S.2.2.2.2.2.2) :
    ∀ cuts : List (Nat × ab_S × List Nat), ab_cutsD R cl rn ini FT SL ST NT RT OI AC nL KT mm MT EN ex fin vs0.length hs0.length pg fuel cuts → ∀ d ∈ cuts, ab_G p l e R s m args below meth c Q D cl A sa dT nL vs0 hs0 d.1 d.2.1.1 d.2.1.2.1 d.2.1.2.2.1 d.2.1.2.2.2.1 d.2.1.2.2.2.2.1 d.2.1.2.2.2.2.2.1 d.2.1.2.2.2.2.2.2
  | [], _, d, hd => by cases hd
  | c0 :: r, h, d, hd => by
    unfold ab_cutsD at h
    obtain ⟨⟨EN1, hs, h1⟩, h2⟩ := h
    have ih := ab_cutsD_ok X SX hini hF hST hNT hAI hRT hOI hAC hK hEN hMT hpg hex hfin r h2
    rcases List.mem_cons.mp hd with rfl | hd
    · refine ab_ai_ok X SX hini hF hST hNT hAI hRT hOI hAC hK (fun en he => hEN en (hs en he)) hMT hpg hex (fun pc S hf => ?_) fuel d.1 d.2.1 h1
      rw [Bool.or_eq_true] at hf
      rcases hf with hf | hf
      · exact hfin pc S hf
      · obtain ⟨c1, hc1, hc2⟩ := List.any_eq_true.mp hf
        obtain ⟨k, -, hk⟩ := List.mem_filterMap.mp hc1
        rw [Bool.and_eq_true, decide_eq_true_eq] at hc2
        obtain ⟨hc2, hc3⟩ := hc2
        have g := ih c1 (List.mem_of_getElem? hk)
        rw [hc2] at g
        exact ab_cutG hc3 g
    · exact ih d hd
end
theorem ab_meth1 {l : Launch} {cl : List vw_C} {rn : List String} {SL : ab_SL} {NF : ab_NF} {NM : ab_NM} {Tc : List Cond} {mm : Nat → ab_M} {FT : List (Nat × Nat × Nat × Nat)} {ST : List (Nat × Nat)} {NT : List (Nat × Nat × List Bool)} {RT : List (Nat × Nat)} {OI AC : List Nat} {KT : List (Nat × Int)} {MT : List (Nat × Nat × Nat × Nat × Nat)} {EN : List ab_N} {pg : List (Nat × ClassFile.Instr × Nat)} {ini : Bool} {fuel : Nat} {sp : List (Nat × Nat × Int)} {fl : Bool} {ks : List Nat} {cuts : List (Nat × ab_S × List Nat)} {y : MethodName} {cc : ByteArray} {maxL : Nat} {ret : Option FieldType} {E0 : List ab_I} {nh0 : Nat} {hp0 : ab_H} {as0 : List ab_V} {posts : List ab_P} {rm : Room}
    (TB : ab_TB y.cls cl rn SL NF NM Tc mm FT ST NT RT OI AC KT MT) (hpl : plainName y.cls = true) (hpg : ∀ q ∈ pg, decode cc q.1 = .ok (q.2.1, q.2.2)) (hini : ini = true → y.name = "<init>") (hEN : ∀ en ∈ EN, ab_enOk l cl rn SL NF NM Tc mm en) (hnl : as0.length ≤ maxL)
    (run : ab_cutsD rm cl rn ini FT SL ST NT RT OI AC maxL KT mm MT EN (ab_exF fl sp FT KT pg) (ab_fin rm E0.length nh0 posts ret pg) E0.length nh0 pg fuel ((0, (E0, nh0, hp0, ab_lo 0 as0, [], 0, 0), ks) :: cuts)) : ab_met l cl rn SL NF NM Tc y cc maxL ret E0 nh0 hp0 as0 posts rm := by
  intro D sa dT vs0 hs0 ws vals sz he hn hw ha
  refine Met.ofW (cc := cc) (maxL := maxL) (ret := ret) hpl rfl ?_
  intro p e s m args below meth c s₁ B hml hv
  obtain ⟨rfl, hsz, hP, hK, hD0, hSX⟩ := hv
  have hts := atoms_spec (ws := .code y cc maxL ret :: Tc) B.pre
  have hts2 : ∀ w ∈ Tc, w.before vals.toArray s = true := fun w h => hts w (List.mem_cons_of_mem _ h)
  have hown : s.vm.findClass y.cls = some m.cls := findClass_of_methodNamed B.named
  have hnm : meth.name = y.name := (name_of_methodNamed B.named B.method).1
  obtain ⟨t1, t2, t3, t4, t5, t6, t7, t8, t9⟩ := TB s vals.toArray hts2 hSX.2.1 hSX.2.2.1
  subst hsz
  have hD := hD0.self (sz := s.heap.size)
  obtain ⟨l1, l2, l3⟩ := ab_lo_ok _ _ 0 ha
  have hlen := ab_lenL ha
  have hl := lv_entry vals (n := maxL) (by rw [l3]; omega)
  rw [lg_entry_eq]
  have X : ab_X p s m vals.toArray c cc y.cls maxL D cl (ab_tys dT rn) (va_A ws s.heap.size) Tc := ⟨B.exec, B.bytes, hml, hown, hts2, hK, fun q h => Or.inr h⟩
  have hlk := B.notSynchronized
  have hrt := B.returns
  rw [← he.1, ← hn] at run
  have hfin : ∀ (pc : Nat) (S : ab_S), ab_fin rm vs0.length hs0.length posts ret pg pc S = true → ab_G p l e rm s m vals.toArray below meth c (MQ below (ab_Q cl D sa dT vs0 hs0 ws s.heap.size posts) vals.toArray s rm.cells rm.slots (va_A ws s.heap.size)) D cl (va_A ws s.heap.size) sa dT maxL vs0 hs0 pc S.1 S.2.1 S.2.2.1 S.2.2.2.1 S.2.2.2.2.1 S.2.2.2.2.2.1 S.2.2.2.2.2.2 := by
    intro pc S hS
    unfold ab_fin at hS
    cases hq : ab_as pg pc with
    | none => rw [hq] at hS; cases hS
    | some q =>
      obtain ⟨i, n⟩ := q
      rw [hq] at hS
      exact ab_rt_ok X hlk hrt (ab_pgd hpg hq) hS
  have key := ab_cutsD_ok (R := rm) (below := below) (meth := meth) (e := e) (l := l) (Q := MQ below (ab_Q cl D sa dT vs0 hs0 ws s.heap.size posts) vals.toArray s rm.cells rm.slots (va_A ws s.heap.size)) X hSX (fun h => hnm.trans (hini h)) t1 t2 t3 t4 t5 t6 t7 t8 hEN t9 hpg (fun pc S r h hg => ab_exF_ok X t1 t8 hpg S r h hg) hfin _ run _ List.mem_cons_self
  exact key vs0 hs0 _ [] s.heap [] ⟨[], (List.append_nil _).symm⟩ ⟨[], (List.append_nil _).symm⟩ ⟨he, rfl, ⟨by rw [l1]; exact hl, l2⟩, rfl, ws, hw, hP, hD, va_S.rf⟩
