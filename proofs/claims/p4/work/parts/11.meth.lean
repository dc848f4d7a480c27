def ab_mt2 (n0 nh0 : Nat) (C S : ab_S) (σ π : List Nat) : Bool :=
  ab_ek σ C.1 S.1 && (decide (π.length = C.2.1) && (decide (∀ k ∈ π, k < S.2.1) && (ab_ck σ π C.2.2.1 S.2.2.1 && (decide (σ.take n0 = List.range n0) && (decide (π.take nh0 = List.range nh0) && (decide (C.2.2.2.2.1.map (ab_su σ π) = S.2.2.2.2.1) && (C.2.2.2.1.all (fun q => decide (ab_lk S.2.2.2.1 q.1 = some (ab_su σ π q.2))) && (decide (S.2.2.2.2.2.1 ≤ C.2.2.2.2.2.1) && decide (S.2.2.2.2.2.2 ≤ C.2.2.2.2.2.2)))))))))
def ab_mtS (n0 nh0 : Nat) (C S : ab_S) : Bool :=
  (fun q : List Nat × List Nat => ab_mt2 n0 nh0 C S q.1 q.2) (ab_un (ab_idL n0, ab_idL nh0) C.1.length C.2.1 C.2.2.1 (C.2.2.2.1.map (fun q => q.2) ++ C.2.2.2.2.1) S.2.2.1 (C.2.2.2.1.map (fun q => (ab_lk S.2.2.2.1 q.1).getD (9, 0)) ++ S.2.2.2.2.1))
theorem ab_pk_px {α : Type} {d : α} {vs vs0 : List α} {σ : List Nat} (hv : ∃ v, vs = vs0 ++ v) (c4 : σ.take vs0.length = List.range vs0.length) : ∃ v, ab_pk d vs σ = vs0 ++ v := by
  refine ⟨(ab_pk d vs σ).drop vs0.length, ?_⟩
  have : (ab_pk d vs σ).take vs0.length = vs0 := by
    obtain ⟨v, rfl⟩ := hv
    unfold ab_pk
    rw [← List.map_take, c4]
    apply List.ext_getElem?
    intro j
    rw [List.getElem?_map]
    by_cases hj : j < vs0.length
    · rw [List.getElem?_range hj]
      simp [List.getD_eq_getElem?_getD, List.getElem?_append_left hj, List.getElem?_eq_getElem hj]
    · rw [List.getElem?_eq_none (by simp; omega), List.getElem?_eq_none (by omega)]
      rfl
  conv => lhs; rw [← List.take_append_drop vs0.length (ab_pk d vs σ), this]
section
variable {p : Program} {l : Launch} {e : Env} {R : Room} {s : State} {m : MethodId} {args : Array Value} {below : List Frame} {meth : Method} {c : Code} {Q : State → Prop} {cc : ByteArray} {own : String} {nL : Nat} {D : va_G} {cl : List vw_C} {rn : List String} {A : Nat → Prop} {Ts : List Cond} {sa : Nat → Nat} {dT : Nat → ClassId} {vs0 : List Int32} {hs0 : List Nat} {pc : Nat} {E : List ab_I} {nh nc ns : Nat} {hp : ab_H} {loc : List (Nat × ab_V)} {st : List ab_V}
variable {SL : ab_SL} {NF : ab_NF} {NM : ab_NM} {Tc : List Cond}
theorem ab_cutG {C S : ab_S} (h : ab_mtS vs0.length hs0.length C S = true) (g : ab_G p l e R s m args below meth c Q D cl A sa dT nL vs0 hs0 pc C.1 C.2.1 C.2.2.1 C.2.2.2.1 C.2.2.2.2.1 C.2.2.2.2.2.1 C.2.2.2.2.2.2) : ab_G p l e R s m args below meth c Q D cl A sa dT nL vs0 hs0 pc S.1 S.2.1 S.2.2.1 S.2.2.2.1 S.2.2.2.2.1 S.2.2.2.2.2.1 S.2.2.2.2.2.2 := by
  unfold ab_mtS at h
  generalize ab_un (ab_idL vs0.length, ab_idL hs0.length) C.1.length C.2.1 C.2.2.1 (C.2.2.2.1.map (fun q => q.2) ++ C.2.2.2.2.1) S.2.2.1 (C.2.2.2.1.map (fun q => (ab_lk S.2.2.2.1 q.1).getD (9, 0)) ++ S.2.2.2.2.1) = q at h
  obtain ⟨σ, π⟩ := q
  dsimp only at h
  unfold ab_mt2 at h
  simp only [Bool.and_eq_true, decide_eq_true_eq, List.all_eq_true] at h
  obtain ⟨c1, c0, c2, c3, c4, c5, c6, c7, c8, c9⟩ := h
  intro vs hs ls sv H locs hv hh his
  obtain ⟨h1, h2, h3, h4, ws, h5, h6, h7, h8⟩ := his
  obtain ⟨e1, l1⟩ := ab_ek_ok h1 c1
  obtain ⟨d1, d2, d3⟩ := ab_ck_ok h5 c3
  refine W.widen (k := C.2.2.2.2.2.1) (n := C.2.2.2.2.2.2) c8 c9 ?_
  refine g (ab_pk 0 vs σ) (ab_pk 0 hs π) ls sv H locs (ab_pk_px hv c4) (ab_pk_px hh c5) ⟨e1, by simp [ab_pk, c0], ⟨⟨h3.1.1, h3.1.2.1, fun q hq => ?_⟩, fun q hq => ?_⟩, ab_su_dnL (by rw [c6]; exact h4), _, d3, ab_P_pw h6 d2, h7.sub _ d1 d2, h8⟩
  · obtain ⟨r, hr, rfl⟩ := List.mem_map.mp hq
    obtain ⟨v, hv1, hv2⟩ := ab_l_get h3 (c7 r hr)
    rw [ab_su_dn hv1]
    exact hv2
  · obtain ⟨v, hv1, hv2⟩ := ab_l_get h3 (c7 q hq)
    exact ⟨v, ab_su_dn hv1⟩
noncomputable def ab_cuts (R : Room) (cl : List vw_C) (rn : List String) (ini : Bool) (FT : List (Nat × Nat × Nat × Nat)) (SL : ab_SL) (ST : List (Nat × Nat)) (NT : List (Nat × Nat × List Bool)) (RT : List (Nat × Nat)) (OI : List Nat) (AC : List Nat) (nL : Nat) (KT : List (Nat × Int)) (mm : Nat → ab_M) (MT : List (Nat × Nat × Nat × Nat × Nat)) (EN : List ab_N) (ex : Nat → ab_S → Option (List (Nat × ab_S))) (fin : Nat → ab_S → Bool) (n0 nh0 : Nat) (pg : List (Nat × ClassFile.Instr × Nat)) (fuel : Nat) : List (Nat × ab_S) → Bool
  | [] => true
  | c :: r => ab_ai R cl rn ini FT SL ST NT RT OI AC nL KT mm MT EN ex (fun pc S => fin pc S || r.any (fun d => decide (d.1 = pc) && ab_mtS n0 nh0 d.2 S)) pg fuel c.1 c.2 && ab_cuts R cl rn ini FT SL ST NT RT OI AC nL KT mm MT EN ex fin n0 nh0 pg fuel r
theorem ab_cuts_ok {KT : List (Nat × Int)} {mm : Nat → ab_M} {MT : List (Nat × Nat × Nat × Nat × Nat)} {EN : List ab_N} {pg : List (Nat × ClassFile.Instr × Nat)} {ex : Nat → ab_S → Option (List (Nat × ab_S))} {fin : Nat → ab_S → Bool} {fuel : Nat} (X : ab_X p s m args c cc own nL D cl (ab_tys dT rn) A Ts) (SX : ab_SX rn SL NF NM sa A s s.heap) {ini : Bool} {FT : List (Nat × Nat × Nat × Nat)} {ST : List (Nat × Nat)} {NT : List (Nat × Nat × List Bool)} {RT : List (Nat × Nat)} {OI AC : List Nat} (hini : ini = true → meth.name = "<init>") (hF : ∀ q ∈ FT, ab_FL s args own cl Ts q.1 q.2.1 q.2.2.1 q.2.2.2) (hST : ∀ q ∈ ST, ∀ r, SL[q.2]? = some r → (Cond.fieldLink own q.1 r.1 r.2.1 r.2.2.1).before args s = true) (hNT : ∀ q ∈ NT, ab_NL s args own cl Ts q.1 q.2.1 q.2.2) (hAI : (Cond.arrayClass (newarray.typeOf .int)).before args s = true) (hRT : ∀ q ∈ RT, ∀ C, rn[q.2]? = some C → (Cond.classLink own q.1 C).before args s = true) (hOI : ∀ ix ∈ OI, (Cond.methodLink own ix Lib.objectInit).before args s = true ∧ (Cond.instanceMethod Lib.objectInit).before args s = true ∧ (Cond.code Lib.objectInit ⟨#[0xb1]⟩ 1 none).before args s = true) (hAC : ∀ ix ∈ AC, (Cond.methodLink own ix arraycopyName).before args s = true ∧ (Cond.native arraycopyName).before args s = true ∧ (Cond.static arraycopyName).before args s = true ∧ (Cond.initialized "java/lang/System").before args s = true) (hK : ∀ q ∈ KT, (Jvm.Cond.constant own q.1 (Int32.ofInt q.2)).before args s = true) (hEN : ∀ en ∈ EN, ab_enOk l cl rn SL NF NM Tc mm en) (hMT : ∀ q ∈ MT, GoodIn Ts (.code (mm q.2.2.1).1 (mm q.2.2.1).2.1 (mm q.2.2.1).2.2.1 (mm q.2.2.1).2.2.2 :: Tc) ∧ ab_ML s args own cl q.2.1 q.1 (mm q.2.2.1).1 (mm q.2.2.1).2.2.2 q.2.2.2.1 q.2.2.2.2) (hpg : ∀ q ∈ pg, decode cc q.1 = .ok (q.2.1, q.2.2))
    (hex : ∀ (pc : Nat) (S : ab_S) (r : List (Nat × ab_S)), ex pc S = some r → (∀ q ∈ r, ab_G p l e R s m args below meth c Q D cl A sa dT nL vs0 hs0 q.1 q.2.1 q.2.2.1 q.2.2.2.1 q.2.2.2.2.1 q.2.2.2.2.2.1 q.2.2.2.2.2.2.1 q.2.2.2.2.2.2.2) → ab_G p l e R s m args below meth c Q D cl A sa dT nL vs0 hs0 pc S.1 S.2.1 S.2.2.1 S.2.2.2.1 S.2.2.2.2.1 S.2.2.2.2.2.1 S.2.2.2.2.2.2) (hfin : ∀ (pc : Nat) (S : ab_S), fin pc S = true → ab_G p l e R s m args below meth c Q D cl A sa dT nL vs0 hs0 pc S.1 S.2.1 S.2.2.1 S.2.2.2.1 S.2.2.2.2.1 S.2.2.2.2.2.1 S.2.2.2.2.2.2) :
    ∀ cuts : List (Nat × ab_S), ab_cuts R cl rn ini FT SL ST NT RT OI AC nL KT mm MT EN ex fin vs0.length hs0.length pg fuel cuts = true → ∀ d ∈ cuts, ab_G p l e R s m args below meth c Q D cl A sa dT nL vs0 hs0 d.1 d.2.1 d.2.2.1 d.2.2.2.1 d.2.2.2.2.1 d.2.2.2.2.2.1 d.2.2.2.2.2.2.1 d.2.2.2.2.2.2.2
  | [], _, d, hd => by cases hd
  | c0 :: r, h, d, hd => by
    unfold ab_cuts at h
    rw [Bool.and_eq_true] at h
    have ih := ab_cuts_ok X SX hini hF hST hNT hAI hRT hOI hAC hK hEN hMT hpg hex hfin r h.2
    rcases List.mem_cons.mp hd with rfl | hd
    · refine ab_ai_ok X SX hini hF hST hNT hAI hRT hOI hAC hK hEN hMT hpg hex (fun pc S hf => ?_) fuel d.1 d.2 h.1
      rw [Bool.or_eq_true] at hf
      rcases hf with hf | hf
      · exact hfin pc S hf
      · obtain ⟨c1, hc1, hc2⟩ := List.any_eq_true.mp hf
        rw [Bool.and_eq_true, decide_eq_true_eq] at hc2
        obtain ⟨hc2, hc3⟩ := hc2
        have g := ih c1 hc1
        rw [hc2] at g
        exact ab_cutG hc3 g
    · exact ih d hd
end
def ab_TB (own : String) (cl : List vw_C) (rn : List String) (SL : ab_SL) (NF : ab_NF) (NM : ab_NM) (Tc : List Cond) (mm : Nat → ab_M) (FT : List (Nat × Nat × Nat × Nat)) (ST : List (Nat × Nat)) (NT : List (Nat × Nat × List Bool)) (RT : List (Nat × Nat)) (OI AC : List Nat) (KT : List (Nat × Int)) (MT : List (Nat × Nat × Nat × Nat × Nat)) : Prop :=
  ∀ (s : State) (args : Array Value), (∀ w ∈ Tc, w.before args s = true) → (∀ r ∈ NF, va_Nw (.fieldLinkNest r.1 r.2.1 r.2.2.1 r.2.2.2.1 r.2.2.2.2.1 r.2.2.2.2.2) s) → (∀ r ∈ NM, va_Nw (.methodLinkNest r.1 r.2.1 r.2.2.1 r.2.2.2) s) →
    (∀ q ∈ FT, ab_FL s args own cl Tc q.1 q.2.1 q.2.2.1 q.2.2.2) ∧ (∀ q ∈ ST, ∀ r, SL[q.2]? = some r → (Cond.fieldLink own q.1 r.1 r.2.1 r.2.2.1).before args s = true) ∧ (∀ q ∈ NT, ab_NL s args own cl Tc q.1 q.2.1 q.2.2) ∧ (Cond.arrayClass (newarray.typeOf .int)).before args s = true ∧ (∀ q ∈ RT, ∀ C, rn[q.2]? = some C → (Cond.classLink own q.1 C).before args s = true) ∧ (∀ ix ∈ OI, (Cond.methodLink own ix Lib.objectInit).before args s = true ∧ (Cond.instanceMethod Lib.objectInit).before args s = true ∧ (Cond.code Lib.objectInit ⟨#[0xb1]⟩ 1 none).before args s = true) ∧ (∀ ix ∈ AC, (Cond.methodLink own ix arraycopyName).before args s = true ∧ (Cond.native arraycopyName).before args s = true ∧ (Cond.static arraycopyName).before args s = true ∧ (Cond.initialized "java/lang/System").before args s = true) ∧
    (∀ q ∈ KT, (Jvm.Cond.constant own q.1 (Int32.ofInt q.2)).before args s = true) ∧ (∀ q ∈ MT, GoodIn Tc (.code (mm q.2.2.1).1 (mm q.2.2.1).2.1 (mm q.2.2.1).2.2.1 (mm q.2.2.1).2.2.2 :: Tc) ∧ ab_ML s args own cl q.2.1 q.1 (mm q.2.2.1).1 (mm q.2.2.1).2.2.2 q.2.2.2.1 q.2.2.2.2)
theorem ab_meth0 {l : Launch} {cl : List vw_C} {rn : List String} {SL : ab_SL} {NF : ab_NF} {NM : ab_NM} {Tc : List Cond} {mm : Nat → ab_M} {FT : List (Nat × Nat × Nat × Nat)} {ST : List (Nat × Nat)} {NT : List (Nat × Nat × List Bool)} {RT : List (Nat × Nat)} {OI AC : List Nat} {KT : List (Nat × Int)} {MT : List (Nat × Nat × Nat × Nat × Nat)} {EN : List ab_N} {pg : List (Nat × ClassFile.Instr × Nat)} {ini : Bool} {fuel : Nat} {sp : List (Nat × Nat × Int)} {fl : Bool} {cuts : List (Nat × ab_S)} {y : MethodName} {cc : ByteArray} {maxL : Nat} {ret : Option FieldType} {E0 : List ab_I} {nh0 : Nat} {hp0 : ab_H} {as0 : List ab_V} {posts : List ab_P} {rm : Room}
    (TB : ab_TB y.cls cl rn SL NF NM Tc mm FT ST NT RT OI AC KT MT) (hpl : plainName y.cls = true) (hpg : ∀ q ∈ pg, decode cc q.1 = .ok (q.2.1, q.2.2)) (hini : ini = true → y.name = "<init>") (hEN : ∀ en ∈ EN, ab_enOk l cl rn SL NF NM Tc mm en) (hnl : as0.length ≤ maxL)
    (run : ab_cuts rm cl rn ini FT SL ST NT RT OI AC maxL KT mm MT EN (ab_exF fl sp FT KT pg) (ab_fin rm E0.length nh0 posts ret pg) E0.length nh0 pg fuel ((0, (E0, nh0, hp0, ab_lo 0 as0, [], 0, 0)) :: cuts) = true) : ab_met l cl rn SL NF NM Tc y cc maxL ret E0 nh0 hp0 as0 posts rm := by
  intro D sa dT vs0 hs0 ws vals sz he hn hw ha
  refine Met.ofW (cc := cc) (maxL := maxL) (ret := ret) hpl rfl ?_
  intro p e s m args below meth c s₁ B hml hv
  obtain ⟨rfl, hsz, hP, hK, hD0, hSX⟩ := hv
  have hts := atoms_spec (ws := .code y cc maxL ret :: Tc) B.pre
  have hts2 : ∀ w ∈ Tc, w.before vals.toArray s = true := fun w h => hts w (List.mem_cons_of_mem _ h)
  have hown : s.vm.findClass y.cls = some m.cls := findClass_of_methodNamed B.named
  have hnm : meth.name = y.name := (name_of_methodNamed B.named B.method).1
  obtain ⟨t1, t2, t3, t4, t5, t6, t7, t8, t9⟩ := TB s vals.toArray hts2 hSX.2.1 hSX.2.2.1
  subst hsz
  have hD := hD0.self (sz := s.heap.size)
  obtain ⟨l1, l2, l3⟩ := ab_lo_ok _ _ 0 ha
  have hlen := ab_lenL ha
  have hl := lv_entry vals (n := maxL) (by rw [l3]; omega)
  rw [lg_entry_eq]
  have X : ab_X p s m vals.toArray c cc y.cls maxL D cl (ab_tys dT rn) (va_A ws s.heap.size) Tc := ⟨B.exec, B.bytes, hml, hown, hts2, hK, fun q h => Or.inr h⟩
  have hlk := B.notSynchronized
  have hrt := B.returns
  rw [← he.1, ← hn] at run
  have hfin : ∀ (pc : Nat) (S : ab_S), ab_fin rm vs0.length hs0.length posts ret pg pc S = true → ab_G p l e rm s m vals.toArray below meth c (MQ below (ab_Q cl D sa dT vs0 hs0 ws s.heap.size posts) vals.toArray s rm.cells rm.slots (va_A ws s.heap.size)) D cl (va_A ws s.heap.size) sa dT maxL vs0 hs0 pc S.1 S.2.1 S.2.2.1 S.2.2.2.1 S.2.2.2.2.1 S.2.2.2.2.2.1 S.2.2.2.2.2.2 := by
    intro pc S hS
    unfold ab_fin at hS
    cases hq : ab_as pg pc with
    | none => rw [hq] at hS; cases hS
    | some q =>
      obtain ⟨i, n⟩ := q
      rw [hq] at hS
      exact ab_rt_ok X hlk hrt (ab_pgd hpg hq) hS
  have key := ab_cuts_ok (R := rm) (below := below) (meth := meth) (e := e) (l := l) (Q := MQ below (ab_Q cl D sa dT vs0 hs0 ws s.heap.size posts) vals.toArray s rm.cells rm.slots (va_A ws s.heap.size)) X hSX (fun h => hnm.trans (hini h)) t1 t2 t3 t4 t5 t6 t7 t8 hEN t9 hpg (fun pc S r h hg => ab_exF_ok X t1 t8 hpg S r h hg) hfin _ run _ List.mem_cons_self
  exact key vs0 hs0 _ [] s.heap [] ⟨[], (List.append_nil _).symm⟩ ⟨[], (List.append_nil _).symm⟩ ⟨he, rfl, ⟨by rw [l1]; exact hl, l2⟩, rfl, ws, hw, hP, hD, va_S.rf⟩
theorem ab_mc {α : Type} {P : α → Prop} {a : α} {r : List α} (h : P a) (t : ∀ x ∈ r, P x) : ∀ x ∈ a :: r, P x := List.forall_mem_cons.mpr ⟨h, t⟩
theorem ab_mn {α : Type} {P : α → Prop} : ∀ x ∈ ([] : List α), P x := fun _ h => absurd h List.not_mem_nil
