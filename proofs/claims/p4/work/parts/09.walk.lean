abbrev ab_M : Type := MethodName × ByteArray × Nat × Option FieldType
abbrev ab_N : Type := Nat × (List ab_I × Nat × ab_H × List ab_V) × List ab_P × Room
abbrev ab_Bd : Type := List (Nat × Nat) × List (Nat × Nat)
abbrev ab_Be : Type := List Nat × Nat × List (Nat × Nat)
def ab_u1 (b : ab_Be) (u v : ab_V) : ab_Be := match u.1 with
  | 0 => bif Nat.beq u.2 b.2.1 then (v.2 :: b.1, Nat.succ b.2.1, b.2.2) else b
  | 1 => (b.1, b.2.1, (u.2, v.2) :: b.2.2)
  | _ => b
def ab_uL : ab_Be → List ab_V → List ab_V → ab_Be
  | b, u :: us, v :: vs => ab_uL (ab_u1 b u v) us vs
  | b, _, _ => b
def ab_uC (b : ab_Be) (x x' : ab_C) : ab_Be := match x, x' with
  | .inl (_, f), .inl (_, f') => ab_uL b f f'
  | .inr (.inr (_, f)), .inr (.inr (_, f')) => ab_uL b f f'
  | _, _ => b
def ab_uH (hp : ab_H) : ab_H → ab_Be → ab_Be
  | [], b => b
  | (a, x) :: r, b => ab_uH hp r (match ab_as b.2.2 a with
    | none => b
    | some c => (match ab_fi hp c 0 with
      | none => b
      | some q => ab_uC b x q.2))
def ab_sg (n : Nat) (b : List (Nat × Nat)) : List Nat := (List.range n).map (fun k => (ab_as b k).getD 0)
def ab_un (b0 : ab_Bd) (n0 nh0 : Nat) (hp0 : ab_H) (as0 : List ab_V) (hp : ab_H) (av : List ab_V) : List Nat × List Nat := (fun b : ab_Be => (b.1.reverse, ab_sg nh0 b.2.2)) (ab_uL (ab_uH hp hp0 (ab_uL ((b0.1.map (fun q => q.2)).reverse, b0.1.length, b0.2) as0 av)) as0 av)
def ab_rc (kd rci : Nat) (hp : ab_H) (av : List ab_V) : Bool := match av with
  | [] => decide (kd = 1)
  | a :: _ => decide (kd = 1) || (decide (a.1 = 1) && (decide (kd = 2) || (match ab_ob hp a.2 with
    | none => false
    | some o => decide (o.2.1 = rci))))
def ab_na (kd : Nat) : Nat := match kd with
  | 1 => 0
  | _ => 1
def ab_ty2 (R : Room) (maxL kd np rci pc : Nat) (E : List ab_I) (nh : Nat) (hp : ab_H) (loc : List (Nat × ab_V)) (av rest : List ab_V) (nc ns : Nat) (E0 : List ab_I) (nh0 : Nat) (hp0 : ab_H) (as0 : List ab_V) (posts : List ab_P) (rm : Room) (σ π : List Nat) : Option (List (Nat × ab_S)) :=
  if ab_ek σ E0 E = true ∧ π.length = nh0 ∧ (∀ k ∈ π, k < nh) ∧ ab_ck σ π hp0 hp = true ∧ as0.map (ab_su σ π) = av ∧ as0.length = np + ab_na kd ∧ rest.length ≤ 8 ∧ (rm.frames + 1 ≤ R.frames ∧ 8 + (maxL + 11) + rm.locals ≤ R.locals) ∧ (nc + rm.cells ≤ R.cells ∧ ns + rm.slots ≤ R.slots) ∧ ab_rc kd rci hp av = true
  then some ((posts.filter (fun P => ab_em (ab_nE σ E0 E P))).map (fun P => (pc + 3, ab_nE σ E0 E P, nh + (P.2.1 - nh0), ab_nH σ π E0 E nh0 nh hp0 hp P, loc, ab_nr σ π E0 E nh0 nh P ++ rest, nc + rm.cells, ns + rm.slots))) else none
def ab_ty (R : Room) (mm : Nat → ab_M) (kd mno np rci pc : Nat) (E : List ab_I) (nh : Nat) (hp : ab_H) (loc : List (Nat × ab_V)) (av rest : List ab_V) (nc ns : Nat) (en : ab_N) : Option (List (Nat × ab_S)) :=
  if en.1 = mno then (fun q : List Nat × List Nat => ab_ty2 R (mm mno).2.2.1 kd np rci pc E nh hp loc av rest nc ns en.2.1.1 en.2.1.2.1 en.2.1.2.2.1 en.2.1.2.2.2 en.2.2.1 en.2.2.2 q.1 q.2) (ab_un ([], []) en.2.1.1.length en.2.1.2.1 en.2.1.2.2.1 en.2.1.2.2.2 hp av) else none
def ab_cs (R : Room) (mm : Nat → ab_M) (EN : List ab_N) (kd mno np rci pc : Nat) (E : List ab_I) (nh : Nat) (hp : ab_H) (loc : List (Nat × ab_V)) (st : List ab_V) (nc ns : Nat) : Option (List (Nat × ab_S)) :=
  EN.findSome? (ab_ty R mm kd mno np rci pc E nh hp loc (st.take (np + ab_na kd)).reverse (st.drop (np + ab_na kd)) nc ns)
def ab_1e (R : Room) (mm : Nat → ab_M) (MT : List (Nat × Nat × Nat × Nat × Nat)) (EN : List ab_N) (i : ClassFile.Instr) (len pc : Nat) (E : List ab_I) (nh : Nat) (hp : ab_H) (loc : List (Nat × ab_V)) (st : List ab_V) (nc ns : Nat) : Option (List (Nat × ab_S)) := match i with
  | .invokevirtual ix => (match ab_as MT ix with
    | none => none
    | some q => if len = 3 ∧ q.1 = 0 then ab_cs R mm EN q.1 q.2.1 q.2.2.1 q.2.2.2 pc E nh hp loc st nc ns else none)
  | .invokestatic ix => (match ab_as MT ix with
    | none => none
    | some q => if len = 3 ∧ q.1 = 1 then ab_cs R mm EN q.1 q.2.1 q.2.2.1 q.2.2.2 pc E nh hp loc st nc ns else none)
  | .invokespecial ix => (match ab_as MT ix with
    | none => none
    | some q => if len = 3 ∧ q.1 = 2 then ab_cs R mm EN q.1 q.2.1 q.2.2.1 q.2.2.2 pc E nh hp loc st nc ns else none)
  | _ => none
def ab_idL (n : Nat) : List (Nat × Nat) := (List.range n).map (fun k => (k, k))
def ab_rk2 (n0 nh0 : Nat) (E : List ab_I) (nh : Nat) (hp : ab_H) (rv : Option ab_V) (P : ab_P) (σ π : List Nat) : Bool :=
  ab_ek σ P.1 E && (decide (π.length = P.2.1) && (decide (∀ k ∈ π, k < nh) && (ab_ck σ π P.2.2.1 hp && (decide (σ.take n0 = List.range n0) && (decide (π.take nh0 = List.range nh0) && decide (P.2.2.2.map (ab_su σ π) = rv))))))
def ab_rk (n0 nh0 : Nat) (E : List ab_I) (nh : Nat) (hp : ab_H) (rv : Option ab_V) (P : ab_P) : Bool :=
  (fun q : List Nat × List Nat => ab_rk2 n0 nh0 E nh hp rv P q.1 q.2) (ab_un (ab_idL n0, ab_idL nh0) P.1.length P.2.1 P.2.2.1 P.2.2.2.toList hp rv.toList)
def ab_rt (rm : Room) (n0 nh0 : Nat) (posts : List ab_P) (ret : Option FieldType) (i : ClassFile.Instr) (len : Nat) (E : List ab_I) (nh : Nat) (hp : ab_H) (st : List ab_V) (nc ns : Nat) : Bool := match i with
  | .return_ => decide (len = 1 ∧ ret = none ∧ st = [] ∧ nc ≤ rm.cells ∧ ns ≤ rm.slots) && posts.any (ab_rk n0 nh0 E nh hp none)
  | .ireturn => (match st with
    | [x] => (match E[x.2]? with
      | none => false
      | some iv => decide (len = 1 ∧ x.1 = 0 ∧ (ret = some .int ∨ (ret = some .boolean ∧ 0 ≤ iv.1 ∧ iv.2 ≤ 1)) ∧ nc ≤ rm.cells ∧ ns ≤ rm.slots) && posts.any (ab_rk n0 nh0 E nh hp (some x)))
    | _ => false)
  | _ => false
def ab_or2 {α : Type} (a b : Option α) : Option α := match a with
  | some x => some x
  | none => b
def ab_1 (R : Room) (cl : List vw_C) (rn : List String) (ini : Bool) (FT : List (Nat × Nat × Nat × Nat)) (SL : ab_SL) (ST : List (Nat × Nat)) (NT : List (Nat × Nat × List Bool)) (RT : List (Nat × Nat)) (OI : List Nat) (AC : List Nat) (nL : Nat) (KT : List (Nat × Int)) (mm : Nat → ab_M) (MT : List (Nat × Nat × Nat × Nat × Nat)) (EN : List ab_N) (i : ClassFile.Instr) (len pc : Nat) (E : List ab_I) (nh : Nat) (hp : ab_H) (loc : List (Nat × ab_V)) (st : List ab_V) (nc ns : Nat) : Option (List (Nat × ab_S)) :=
  ab_or2 (ab_1a nL KT i len pc E nh hp loc st nc ns) (ab_or2 (ab_1d R cl rn ini FT SL ST NT RT OI AC i len pc E nh hp loc st nc ns) (ab_or2 (ab_1c rn SL i len pc E nh hp loc st nc ns) (ab_or2 (ab_1b i len pc E nh hp loc st nc ns) (ab_1e R mm MT EN i len pc E nh hp loc st nc ns))))
noncomputable def ab_fn (n : Nat) (k : Nat → Bool) : Bool := Nat.casesOn (motive := fun _ => Bool) n (k 0) (fun m => k (Nat.succ m))
noncomputable def ab_fz (a : Int) (k : Int → Bool) : Bool := Int.casesOn (motive := fun _ => Bool) a (fun n => ab_fn n (fun n => k (Int.ofNat n))) (fun n => ab_fn n (fun n => k (Int.negSucc n)))
noncomputable def ab_fE (l : List ab_I) : (List ab_I → Bool) → Bool := List.rec (motive := fun _ => (List ab_I → Bool) → Bool) (fun k => k []) (fun i _ ih k => ab_fz i.1 (fun a => ab_fz i.2 (fun b => ih (fun r => k ((a, b) :: r))))) l
noncomputable def ab_fV (l : List ab_V) : (List ab_V → Bool) → Bool := List.rec (motive := fun _ => (List ab_V → Bool) → Bool) (fun k => k []) (fun i _ ih k => ab_fn i.1 (fun a => ab_fn i.2 (fun b => ih (fun r => k ((a, b) :: r))))) l
noncomputable def ab_fL (l : List (Nat × ab_V)) : (List (Nat × ab_V) → Bool) → Bool := List.rec (motive := fun _ => (List (Nat × ab_V) → Bool) → Bool) (fun k => k []) (fun i _ ih k => ab_fn i.1 (fun a => ab_fn i.2.1 (fun b => ab_fn i.2.2 (fun c => ih (fun r => k ((a, b, c) :: r)))))) l
noncomputable def ab_fC (x : ab_C) (k : ab_C → Bool) : Bool := match x with
  | .inl (a, f) => ab_fn a (fun a => ab_fV f (fun f => k (.inl (a, f))))
  | .inr (.inl (n, a, b, c, d)) => ab_fn n (fun n => ab_fz a (fun a => ab_fz b (fun b => ab_fz c (fun c => ab_fz d (fun d => k (.inr (.inl (n, a, b, c, d))))))))
  | .inr (.inr (a, f)) => ab_fn a (fun a => ab_fV f (fun f => k (.inr (.inr (a, f)))))
noncomputable def ab_fH (l : ab_H) : (ab_H → Bool) → Bool := List.rec (motive := fun _ => (ab_H → Bool) → Bool) (fun k => k []) (fun i _ ih k => ab_fn i.1 (fun a => ab_fC i.2 (fun b => ih (fun r => k ((a, b) :: r))))) l
noncomputable def ab_fS (S : ab_S) (k : ab_S → Bool) : Bool := ab_fE S.1 (fun a => ab_fn S.2.1 (fun b => ab_fH S.2.2.1 (fun c => ab_fL S.2.2.2.1 (fun d => ab_fV S.2.2.2.2.1 (fun f => ab_fn S.2.2.2.2.2.1 (fun g => ab_fn S.2.2.2.2.2.2 (fun h => k (a, b, c, d, f, g, h))))))))
def ab_iv (i : ClassFile.Instr) : Bool := match i with
  | .invokevirtual _ => true
  | .invokestatic _ => true
  | .invokespecial _ => true
  | _ => false
noncomputable def ab_fQ (b : Bool) (S : ab_S) (k : ab_S → Bool) : Bool := match b with
  | true => ab_fS S k
  | false => k S
theorem ab_fn_eq (n : Nat) (k : Nat → Bool) : ab_fn n k = k n := by cases n <;> rfl
theorem ab_fz_eq (a : Int) (k : Int → Bool) : ab_fz a k = k a := by
  cases a with
  | ofNat n => exact ab_fn_eq n (fun n => k (Int.ofNat n))
  | negSucc n => exact ab_fn_eq n (fun n => k (Int.negSucc n))
theorem ab_fE_eq : ∀ (l : List ab_I) (k : List ab_I → Bool), ab_fE l k = k l
  | [], _ => rfl
  | (a, b) :: r, k => by
    show ab_fz a (fun a => ab_fz b (fun b => ab_fE r (fun r => k ((a, b) :: r)))) = _
    rw [ab_fz_eq, ab_fz_eq, ab_fE_eq r]
theorem ab_fV_eq : ∀ (l : List ab_V) (k : List ab_V → Bool), ab_fV l k = k l
  | [], _ => rfl
  | (a, b) :: r, k => by
    show ab_fn a (fun a => ab_fn b (fun b => ab_fV r (fun r => k ((a, b) :: r)))) = _
    rw [ab_fn_eq, ab_fn_eq, ab_fV_eq r]
theorem ab_fL_eq : ∀ (l : List (Nat × ab_V)) (k : List (Nat × ab_V) → Bool), ab_fL l k = k l
  | [], _ => rfl
  | (a, b, c) :: r, k => by
    show ab_fn a (fun a => ab_fn b (fun b => ab_fn c (fun c => ab_fL r (fun r => k ((a, b, c) :: r))))) = _
    rw [ab_fn_eq, ab_fn_eq, ab_fn_eq, ab_fL_eq r]
theorem ab_fC_eq (x : ab_C) (k : ab_C → Bool) : ab_fC x k = k x := by
  rcases x with ⟨a, f⟩ | ⟨n, a, b, c, d⟩ | ⟨a, f⟩
  · show ab_fn a (fun a => ab_fV f (fun f => k (.inl (a, f)))) = _
    rw [ab_fn_eq, ab_fV_eq]
  · show ab_fn n (fun n => ab_fz a (fun a => ab_fz b (fun b => ab_fz c (fun c => ab_fz d (fun d => k (.inr (.inl (n, a, b, c, d)))))))) = _
    rw [ab_fn_eq, ab_fz_eq, ab_fz_eq, ab_fz_eq, ab_fz_eq]
  · show ab_fn a (fun a => ab_fV f (fun f => k (.inr (.inr (a, f))))) = _
    rw [ab_fn_eq, ab_fV_eq]
theorem ab_fH_eq : ∀ (l : ab_H) (k : ab_H → Bool), ab_fH l k = k l
  | [], _ => rfl
  | (a, x) :: r, k => by
    show ab_fn a (fun a => ab_fC x (fun b => ab_fH r (fun r => k ((a, b) :: r)))) = _
    rw [ab_fn_eq, ab_fC_eq, ab_fH_eq r]
theorem ab_fS_eq (S : ab_S) (k : ab_S → Bool) : ab_fS S k = k S := by
  obtain ⟨a, b, c, d, f, g, h⟩ := S
  unfold ab_fS
  rw [ab_fE_eq, ab_fn_eq, ab_fH_eq, ab_fL_eq, ab_fV_eq, ab_fn_eq, ab_fn_eq]
theorem ab_fQ_eq (b : Bool) (S : ab_S) (k : ab_S → Bool) : ab_fQ b S k = k S := by
  cases b
  · rfl
  · exact ab_fS_eq S k
noncomputable def ab_ai (R : Room) (cl : List vw_C) (rn : List String) (ini : Bool) (FT : List (Nat × Nat × Nat × Nat)) (SL : ab_SL) (ST : List (Nat × Nat)) (NT : List (Nat × Nat × List Bool)) (RT : List (Nat × Nat)) (OI : List Nat) (AC : List Nat) (nL : Nat) (KT : List (Nat × Int)) (mm : Nat → ab_M) (MT : List (Nat × Nat × Nat × Nat × Nat)) (EN : List ab_N) (ex : Nat → ab_S → Option (List (Nat × ab_S))) (fin : Nat → ab_S → Bool) (pg : List (Nat × ClassFile.Instr × Nat)) : Nat → Nat → ab_S → Bool
  | 0, _, _ => false
  | n + 1, pc, S => fin pc S || (match ab_or2 (ex pc S) (match ab_as pg pc with
    | none => none
    | some q => ab_1 R cl rn ini FT SL ST NT RT OI AC nL KT mm MT EN q.1 q.2 pc S.1 S.2.1 S.2.2.1 S.2.2.2.1 S.2.2.2.2.1 S.2.2.2.2.2.1 S.2.2.2.2.2.2) with
    | none => false
    | some r => r.all (fun z => ab_fQ (match ab_as pg pc with
      | none => false
      | some q => ab_iv q.1) z.2 (fun S => ab_ai R cl rn ini FT SL ST NT RT OI AC nL KT mm MT EN ex fin pg n z.1 S)))
def ab_fin (rm : Room) (n0 nh0 : Nat) (posts : List ab_P) (ret : Option FieldType) (pg : List (Nat × ClassFile.Instr × Nat)) (pc : Nat) (S : ab_S) : Bool := match ab_as pg pc with
  | none => false
  | some q => ab_rt rm n0 nh0 posts ret q.1 q.2 S.1 S.2.1 S.2.2.1 S.2.2.2.2.1 S.2.2.2.2.2.1 S.2.2.2.2.2.2
theorem ab_or2_ok {α : Type} {a b : Option α} {x : α} (h : ab_or2 a b = some x) : a = some x ∨ b = some x := by
  cases a with
  | none => exact Or.inr h
  | some y => exact Or.inl h
section
variable {p : Program} {l : Launch} {e : Env} {R : Room} {s : State} {m : MethodId} {args : Array Value} {below : List Frame} {meth : Method} {c : Code} {Q : State → Prop} {cc : ByteArray} {own : String} {nL : Nat} {D : va_G} {cl : List vw_C} {rn : List String} {A : Nat → Prop} {Ts : List Cond} {sa : Nat → Nat} {dT : Nat → ClassId} {vs0 : List Int32} {hs0 : List Nat} {pc : Nat} {E : List ab_I} {nh nc ns : Nat} {hp : ab_H} {loc : List (Nat × ab_V)} {st : List ab_V}
variable {SL : ab_SL} {NF : ab_NF} {NM : ab_NM} {Tc : List Cond}
def ab_enOk (l : Launch) (cl : List vw_C) (rn : List String) (SL : ab_SL) (NF : ab_NF) (NM : ab_NM) (Tc : List Cond) (mm : Nat → ab_M) (en : ab_N) : Prop := ab_met l cl rn SL NF NM Tc (mm en.1).1 (mm en.1).2.1 (mm en.1).2.2.1 (mm en.1).2.2.2 en.2.1.1 en.2.1.2.1 en.2.1.2.2.1 en.2.1.2.2.2 en.2.2.1 en.2.2.2
theorem ab_ty_ok (X : ab_X p s m args c cc own nL D cl (ab_tys dT rn) A Ts) (SX : ab_SX rn SL NF NM sa A s s.heap) {mm : Nat → ab_M} {kd mno np rci ix : Nat} {en : ab_N} (hen : ab_enOk l cl rn SL NF NM Tc mm en) (hG : GoodIn Ts (.code (mm mno).1 (mm mno).2.1 (mm mno).2.2.1 (mm mno).2.2.2 :: Tc)) (hL : ab_ML s args own cl kd ix (mm mno).1 (mm mno).2.2.2 np rci)
    (hd : (kd = 0 ∧ decode cc pc = .ok (.invokevirtual ix, 3)) ∨ (kd = 1 ∧ decode cc pc = .ok (.invokestatic ix, 3)) ∨ (kd = 2 ∧ decode cc pc = .ok (.invokespecial ix, 3))) {av rest : List ab_V} {r : List (Nat × ab_S)} (h : ab_ty R mm kd mno np rci pc E nh hp loc av rest nc ns en = some r) (hg : ∀ q ∈ r, ab_G p l e R s m args below meth c Q D cl A sa dT nL vs0 hs0 q.1 q.2.1 q.2.2.1 q.2.2.2.1 q.2.2.2.2.1 q.2.2.2.2.2.1 q.2.2.2.2.2.2.1 q.2.2.2.2.2.2.2) : ab_G p l e R s m args below meth c Q D cl A sa dT nL vs0 hs0 pc E nh hp loc (av.reverse ++ rest) nc ns := by
  unfold ab_ty at h
  split at h
  · rename_i he
    subst he
    generalize ab_un ([], []) en.2.1.1.length en.2.1.2.1 en.2.1.2.2.1 en.2.1.2.2.2 hp av = q at h
    obtain ⟨σ, π⟩ := q
    dsimp only at h
    unfold ab_ty2 at h
    split at h
    · rename_i hc
      obtain ⟨c1, c0, c2, c3, rfl, hn, hr, hR, hcap, hrc⟩ := hc
      cases h
      have g : ∀ P ∈ en.2.2.1, ab_em (ab_nE σ en.2.1.1 E P) = true → ab_G p l e R s m args below meth c Q D cl A sa dT nL vs0 hs0 (pc + 3) (ab_nE σ en.2.1.1 E P) (nh + (P.2.1 - en.2.1.2.1)) (ab_nH σ π en.2.1.1 E en.2.1.2.1 nh en.2.1.2.2.1 hp P) loc (ab_nr σ π en.2.1.1 E en.2.1.2.1 nh P ++ rest) (nc + en.2.2.2.cells) (ns + en.2.2.2.slots) := fun P hP hem => hg _ (List.mem_map.mpr ⟨P, List.mem_filter.mpr ⟨hP, hem⟩, rfl⟩)
      rcases hd with ⟨rfl, hd⟩ | ⟨rfl, hd⟩ | ⟨rfl, hd⟩
      · cases has : en.2.1.2.2.2.map (ab_su σ π) with
        | nil => rw [has] at hrc; cases hrc
        | cons a r2 =>
          rw [has] at hrc
          simp only [ab_rc, Bool.or_eq_true, Bool.and_eq_true, decide_eq_true_eq] at hrc
          rcases hrc with hrc | ⟨h1, hrc | hrc⟩
          · exact absurd hrc (by decide)
          · exact absurd hrc (by decide)
          · cases hob : ab_ob hp a.2 with
            | none => rw [hob] at hrc; cases hrc
            | some o =>
              rw [hob] at hrc
              have hrc := of_decide_eq_true hrc
              have hf := ab_ob_ok hob
              rw [hrc] at hf
              rw [← has]
              exact ab_invV X SX hen hG hL hd (a0 := a.2) (by rw [has, List.head?_cons, ← h1]) hf hn c1 c0 c2 c3 hr hR hcap g
      · exact ab_invS X SX hen hG hL hd hn c1 c0 c2 c3 hr hR hcap g
      · cases has : en.2.1.2.2.2.map (ab_su σ π) with
        | nil => rw [has] at hrc; cases hrc
        | cons a r2 =>
          rw [has] at hrc
          simp only [ab_rc, Bool.or_eq_true, Bool.and_eq_true, decide_eq_true_eq] at hrc
          rcases hrc with hrc | ⟨h1, hrc⟩
          · exact absurd hrc (by decide)
          · rw [← has]
            exact ab_invI X SX hen hG hL hd (a0 := a.2) (by rw [has, List.head?_cons, ← h1]) ((hL.2.2.2.2.2 rfl).2.2) hn c1 c0 c2 c3 hr hR hcap g
    · cases h
  · cases h
theorem ab_1e_ok (X : ab_X p s m args c cc own nL D cl (ab_tys dT rn) A Ts) (SX : ab_SX rn SL NF NM sa A s s.heap) {mm : Nat → ab_M} {MT : List (Nat × Nat × Nat × Nat × Nat)} {EN : List ab_N} (hEN : ∀ en ∈ EN, ab_enOk l cl rn SL NF NM Tc mm en) (hMT : ∀ q ∈ MT, GoodIn Ts (.code (mm q.2.2.1).1 (mm q.2.2.1).2.1 (mm q.2.2.1).2.2.1 (mm q.2.2.1).2.2.2 :: Tc) ∧ ab_ML s args own cl q.2.1 q.1 (mm q.2.2.1).1 (mm q.2.2.1).2.2.2 q.2.2.2.1 q.2.2.2.2) {i : ClassFile.Instr} {len : Nat} {r : List (Nat × ab_S)} (hd : decode cc pc = .ok (i, len)) (h : ab_1e R mm MT EN i len pc E nh hp loc st nc ns = some r) (hg : ∀ q ∈ r, ab_G p l e R s m args below meth c Q D cl A sa dT nL vs0 hs0 q.1 q.2.1 q.2.2.1 q.2.2.2.1 q.2.2.2.2.1 q.2.2.2.2.2.1 q.2.2.2.2.2.2.1 q.2.2.2.2.2.2.2) : ab_G p l e R s m args below meth c Q D cl A sa dT nL vs0 hs0 pc E nh hp loc st nc ns := by
  have key : ∀ (ix : Nat) (q : Nat × Nat × Nat × Nat), ab_as MT ix = some q → ((q.1 = 0 ∧ decode cc pc = .ok (.invokevirtual ix, 3)) ∨ (q.1 = 1 ∧ decode cc pc = .ok (.invokestatic ix, 3)) ∨ (q.1 = 2 ∧ decode cc pc = .ok (.invokespecial ix, 3))) → ab_cs R mm EN q.1 q.2.1 q.2.2.1 q.2.2.2 pc E nh hp loc st nc ns = some r → ab_G p l e R s m args below meth c Q D cl A sa dT nL vs0 hs0 pc E nh hp loc st nc ns := by
    intro ix q hq hdd hcs
    obtain ⟨en, hen, hty⟩ := List.exists_of_findSome?_eq_some hcs
    obtain ⟨m1, m2⟩ := hMT _ (ab_as_ok _ _ _ hq)
    have := ab_ty_ok X SX (hEN en hen) m1 m2 hdd hty hg
    rw [List.reverse_reverse, List.take_append_drop] at this
    exact this
  unfold ab_1e at h
  split at h
  · rename_i ix
    cases hm : ab_as MT ix with
    | none => rw [hm] at h; cases h
    | some q =>
      rw [hm] at h
      dsimp only at h
      split at h
      · rename_i hc
        obtain ⟨rfl, hc⟩ := hc
        exact key ix q hm (Or.inl ⟨hc, hd⟩) h
      · cases h
  · rename_i ix
    cases hm : ab_as MT ix with
    | none => rw [hm] at h; cases h
    | some q =>
      rw [hm] at h
      dsimp only at h
      split at h
      · rename_i hc
        obtain ⟨rfl, hc⟩ := hc
        exact key ix q hm (Or.inr (Or.inl ⟨hc, hd⟩)) h
      · cases h
  · rename_i ix
    cases hm : ab_as MT ix with
    | none => rw [hm] at h; cases h
    | some q =>
      rw [hm] at h
      dsimp only at h
      split at h
      · rename_i hc
        obtain ⟨rfl, hc⟩ := hc
        exact key ix q hm (Or.inr (Or.inr ⟨hc, hd⟩)) h
      · cases h
  · cases h
theorem ab_rk_ok {n0 nh0 : Nat} {rv : Option ab_V} {P : ab_P} (h : ab_rk n0 nh0 E nh hp rv P = true) : ∃ σ π : List Nat, ab_ek σ P.1 E = true ∧ π.length = P.2.1 ∧ (∀ k ∈ π, k < nh) ∧ ab_ck σ π P.2.2.1 hp = true ∧ σ.take n0 = List.range n0 ∧ π.take nh0 = List.range nh0 ∧ P.2.2.2.map (ab_su σ π) = rv := by
  unfold ab_rk at h
  generalize ab_un (ab_idL n0, ab_idL nh0) P.1.length P.2.1 P.2.2.1 P.2.2.2.toList hp rv.toList = q at h
  dsimp only at h
  unfold ab_rk2 at h
  simp only [Bool.and_eq_true, decide_eq_true_eq] at h
  exact ⟨q.1, q.2, h⟩
theorem ab_rt_ok {ws0 : va_W} {sz : Nat} {rm : Room} {posts : List ab_P} {ret : Option FieldType} {i : ClassFile.Instr} {len : Nat} (X : ab_X p s m args c cc own nL D cl (ab_tys dT rn) (va_A ws0 sz) Ts) (hl : meth.locks = false) (hr : meth.sig.returnType = ret) (hd : decode cc pc = .ok (i, len)) (h : ab_rt rm vs0.length hs0.length posts ret i len E nh hp st nc ns = true) :
    ab_G p l e R s m args below meth c (MQ below (ab_Q cl D sa dT vs0 hs0 ws0 sz posts) args s rm.cells rm.slots (va_A ws0 sz)) D cl (va_A ws0 sz) sa dT nL vs0 hs0 pc E nh hp loc st nc ns := by
  unfold ab_rt at h
  split at h
  · simp only [Bool.and_eq_true, decide_eq_true_eq] at h
    obtain ⟨⟨rfl, rfl, rfl, h1, h2⟩, h3⟩ := h
    obtain ⟨P, hP, hk⟩ := List.any_eq_true.mp h3
    obtain ⟨σ, π, c1, c0, c2, c3, c4, c5, c6⟩ := ab_rk_ok hk
    have c7 : P.2.2.2 = none := by
      cases hx : P.2.2.2 with
      | none => rfl
      | some v => rw [hx] at c6; cases c6
    exact ab_vret X hl hr hd ⟨h1, h2⟩ hP c1 c0 c2 c3 c4 c5 c7
  · split at h
    · rename_i x
      cases hm : E[x.2]? with
      | none => rw [hm] at h; cases h
      | some iv =>
        rw [hm] at h
        simp only [Bool.and_eq_true, decide_eq_true_eq] at h
        obtain ⟨⟨rfl, hx, ht, h1, h2⟩, h3⟩ := h
        obtain ⟨P, hP, hk⟩ := List.any_eq_true.mp h3
        obtain ⟨σ, π, c1, c0, c2, c3, c4, c5, c6⟩ := ab_rk_ok hk
        obtain ⟨tx, kx⟩ := x
        dsimp only at *
        subst hx
        rcases ht with ht | ⟨ht, h4, h5⟩
        · exact ab_iret X hl (hr.trans ht) hm (Or.inl rfl) hd ⟨h1, h2⟩ hP c1 c0 c2 c3 c4 c5 c6
        · exact ab_iret X hl (hr.trans ht) hm (Or.inr ⟨rfl, h4, h5⟩) hd ⟨h1, h2⟩ hP c1 c0 c2 c3 c4 c5 c6
    · cases h
  · cases h
theorem ab_ai_ok {KT : List (Nat × Int)} {mm : Nat → ab_M} {MT : List (Nat × Nat × Nat × Nat × Nat)} {EN : List ab_N} {pg : List (Nat × ClassFile.Instr × Nat)} {ex : Nat → ab_S → Option (List (Nat × ab_S))} {fin : Nat → ab_S → Bool} (X : ab_X p s m args c cc own nL D cl (ab_tys dT rn) A Ts) (SX : ab_SX rn SL NF NM sa A s s.heap) {ini : Bool} {FT : List (Nat × Nat × Nat × Nat)} {ST : List (Nat × Nat)} {NT : List (Nat × Nat × List Bool)} {RT : List (Nat × Nat)} {OI AC : List Nat} (hini : ini = true → meth.name = "<init>") (hF : ∀ q ∈ FT, ab_FL s args own cl Ts q.1 q.2.1 q.2.2.1 q.2.2.2) (hST : ∀ q ∈ ST, ∀ r, SL[q.2]? = some r → (Cond.fieldLink own q.1 r.1 r.2.1 r.2.2.1).before args s = true) (hNT : ∀ q ∈ NT, ab_NL s args own cl Ts q.1 q.2.1 q.2.2) (hAI : (Cond.arrayClass (newarray.typeOf .int)).before args s = true) (hRT : ∀ q ∈ RT, ∀ C, rn[q.2]? = some C → (Cond.classLink own q.1 C).before args s = true) (hOI : ∀ ix ∈ OI, (Cond.methodLink own ix Lib.objectInit).before args s = true ∧ (Cond.instanceMethod Lib.objectInit).before args s = true ∧ (Cond.code Lib.objectInit ⟨#[0xb1]⟩ 1 none).before args s = true) (hAC : ∀ ix ∈ AC, (Cond.methodLink own ix arraycopyName).before args s = true ∧ (Cond.native arraycopyName).before args s = true ∧ (Cond.static arraycopyName).before args s = true ∧ (Cond.initialized "java/lang/System").before args s = true) (hK : ∀ q ∈ KT, (Jvm.Cond.constant own q.1 (Int32.ofInt q.2)).before args s = true) (hEN : ∀ en ∈ EN, ab_enOk l cl rn SL NF NM Tc mm en) (hMT : ∀ q ∈ MT, GoodIn Ts (.code (mm q.2.2.1).1 (mm q.2.2.1).2.1 (mm q.2.2.1).2.2.1 (mm q.2.2.1).2.2.2 :: Tc) ∧ ab_ML s args own cl q.2.1 q.1 (mm q.2.2.1).1 (mm q.2.2.1).2.2.2 q.2.2.2.1 q.2.2.2.2) (hpg : ∀ q ∈ pg, decode cc q.1 = .ok (q.2.1, q.2.2))
    (hex : ∀ (pc : Nat) (S : ab_S) (r : List (Nat × ab_S)), ex pc S = some r → (∀ q ∈ r, ab_G p l e R s m args below meth c Q D cl A sa dT nL vs0 hs0 q.1 q.2.1 q.2.2.1 q.2.2.2.1 q.2.2.2.2.1 q.2.2.2.2.2.1 q.2.2.2.2.2.2.1 q.2.2.2.2.2.2.2) → ab_G p l e R s m args below meth c Q D cl A sa dT nL vs0 hs0 pc S.1 S.2.1 S.2.2.1 S.2.2.2.1 S.2.2.2.2.1 S.2.2.2.2.2.1 S.2.2.2.2.2.2) (hfin : ∀ (pc : Nat) (S : ab_S), fin pc S = true → ab_G p l e R s m args below meth c Q D cl A sa dT nL vs0 hs0 pc S.1 S.2.1 S.2.2.1 S.2.2.2.1 S.2.2.2.2.1 S.2.2.2.2.2.1 S.2.2.2.2.2.2) :
    ∀ (n pc : Nat) (S : ab_S), ab_ai R cl rn ini FT SL ST NT RT OI AC nL KT mm MT EN ex fin pg n pc S = true → ab_G p l e R s m args below meth c Q D cl A sa dT nL vs0 hs0 pc S.1 S.2.1 S.2.2.1 S.2.2.2.1 S.2.2.2.2.1 S.2.2.2.2.2.1 S.2.2.2.2.2.2
  | 0, _, _, h => by cases h
  | n + 1, pc, S, h => by
    unfold ab_ai at h
    rw [Bool.or_eq_true] at h
    rcases h with h | h
    · exact hfin pc S h
    · cases h1 : ab_or2 (ex pc S) (match ab_as pg pc with
        | none => none
        | some q => ab_1 R cl rn ini FT SL ST NT RT OI AC nL KT mm MT EN q.1 q.2 pc S.1 S.2.1 S.2.2.1 S.2.2.2.1 S.2.2.2.2.1 S.2.2.2.2.2.1 S.2.2.2.2.2.2) with
      | none => rw [h1] at h; cases h
      | some r =>
        rw [h1] at h
        dsimp only at h
        rw [List.all_eq_true] at h
        have hg := fun z hz => ab_ai_ok X SX hini hF hST hNT hAI hRT hOI hAC hK hEN hMT hpg hex hfin n z.1 z.2 ((ab_fQ_eq _ _ _).symm.trans (h z hz))
        rcases ab_or2_ok h1 with h1 | h1
        · exact hex pc S r h1 hg
        cases hq : ab_as pg pc with
        | none => rw [hq] at h1; cases h1
        | some q =>
          rw [hq] at h1
          dsimp only at h1
          have hd := hpg _ (ab_as_ok _ _ _ hq)
          dsimp only at hd
          unfold ab_1 at h1
          rcases ab_or2_ok h1 with h1 | h1
          · exact ab_1a_ok X hK hd h1 hg
          rcases ab_or2_ok h1 with h1 | h1
          · exact ab_1d_ok X SX hini hF hST hNT hAI hRT hOI hAC hd h1 hg
          rcases ab_or2_ok h1 with h1 | h1
          · exact ab_1c_ok X SX hd h1 hg
          rcases ab_or2_ok h1 with h1 | h1
          · exact ab_1b_ok X hd h1 hg
          exact ab_1e_ok X SX hEN hMT hd h1 hg
end
def ab_lo : Nat → List ab_V → List (Nat × ab_V)
  | _, [] => []
  | k, a :: r => (k, a) :: ab_lo (k + 1) r
theorem ab_lo_ok {sa : Nat → Nat} {vs : List Int32} {hs : List Nat} : ∀ (as : List ab_V) (vals : List Value) (k : Nat), as.map (ab_cv sa vs hs) = vals.map some → (ab_lo k as).map (fun q => (q.1, (ab_cv sa vs hs q.2).getD .null)) = lv_args k vals ∧ (∀ q ∈ ab_lo k as, ∃ v, ab_cv sa vs hs q.2 = some v) ∧ (lg_sl vals).length = vals.length
  | [], [], _, _ => ⟨rfl, (fun q hq => by cases hq), rfl⟩
  | [], _ :: _, _, h => by cases h
  | _ :: _, [], _, h => by cases h
  | a :: r, v :: vals, k, h => by
    simp only [List.map_cons, List.cons.injEq] at h
    obtain ⟨h1, h2, h3⟩ := ab_lo_ok r vals (k + 1) h.2
    have hc := ab_cat h.1
    refine ⟨?_, fun q hq => ?_, ?_⟩
    · simp only [ab_lo, List.map_cons, lv_args, h.1, hc]
      rw [h1]
      simp
    · rcases List.mem_cons.mp hq with rfl | hq
      · exact ⟨v, h.1⟩
      · exact h2 q hq
    · simp only [lg_sl, List.flatMap_cons, hc] at h3 ⊢
      simp
      simpa [lg_sl] using h3
