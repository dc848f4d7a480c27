def ab_ob (hp : ab_H) (a : Nat) : Option (Nat × Nat × List ab_V) := match ab_fi hp a 0 with
  | some (j, .inl (ci, fs)) => some (j, ci, fs)
  | _ => none
theorem ab_ob_ok {hp : ab_H} {a : Nat} {o : Nat × Nat × List ab_V} (h : ab_ob hp a = some o) : ab_fi hp a 0 = some (o.1, .inl (o.2.1, o.2.2)) := by
  unfold ab_ob at h
  split at h
  · rename_i j ci fs he
    cases h
    exact he
  · cases h
def ab_ia (hp : ab_H) (a : Nat) : Option (Nat × Nat × Int × Int × Int × Int) := match ab_fi hp a 0 with
  | some (j, .inr (.inl (n, lo, hi, lo0, hi0))) => some (j, n, lo, hi, lo0, hi0)
  | _ => none
theorem ab_ia_ok {hp : ab_H} {a : Nat} {o : Nat × Nat × Int × Int × Int × Int} (h : ab_ia hp a = some o) : ab_fi hp a 0 = some (o.1, .inr (.inl (o.2.1, o.2.2.1, o.2.2.2.1, o.2.2.2.2.1, o.2.2.2.2.2))) := by
  unfold ab_ia at h
  split at h
  · rename_i j n lo hi lo0 hi0 he
    cases h
    exact he
  · cases h
def ab_qa (hp : ab_H) (a : Nat) : Option (Nat × Nat × List ab_V) := match ab_fi hp a 0 with
  | some (j, .inr (.inr (t, js))) => some (j, t, js)
  | _ => none
theorem ab_qa_ok {hp : ab_H} {a : Nat} {o : Nat × Nat × List ab_V} (h : ab_qa hp a = some o) : ab_fi hp a 0 = some (o.1, .inr (.inr (o.2.1, o.2.2))) := by
  unfold ab_qa at h
  split at h
  · rename_i j t js he
    cases h
    exact he
  · cases h
def ab_all {α β : Type} (f : α → Option β) : List α → Option (List β)
  | [] => some []
  | x :: r => match f x with
    | none => none
    | some y => (match ab_all f r with
      | none => none
      | some ys => some (y :: ys))
theorem ab_all_ok {α β : Type} {f : α → Option β} : ∀ {l : List α} {ys : List β}, ab_all f l = some ys → ∀ x ∈ l, ∃ y ∈ ys, f x = some y
  | [], _, _, x, hx => by cases hx
  | z :: r, ys, h, x, hx => by
    unfold ab_all at h
    cases hz : f z with
    | none => rw [hz] at h; cases h
    | some y =>
      rw [hz] at h
      dsimp only at h
      cases hr : ab_all f r with
      | none => rw [hr] at h; cases h
      | some ys' =>
        rw [hr] at h
        cases h
        rcases List.mem_cons.mp hx with rfl | hx
        · exact ⟨y, List.mem_cons_self, hz⟩
        · obtain ⟨y', h1, h2⟩ := ab_all_ok hr x hx
          exact ⟨y', List.mem_cons_of_mem _ h1, h2⟩
def ab_zs (a b : Int) : List Int := (List.range (b - a + 1).toNat).map (fun k : Nat => a + (k : Int))
theorem ab_zs_ok {a b z : Int} (h1 : a ≤ z) (h2 : z ≤ b) : z ∈ ab_zs a b := List.mem_map.mpr ⟨(z - a).toNat, List.mem_range.mpr (by omega), by omega⟩
def ab_tz (lo : Int) (offs : Array Int) (pc kx : Nat) (E : List ab_I) (nh : Nat) (hp : ab_H) (loc : List (Nat × ab_V)) (st : List ab_V) (nc ns : Nat) (z : Int) : Option (Nat × ab_S) := match offs[(z - lo).toNat]? with
  | none => none
  | some off => (match ab_tg pc off with
    | none => none
    | some t => some (t, E.set kx (z, z), nh, hp, loc, st, nc, ns))
def ab_qz (js : List ab_V) (pc ki : Nat) (E : List ab_I) (nh : Nat) (hp : ab_H) (loc : List (Nat × ab_V)) (st : List ab_V) (nc ns : Nat) (z : Int) : Option (Nat × ab_S) := match js[z.toNat]? with
  | none => none
  | some v => some (pc + 1, E.set ki (z, z), nh, hp, loc, v :: st, nc, ns)
def ab_sz (xs : List Int) (pc ki : Nat) (E : List ab_I) (nh : Nat) (hp : ab_H) (loc : List (Nat × ab_V)) (st : List ab_V) (nc ns : Nat) (z : Int) : Option (Nat × ab_S) := match xs[z.toNat]? with
  | none => none
  | some x => some (pc + 1, E.set ki (z, z) ++ [(x, x)], nh, hp, loc, (0, E.length) :: st, nc, ns)
def ab_1c (rn : List String) (SL : ab_SL) (i : ClassFile.Instr) (len pc : Nat) (E : List ab_I) (nh : Nat) (hp : ab_H) (loc : List (Nat × ab_V)) (st : List ab_V) (nc ns : Nat) : Option (List (Nat × ab_S)) := match i with
  | .if_icmp cn off => (match st with
    | y :: x :: rr => (match E[x.2]? with
      | none => none
      | some ix => (match E[y.2]? with
        | none => none
        | some iy => (match ab_tg pc off with
          | none => none
          | some tg => if len = 3 ∧ x.1 = 0 ∧ y.1 = 0 then some ((ab_br cn E x.2 y.2 ix iy).map (fun E' => (tg, E', nh, hp, loc, rr, nc, ns)) ++ (ab_br (ab_ng cn) E x.2 y.2 ix iy).map (fun E' => (pc + 3, E', nh, hp, loc, rr, nc, ns))) else none)))
    | _ => none)
  | .ifCond cn off => (match st with
    | x :: rr => (match E[x.2]? with
      | none => none
      | some ix => (match ab_tg pc off with
          | none => none
          | some tg => if len = 3 ∧ x.1 = 0 then some ((ab_br1 cn E x.2 ix).map (fun E' => (tg, E', nh, hp, loc, rr, nc, ns)) ++ (ab_br1 (ab_ng cn) E x.2 ix).map (fun E' => (pc + 3, E', nh, hp, loc, rr, nc, ns))) else none))
    | _ => none)
  | .tableswitch df lo hi offs => (match st with
    | x :: rr => (match E[x.2]? with
      | none => none
      | some ix => (match ab_tg pc df with
        | none => none
        | some td => if x.1 = 0 then (match ab_all (ab_tz lo offs pc x.2 E nh hp loc rr nc ns) (ab_zs (max ix.1 lo) (min ix.2 hi)) with
          | none => none
          | some ys => some (ys ++ (if ix.1 < lo ∨ hi < ix.2 then [(td, E, nh, hp, loc, rr, nc, ns)] else []))) else none))
    | _ => none)
  | .aaload => (match st with
    | i :: a :: rr => (match E[i.2]? with
      | none => none
      | some iv => (match ab_qa hp a.2 with
        | none => none
        | some o => if len = 1 ∧ i.1 = 0 ∧ a.1 = 1 ∧ 0 ≤ iv.1 ∧ iv.2 < (o.2.2.length : Int) ∧ o.2.1 < rn.length then ab_all (ab_qz o.2.2 pc i.2 E nh hp loc rr nc ns) (ab_zs iv.1 iv.2) else none))
    | _ => none)
  | .iaload => (match st with
    | i :: a :: rr => (match E[i.2]? with
      | none => none
      | some iv => (match SL[a.2]? with
        | none => none
        | some w => if len = 1 ∧ i.1 = 0 ∧ a.1 = 3 ∧ 0 ≤ iv.1 ∧ iv.2 < (w.2.2.2.length : Int) ∧ (∀ x ∈ w.2.2.2, -2147483648 ≤ x ∧ x ≤ 2147483647) then ab_all (ab_sz w.2.2.2 pc i.2 E nh hp loc rr nc ns) (ab_zs iv.1 iv.2) else none))
    | _ => none)
  | _ => none
def ab_1d (R : Room) (cl : List vw_C) (rn : List String) (ini : Bool) (FT : List (Nat × Nat × Nat × Nat)) (SL : ab_SL) (ST : List (Nat × Nat)) (NT : List (Nat × Nat × List Bool)) (RT : List (Nat × Nat)) (OI : List Nat) (AC : List Nat) (i : ClassFile.Instr) (len pc : Nat) (E : List ab_I) (nh : Nat) (hp : ab_H) (loc : List (Nat × ab_V)) (st : List ab_V) (nc ns : Nat) : Option (List (Nat × ab_S)) := match i with
  | .getfield ix => (match st with
    | a :: rr => (match ab_as FT ix with
    | none => none
    | some q => (match ab_ob hp a.2 with
    | none => none
    | some o => (match o.2.2[q.2.1]? with
    | none => none
    | some v => if len = 3 ∧ a.1 = 1 ∧ q.1 = o.2.1 then some [(pc + 3, E, nh, hp, loc, v :: rr, nc, ns)] else none)))
    | _ => none)
  | .putfield ix => (match st with
    | v :: a :: rr => (match ab_as FT ix with
    | none => none
    | some q => (match ab_ob hp a.2 with
    | none => none
    | some o => if len = 3 ∧ a.1 = 1 ∧ q.1 = o.2.1 ∧ q.2.1 < o.2.2.length ∧ q.2.2 < 4 ∧ (q.2.2 < 2 ∨ ini = true) ∧ ((q.2.2 % 2 = 0 ∧ v.1 = 0) ∨ (q.2.2 % 2 = 1 ∧ v.1 ≠ 0)) then some [(pc + 3, E, nh, hp.set o.1 (a.2, .inl (o.2.1, o.2.2.set q.2.1 v)), loc, rr, nc, ns)] else none))
    | _ => none)
  | .iaload => (match st with
    | i :: a :: rr => (match E[i.2]? with
    | none => none
    | some iv => (match ab_ia hp a.2 with
    | none => none
    | some o => if len = 1 ∧ i.1 = 0 ∧ a.1 = 1 ∧ 0 ≤ iv.1 ∧ iv.2 < (o.2.1 : Int) then some [(pc + 1, E ++ [ab_ixI iv o.2.2.1 o.2.2.2.1 o.2.2.2.2.1 o.2.2.2.2.2], nh, hp, loc, (0, E.length) :: rr, nc, ns)] else none))
    | _ => none)
  | .iastore => (match st with
    | x :: i :: a :: rr => (match E[i.2]? with
    | none => none
    | some iv => (match E[x.2]? with
    | none => none
    | some xv => (match ab_ia hp a.2 with
    | none => none
    | some o => if len = 1 ∧ x.1 = 0 ∧ i.1 = 0 ∧ a.1 = 1 ∧ 0 ≤ iv.1 ∧ iv.2 < (o.2.1 : Int) then some [(pc + 1, E, nh, hp.set o.1 (a.2, .inr (.inl (o.2.1, ab_stI iv xv o.2.2.1 o.2.2.2.1 o.2.2.2.2.1 o.2.2.2.2.2))), loc, rr, nc, ns)] else none)))
    | _ => none)
  | .arraylength => (match st with
    | a :: rr => (match ab_ia hp a.2 with
    | none => none
    | some o => if len = 1 ∧ a.1 = 1 ∧ o.2.1 < 2147483648 then some [(pc + 1, E ++ [((o.2.1 : Int), (o.2.1 : Int))], nh, hp, loc, (0, E.length) :: rr, nc, ns)] else none)
    | _ => none)
  | .getstatic ix => (match ab_as ST ix with
    | none => none
    | some t => (match SL[t]? with
    | none => none
    | some w => if len = 3 then some [(pc + 3, E, nh, hp, loc, (3, t) :: st, nc, ns)] else none))
  | .new ix => (match ab_as NT ix with
    | none => none
    | some q => if len = 3 ∧ nc + 1 ≤ R.cells ∧ ns + q.2.length ≤ R.slots then some [(pc + 3, E ++ [(0, 0)], nh + 1, hp ++ [(nh, .inl (q.1, q.2.map (fun b => if b then (0, E.length) else (2, 0))))], loc, (1, nh) :: st, nc + 1, ns + q.2.length)] else none)
  | .newarray .int => (match st with
    | k :: rr => (match E[k.2]? with
    | none => none
    | some iv => if len = 2 ∧ k.1 = 0 ∧ iv.1 = iv.2 ∧ 0 ≤ iv.1 ∧ iv.1.toNat * 4 ≤ 536870912 ∧ nc + 1 ≤ R.cells ∧ ns + iv.1.toNat ≤ R.slots then some [(pc + 2, E, nh + 1, hp ++ [(nh, .inr (.inl (iv.1.toNat, 0, 0, 0, 0)))], loc, (1, nh) :: rr, nc + 1, ns + iv.1.toNat)] else none)
    | _ => none)
  | .anewarray ix => (match st with
    | k :: rr => (match E[k.2]? with
    | none => none
    | some iv => (match ab_as RT ix with
    | none => none
    | some t => (match rn[t]? with
    | none => none
    | some C => if len = 3 ∧ k.1 = 0 ∧ iv.1 = iv.2 ∧ 0 ≤ iv.1 ∧ iv.1.toNat * 4 ≤ 536870912 ∧ nc + 1 ≤ R.cells ∧ ns + iv.1.toNat ≤ R.slots then some [(pc + 3, E, nh + 1, hp ++ [(nh, .inr (.inr (t, List.replicate iv.1.toNat (2, 0))))], loc, (1, nh) :: rr, nc + 1, ns + iv.1.toNat)] else none)))
    | _ => none)
  | .aastore => (match st with
    | b :: i :: a :: rr => (match E[i.2]? with
    | none => none
    | some iv => (match ab_qa hp a.2 with
    | none => none
    | some o => (match ab_ob hp b.2 with
    | none => none
    | some ob => (match cl[ob.2.1]? with
    | none => none
    | some w => if len = 1 ∧ b.1 = 1 ∧ i.1 = 0 ∧ a.1 = 1 ∧ iv.1 = iv.2 ∧ 0 ≤ iv.1 ∧ iv.2 < (o.2.2.length : Int) ∧ rn[o.2.1]? = some w.1 then some [(pc + 1, E, nh, hp.set o.1 (a.2, .inr (.inr (o.2.1, o.2.2.set iv.1.toNat (1, b.2)))), loc, rr, nc, ns)] else none))))
    | _ => none)
  | .invokespecial ix => (match st with
    | a :: rr => if len = 3 ∧ a.1 = 1 ∧ ix ∈ OI ∧ 1 ≤ R.frames ∧ rr.length + 12 ≤ R.locals then some [(pc + 3, E, nh, hp, loc, rr, nc, ns)] else none
    | _ => none)
  | .invokestatic ix => (match st with
    | n :: dd :: b :: sp :: a :: rr => (match E[n.2]? with
    | none => none
    | some i1 => (match E[dd.2]? with
    | none => none
    | some i2 => (match E[sp.2]? with
    | none => none
    | some i3 => (match ab_ia hp a.2 with
    | none => none
    | some oa => (match ab_ia hp b.2 with
    | none => none
    | some ob => if len = 3 ∧ n.1 = 0 ∧ dd.1 = 0 ∧ b.1 = 1 ∧ sp.1 = 0 ∧ a.1 = 1 ∧ ix ∈ AC ∧ 0 ≤ i1.1 ∧ i2 = (0, 0) ∧ i3 = (0, 0) ∧ i1.2 ≤ (oa.2.1 : Int) ∧ i1.2 ≤ (ob.2.1 : Int) ∧ 1 ≤ R.frames ∧ rr.length + (nativeFrameWords "java/lang/System" "arraycopy" 5 + 11) ≤ R.locals then some [(pc + 3, E, nh, hp.set ob.1 (b.2, .inr (.inl (ob.2.1, min oa.2.2.1 ob.2.2.1, max oa.2.2.2.1 ob.2.2.2.1, min oa.2.2.2.2.1 ob.2.2.2.2.1, max oa.2.2.2.2.2 ob.2.2.2.2.2))), loc, rr, nc, ns)] else none)))))
    | _ => none)
  | _ => none
section
variable {p : Program} {l : Launch} {e : Env} {R : Room} {s : State} {m : MethodId} {args : Array Value} {below : List Frame} {meth : Method} {c : Code} {Q : State → Prop} {cc : ByteArray} {own : String} {nL : Nat} {D : va_G} {cl : List vw_C} {rn : List String} {A : Nat → Prop} {Ts : List Cond} {sa : Nat → Nat} {dT : Nat → ClassId} {vs0 : List Int32} {hs0 : List Nat} {pc : Nat} {E : List ab_I} {nh nc ns : Nat} {hp : ab_H} {loc : List (Nat × ab_V)} {st : List ab_V}
variable {SL : ab_SL} {NF : ab_NF} {NM : ab_NM}
set_option maxHeartbeats 4000000 in
theorem ab_1d_ok (X : ab_X p s m args c cc own nL D cl (ab_tys dT rn) A Ts) (SX : ab_SX rn SL NF NM sa A s s.heap) {ini : Bool} {FT : List (Nat × Nat × Nat × Nat)} {ST : List (Nat × Nat)} {NT : List (Nat × Nat × List Bool)} {RT : List (Nat × Nat)} {OI AC : List Nat} (hini : ini = true → meth.name = "<init>") (hF : ∀ q ∈ FT, ab_FL s args own cl Ts q.1 q.2.1 q.2.2.1 q.2.2.2) (hST : ∀ q ∈ ST, ∀ r, SL[q.2]? = some r → (Cond.fieldLink own q.1 r.1 r.2.1 r.2.2.1).before args s = true) (hNT : ∀ q ∈ NT, ab_NL s args own cl Ts q.1 q.2.1 q.2.2) (hAI : (Cond.arrayClass (newarray.typeOf .int)).before args s = true) (hRT : ∀ q ∈ RT, ∀ C, rn[q.2]? = some C → (Cond.classLink own q.1 C).before args s = true) (hOI : ∀ ix ∈ OI, (Cond.methodLink own ix Lib.objectInit).before args s = true ∧ (Cond.instanceMethod Lib.objectInit).before args s = true ∧ (Cond.code Lib.objectInit ⟨#[0xb1]⟩ 1 none).before args s = true) (hAC : ∀ ix ∈ AC, (Cond.methodLink own ix arraycopyName).before args s = true ∧ (Cond.native arraycopyName).before args s = true ∧ (Cond.static arraycopyName).before args s = true ∧ (Cond.initialized "java/lang/System").before args s = true) {i : ClassFile.Instr} {len : Nat} {r : List (Nat × ab_S)} (hd : decode cc pc = .ok (i, len)) (h : ab_1d R cl rn ini FT SL ST NT RT OI AC i len pc E nh hp loc st nc ns = some r) (hg : ∀ q ∈ r, ab_G p l e R s m args below meth c Q D cl A sa dT nL vs0 hs0 q.1 q.2.1 q.2.2.1 q.2.2.2.1 q.2.2.2.2.1 q.2.2.2.2.2.1 q.2.2.2.2.2.2.1 q.2.2.2.2.2.2.2) : ab_G p l e R s m args below meth c Q D cl A sa dT nL vs0 hs0 pc E nh hp loc st nc ns := by
  unfold ab_1d at h
  split at h
  · rename_i ix
    cases st with
    | nil => cases h
    | cons a rr =>
      dsimp only at h
      cases hm1 : ab_as FT ix with
      | none => rw [hm1] at h; cases h
      | some q =>
        rw [hm1] at h
        dsimp only at h
        cases hm2 : ab_ob hp a.2 with
        | none => rw [hm2] at h; cases h
        | some o =>
          rw [hm2] at h
          dsimp only at h
          cases hm3 : o.2.2[q.2.1]? with
          | none => rw [hm3] at h; cases h
          | some v =>
            rw [hm3] at h
            dsimp only at h
            by_cases hc : len = 3 ∧ a.1 = 1 ∧ q.1 = o.2.1
            · rw [if_pos hc] at h
              obtain ⟨rfl, h1, h2⟩ := hc
              obtain ⟨ta, ka⟩ := a
              dsimp only at *
              have eta : ta = 1 := by assumption
              subst eta
              have hF1 := hF _ (ab_as_ok _ _ _ hm1)
              rw [h2] at hF1
              cases h
              exact ab_getf X hF1 hd (ab_ob_ok hm2) hm3 (hg _ List.mem_cons_self)
            · rw [if_neg hc] at h; cases h
  · rename_i ix
    cases st with
    | nil => cases h
    | cons v r0 =>
      cases r0 with
      | nil => cases h
      | cons a rr =>
        dsimp only at h
        cases hm1 : ab_as FT ix with
        | none => rw [hm1] at h; cases h
        | some q =>
          rw [hm1] at h
          dsimp only at h
          cases hm2 : ab_ob hp a.2 with
          | none => rw [hm2] at h; cases h
          | some o =>
            rw [hm2] at h
            dsimp only at h
            by_cases hc : len = 3 ∧ a.1 = 1 ∧ q.1 = o.2.1 ∧ q.2.1 < o.2.2.length ∧ q.2.2 < 4 ∧ (q.2.2 < 2 ∨ ini = true) ∧ ((q.2.2 % 2 = 0 ∧ v.1 = 0) ∨ (q.2.2 % 2 = 1 ∧ v.1 ≠ 0))
            · rw [if_pos hc] at h
              obtain ⟨rfl, h1, h2, h3, h4, h5, h6⟩ := hc
              obtain ⟨ta, ka⟩ := a
              dsimp only at *
              have eta : ta = 1 := by assumption
              subst eta
              have hF1 := hF _ (ab_as_ok _ _ _ hm1)
              rw [h2] at hF1
              cases h
              exact ab_putf X hF1 (fun h7 => hini (h5.resolve_left (by dsimp only at h7; omega))) h4 hd (ab_ob_ok hm2) h3 h6 (hg _ List.mem_cons_self)
            · rw [if_neg hc] at h; cases h
  · cases st with
    | nil => cases h
    | cons i r0 =>
      cases r0 with
      | nil => cases h
      | cons a rr =>
        dsimp only at h
        cases hm1 : E[i.2]? with
        | none => rw [hm1] at h; cases h
        | some iv =>
          rw [hm1] at h
          dsimp only at h
          cases hm2 : ab_ia hp a.2 with
          | none => rw [hm2] at h; cases h
          | some o =>
            rw [hm2] at h
            dsimp only at h
            by_cases hc : len = 1 ∧ i.1 = 0 ∧ a.1 = 1 ∧ 0 ≤ iv.1 ∧ iv.2 < (o.2.1 : Int)
            · rw [if_pos hc] at h
              obtain ⟨rfl, h1, h2, h3, h4⟩ := hc
              obtain ⟨ti, ki⟩ := i
              dsimp only at *
              have eti : ti = 0 := by assumption
              subst eti
              obtain ⟨ta, ka⟩ := a
              dsimp only at *
              have eta : ta = 1 := by assumption
              subst eta
              cases h
              exact ab_iald X hd (ab_ia_ok hm2) hm1 h3 h4 (hg _ List.mem_cons_self)
            · rw [if_neg hc] at h; cases h
  · cases st with
    | nil => cases h
    | cons x r0 =>
      cases r0 with
      | nil => cases h
      | cons i r1 =>
        cases r1 with
        | nil => cases h
        | cons a rr =>
          dsimp only at h
          cases hm1 : E[i.2]? with
          | none => rw [hm1] at h; cases h
          | some iv =>
            rw [hm1] at h
            dsimp only at h
            cases hm2 : E[x.2]? with
            | none => rw [hm2] at h; cases h
            | some xv =>
              rw [hm2] at h
              dsimp only at h
              cases hm3 : ab_ia hp a.2 with
              | none => rw [hm3] at h; cases h
              | some o =>
                rw [hm3] at h
                dsimp only at h
                by_cases hc : len = 1 ∧ x.1 = 0 ∧ i.1 = 0 ∧ a.1 = 1 ∧ 0 ≤ iv.1 ∧ iv.2 < (o.2.1 : Int)
                · rw [if_pos hc] at h
                  obtain ⟨rfl, h0, h1, h2, h3, h4⟩ := hc
                  obtain ⟨tx, kx⟩ := x
                  dsimp only at *
                  have etx : tx = 0 := by assumption
                  subst etx
                  obtain ⟨ti, ki⟩ := i
                  dsimp only at *
                  have eti : ti = 0 := by assumption
                  subst eti
                  obtain ⟨ta, ka⟩ := a
                  dsimp only at *
                  have eta : ta = 1 := by assumption
                  subst eta
                  cases h
                  exact ab_iast X hd (ab_ia_ok hm3) hm1 hm2 h3 h4 (hg _ List.mem_cons_self)
                · rw [if_neg hc] at h; cases h
  · cases st with
    | nil => cases h
    | cons a rr =>
      dsimp only at h
      cases hm1 : ab_ia hp a.2 with
      | none => rw [hm1] at h; cases h
      | some o =>
        rw [hm1] at h
        dsimp only at h
        by_cases hc : len = 1 ∧ a.1 = 1 ∧ o.2.1 < 2147483648
        · rw [if_pos hc] at h
          obtain ⟨rfl, h1, h2⟩ := hc
          obtain ⟨ta, ka⟩ := a
          dsimp only at *
          have eta : ta = 1 := by assumption
          subst eta
          cases h
          exact ab_alen X h2 hd (ab_ia_ok hm1) (hg _ List.mem_cons_self)
        · rw [if_neg hc] at h; cases h
  · rename_i ix
    cases hm1 : ab_as ST ix with
    | none => rw [hm1] at h; cases h
    | some t =>
      rw [hm1] at h
      dsimp only at h
      cases hm2 : SL[t]? with
      | none => rw [hm2] at h; cases h
      | some w =>
        rw [hm2] at h
        dsimp only at h
        by_cases hc : len = 3
        · rw [if_pos hc] at h
          subst hc
          cases h
          exact ab_gets X SX hm2 (hST _ (ab_as_ok _ _ _ hm1) w hm2) hd (hg _ List.mem_cons_self)
        · rw [if_neg hc] at h; cases h
  · rename_i ix
    cases hm1 : ab_as NT ix with
    | none => rw [hm1] at h; cases h
    | some q =>
      rw [hm1] at h
      dsimp only at h
      by_cases hc : len = 3 ∧ nc + 1 ≤ R.cells ∧ ns + q.2.length ≤ R.slots
      · rw [if_pos hc] at h
        obtain ⟨rfl, h1, h2⟩ := hc
        cases h
        exact ab_newo X (hNT _ (ab_as_ok _ _ _ hm1)) hd ⟨h1, h2⟩ (hg _ List.mem_cons_self)
      · rw [if_neg hc] at h; cases h
  · cases st with
    | nil => cases h
    | cons k rr =>
      dsimp only at h
      cases hm1 : E[k.2]? with
      | none => rw [hm1] at h; cases h
      | some iv =>
        rw [hm1] at h
        dsimp only at h
        by_cases hc : len = 2 ∧ k.1 = 0 ∧ iv.1 = iv.2 ∧ 0 ≤ iv.1 ∧ iv.1.toNat * 4 ≤ 536870912 ∧ nc + 1 ≤ R.cells ∧ ns + iv.1.toNat ≤ R.slots
        · rw [if_pos hc] at h
          obtain ⟨rfl, h0, h1, h2, h3, h4, h5⟩ := hc
          obtain ⟨tk, kk⟩ := k
          dsimp only at *
          have etk : tk = 0 := by assumption
          subst etk
          cases h
          exact ab_newai X hAI hd hm1 h1 h2 h3 ⟨h4, h5⟩ (hg _ List.mem_cons_self)
        · rw [if_neg hc] at h; cases h
  · rename_i ix
    cases st with
    | nil => cases h
    | cons k rr =>
      dsimp only at h
      cases hm1 : E[k.2]? with
      | none => rw [hm1] at h; cases h
      | some iv =>
        rw [hm1] at h
        dsimp only at h
        cases hm2 : ab_as RT ix with
        | none => rw [hm2] at h; cases h
        | some t =>
          rw [hm2] at h
          dsimp only at h
          cases hm3 : rn[t]? with
          | none => rw [hm3] at h; cases h
          | some C =>
            rw [hm3] at h
            dsimp only at h
            by_cases hc : len = 3 ∧ k.1 = 0 ∧ iv.1 = iv.2 ∧ 0 ≤ iv.1 ∧ iv.1.toNat * 4 ≤ 536870912 ∧ nc + 1 ≤ R.cells ∧ ns + iv.1.toNat ≤ R.slots
            · rw [if_pos hc] at h
              obtain ⟨rfl, h0, h1, h2, h3, h4, h5⟩ := hc
              obtain ⟨tk, kk⟩ := k
              dsimp only at *
              have etk : tk = 0 := by assumption
              subst etk
              cases h
              exact ab_newaq X SX hm3 (hRT _ (ab_as_ok _ _ _ hm2) C hm3) hd hm1 h1 h2 h3 ⟨h4, h5⟩ (hg _ List.mem_cons_self)
            · rw [if_neg hc] at h; cases h
  · cases st with
    | nil => cases h
    | cons b r0 =>
      cases r0 with
      | nil => cases h
      | cons i r1 =>
        cases r1 with
        | nil => cases h
        | cons a rr =>
          dsimp only at h
          cases hm1 : E[i.2]? with
          | none => rw [hm1] at h; cases h
          | some iv =>
            rw [hm1] at h
            dsimp only at h
            cases hm2 : ab_qa hp a.2 with
            | none => rw [hm2] at h; cases h
            | some o =>
              rw [hm2] at h
              dsimp only at h
              cases hm3 : ab_ob hp b.2 with
              | none => rw [hm3] at h; cases h
              | some ob =>
                rw [hm3] at h
                dsimp only at h
                cases hm4 : cl[ob.2.1]? with
                | none => rw [hm4] at h; cases h
                | some w =>
                  rw [hm4] at h
                  dsimp only at h
                  by_cases hc : len = 1 ∧ b.1 = 1 ∧ i.1 = 0 ∧ a.1 = 1 ∧ iv.1 = iv.2 ∧ 0 ≤ iv.1 ∧ iv.2 < (o.2.2.length : Int) ∧ rn[o.2.1]? = some w.1
                  · rw [if_pos hc] at h
                    obtain ⟨rfl, h0, h1, h2, h3, h4, h5, h6⟩ := hc
                    obtain ⟨tb, kb⟩ := b
                    dsimp only at *
                    have etb : tb = 1 := by assumption
                    subst etb
                    obtain ⟨ti, ki⟩ := i
                    dsimp only at *
                    have eti : ti = 0 := by assumption
                    subst eti
                    obtain ⟨ta, ka⟩ := a
                    dsimp only at *
                    have eta : ta = 1 := by assumption
                    subst eta
                    cases h
                    exact ab_aast X hd hm4 h6 (ab_qa_ok hm2) (ab_ob_ok hm3) hm1 h3 h4 h5 (hg _ List.mem_cons_self)
                  · rw [if_neg hc] at h; cases h
  · rename_i ix
    cases st with
    | nil => cases h
    | cons a rr =>
      dsimp only at h
      by_cases hc : len = 3 ∧ a.1 = 1 ∧ ix ∈ OI ∧ 1 ≤ R.frames ∧ rr.length + 12 ≤ R.locals
      · rw [if_pos hc] at h
        obtain ⟨rfl, h1, h2, h3, h4⟩ := hc
        obtain ⟨ta, ka⟩ := a
        dsimp only at *
        have eta : ta = 1 := by assumption
        subst eta
        cases h
        exact ab_oinit X (hOI ix h2).1 (hOI ix h2).2.1 (hOI ix h2).2.2 hd h3 h4 (hg _ List.mem_cons_self)
      · rw [if_neg hc] at h; cases h
  · rename_i ix
    cases st with
    | nil => cases h
    | cons n r0 =>
      cases r0 with
      | nil => cases h
      | cons dd r1 =>
        cases r1 with
        | nil => cases h
        | cons b r2 =>
          cases r2 with
          | nil => cases h
          | cons sp r3 =>
            cases r3 with
            | nil => cases h
            | cons a rr =>
              dsimp only at h
              cases hm1 : E[n.2]? with
              | none => rw [hm1] at h; cases h
              | some i1 =>
                rw [hm1] at h
                dsimp only at h
                cases hm2 : E[dd.2]? with
                | none => rw [hm2] at h; cases h
                | some i2 =>
                  rw [hm2] at h
                  dsimp only at h
                  cases hm3 : E[sp.2]? with
                  | none => rw [hm3] at h; cases h
                  | some i3 =>
                    rw [hm3] at h
                    dsimp only at h
                    cases hm4 : ab_ia hp a.2 with
                    | none => rw [hm4] at h; cases h
                    | some oa =>
                      rw [hm4] at h
                      dsimp only at h
                      cases hm5 : ab_ia hp b.2 with
                      | none => rw [hm5] at h; cases h
                      | some ob =>
                        rw [hm5] at h
                        dsimp only at h
                        by_cases hc : len = 3 ∧ n.1 = 0 ∧ dd.1 = 0 ∧ b.1 = 1 ∧ sp.1 = 0 ∧ a.1 = 1 ∧ ix ∈ AC ∧ 0 ≤ i1.1 ∧ i2 = (0, 0) ∧ i3 = (0, 0) ∧ i1.2 ≤ (oa.2.1 : Int) ∧ i1.2 ≤ (ob.2.1 : Int) ∧ 1 ≤ R.frames ∧ rr.length + (nativeFrameWords "java/lang/System" "arraycopy" 5 + 11) ≤ R.locals
                        · rw [if_pos hc] at h
                          obtain ⟨rfl, t1, t2, t3, t4, t5, h1, h2, h3, h4, h5, h6, h7, h8⟩ := hc
                          obtain ⟨tn, kn⟩ := n
                          dsimp only at *
                          have etn : tn = 0 := by assumption
                          subst etn
                          obtain ⟨tdd, kdd⟩ := dd
                          dsimp only at *
                          have etdd : tdd = 0 := by assumption
                          subst etdd
                          obtain ⟨tb, kb⟩ := b
                          dsimp only at *
                          have etb : tb = 1 := by assumption
                          subst etb
                          obtain ⟨tsp, ksp⟩ := sp
                          dsimp only at *
                          have etsp : tsp = 0 := by assumption
                          subst etsp
                          obtain ⟨ta, ka⟩ := a
                          dsimp only at *
                          have eta : ta = 1 := by assumption
                          subst eta
                          cases h
                          exact ab_acopy X (hAC ix h1).1 (hAC ix h1).2.1 (hAC ix h1).2.2.1 (hAC ix h1).2.2.2 hd (ab_ia_ok hm4) (ab_ia_ok hm5) hm1 (h3 ▸ hm2) (h4 ▸ hm3) h2 h5 h6 h7 h8 (hg _ List.mem_cons_self)
                        · rw [if_neg hc] at h; cases h
  · cases h

set_option maxHeartbeats 4000000 in
theorem ab_1c_ok (X : ab_X p s m args c cc own nL D cl (ab_tys dT rn) A Ts) (SX : ab_SX rn SL NF NM sa A s s.heap) {i : ClassFile.Instr} {len : Nat} {r : List (Nat × ab_S)} (hd : decode cc pc = .ok (i, len)) (h : ab_1c rn SL i len pc E nh hp loc st nc ns = some r) (hg : ∀ q ∈ r, ab_G p l e R s m args below meth c Q D cl A sa dT nL vs0 hs0 q.1 q.2.1 q.2.2.1 q.2.2.2.1 q.2.2.2.2.1 q.2.2.2.2.2.1 q.2.2.2.2.2.2.1 q.2.2.2.2.2.2.2) : ab_G p l e R s m args below meth c Q D cl A sa dT nL vs0 hs0 pc E nh hp loc st nc ns := by
  unfold ab_1c at h
  split at h
  · rename_i cn off
    cases st with
    | nil => cases h
    | cons y r0 =>
    cases r0 with
    | nil => cases h
    | cons x rr =>
    dsimp only at h
    cases hm1 : E[x.2]? with
    | none => rw [hm1] at h; cases h
    | some ix =>
    rw [hm1] at h
    dsimp only at h
    cases hm2 : E[y.2]? with
    | none => rw [hm2] at h; cases h
    | some iy =>
    rw [hm2] at h
    dsimp only at h
    cases hm3 : ab_tg pc off with
    | none => rw [hm3] at h; cases h
    | some tg =>
    rw [hm3] at h
    dsimp only at h
    by_cases hc : len = 3 ∧ x.1 = 0 ∧ y.1 = 0
    · rw [if_pos hc] at h
      obtain ⟨rfl, h1, h2⟩ := hc
      obtain ⟨tx, kx⟩ := x
      obtain ⟨ty, ky⟩ := y
      dsimp only at *
      subst h1
      subst h2
      cases h
      exact ab_icmp X hd (ab_tg_ok hm3) hm1 hm2 (fun E' hE => hg (tg, E', nh, hp, loc, rr, nc, ns) (List.mem_append_left _ (List.mem_map.mpr ⟨E', hE, rfl⟩))) (fun E' hE => hg (pc + 3, E', nh, hp, loc, rr, nc, ns) (List.mem_append_right _ (List.mem_map.mpr ⟨E', hE, rfl⟩)))
    · rw [if_neg hc] at h; cases h
  · rename_i cn off
    cases st with
    | nil => cases h
    | cons x rr =>
    dsimp only at h
    cases hm1 : E[x.2]? with
    | none => rw [hm1] at h; cases h
    | some ix =>
    rw [hm1] at h
    dsimp only at h
    cases hm3 : ab_tg pc off with
    | none => rw [hm3] at h; cases h
    | some tg =>
    rw [hm3] at h
    dsimp only at h
    by_cases hc : len = 3 ∧ x.1 = 0
    · rw [if_pos hc] at h
      obtain ⟨rfl, h1⟩ := hc
      obtain ⟨tx, kx⟩ := x
      dsimp only at *
      subst h1
      cases h
      exact ab_ifc X hd (ab_tg_ok hm3) hm1 (fun E' hE => hg (tg, E', nh, hp, loc, rr, nc, ns) (List.mem_append_left _ (List.mem_map.mpr ⟨E', hE, rfl⟩))) (fun E' hE => hg (pc + 3, E', nh, hp, loc, rr, nc, ns) (List.mem_append_right _ (List.mem_map.mpr ⟨E', hE, rfl⟩)))
    · rw [if_neg hc] at h; cases h
  · rename_i df lo hi offs
    cases st with
    | nil => cases h
    | cons x rr =>
    dsimp only at h
    cases hm1 : E[x.2]? with
    | none => rw [hm1] at h; cases h
    | some ix =>
    rw [hm1] at h
    dsimp only at h
    cases hm3 : ab_tg pc df with
    | none => rw [hm3] at h; cases h
    | some td =>
    rw [hm3] at h
    dsimp only at h
    by_cases hc : x.1 = 0
    · rw [if_pos hc] at h
      obtain ⟨tx, kx⟩ := x
      dsimp only at *
      subst hc
      cases hm4 : ab_all (ab_tz lo offs pc kx E nh hp loc rr nc ns) (ab_zs (max ix.1 lo) (min ix.2 hi)) with
      | none => rw [hm4] at h; cases h
      | some ys =>
      rw [hm4] at h
      cases h
      refine ab_tab X hd hm1 (fun z a1 a2 a3 a4 => ?_) (ab_tg_ok hm3) (fun ho => hg (td, E, nh, hp, loc, rr, nc, ns) (List.mem_append_right _ (by rw [if_pos ho]; exact List.mem_cons_self)))
      obtain ⟨yy, b1, b2⟩ := ab_all_ok hm4 z (ab_zs_ok (by omega) (by omega))
      unfold ab_tz at b2
      cases hm5 : offs[(z - lo).toNat]? with
      | none => rw [hm5] at b2; cases b2
      | some off =>
      rw [hm5] at b2
      dsimp only at b2
      cases hm6 : ab_tg pc off with
      | none => rw [hm6] at b2; cases b2
      | some t =>
      rw [hm6] at b2
      cases b2
      exact ⟨off, t, rfl, ab_tg_ok hm6, hg _ (List.mem_append_left _ b1)⟩
    · rw [if_neg hc] at h; cases h
  · cases st with
    | nil => cases h
    | cons i r0 =>
    cases r0 with
    | nil => cases h
    | cons a rr =>
    dsimp only at h
    cases hm1 : E[i.2]? with
    | none => rw [hm1] at h; cases h
    | some iv =>
    rw [hm1] at h
    dsimp only at h
    cases hm2 : ab_qa hp a.2 with
    | none => rw [hm2] at h; cases h
    | some o =>
    rw [hm2] at h
    dsimp only at h
    split at h
    · rename_i hc
      obtain ⟨rfl, h1, h2, h3, h4, h5⟩ := hc
      obtain ⟨tx, kx⟩ := i
      obtain ⟨ty, ky⟩ := a
      dsimp only at *
      subst h1
      subst h2
      refine ab_aald X hd (List.getElem?_eq_getElem h5) (ab_qa_ok hm2) hm1 h3 h4 (fun z v a1 a2 a3 => ?_)
      obtain ⟨yy, b1, b2⟩ := ab_all_ok h (z : Int) (ab_zs_ok a1 a2)
      unfold ab_qz at b2
      rw [Int.toNat_natCast, a3] at b2
      cases b2
      exact hg _ b1
    · cases h
  · cases st with
    | nil => cases h
    | cons i r0 =>
    cases r0 with
    | nil => cases h
    | cons a rr =>
    dsimp only at h
    cases hm1 : E[i.2]? with
    | none => rw [hm1] at h; cases h
    | some iv =>
    rw [hm1] at h
    dsimp only at h
    cases hm2 : SL[a.2]? with
    | none => rw [hm2] at h; cases h
    | some w =>
    rw [hm2] at h
    dsimp only at h
    split at h
    · rename_i hc
      obtain ⟨rfl, h1, h2, h3, h4, h5⟩ := hc
      obtain ⟨tx, kx⟩ := i
      obtain ⟨ty, ky⟩ := a
      dsimp only at *
      subst h1
      subst h2
      refine ab_tald X SX hm2 hd hm1 h3 h4 h5 (fun z v a1 a2 a3 => ?_)
      obtain ⟨yy, b1, b2⟩ := ab_all_ok h (z : Int) (ab_zs_ok a1 a2)
      unfold ab_sz at b2
      rw [Int.toNat_natCast, a3] at b2
      cases b2
      exact hg _ b1
    · cases h
  · cases h
end
