def ab_ld (i : ClassFile.Instr) (n : Nat) : Option Nat := match i with
  | .iload_n k => if n = 1 then some k.val else none
  | .iload k => if n = 2 then some k else none
  | _ => none
def ab_kc (i : ClassFile.Instr) (n : Nat) : Option Int := match i with
  | .iconst v => if n = 1 ∧ 0 < v ∧ v ≤ 5 then some v else none
  | .bipush v => if n = 2 ∧ 0 < v ∧ v ≤ 127 then some v else none
  | _ => none
def ab_a0 (q : Option (ClassFile.Instr × Nat)) : Bool := decide (q = some (.aload_n 0, 1))
def ab_gf (q : Option (ClassFile.Instr × Nat)) : Option Nat := match q with
  | some (.getfield ix, 3) => some ix
  | _ => none
def ab_ldq (q : Option (ClassFile.Instr × Nat)) : Option (Nat × Nat) := match q with
  | none => none
  | some r => (match ab_ld r.1 r.2 with
    | none => none
    | some k => some (k, r.2))
def ab_kcq (q : Option (ClassFile.Instr × Nat)) : Option (Int × Nat) := match q with
  | none => none
  | some r => (match ab_kc r.1 r.2 with
    | none => none
    | some k => some (k, r.2))
section
variable {p : Program} {l : Launch} {e : Env} {R : Room} {s : State} {m : MethodId} {args : Array Value} {below : List Frame} {meth : Method} {c : Code} {H : Heap} {locs : List Loc} {nc ns : Nat} {Q : State → Prop} {cc : ByteArray} {pc : Nat} {ls : Array Slot} {rest : List Value}
theorem ab_ldW (hx : p.tables.exec = Jvm.exec) (hb : c.code = cc) {i : ClassFile.Instr} {n k : Nat} {x : Int32} (h : ab_ld i n = some k) (hd : decode cc pc = .ok (i, n)) (hl : ls[k]? = some (.val (.int x))) (g : W p l e R s m args below meth c H locs nc ns Q (F0 m (pc + n) ls (.int x :: rest))) : W p l e R s m args below meth c H locs nc ns Q (F0 m pc ls rest) := by
  unfold ab_ld at h
  split at h
  · split at h
    · rename_i hn
      subst hn
      cases h
      exact lv_iload_n hx hb hd rfl hl g
    · cases h
  · split at h
    · rename_i hn
      subst hn
      cases h
      exact lv_iload hx hb hd hl g
    · cases h
  · cases h
theorem ab_kcW (hx : p.tables.exec = Jvm.exec) (hb : c.code = cc) {i : ClassFile.Instr} {n : Nat} {v : Int} (h : ab_kc i n = some v) (hd : decode cc pc = .ok (i, n)) (g : W p l e R s m args below meth c H locs nc ns Q (F0 m (pc + n) ls (.int (Int32.ofInt v) :: rest))) : W p l e R s m args below meth c H locs nc ns Q (F0 m pc ls rest) := by
  unfold ab_kc at h
  split at h
  · split at h
    · rename_i hn
      obtain ⟨rfl, h1, h2⟩ := hn
      cases h
      exact lv_iconst hx hb hd rfl g
    · cases h
  · split at h
    · rename_i hn
      obtain ⟨rfl, h1, h2⟩ := hn
      cases h
      exact lv_bipush hx hb hd (ab_push8 (by omega) (by omega)) g
    · cases h
  · cases h
end
theorem ab_kc_r {i : ClassFile.Instr} {n : Nat} {v : Int} (h : ab_kc i n = some v) : 0 < v ∧ v ≤ 127 := by
  unfold ab_kc at h
  split at h
  · split at h
    · rename_i hn
      cases h
      omega
    · cases h
  · split at h
    · rename_i hn
      cases h
      omega
    · cases h
  · cases h
theorem ab_rdn {lo hi : Int} {v : Int} {x : Int32} (hv : 0 < v ∧ v ≤ 127) (h0 : 0 ≤ lo) (h : ab_in (lo, hi) x) : ¬ Int32.ofInt v = 0 ∧ ab_in (lo / v * v, hi / v * v) (x - (x - x / Int32.ofInt v * Int32.ofInt v)) := by
  have ev : (Int32.ofInt v).toInt = v := by rw [Int32.toInt_ofInt]; exact ab_bm (by omega) (by omega)
  obtain ⟨h1, h2⟩ := h
  dsimp only at h1 h2
  have er := ab_remV (x := x) (y := Int32.ofInt v) (by omega) (by omega)
  rw [ev] at er
  have q1 := Int.emod_nonneg x.toInt (show v ≠ 0 by omega)
  have q2 := Int.emod_lt_of_pos x.toInt hv.1
  have q3 := Int.mul_ediv_add_emod x.toInt v
  have q4 := (ab_full x).2
  dsimp only at q4
  have q5 : 0 ≤ x.toInt / v := Int.ediv_nonneg (by omega) (by omega)
  have q6 : 0 ≤ v * (x.toInt / v) := Int.mul_nonneg (by omega) q5
  have e2 : (x - (x - x / Int32.ofInt v * Int32.ofInt v)).toInt = v * (x.toInt / v) := by
    rw [Int32.toInt_sub, er]
    rw [ab_bm (by omega) (by omega)]
    omega
  refine ⟨fun hq => ?_, ?_⟩
  · rw [hq, Int32.toInt_zero] at ev
    omega
  · unfold ab_in
    rw [e2]
    have q7 : lo / v ≤ x.toInt / v := Int.ediv_le_ediv hv.1 h1
    have q8 : x.toInt / v ≤ hi / v := Int.ediv_le_ediv hv.1 h2
    have q9 : lo / v * v ≤ x.toInt / v * v := Int.mul_le_mul_of_nonneg_right q7 (by omega)
    have q10 : x.toInt / v * v ≤ hi / v * v := Int.mul_le_mul_of_nonneg_right q8 (by omega)
    rw [Int.mul_comm v]
    exact ⟨q9, q10⟩
abbrev ab_PG : Type := List (Nat × ClassFile.Instr × Nat)
def ab_sp (sp : List (Nat × Nat × Int)) (pc : Nat) (E : List ab_I) (nh : Nat) (hp : ab_H) (loc : List (Nat × ab_V)) (st : List ab_V) (nc ns : Nat) : Option (List (Nat × ab_S)) :=
  sp.findSome? (fun h => if h.1 = pc then (match ab_lk loc h.2.1 with
    | none => none
    | some v => (match E[v.2]? with
      | none => none
      | some iv => if v.1 = 0 ∧ iv.1 ≤ h.2.2 ∧ h.2.2 < iv.2 then some [(pc, E.set v.2 (iv.1, h.2.2), nh, hp, loc, st, nc, ns), (pc, E.set v.2 (h.2.2 + 1, iv.2), nh, hp, loc, st, nc, ns)] else none)) else none)
def ab_m1 (pg : ab_PG) (pc : Nat) (E : List ab_I) (nh : Nat) (hp : ab_H) (loc : List (Nat × ab_V)) (st : List ab_V) (nc ns : Nat) : Option (List (Nat × ab_S)) := match ab_ldq (ab_as pg pc) with
  | none => none
  | some a => (match ab_kcq (ab_as pg (pc + a.2 + a.2)) with
    | none => none
    | some k => (match ab_lk loc a.1 with
      | none => none
      | some v => (match E[v.2]? with
        | none => none
        | some iv => if ab_ldq (ab_as pg (pc + a.2)) = some a ∧ ab_as pg (pc + a.2 + a.2 + k.2) = some (.irem, 1) ∧ ab_as pg (pc + a.2 + a.2 + k.2 + 1) = some (.isub, 1) ∧ v.1 = 0 ∧ 0 ≤ iv.1 then some [(pc + a.2 + a.2 + k.2 + 1 + 1, E ++ [(iv.1 / k.1 * k.1, iv.2 / k.1 * k.1)], nh, hp, loc, (0, E.length) :: st, nc, ns)] else none)))
def ab_m2 (FT : List (Nat × Nat × Nat × Nat)) (pg : ab_PG) (pc : Nat) (E : List ab_I) (nh : Nat) (hp : ab_H) (loc : List (Nat × ab_V)) (st : List ab_V) (nc ns : Nat) : Option (List (Nat × ab_S)) := if ab_a0 (ab_as pg pc) = true then (match ab_gf (ab_as pg (pc + 1)) with
  | none => none
  | some ix => (match ab_ldq (ab_as pg (pc + 4)) with
    | none => none
    | some a => (match ab_kcq (ab_as pg (pc + 4 + a.2 + 1 + 4 + a.2 + 1)) with
      | none => none
      | some k => (match ab_as FT ix with
        | none => none
        | some q => (match ab_lk loc 0 with
          | none => none
          | some o => (match ab_ob hp o.2 with
            | none => none
            | some ob => (match ob.2.2[q.2.1]? with
              | none => none
              | some ar => (match ab_ia hp ar.2 with
                | none => none
                | some ia => (match ab_lk loc a.1 with
                  | none => none
                  | some v => (match E[v.2]? with
                    | none => none
                    | some iv => if ab_as pg (pc + 4 + a.2) = some (.iaload, 1) ∧ ab_a0 (ab_as pg (pc + 4 + a.2 + 1)) = true ∧ ab_gf (ab_as pg (pc + 4 + a.2 + 1 + 1)) = some ix ∧ ab_ldq (ab_as pg (pc + 4 + a.2 + 1 + 4)) = some a ∧ ab_as pg (pc + 4 + a.2 + 1 + 4 + a.2) = some (.iaload, 1) ∧ ab_as pg (pc + 4 + a.2 + 1 + 4 + a.2 + 1 + k.2) = some (.irem, 1) ∧ ab_as pg (pc + 4 + a.2 + 1 + 4 + a.2 + 1 + k.2 + 1) = some (.isub, 1) ∧ o.1 = 1 ∧ q.1 = ob.2.1 ∧ ar.1 = 1 ∧ v.1 = 0 ∧ 0 ≤ iv.1 ∧ iv.2 < (ia.2.1 : Int) ∧ 0 ≤ (ab_ixI iv ia.2.2.1 ia.2.2.2.1 ia.2.2.2.2.1 ia.2.2.2.2.2).1 then some [(pc + 4 + a.2 + 1 + 4 + a.2 + 1 + k.2 + 1 + 1, E ++ [((ab_ixI iv ia.2.2.1 ia.2.2.2.1 ia.2.2.2.2.1 ia.2.2.2.2.2).1 / k.1 * k.1, (ab_ixI iv ia.2.2.1 ia.2.2.2.1 ia.2.2.2.2.1 ia.2.2.2.2.2).2 / k.1 * k.1)], nh, hp, loc, (0, E.length) :: st, nc, ns)] else none)))))))))) else none
def ab_m5 (FT : List (Nat × Nat × Nat × Nat)) (KT : List (Nat × Int)) (pg : ab_PG) (pc : Nat) (E : List ab_I) (nh : Nat) (hp : ab_H) (loc : List (Nat × ab_V)) (st : List ab_V) (nc ns : Nat) : Option (List (Nat × ab_S)) := match ab_ldq (ab_as pg pc) with
  | none => none
  | some a => (match ab_as pg (pc + a.2) with
    | some (.ldc ik, 2) => (match ab_as pg (pc + a.2 + 3) with
      | some (.sipush n, 3) => (match ab_as pg (pc + a.2 + 6) with
        | some (.if_icmp .ge off, 3) => (match ab_tg (pc + a.2 + 6) off with
          | none => none
          | some tg => (match ab_as KT ik with
            | none => none
            | some kk => (match ab_gf (ab_as pg (pc + a.2 + 10)) with
              | none => none
              | some ix => (match ab_as FT ix with
                | none => none
                | some q => (match ab_lk loc 0 with
                  | none => none
                  | some o => (match ab_ob hp o.2 with
                    | none => none
                    | some ob => (match ob.2.2[q.2.1]? with
                      | none => none
                      | some ar => (match ab_lk loc a.1 with
                        | none => none
                        | some v => if ab_as pg (pc + a.2 + 2) = some (.iand, 1) ∧ ab_a0 (ab_as pg (pc + a.2 + 9)) = true ∧ ab_ldq (ab_as pg (pc + a.2 + 13)) = some a ∧ ab_as pg (pc + a.2 + 13 + a.2) = some (.ldc ik, 2) ∧ ab_as pg (pc + a.2 + 13 + a.2 + 2) = some (.iand, 1) ∧ o.1 = 1 ∧ q.1 = ob.2.1 ∧ v.1 = 0 ∧ 0 ≤ kk ∧ kk ≤ 2147483647 ∧ 0 < n ∧ n ≤ 32767 then some [(tg, E, nh, hp, loc, st, nc, ns), (pc + a.2 + 13 + a.2 + 3, E ++ [(0, min kk (n - 1))], nh, hp, loc, (0, E.length) :: ar :: st, nc, ns)] else none))))))))
        | _ => none)
      | _ => none)
    | _ => none)
def ab_ex (sp : List (Nat × Nat × Int)) (FT : List (Nat × Nat × Nat × Nat)) (KT : List (Nat × Int)) (pg : ab_PG) (pc : Nat) (S : ab_S) : Option (List (Nat × ab_S)) :=
  ab_or2 (ab_sp sp pc S.1 S.2.1 S.2.2.1 S.2.2.2.1 S.2.2.2.2.1 S.2.2.2.2.2.1 S.2.2.2.2.2.2) (ab_or2 (ab_m1 pg pc S.1 S.2.1 S.2.2.1 S.2.2.2.1 S.2.2.2.2.1 S.2.2.2.2.2.1 S.2.2.2.2.2.2) (ab_or2 (ab_m2 FT pg pc S.1 S.2.1 S.2.2.1 S.2.2.2.1 S.2.2.2.2.1 S.2.2.2.2.2.1 S.2.2.2.2.2.2) (ab_m5 FT KT pg pc S.1 S.2.1 S.2.2.1 S.2.2.2.1 S.2.2.2.2.1 S.2.2.2.2.2.1 S.2.2.2.2.2.2)))
theorem ab_pgd {pg : ab_PG} {cc : ByteArray} (hpg : ∀ q ∈ pg, decode cc q.1 = .ok (q.2.1, q.2.2)) {pc n : Nat} {i : ClassFile.Instr} (h : ab_as pg pc = some (i, n)) : decode cc pc = .ok (i, n) := hpg (pc, i, n) (ab_as_ok pg pc (i, n) h)
def ab_exF (fl : Bool) (sp : List (Nat × Nat × Int)) (FT : List (Nat × Nat × Nat × Nat)) (KT : List (Nat × Int)) (pg : ab_PG) (pc : Nat) (S : ab_S) : Option (List (Nat × ab_S)) := match fl with
  | false => none
  | true => ab_ex sp FT KT pg pc S
theorem ab_ldq_ok {pg : ab_PG} {cc : ByteArray} (hpg : ∀ q ∈ pg, decode cc q.1 = .ok (q.2.1, q.2.2)) {pc : Nat} {a : Nat × Nat} (h : ab_ldq (ab_as pg pc) = some a) : ∃ i, decode cc pc = .ok (i, a.2) ∧ ab_ld i a.2 = some a.1 := by
  unfold ab_ldq at h
  cases hq : ab_as pg pc with
  | none => rw [hq] at h; cases h
  | some r =>
    obtain ⟨i, n⟩ := r
    rw [hq] at h
    dsimp only at h
    cases hl : ab_ld i n with
    | none => rw [hl] at h; cases h
    | some k =>
      rw [hl] at h
      cases h
      exact ⟨i, ab_pgd hpg hq, hl⟩
theorem ab_kcq_ok {pg : ab_PG} {cc : ByteArray} (hpg : ∀ q ∈ pg, decode cc q.1 = .ok (q.2.1, q.2.2)) {pc : Nat} {a : Int × Nat} (h : ab_kcq (ab_as pg pc) = some a) : ∃ i, decode cc pc = .ok (i, a.2) ∧ ab_kc i a.2 = some a.1 := by
  unfold ab_kcq at h
  cases hq : ab_as pg pc with
  | none => rw [hq] at h; cases h
  | some r =>
    obtain ⟨i, n⟩ := r
    rw [hq] at h
    dsimp only at h
    cases hl : ab_kc i n with
    | none => rw [hl] at h; cases h
    | some k =>
      rw [hl] at h
      cases h
      exact ⟨i, ab_pgd hpg hq, hl⟩
theorem ab_a0_ok {pg : ab_PG} {cc : ByteArray} (hpg : ∀ q ∈ pg, decode cc q.1 = .ok (q.2.1, q.2.2)) {pc : Nat} (h : ab_a0 (ab_as pg pc) = true) : decode cc pc = .ok (.aload_n 0, 1) := ab_pgd hpg (of_decide_eq_true h)
theorem ab_gf_ok {pg : ab_PG} {cc : ByteArray} (hpg : ∀ q ∈ pg, decode cc q.1 = .ok (q.2.1, q.2.2)) {pc ix : Nat} (h : ab_gf (ab_as pg pc) = some ix) : decode cc pc = .ok (.getfield ix, 3) := by
  unfold ab_gf at h
  split at h
  · rename_i ix2 hq
    cases h
    exact ab_pgd hpg hq
  · cases h
section
variable {p : Program} {l : Launch} {e : Env} {R : Room} {s : State} {m : MethodId} {args : Array Value} {below : List Frame} {meth : Method} {c : Code} {Q : State → Prop} {cc : ByteArray} {own : String} {nL : Nat} {D : va_G} {cl : List vw_C} {rn : List String} {A : Nat → Prop} {Ts : List Cond} {sa : Nat → Nat} {dT : Nat → ClassId} {vs0 : List Int32} {hs0 : List Nat} {pc : Nat} {E : List ab_I} {nh nc ns : Nat} {hp : ab_H} {loc : List (Nat × ab_V)} {st : List ab_V}
theorem ab_sp_ok {sp : List (Nat × Nat × Int)} {r : List (Nat × ab_S)} (h : ab_sp sp pc E nh hp loc st nc ns = some r) (hg : ∀ q ∈ r, ab_G p l e R s m args below meth c Q D cl A sa dT nL vs0 hs0 q.1 q.2.1 q.2.2.1 q.2.2.2.1 q.2.2.2.2.1 q.2.2.2.2.2.1 q.2.2.2.2.2.2.1 q.2.2.2.2.2.2.2) : ab_G p l e R s m args below meth c Q D cl A sa dT nL vs0 hs0 pc E nh hp loc st nc ns := by
  obtain ⟨a, -, h⟩ := List.exists_of_findSome?_eq_some h
  split at h
  · cases hm1 : ab_lk loc a.2.1 with
    | none => rw [hm1] at h; cases h
    | some v =>
      rw [hm1] at h
      dsimp only at h
      cases hm2 : E[v.2]? with
      | none => rw [hm2] at h; cases h
      | some iv =>
        rw [hm2] at h
        dsimp only at h
        split at h
        · rename_i hc
          obtain ⟨h0, h1, h2⟩ := hc
          cases h
          intro vs hs ls sv H locs hv hh his
          obtain ⟨x, hx, hin⟩ := ab_e_at his.1 hm2
          by_cases hle : x.toInt ≤ a.2.2
          · exact hg (pc, E.set v.2 (iv.1, a.2.2), nh, hp, loc, st, nc, ns) List.mem_cons_self _ _ _ _ _ _ hv hh (ab_env his (ab_e_set his.1 v.2 (fun z hz => by rw [hx] at hz; cases hz; exact ⟨hin.1, hle⟩)))
          · exact hg (pc, E.set v.2 (a.2.2 + 1, iv.2), nh, hp, loc, st, nc, ns) (List.mem_cons_of_mem _ List.mem_cons_self) _ _ _ _ _ _ hv hh (ab_env his (ab_e_set his.1 v.2 (fun z hz => by rw [hx] at hz; cases hz; exact ⟨by dsimp only; omega, hin.2⟩)))
        · cases h
  · cases h
theorem ab_m1_ok (X : ab_X p s m args c cc own nL D cl (ab_tys dT rn) A Ts) {pg : ab_PG} (hpg : ∀ q ∈ pg, decode cc q.1 = .ok (q.2.1, q.2.2)) {r : List (Nat × ab_S)} (h : ab_m1 pg pc E nh hp loc st nc ns = some r) (hg : ∀ q ∈ r, ab_G p l e R s m args below meth c Q D cl A sa dT nL vs0 hs0 q.1 q.2.1 q.2.2.1 q.2.2.2.1 q.2.2.2.2.1 q.2.2.2.2.2.1 q.2.2.2.2.2.2.1 q.2.2.2.2.2.2.2) : ab_G p l e R s m args below meth c Q D cl A sa dT nL vs0 hs0 pc E nh hp loc st nc ns := by
  unfold ab_m1 at h
  cases ha : ab_ldq (ab_as pg pc) with
  | none => rw [ha] at h; cases h
  | some a =>
  rw [ha] at h
  dsimp only at h
  cases hk : ab_kcq (ab_as pg (pc + a.2 + a.2)) with
  | none => rw [hk] at h; cases h
  | some k =>
  rw [hk] at h
  dsimp only at h
  cases hl : ab_lk loc a.1 with
  | none => rw [hl] at h; cases h
  | some v =>
  rw [hl] at h
  dsimp only at h
  cases hE : E[v.2]? with
  | none => rw [hE] at h; cases h
  | some iv =>
  rw [hE] at h
  dsimp only at h
  split at h
  · rename_i hc
    obtain ⟨c1, c2, c3, c4, c5⟩ := hc
    cases h
    obtain ⟨i1, d1, e1⟩ := ab_ldq_ok hpg ha
    obtain ⟨i2, d2, e2⟩ := ab_ldq_ok hpg c1
    obtain ⟨i3, d3, e3⟩ := ab_kcq_ok hpg hk
    have d4 := ab_pgd hpg c2
    have d5 := ab_pgd hpg c3
    intro vs hs ls sv H locs hv hh his
    obtain ⟨w, h1, h2⟩ := ab_l_get his.2.2.1 hl
    obtain ⟨tv, kv⟩ := v
    dsimp only at *
    subst c4
    obtain ⟨x, h3, rfl⟩ := ab_cv0 h1
    obtain ⟨z1, z2⟩ := ab_rdn (ab_kc_r e3) c5 (his.1.2 kv iv x hE h3)
    refine ab_ldW X.1 X.2.1 e1 d1 h2 (ab_ldW X.1 X.2.1 e2 d2 h2 (ab_kcW X.1 X.2.1 e3 d3 (lv_irem X.1 X.2.1 d4 z1 (lv_isub X.1 X.2.1 d5 ?_))))
    exact hg _ List.mem_cons_self _ _ _ _ _ _ (ab_x1 _ hv) hh (ab_push his z2)
  · cases h
theorem ab_m2_ok (X : ab_X p s m args c cc own nL D cl (ab_tys dT rn) A Ts) {FT : List (Nat × Nat × Nat × Nat)} {pg : ab_PG} (hF : ∀ q ∈ FT, ab_FL s args own cl Ts q.1 q.2.1 q.2.2.1 q.2.2.2) (hpg : ∀ q ∈ pg, decode cc q.1 = .ok (q.2.1, q.2.2)) {r : List (Nat × ab_S)} (h : ab_m2 FT pg pc E nh hp loc st nc ns = some r) (hg : ∀ q ∈ r, ab_G p l e R s m args below meth c Q D cl A sa dT nL vs0 hs0 q.1 q.2.1 q.2.2.1 q.2.2.2.1 q.2.2.2.2.1 q.2.2.2.2.2.1 q.2.2.2.2.2.2.1 q.2.2.2.2.2.2.2) : ab_G p l e R s m args below meth c Q D cl A sa dT nL vs0 hs0 pc E nh hp loc st nc ns := by
  unfold ab_m2 at h
  split at h
  · rename_i ha0
    cases hix : ab_gf (ab_as pg (pc + 1)) with
    | none => rw [hix] at h; cases h
    | some ix =>
    rw [hix] at h
    dsimp only at h
    cases ha : ab_ldq (ab_as pg (pc + 4)) with
    | none => rw [ha] at h; cases h
    | some a =>
    rw [ha] at h
    dsimp only at h
    cases hk : ab_kcq (ab_as pg (pc + 4 + a.2 + 1 + 4 + a.2 + 1)) with
    | none => rw [hk] at h; cases h
    | some k =>
    rw [hk] at h
    dsimp only at h
    cases hq : ab_as FT ix with
    | none => rw [hq] at h; cases h
    | some q =>
    rw [hq] at h
    dsimp only at h
    cases ho : ab_lk loc 0 with
    | none => rw [ho] at h; cases h
    | some o =>
    rw [ho] at h
    dsimp only at h
    cases hob : ab_ob hp o.2 with
    | none => rw [hob] at h; cases h
    | some ob =>
    rw [hob] at h
    dsimp only at h
    cases har : ob.2.2[q.2.1]? with
    | none => rw [har] at h; cases h
    | some ar =>
    rw [har] at h
    dsimp only at h
    cases hia : ab_ia hp ar.2 with
    | none => rw [hia] at h; cases h
    | some ia =>
    rw [hia] at h
    dsimp only at h
    cases hl : ab_lk loc a.1 with
    | none => rw [hl] at h; cases h
    | some v =>
    rw [hl] at h
    dsimp only at h
    cases hE : E[v.2]? with
    | none => rw [hE] at h; cases h
    | some iv =>
    rw [hE] at h
    dsimp only at h
    split at h
    · rename_i hc
      obtain ⟨c1, c2, c3, c4, c5, c6, c7, c8, c9, c10, c11, c12, c13, c14⟩ := hc
      cases h
      have d0 := ab_a0_ok hpg ha0
      have d1 := ab_gf_ok hpg hix
      obtain ⟨i1, d2, e1⟩ := ab_ldq_ok hpg ha
      have d3 := ab_pgd hpg c1
      have d4 := ab_a0_ok hpg c2
      have d5 := ab_gf_ok hpg c3
      obtain ⟨i2, d6, e2⟩ := ab_ldq_ok hpg c4
      have d7 := ab_pgd hpg c5
      obtain ⟨i3, d8, e3⟩ := ab_kcq_ok hpg hk
      have d9 := ab_pgd hpg c6
      have d10 := ab_pgd hpg c7
      have hF1 := hF _ (ab_as_ok _ _ _ hq)
      rw [c9] at hF1
      have hfo := ab_ob_ok hob
      have hfa := ab_ia_ok hia
      intro vs hs ls sv H locs hv hh his
      obtain ⟨w, h1, h2⟩ := ab_l_get his.2.2.1 hl
      obtain ⟨w0, h10, h20⟩ := ab_l_get his.2.2.1 ho
      obtain ⟨tv, kv⟩ := v
      obtain ⟨to, ko⟩ := o
      obtain ⟨ta, ka⟩ := ar
      dsimp only at *
      subst c8
      subst c10
      subst c11
      obtain ⟨x, h3, rfl⟩ := ab_cv0 h1
      obtain ⟨qo, h30, rfl⟩ := ab_cv1 h10
      obtain ⟨k1, k2, k3, k4, ws, k5, k6, k7, k8⟩ := id his
      obtain ⟨ce, g1, g2⟩ := ab_w_at k5 hfo h30
      obtain ⟨fw, rfl, g3⟩ := g2
      obtain ⟨wa, g4, g5⟩ := ab_at g3 har
      obtain ⟨qa, g6, rfl⟩ := ab_cv1 g5
      obtain ⟨ca, ga1, ga2⟩ := ab_w_at k5 hfa g6
      obtain ⟨f, rfl, ga3⟩ := ga2
      have hin := k1.2 kv iv x hE h3
      obtain ⟨m1, m2, m3⟩ := ab_inN hin c12 c13
      obtain ⟨C, T, N, ty0, ref, f1, f2, f3, f4, f5, f6, f7, -⟩ := hF1
      have hget : ∀ {pc : Nat} {rest : List Value}, decode cc pc = .ok (.getfield ix, 3) → W p l e R s m args below meth c H locs nc ns Q (F0 m (pc + 3) ls (.ref qa :: rest)) → W p l e R s m args below meth c H locs nc ns Q (F0 m pc ls (.ref qo :: rest)) := by
        intro pc rest hd kk
        rcases f7 with f7 | ⟨host, f7⟩
        · exact va_get X.1 X.2.1 X.2.2.2.2.1 f3 X.2.2.2.1 X.2.2.2.2.2.1 k6 ob.1 g1 f1 q.2.1 f2 f7 f6 g4 hd kk
        · exact va_getN X.1 X.2.1 X.2.2.2.2.1 f3 X.2.2.2.1 X.2.2.2.2.2.1 k6 ob.1 g1 f1 q.2.1 f2 f7 f6 g4 hd kk
      have hix2 := ab_ixI_ok (lo := ia.2.2.1) (hi := ia.2.2.2.1) (lo0 := ia.2.2.2.2.1) (hi0 := ia.2.2.2.2.2) (by rw [m3]; exact hin.1) (by rw [m3]; exact hin.2) (ga3 _ m2)
      obtain ⟨z1, z2⟩ := ab_rdn (ab_kc_r e3) c14 hix2
      refine lv_aload_n X.1 X.2.1 d0 rfl h20 (hget d1 (ab_ldW X.1 X.2.1 e1 d2 h2 (va_iald X.1 X.2.1 X.2.2.2.2.2.1 k6 ia.1 0 ga1 rfl m1 d3 (lv_aload_n X.1 X.2.1 d4 rfl h20 (hget d5 (ab_ldW X.1 X.2.1 e2 d6 h2 (va_iald X.1 X.2.1 X.2.2.2.2.2.1 k6 ia.1 0 ga1 rfl m1 d7 (ab_kcW X.1 X.2.1 e3 d8 (lv_irem X.1 X.2.1 d9 z1 (lv_isub X.1 X.2.1 d10 ?_))))))))))
      exact hg _ List.mem_cons_self _ _ _ _ _ _ (ab_x1 _ hv) hh (ab_push his z2)
    · cases h
  · cases h
theorem ab_m5_ok (X : ab_X p s m args c cc own nL D cl (ab_tys dT rn) A Ts) {FT : List (Nat × Nat × Nat × Nat)} {KT : List (Nat × Int)} {pg : ab_PG} (hF : ∀ q ∈ FT, ab_FL s args own cl Ts q.1 q.2.1 q.2.2.1 q.2.2.2) (hK : ∀ q ∈ KT, (Jvm.Cond.constant own q.1 (Int32.ofInt q.2)).before args s = true) (hpg : ∀ q ∈ pg, decode cc q.1 = .ok (q.2.1, q.2.2)) {r : List (Nat × ab_S)} (h : ab_m5 FT KT pg pc E nh hp loc st nc ns = some r) (hg : ∀ q ∈ r, ab_G p l e R s m args below meth c Q D cl A sa dT nL vs0 hs0 q.1 q.2.1 q.2.2.1 q.2.2.2.1 q.2.2.2.2.1 q.2.2.2.2.2.1 q.2.2.2.2.2.2.1 q.2.2.2.2.2.2.2) : ab_G p l e R s m args below meth c Q D cl A sa dT nL vs0 hs0 pc E nh hp loc st nc ns := by
  unfold ab_m5 at h
  cases ha : ab_ldq (ab_as pg pc) with
  | none => rw [ha] at h; cases h
  | some a =>
  rw [ha] at h
  dsimp only at h
  split at h
  · rename_i ik hs1
    split at h
    · rename_i n hs2
      split at h
      · rename_i off hs3
        cases htg : ab_tg (pc + a.2 + 6) off with
        | none => rw [htg] at h; cases h
        | some tg =>
        rw [htg] at h
        dsimp only at h
        cases hkk : ab_as KT ik with
        | none => rw [hkk] at h; cases h
        | some kk =>
        rw [hkk] at h
        dsimp only at h
        cases hix : ab_gf (ab_as pg (pc + a.2 + 10)) with
        | none => rw [hix] at h; cases h
        | some ix =>
        rw [hix] at h
        dsimp only at h
        cases hq : ab_as FT ix with
        | none => rw [hq] at h; cases h
        | some q =>
        rw [hq] at h
        dsimp only at h
        cases ho : ab_lk loc 0 with
        | none => rw [ho] at h; cases h
        | some o =>
        rw [ho] at h
        dsimp only at h
        cases hob : ab_ob hp o.2 with
        | none => rw [hob] at h; cases h
        | some ob =>
        rw [hob] at h
        dsimp only at h
        cases har : ob.2.2[q.2.1]? with
        | none => rw [har] at h; cases h
        | some ar =>
        rw [har] at h
        dsimp only at h
        cases hl : ab_lk loc a.1 with
        | none => rw [hl] at h; cases h
        | some v =>
        rw [hl] at h
        dsimp only at h
        split at h
        · rename_i hc
          obtain ⟨c1, c2, c3, c4, c5, c6, c7, c8, c9, c10, c11, c12⟩ := hc
          cases h
          obtain ⟨i1, d1, e1⟩ := ab_ldq_ok hpg ha
          have d2 := ab_pgd hpg hs1
          have d3 := ab_pgd hpg c1
          have d4 := ab_pgd hpg hs2
          have d5 := ab_pgd hpg hs3
          have d6 := ab_a0_ok hpg c2
          have d7 := ab_gf_ok hpg hix
          obtain ⟨i2, d8, e2⟩ := ab_ldq_ok hpg c3
          have d9 := ab_pgd hpg c4
          have d10 := ab_pgd hpg c5
          have hF1 := hF _ (ab_as_ok _ _ _ hq)
          have hK1 := hK _ (ab_as_ok _ _ _ hkk)
          rw [c7] at hF1
          have hfo := ab_ob_ok hob
          intro vs hs ls sv H locs hv hh his
          obtain ⟨w, h1, h2⟩ := ab_l_get his.2.2.1 hl
          obtain ⟨w0, h10, h20⟩ := ab_l_get his.2.2.1 ho
          obtain ⟨tv, kv⟩ := v
          obtain ⟨to, ko⟩ := o
          dsimp only at *
          subst c6
          subst c8
          obtain ⟨x, h3, rfl⟩ := ab_cv0 h1
          obtain ⟨qo, h30, rfl⟩ := ab_cv1 h10
          obtain ⟨k1, k2, k3, k4, ws, k5, k6, k7, k8⟩ := id his
          obtain ⟨ce, g1, g2⟩ := ab_w_at k5 hfo h30
          obtain ⟨fw, rfl, g3⟩ := g2
          obtain ⟨wa, g4, g5⟩ := ab_at g3 har
          obtain ⟨C, T, N, ty0, ref, f1, f2, f3, f4, f5, f6, f7, -⟩ := hF1
          have hget : ∀ {pc : Nat} {rest : List Value}, decode cc pc = .ok (.getfield ix, 3) → W p l e R s m args below meth c H locs nc ns Q (F0 m (pc + 3) ls (wa :: rest)) → W p l e R s m args below meth c H locs nc ns Q (F0 m pc ls (.ref qo :: rest)) := by
            intro pc rest hd kk
            rcases f7 with f7 | ⟨host, f7⟩
            · exact va_get X.1 X.2.1 X.2.2.2.2.1 f3 X.2.2.2.1 X.2.2.2.2.2.1 k6 ob.1 g1 f1 q.2.1 f2 f7 f6 g4 hd kk
            · exact va_getN X.1 X.2.1 X.2.2.2.2.1 f3 X.2.2.2.1 X.2.2.2.2.2.1 k6 ob.1 g1 f1 q.2.1 f2 f7 f6 g4 hd kk
          have ek : (Int32.ofInt kk).toInt = kk := by rw [Int32.toInt_ofInt]; exact ab_bm (by omega) (by omega)
          have en : (Int32.ofInt n).toInt = n := by rw [Int32.toInt_ofInt]; exact ab_bm (by omega) (by omega)
          have hand := ab_andL (x := x) (y := Int32.ofInt kk) (by omega)
          refine ab_ldW X.1 X.2.1 e1 d1 h2 (lv_ldc X.1 X.2.1 X.2.2.2.1 hK1 d2 (lv_iand X.1 X.2.1 d3 (lv_sipush X.1 X.2.1 d4 (ab_push16 (by omega) (by omega)) (lv_icmp_ge X.1 X.2.1 d5 (ab_tg_ok htg) (fun _ => hg (tg, E, nh, hp, loc, st, nc, ns) List.mem_cons_self _ _ _ _ _ _ hv hh his) (fun hlt => ?_)))))
          refine lv_aload_n X.1 X.2.1 d6 rfl h20 (hget d7 (ab_ldW X.1 X.2.1 e2 d8 h2 (lv_ldc X.1 X.2.1 X.2.2.2.1 hK1 d9 (lv_iand X.1 X.2.1 d10 ?_))))
          refine hg (pc + a.2 + 13 + a.2 + 3, E ++ [(0, min kk (n - 1))], nh, hp, loc, (0, E.length) :: ar :: st, nc, ns) (List.mem_cons_of_mem _ List.mem_cons_self) _ _ _ _ _ _ (ab_x1 _ hv) hh (ab_push (ab_pv his g5) ?_)
          have hlt2 := Int32.not_le.mp hlt
          rw [Int32.lt_iff_toInt_lt, en] at hlt2
          unfold ab_in
          dsimp only
          omega
        · cases h
      · cases h
    · cases h
  · cases h
theorem ab_ex_ok (X : ab_X p s m args c cc own nL D cl (ab_tys dT rn) A Ts) {sp : List (Nat × Nat × Int)} {FT : List (Nat × Nat × Nat × Nat)} {KT : List (Nat × Int)} {pg : ab_PG} (hF : ∀ q ∈ FT, ab_FL s args own cl Ts q.1 q.2.1 q.2.2.1 q.2.2.2) (hK : ∀ q ∈ KT, (Jvm.Cond.constant own q.1 (Int32.ofInt q.2)).before args s = true) (hpg : ∀ q ∈ pg, decode cc q.1 = .ok (q.2.1, q.2.2)) (S : ab_S) (r : List (Nat × ab_S)) (h : ab_ex sp FT KT pg pc S = some r) (hg : ∀ q ∈ r, ab_G p l e R s m args below meth c Q D cl A sa dT nL vs0 hs0 q.1 q.2.1 q.2.2.1 q.2.2.2.1 q.2.2.2.2.1 q.2.2.2.2.2.1 q.2.2.2.2.2.2.1 q.2.2.2.2.2.2.2) : ab_G p l e R s m args below meth c Q D cl A sa dT nL vs0 hs0 pc S.1 S.2.1 S.2.2.1 S.2.2.2.1 S.2.2.2.2.1 S.2.2.2.2.2.1 S.2.2.2.2.2.2 := by
  unfold ab_ex at h
  rcases ab_or2_ok h with h | h
  · exact ab_sp_ok h hg
  rcases ab_or2_ok h with h | h
  · exact ab_m1_ok X hpg h hg
  rcases ab_or2_ok h with h | h
  · exact ab_m2_ok X hF hpg h hg
  exact ab_m5_ok X hF hK hpg h hg
theorem ab_exF_ok (X : ab_X p s m args c cc own nL D cl (ab_tys dT rn) A Ts) {fl : Bool} {sp : List (Nat × Nat × Int)} {FT : List (Nat × Nat × Nat × Nat)} {KT : List (Nat × Int)} {pg : ab_PG} (hF : ∀ q ∈ FT, ab_FL s args own cl Ts q.1 q.2.1 q.2.2.1 q.2.2.2) (hK : ∀ q ∈ KT, (Jvm.Cond.constant own q.1 (Int32.ofInt q.2)).before args s = true) (hpg : ∀ q ∈ pg, decode cc q.1 = .ok (q.2.1, q.2.2)) (S : ab_S) (r : List (Nat × ab_S)) (h : ab_exF fl sp FT KT pg pc S = some r) (hg : ∀ q ∈ r, ab_G p l e R s m args below meth c Q D cl A sa dT nL vs0 hs0 q.1 q.2.1 q.2.2.1 q.2.2.2.1 q.2.2.2.2.1 q.2.2.2.2.2.1 q.2.2.2.2.2.2.1 q.2.2.2.2.2.2.2) : ab_G p l e R s m args below meth c Q D cl A sa dT nL vs0 hs0 pc S.1 S.2.1 S.2.2.1 S.2.2.2.1 S.2.2.2.2.1 S.2.2.2.2.2.1 S.2.2.2.2.2.2 := by
  cases fl with
  | false => cases h
  | true => exact ab_ex_ok X hF hK hpg S r h hg
end
