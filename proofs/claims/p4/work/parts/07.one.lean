abbrev ab_S : Type := List ab_I × Nat × ab_H × List (Nat × ab_V) × List ab_V × Nat × Nat
def ab_as {α : Type} : List (Nat × α) → Nat → Option α
  | [], _ => none
  | (j, a) :: r, i => if j = i then some a else ab_as r i
theorem ab_as_ok {α : Type} : ∀ (l : List (Nat × α)) (i : Nat) (a : α), ab_as l i = some a → (i, a) ∈ l
  | [], _, _, h => by cases h
  | (j, b) :: r, i, a, h => by
    unfold ab_as at h
    split at h
    · rename_i hb
      cases h
      rw [hb]
      exact List.mem_cons_self
    · exact List.mem_cons_of_mem _ (ab_as_ok r i a h)
def ab_tg (pc : Nat) (off : Int) : Option Nat := if 0 ≤ (pc : Int) + off then some ((pc : Int) + off).toNat else none
theorem ab_tg_ok {pc t : Nat} {off : Int} (h : ab_tg pc off = some t) : (pc : Int) + off = (t : Int) := by
  unfold ab_tg at h
  split at h
  · cases h
    omega
  · cases h
def ab_1a (nL : Nat) (KT : List (Nat × Int)) (i : ClassFile.Instr) (len pc : Nat) (E : List ab_I) (nh : Nat) (hp : ab_H) (loc : List (Nat × ab_V)) (st : List ab_V) (nc ns : Nat) : Option (List (Nat × ab_S)) := match i with
  | .iconst n => if len = 1 ∧ -2147483648 ≤ n ∧ n ≤ 2147483647 then some [(pc + 1, E ++ [(n, n)], nh, hp, loc, (0, E.length) :: st, nc, ns)] else none
  | .bipush n => if len = 2 ∧ -128 ≤ n ∧ n ≤ 127 then some [(pc + 2, E ++ [(n, n)], nh, hp, loc, (0, E.length) :: st, nc, ns)] else none
  | .sipush n => if len = 3 ∧ -32768 ≤ n ∧ n ≤ 32767 then some [(pc + 3, E ++ [(n, n)], nh, hp, loc, (0, E.length) :: st, nc, ns)] else none
  | .ldc ix => (match ab_as KT ix with
    | none => none
    | some n => if len = 2 ∧ -2147483648 ≤ n ∧ n ≤ 2147483647 then some [(pc + 2, E ++ [(n, n)], nh, hp, loc, (0, E.length) :: st, nc, ns)] else none)
  | .ldc_w ix => (match ab_as KT ix with
    | none => none
    | some n => if len = 3 ∧ -2147483648 ≤ n ∧ n ≤ 2147483647 then some [(pc + 3, E ++ [(n, n)], nh, hp, loc, (0, E.length) :: st, nc, ns)] else none)
  | .iload_n k => (match ab_lk loc k with
    | none => none
    | some a => if len = 1 ∧ a.1 = 0 then some [(pc + 1, E, nh, hp, loc, a :: st, nc, ns)] else none)
  | .iload k => (match ab_lk loc k with
    | none => none
    | some a => if len = 2 ∧ a.1 = 0 then some [(pc + 2, E, nh, hp, loc, a :: st, nc, ns)] else none)
  | .aload_n k => (match ab_lk loc k with
    | none => none
    | some a => if len = 1 ∧ a.1 = 1 then some [(pc + 1, E, nh, hp, loc, a :: st, nc, ns)] else none)
  | .aload k => (match ab_lk loc k with
    | none => none
    | some a => if len = 2 ∧ a.1 = 1 then some [(pc + 2, E, nh, hp, loc, a :: st, nc, ns)] else none)
  | .istore_n k => (match st with
    | a :: rr => if len = 1 ∧ a.1 = 0 ∧ (k : Nat) < nL then some [(pc + 1, E, nh, hp, ab_ls loc k a, rr, nc, ns)] else none
    | _ => none)
  | .istore k => (match st with
    | a :: rr => if len = 2 ∧ a.1 = 0 ∧ k < nL then some [(pc + 2, E, nh, hp, ab_ls loc k a, rr, nc, ns)] else none
    | _ => none)
  | .astore_n k => (match st with
    | a :: rr => if len = 1 ∧ a.1 = 1 ∧ (k : Nat) < nL then some [(pc + 1, E, nh, hp, ab_ls loc k a, rr, nc, ns)] else none
    | _ => none)
  | .astore k => (match st with
    | a :: rr => if len = 2 ∧ a.1 = 1 ∧ k < nL then some [(pc + 2, E, nh, hp, ab_ls loc k a, rr, nc, ns)] else none
    | _ => none)
  | .iinc k n => (match ab_lk loc k with
    | none => none
    | some a => (match E[a.2]? with
    | none => none
    | some j => if len = 3 ∧ a.1 = 0 ∧ k < nL ∧ -2147483648 ≤ n ∧ n ≤ 2147483647 then some [(pc + 3, E ++ [ab_cl (j.1 + n, j.2 + n)], nh, hp, ab_ls loc k (0, E.length), st, nc, ns)] else none))
  | .dup => (match st with
    | a :: rr => if len = 1 then some [(pc + 1, E, nh, hp, loc, a :: a :: rr, nc, ns)] else none
    | _ => none)
  | .pop => (match st with
    | a :: rr => if len = 1 then some [(pc + 1, E, nh, hp, loc, rr, nc, ns)] else none
    | _ => none)
  | .dup_x1 => (match st with
    | a :: b :: rr => if len = 1 then some [(pc + 1, E, nh, hp, loc, a :: b :: a :: rr, nc, ns)] else none
    | _ => none)
  | .dup_x2 => (match st with
    | a :: b :: d :: rr => if len = 1 then some [(pc + 1, E, nh, hp, loc, a :: b :: d :: a :: rr, nc, ns)] else none
    | _ => none)
  | .dup2 => (match st with
    | a :: b :: rr => if len = 1 then some [(pc + 1, E, nh, hp, loc, a :: b :: a :: b :: rr, nc, ns)] else none
    | _ => none)
  | .goto off => (match ab_tg pc off with
    | none => none
    | some tg => if len = 3 then some [(tg, E, nh, hp, loc, st, nc, ns)] else none)
  | _ => none
def ab_1b  (i : ClassFile.Instr) (len pc : Nat) (E : List ab_I) (nh : Nat) (hp : ab_H) (loc : List (Nat × ab_V)) (st : List ab_V) (nc ns : Nat) : Option (List (Nat × ab_S)) := match i with
  | .iadd => (match st with
    | y :: x :: rr => (match E[x.2]? with
    | none => none
    | some ix => (match E[y.2]? with
    | none => none
    | some iy => if len = 1 ∧ x.1 = 0 ∧ y.1 = 0 then some [(pc + 1, E ++ [ab_cl (ix.1 + iy.1, ix.2 + iy.2)], nh, hp, loc, (0, E.length) :: rr, nc, ns)] else none))
    | _ => none)
  | .isub => (match st with
    | y :: x :: rr => (match E[x.2]? with
    | none => none
    | some ix => (match E[y.2]? with
    | none => none
    | some iy => if len = 1 ∧ x.1 = 0 ∧ y.1 = 0 then some [(pc + 1, E ++ [ab_cl (ix.1 - iy.2, ix.2 - iy.1)], nh, hp, loc, (0, E.length) :: rr, nc, ns)] else none))
    | _ => none)
  | .imul => (match st with
    | y :: x :: rr => (match E[x.2]? with
    | none => none
    | some ix => (match E[y.2]? with
    | none => none
    | some iy => if len = 1 ∧ x.1 = 0 ∧ y.1 = 0 then some [(pc + 1, E ++ [ab_mulI ix iy], nh, hp, loc, (0, E.length) :: rr, nc, ns)] else none))
    | _ => none)
  | .iand => (match st with
    | y :: x :: rr => (match E[x.2]? with
    | none => none
    | some ix => (match E[y.2]? with
    | none => none
    | some iy => if len = 1 ∧ x.1 = 0 ∧ y.1 = 0 then some [(pc + 1, E ++ [ab_andI ix iy], nh, hp, loc, (0, E.length) :: rr, nc, ns)] else none))
    | _ => none)
  | .ior => (match st with
    | y :: x :: rr => (match E[x.2]? with
    | none => none
    | some ix => (match E[y.2]? with
    | none => none
    | some iy => if len = 1 ∧ x.1 = 0 ∧ y.1 = 0 then some [(pc + 1, E ++ [ab_orI ix iy], nh, hp, loc, (0, E.length) :: rr, nc, ns)] else none))
    | _ => none)
  | .ixor => (match st with
    | y :: x :: rr => (match E[x.2]? with
    | none => none
    | some ix => (match E[y.2]? with
    | none => none
    | some iy => if len = 1 ∧ x.1 = 0 ∧ y.1 = 0 then some [(pc + 1, E ++ [ab_orI ix iy], nh, hp, loc, (0, E.length) :: rr, nc, ns)] else none))
    | _ => none)
  | .idiv => (match st with
    | y :: x :: rr => (match E[x.2]? with
    | none => none
    | some ix => (match E[y.2]? with
    | none => none
    | some iy => (match ab_divI ix iy with
    | none => none
    | some w => if len = 1 ∧ x.1 = 0 ∧ y.1 = 0 then some [(pc + 1, E ++ [w], nh, hp, loc, (0, E.length) :: rr, nc, ns)] else none)))
    | _ => none)
  | .irem => (match st with
    | y :: x :: rr => (match E[x.2]? with
    | none => none
    | some ix => (match E[y.2]? with
    | none => none
    | some iy => (match ab_remI ix iy with
    | none => none
    | some w => if len = 1 ∧ x.1 = 0 ∧ y.1 = 0 then some [(pc + 1, E ++ [w], nh, hp, loc, (0, E.length) :: rr, nc, ns)] else none)))
    | _ => none)
  | _ => none
section
variable {p : Program} {l : Launch} {e : Env} {R : Room} {s : State} {m : MethodId} {args : Array Value} {below : List Frame} {meth : Method} {c : Code} {Q : State → Prop} {cc : ByteArray} {own : String} {nL : Nat} {D : va_G} {cl : List vw_C} {rn : List String} {A : Nat → Prop} {Ts : List Cond} {sa : Nat → Nat} {dT : Nat → ClassId} {vs0 : List Int32} {hs0 : List Nat} {pc : Nat} {E : List ab_I} {nh nc ns : Nat} {hp : ab_H} {loc : List (Nat × ab_V)} {st : List ab_V}
set_option maxHeartbeats 4000000 in
theorem ab_1a_ok (X : ab_X p s m args c cc own nL D cl (ab_tys dT rn) A Ts) {KT : List (Nat × Int)} (hK : ∀ q ∈ KT, (Jvm.Cond.constant own q.1 (Int32.ofInt q.2)).before args s = true) {i : ClassFile.Instr} {len : Nat} {r : List (Nat × ab_S)} (hd : decode cc pc = .ok (i, len)) (h : ab_1a nL KT i len pc E nh hp loc st nc ns = some r) (hg : ∀ q ∈ r, ab_G p l e R s m args below meth c Q D cl A sa dT nL vs0 hs0 q.1 q.2.1 q.2.2.1 q.2.2.2.1 q.2.2.2.2.1 q.2.2.2.2.2.1 q.2.2.2.2.2.2.1 q.2.2.2.2.2.2.2) : ab_G p l e R s m args below meth c Q D cl A sa dT nL vs0 hs0 pc E nh hp loc st nc ns := by
  unfold ab_1a at h
  split at h
  · rename_i n
    by_cases hc : len = 1 ∧ -2147483648 ≤ n ∧ n ≤ 2147483647
    · rw [if_pos hc] at h
      obtain ⟨rfl, h1, h2⟩ := hc
      cases h
      exact ab_iconst X hd ⟨h1, h2⟩ (hg _ List.mem_cons_self)
    · rw [if_neg hc] at h; cases h
  · rename_i n
    by_cases hc : len = 2 ∧ -128 ≤ n ∧ n ≤ 127
    · rw [if_pos hc] at h
      obtain ⟨rfl, h1, h2⟩ := hc
      cases h
      exact ab_bipush X hd ⟨h1, h2⟩ (hg _ List.mem_cons_self)
    · rw [if_neg hc] at h; cases h
  · rename_i n
    by_cases hc : len = 3 ∧ -32768 ≤ n ∧ n ≤ 32767
    · rw [if_pos hc] at h
      obtain ⟨rfl, h1, h2⟩ := hc
      cases h
      exact ab_sipush X hd ⟨h1, h2⟩ (hg _ List.mem_cons_self)
    · rw [if_neg hc] at h; cases h
  · rename_i ix
    cases hm1 : ab_as KT ix with
    | none => rw [hm1] at h; cases h
    | some n =>
      rw [hm1] at h
      dsimp only at h
      by_cases hc : len = 2 ∧ -2147483648 ≤ n ∧ n ≤ 2147483647
      · rw [if_pos hc] at h
        obtain ⟨rfl, h1, h2⟩ := hc
        cases h
        exact ab_ldc X hd ⟨h1, h2⟩ (hK _ (ab_as_ok _ _ _ hm1)) (hg _ List.mem_cons_self)
      · rw [if_neg hc] at h; cases h
  · rename_i ix
    cases hm1 : ab_as KT ix with
    | none => rw [hm1] at h; cases h
    | some n =>
      rw [hm1] at h
      dsimp only at h
      by_cases hc : len = 3 ∧ -2147483648 ≤ n ∧ n ≤ 2147483647
      · rw [if_pos hc] at h
        obtain ⟨rfl, h1, h2⟩ := hc
        cases h
        exact ab_ldcw X hd ⟨h1, h2⟩ (hK _ (ab_as_ok _ _ _ hm1)) (hg _ List.mem_cons_self)
      · rw [if_neg hc] at h; cases h
  · rename_i k
    cases hm1 : ab_lk loc k with
    | none => rw [hm1] at h; cases h
    | some a =>
      rw [hm1] at h
      dsimp only at h
      by_cases hc : len = 1 ∧ a.1 = 0
      · rw [if_pos hc] at h
        obtain ⟨rfl, h1⟩ := hc
        obtain ⟨ta, ka⟩ := a
        dsimp only at *
        have eta : ta = 0 := by assumption
        subst eta
        cases h
        exact ab_iload_n X hd hm1 (hg _ List.mem_cons_self)
      · rw [if_neg hc] at h; cases h
  · rename_i k
    cases hm1 : ab_lk loc k with
    | none => rw [hm1] at h; cases h
    | some a =>
      rw [hm1] at h
      dsimp only at h
      by_cases hc : len = 2 ∧ a.1 = 0
      · rw [if_pos hc] at h
        obtain ⟨rfl, h1⟩ := hc
        obtain ⟨ta, ka⟩ := a
        dsimp only at *
        have eta : ta = 0 := by assumption
        subst eta
        cases h
        exact ab_iload X hd hm1 (hg _ List.mem_cons_self)
      · rw [if_neg hc] at h; cases h
  · rename_i k
    cases hm1 : ab_lk loc k with
    | none => rw [hm1] at h; cases h
    | some a =>
      rw [hm1] at h
      dsimp only at h
      by_cases hc : len = 1 ∧ a.1 = 1
      · rw [if_pos hc] at h
        obtain ⟨rfl, h1⟩ := hc
        obtain ⟨ta, ka⟩ := a
        dsimp only at *
        have eta : ta = 1 := by assumption
        subst eta
        cases h
        exact ab_aload_n X hd hm1 (hg _ List.mem_cons_self)
      · rw [if_neg hc] at h; cases h
  · rename_i k
    cases hm1 : ab_lk loc k with
    | none => rw [hm1] at h; cases h
    | some a =>
      rw [hm1] at h
      dsimp only at h
      by_cases hc : len = 2 ∧ a.1 = 1
      · rw [if_pos hc] at h
        obtain ⟨rfl, h1⟩ := hc
        obtain ⟨ta, ka⟩ := a
        dsimp only at *
        have eta : ta = 1 := by assumption
        subst eta
        cases h
        exact ab_aload X hd hm1 (hg _ List.mem_cons_self)
      · rw [if_neg hc] at h; cases h
  · rename_i k
    cases st with
    | nil => cases h
    | cons a rr =>
      dsimp only at h
      by_cases hc : len = 1 ∧ a.1 = 0 ∧ (k : Nat) < nL
      · rw [if_pos hc] at h
        obtain ⟨rfl, h1, h2⟩ := hc
        obtain ⟨ta, ka⟩ := a
        dsimp only at *
        have eta : ta = 0 := by assumption
        subst eta
        cases h
        exact ab_istore_n X hd h2 (hg _ List.mem_cons_self)
      · rw [if_neg hc] at h; cases h
  · rename_i k
    cases st with
    | nil => cases h
    | cons a rr =>
      dsimp only at h
      by_cases hc : len = 2 ∧ a.1 = 0 ∧ k < nL
      · rw [if_pos hc] at h
        obtain ⟨rfl, h1, h2⟩ := hc
        obtain ⟨ta, ka⟩ := a
        dsimp only at *
        have eta : ta = 0 := by assumption
        subst eta
        cases h
        exact ab_istore X hd h2 (hg _ List.mem_cons_self)
      · rw [if_neg hc] at h; cases h
  · rename_i k
    cases st with
    | nil => cases h
    | cons a rr =>
      dsimp only at h
      by_cases hc : len = 1 ∧ a.1 = 1 ∧ (k : Nat) < nL
      · rw [if_pos hc] at h
        obtain ⟨rfl, h1, h2⟩ := hc
        obtain ⟨ta, ka⟩ := a
        dsimp only at *
        have eta : ta = 1 := by assumption
        subst eta
        cases h
        exact ab_astore_n X hd h2 (hg _ List.mem_cons_self)
      · rw [if_neg hc] at h; cases h
  · rename_i k
    cases st with
    | nil => cases h
    | cons a rr =>
      dsimp only at h
      by_cases hc : len = 2 ∧ a.1 = 1 ∧ k < nL
      · rw [if_pos hc] at h
        obtain ⟨rfl, h1, h2⟩ := hc
        obtain ⟨ta, ka⟩ := a
        dsimp only at *
        have eta : ta = 1 := by assumption
        subst eta
        cases h
        exact ab_astore X hd h2 (hg _ List.mem_cons_self)
      · rw [if_neg hc] at h; cases h
  · rename_i k n
    cases hm1 : ab_lk loc k with
    | none => rw [hm1] at h; cases h
    | some a =>
      rw [hm1] at h
      dsimp only at h
      cases hm2 : E[a.2]? with
      | none => rw [hm2] at h; cases h
      | some j =>
        rw [hm2] at h
        dsimp only at h
        by_cases hc : len = 3 ∧ a.1 = 0 ∧ k < nL ∧ -2147483648 ≤ n ∧ n ≤ 2147483647
        · rw [if_pos hc] at h
          obtain ⟨rfl, h1, h2, h3, h4⟩ := hc
          obtain ⟨ta, ka⟩ := a
          dsimp only at *
          have eta : ta = 0 := by assumption
          subst eta
          cases h
          exact ab_iinc X hd ⟨h3, h4⟩ h2 hm1 hm2 (hg _ List.mem_cons_self)
        · rw [if_neg hc] at h; cases h
  · cases st with
    | nil => cases h
    | cons a rr =>
      dsimp only at h
      by_cases hc : len = 1
      · rw [if_pos hc] at h
        subst hc
        cases h
        exact ab_dup X hd (hg _ List.mem_cons_self)
      · rw [if_neg hc] at h; cases h
  · cases st with
    | nil => cases h
    | cons a rr =>
      dsimp only at h
      by_cases hc : len = 1
      · rw [if_pos hc] at h
        subst hc
        cases h
        exact ab_popi X hd (hg _ List.mem_cons_self)
      · rw [if_neg hc] at h; cases h
  · cases st with
    | nil => cases h
    | cons a r0 =>
      cases r0 with
      | nil => cases h
      | cons b rr =>
        dsimp only at h
        by_cases hc : len = 1
        · rw [if_pos hc] at h
          subst hc
          cases h
          exact ab_dupx1 X hd (hg _ List.mem_cons_self)
        · rw [if_neg hc] at h; cases h
  · cases st with
    | nil => cases h
    | cons a r0 =>
      cases r0 with
      | nil => cases h
      | cons b r1 =>
        cases r1 with
        | nil => cases h
        | cons d rr =>
          dsimp only at h
          by_cases hc : len = 1
          · rw [if_pos hc] at h
            subst hc
            cases h
            exact ab_dupx2 X hd (hg _ List.mem_cons_self)
          · rw [if_neg hc] at h; cases h
  · cases st with
    | nil => cases h
    | cons a r0 =>
      cases r0 with
      | nil => cases h
      | cons b rr =>
        dsimp only at h
        by_cases hc : len = 1
        · rw [if_pos hc] at h
          subst hc
          cases h
          exact ab_dup2 X hd (hg _ List.mem_cons_self)
        · rw [if_neg hc] at h; cases h
  · rename_i off
    cases hm1 : ab_tg pc off with
    | none => rw [hm1] at h; cases h
    | some tg =>
      rw [hm1] at h
      dsimp only at h
      by_cases hc : len = 3
      · rw [if_pos hc] at h
        subst hc
        cases h
        exact ab_goto X hd (ab_tg_ok hm1) (hg _ List.mem_cons_self)
      · rw [if_neg hc] at h; cases h
  · cases h
set_option maxHeartbeats 4000000 in
theorem ab_1b_ok (X : ab_X p s m args c cc own nL D cl (ab_tys dT rn) A Ts)  {i : ClassFile.Instr} {len : Nat} {r : List (Nat × ab_S)} (hd : decode cc pc = .ok (i, len)) (h : ab_1b  i len pc E nh hp loc st nc ns = some r) (hg : ∀ q ∈ r, ab_G p l e R s m args below meth c Q D cl A sa dT nL vs0 hs0 q.1 q.2.1 q.2.2.1 q.2.2.2.1 q.2.2.2.2.1 q.2.2.2.2.2.1 q.2.2.2.2.2.2.1 q.2.2.2.2.2.2.2) : ab_G p l e R s m args below meth c Q D cl A sa dT nL vs0 hs0 pc E nh hp loc st nc ns := by
  unfold ab_1b at h
  split at h
  · cases st with
    | nil => cases h
    | cons y r0 =>
      cases r0 with
      | nil => cases h
      | cons x rr =>
        dsimp only at h
        cases hm1 : E[x.2]? with
        | none => rw [hm1] at h; cases h
        | some ix =>
          rw [hm1] at h
          dsimp only at h
          cases hm2 : E[y.2]? with
          | none => rw [hm2] at h; cases h
          | some iy =>
            rw [hm2] at h
            dsimp only at h
            by_cases hc : len = 1 ∧ x.1 = 0 ∧ y.1 = 0
            · rw [if_pos hc] at h
              obtain ⟨rfl, h1, h2⟩ := hc
              obtain ⟨tx, kx⟩ := x
              dsimp only at *
              have etx : tx = 0 := by assumption
              subst etx
              obtain ⟨ty, ky⟩ := y
              dsimp only at *
              have ety : ty = 0 := by assumption
              subst ety
              cases h
              exact ab_iadd X hd hm1 hm2 (hg _ List.mem_cons_self)
            · rw [if_neg hc] at h; cases h
  · cases st with
    | nil => cases h
    | cons y r0 =>
      cases r0 with
      | nil => cases h
      | cons x rr =>
        dsimp only at h
        cases hm1 : E[x.2]? with
        | none => rw [hm1] at h; cases h
        | some ix =>
          rw [hm1] at h
          dsimp only at h
          cases hm2 : E[y.2]? with
          | none => rw [hm2] at h; cases h
          | some iy =>
            rw [hm2] at h
            dsimp only at h
            by_cases hc : len = 1 ∧ x.1 = 0 ∧ y.1 = 0
            · rw [if_pos hc] at h
              obtain ⟨rfl, h1, h2⟩ := hc
              obtain ⟨tx, kx⟩ := x
              dsimp only at *
              have etx : tx = 0 := by assumption
              subst etx
              obtain ⟨ty, ky⟩ := y
              dsimp only at *
              have ety : ty = 0 := by assumption
              subst ety
              cases h
              exact ab_isub X hd hm1 hm2 (hg _ List.mem_cons_self)
            · rw [if_neg hc] at h; cases h
  · cases st with
    | nil => cases h
    | cons y r0 =>
      cases r0 with
      | nil => cases h
      | cons x rr =>
        dsimp only at h
        cases hm1 : E[x.2]? with
        | none => rw [hm1] at h; cases h
        | some ix =>
          rw [hm1] at h
          dsimp only at h
          cases hm2 : E[y.2]? with
          | none => rw [hm2] at h; cases h
          | some iy =>
            rw [hm2] at h
            dsimp only at h
            by_cases hc : len = 1 ∧ x.1 = 0 ∧ y.1 = 0
            · rw [if_pos hc] at h
              obtain ⟨rfl, h1, h2⟩ := hc
              obtain ⟨tx, kx⟩ := x
              dsimp only at *
              have etx : tx = 0 := by assumption
              subst etx
              obtain ⟨ty, ky⟩ := y
              dsimp only at *
              have ety : ty = 0 := by assumption
              subst ety
              cases h
              exact ab_imul X hd hm1 hm2 (hg _ List.mem_cons_self)
            · rw [if_neg hc] at h; cases h
  · cases st with
    | nil => cases h
    | cons y r0 =>
      cases r0 with
      | nil => cases h
      | cons x rr =>
        dsimp only at h
        cases hm1 : E[x.2]? with
        | none => rw [hm1] at h; cases h
        | some ix =>
          rw [hm1] at h
          dsimp only at h
          cases hm2 : E[y.2]? with
          | none => rw [hm2] at h; cases h
          | some iy =>
            rw [hm2] at h
            dsimp only at h
            by_cases hc : len = 1 ∧ x.1 = 0 ∧ y.1 = 0
            · rw [if_pos hc] at h
              obtain ⟨rfl, h1, h2⟩ := hc
              obtain ⟨tx, kx⟩ := x
              dsimp only at *
              have etx : tx = 0 := by assumption
              subst etx
              obtain ⟨ty, ky⟩ := y
              dsimp only at *
              have ety : ty = 0 := by assumption
              subst ety
              cases h
              exact ab_iand X hd hm1 hm2 (hg _ List.mem_cons_self)
            · rw [if_neg hc] at h; cases h
  · cases st with
    | nil => cases h
    | cons y r0 =>
      cases r0 with
      | nil => cases h
      | cons x rr =>
        dsimp only at h
        cases hm1 : E[x.2]? with
        | none => rw [hm1] at h; cases h
        | some ix =>
          rw [hm1] at h
          dsimp only at h
          cases hm2 : E[y.2]? with
          | none => rw [hm2] at h; cases h
          | some iy =>
            rw [hm2] at h
            dsimp only at h
            by_cases hc : len = 1 ∧ x.1 = 0 ∧ y.1 = 0
            · rw [if_pos hc] at h
              obtain ⟨rfl, h1, h2⟩ := hc
              obtain ⟨tx, kx⟩ := x
              dsimp only at *
              have etx : tx = 0 := by assumption
              subst etx
              obtain ⟨ty, ky⟩ := y
              dsimp only at *
              have ety : ty = 0 := by assumption
              subst ety
              cases h
              exact ab_ior X hd hm1 hm2 (hg _ List.mem_cons_self)
            · rw [if_neg hc] at h; cases h
  · cases st with
    | nil => cases h
    | cons y r0 =>
      cases r0 with
      | nil => cases h
      | cons x rr =>
        dsimp only at h
        cases hm1 : E[x.2]? with
        | none => rw [hm1] at h; cases h
        | some ix =>
          rw [hm1] at h
          dsimp only at h
          cases hm2 : E[y.2]? with
          | none => rw [hm2] at h; cases h
          | some iy =>
            rw [hm2] at h
            dsimp only at h
            by_cases hc : len = 1 ∧ x.1 = 0 ∧ y.1 = 0
            · rw [if_pos hc] at h
              obtain ⟨rfl, h1, h2⟩ := hc
              obtain ⟨tx, kx⟩ := x
              dsimp only at *
              have etx : tx = 0 := by assumption
              subst etx
              obtain ⟨ty, ky⟩ := y
              dsimp only at *
              have ety : ty = 0 := by assumption
              subst ety
              cases h
              exact ab_ixor X hd hm1 hm2 (hg _ List.mem_cons_self)
            · rw [if_neg hc] at h; cases h
  · cases st with
    | nil => cases h
    | cons y r0 =>
      cases r0 with
      | nil => cases h
      | cons x rr =>
        dsimp only at h
        cases hm1 : E[x.2]? with
        | none => rw [hm1] at h; cases h
        | some ix =>
          rw [hm1] at h
          dsimp only at h
          cases hm2 : E[y.2]? with
          | none => rw [hm2] at h; cases h
          | some iy =>
            rw [hm2] at h
            dsimp only at h
            cases hm3 : ab_divI ix iy with
            | none => rw [hm3] at h; cases h
            | some w =>
              rw [hm3] at h
              dsimp only at h
              by_cases hc : len = 1 ∧ x.1 = 0 ∧ y.1 = 0
              · rw [if_pos hc] at h
                obtain ⟨rfl, h1, h2⟩ := hc
                obtain ⟨tx, kx⟩ := x
                dsimp only at *
                have etx : tx = 0 := by assumption
                subst etx
                obtain ⟨ty, ky⟩ := y
                dsimp only at *
                have ety : ty = 0 := by assumption
                subst ety
                cases h
                exact ab_idiv X hd hm1 hm2 hm3 (hg _ List.mem_cons_self)
              · rw [if_neg hc] at h; cases h
  · cases st with
    | nil => cases h
    | cons y r0 =>
      cases r0 with
      | nil => cases h
      | cons x rr =>
        dsimp only at h
        cases hm1 : E[x.2]? with
        | none => rw [hm1] at h; cases h
        | some ix =>
          rw [hm1] at h
          dsimp only at h
          cases hm2 : E[y.2]? with
          | none => rw [hm2] at h; cases h
          | some iy =>
            rw [hm2] at h
            dsimp only at h
            cases hm3 : ab_remI ix iy with
            | none => rw [hm3] at h; cases h
            | some w =>
              rw [hm3] at h
              dsimp only at h
              by_cases hc : len = 1 ∧ x.1 = 0 ∧ y.1 = 0
              · rw [if_pos hc] at h
                obtain ⟨rfl, h1, h2⟩ := hc
                obtain ⟨tx, kx⟩ := x
                dsimp only at *
                have etx : tx = 0 := by assumption
                subst etx
                obtain ⟨ty, ky⟩ := y
                dsimp only at *
                have ety : ty = 0 := by assumption
                subst ety
                cases h
                exact ab_irem X hd hm1 hm2 hm3 (hg _ List.mem_cons_self)
              · rw [if_neg hc] at h; cases h
  · cases h
end
