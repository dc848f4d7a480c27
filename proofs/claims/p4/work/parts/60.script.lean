theorem lx_K {s : State} {args : Array Value} (hT : ∀ w ∈ nTc, w.before args s = true) (hO : (Cond.arrayOver (.object "LevelMachine$Segment")).before args s = true) : ∃ (D : va_G) (dT : Nat → ClassId), va_K D nCl (ab_tys dT nRn) s := by
  obtain ⟨c0, i0, h0⟩ := u_known hT nU0 (hT _ tw62)
  obtain ⟨c1, i1, h1⟩ := u_known hT nU1 (hT _ tw16)
  obtain ⟨c2, i2, h2⟩ := u_known hT nU2 (hT _ tw31)
  obtain ⟨c3, i3, h3⟩ := u_known hT nU3 (hT _ tw8)
  obtain ⟨c4, i4, h4⟩ := u_known hT nU4 (hT _ tw419)
  obtain ⟨cA, kA, comp, a1, a2, a3⟩ := Cond.arrayClass_spec (hT _ tw28)
  obtain ⟨comp2, cS, kS, b1, -, b3, b4, b5⟩ := Cond.arrayOver_spec (hO)
  refine ⟨(fun k => match k with
    | 0 => c0
    | 1 => c1
    | 2 => c2
    | 3 => c3
    | _ => c4, fun k => match k with
    | 0 => i0
    | 1 => i1
    | 2 => i2
    | 3 => i3
    | _ => i4), (fun t => match t with
    | 0 => cA
    | _ => cS), fun k q hq => ?_, fun k q hq => ?_⟩
  · match k, hq with
    | 0, hq => cases hq; exact h0
    | 1, hq => cases hq; exact h1
    | 2, hq => cases hq; exact h2
    | 3, hq => cases hq; exact h3
    | 4, hq => cases hq; exact h4
    | k + 5, hq => cases hq
  · match k, hq with
    | 0, hq => cases hq; exact ⟨fun n z => ⟨fun k h => (by cases h), kA, a2, comp, a3⟩, a1⟩
    | 1, hq => cases hq; exact ⟨fun n z => ⟨fun k h => (by cases h), kS, b3, comp2, b4⟩, kS, comp2, b3, b4, b1, b5⟩
    | k + 2, hq => cases hq
theorem lx_d18 : decode code 18 = .ok (.iload_n 3, 1) := ab_pgd pgL_ok (by decide +kernel)
theorem lx_d19 : decode code 19 = .ok (.aload_n 0, 1) := ab_pgd pgL_ok (by decide +kernel)
theorem lx_d20 : decode code 20 = .ok (.arraylength, 1) := ab_pgd pgL_ok (by decide +kernel)
theorem lx_d21 : decode code 21 = .ok (.bipush 7, 2) := ab_pgd pgL_ok (by decide +kernel)
theorem lx_d23 : decode code 23 = .ok (.isub, 1) := ab_pgd pgL_ok (by decide +kernel)
theorem lx_d24 : decode code 24 = .ok (.if_icmp .gt 371, 3) := ab_pgd pgL_ok (by decide +kernel)
theorem lx_dI : decode code 389 = .ok (.iinc 3 7, 3) := ab_pgd pgL_ok (by decide +kernel)
theorem lx_dG : decode code (389 + 3) = .ok (.goto (-374), 3) := ab_pgd pgL_ok (by decide +kernel)
theorem lx_dE : decode code 395 = .ok (.iconst 1, 1) := ab_pgd pgL_ok (by decide +kernel)
theorem lx_dR : decode code (395 + 1) = .ok (.ireturn, 1) := ab_pgd pgL_ok (by decide +kernel)
theorem lx_len {L : Nat} (hL : L ≤ 1000000) : (Int32.ofNat L - Int32.ofInt 7).toInt = (L : Int) - 7 := by
  have e1 : (Int32.ofNat L).toInt = (L : Int) := (cp_nat (by omega)).1
  have e2 : (Int32.ofInt 7).toInt = 7 := by rw [Int32.toInt_ofInt]; exact ab_bm (by omega) (by omega)
  rw [Int32.toInt_sub, e1, e2]
  exact ab_bm (by omega) (by omega)
section
variable {p : Program} {l : Launch} {e : Env} {s : State} {m : MethodId} {below : List Frame} {meth : Method} {c : Code} {b L : Nat} {xs : Nat → Int32} {H : Heap} {locs : List Loc} {ls : Array Slot} {nc ns : Nat} {i : Int32}
theorem lx_end (C0 : lw_At p s m meth c b L xs) (hS : va_S (fun q => s.heap.size ≤ q) s.heap H locs) (hcap : nc ≤ 600000 ∧ ns ≤ 7302250) : W p l e room_1 s m #[Value.ref b] below meth c H locs nc ns (lw_Z below #[Value.ref b] s) (F0 m 395 ls []) := by
  refine lv_iconst (v := 1) C0.1 C0.2.1 lx_dE rfl ?_
  refine va_forget (fun q hq => hS.2.2 q hq) ?_
  refine W.widen (k := 600000) (n := 7302250) hcap.1 hcap.2 ?_
  exact lw_ret C0.1 C0.2.1 C0.2.2.1 C0.2.2.2.2.2.2.2.2.1 lx_dR
theorem lx_head (C0 : lw_At p s m meth c b L xs) (hL : L ≤ 1000000) (hS : va_S (fun q => s.heap.size ≤ q) s.heap H locs) (hcap : nc ≤ 600000 ∧ ns ≤ 7302250) (h0 : ls[0]? = some (.val (.ref b))) (h3 : ls[3]? = some (.val (.int i)))
    (body : i.toInt + 7 ≤ (L : Int) → W p l e room_1 s m #[Value.ref b] below meth c H locs nc ns (lw_Z below #[Value.ref b] s) (F0 m 27 ls [])) : W p l e room_1 s m #[Value.ref b] below meth c H locs nc ns (lw_Z below #[Value.ref b] s) (F0 m 18 ls []) := by
  have hbl := C0.2.2.2.2.2.2.2.1
  refine lv_iload_n C0.1 C0.2.1 lx_d18 rfl h3 ?_
  refine lv_aload_n C0.1 C0.2.1 lx_d19 rfl h0 ?_
  refine va_slen C0.1 C0.2.1 C0.2.2.2.2.2.2.1 hbl (by omega) hS lx_d20 ?_
  refine lv_bipush (v := Int32.ofInt 7) C0.1 C0.2.1 lx_d21 (ab_push8 (by omega) (by omega)) ?_
  refine lv_isub C0.1 C0.2.1 lx_d23 ?_
  refine lv_icmp_gt C0.1 C0.2.1 lx_d24 (tgt := 395) (by decide) (fun _ => lx_end C0 hS hcap) (fun h => body ?_)
  have := Int32.not_lt.mp h
  rw [Int32.le_iff_toInt_le, lx_len hL] at this
  omega
end
def ab_lx (ki kb : Nat) (pg : ab_PG) (pc : Nat) (S : ab_S) : Option (List (Nat × ab_S)) :=
  if ab_a0 (ab_as pg pc) = true ∧ ab_as pg (pc + 1) = some (.iload_n 3, 1) ∧ ab_lk S.2.2.2.1 0 = some (1, 0) ∧ ab_lk S.2.2.2.1 3 = some (0, ki) then
    (if ab_as pg (pc + 2) = some (.iaload, 1) then some [(pc + 3, S.1, S.2.1, S.2.2.1, S.2.2.2.1, (0, kb) :: S.2.2.2.2.1, S.2.2.2.2.2.1, S.2.2.2.2.2.2)]
    else (match ab_kcq (ab_as pg (pc + 2)) with
      | none => none
      | some k => if ab_as pg (pc + 2 + k.2) = some (.iadd, 1) ∧ ab_as pg (pc + 2 + k.2 + 1) = some (.iaload, 1) ∧ k.1 ≤ 6 then some [(pc + 2 + k.2 + 1 + 1, S.1, S.2.1, S.2.2.1, S.2.2.2.1, (0, kb + k.1.toNat) :: S.2.2.2.2.1, S.2.2.2.2.2.1, S.2.2.2.2.2.2)] else none))
  else none
section
variable {p : Program} {l : Launch} {e : Env} {R : Room} {s : State} {m : MethodId} {args : Array Value} {below : List Frame} {meth : Method} {c : Code} {Q : State → Prop} {cc : ByteArray} {own : String} {nL : Nat} {D : va_G} {cl : List vw_C} {rn : List String} {A : Nat → Prop} {Ts : List Cond} {sa : Nat → Nat} {dT : Nat → ClassId} {vs0 : List Int32} {hs0 : List Nat} {pc : Nat} {E : List ab_I} {nh nc ns : Nat} {hp : ab_H} {loc : List (Nat × ab_V)} {st : List ab_V}
variable {b L : Nat} {xs : Nat → Int32} {i : Int32}
theorem ab_lx_ok (X : ab_X p s m args c cc own nL D cl (ab_tys dT rn) A Ts) {ki kb : Nat} {pg : ab_PG} (hpg : ∀ q ∈ pg, decode cc q.1 = .ok (q.2.1, q.2.2)) (hX : va_X b L xs s s.heap) (hbl : b < s.heap.size) (hbA : ¬ A b) (h0 : hs0[0]? = some b) (hi : vs0[ki]? = some i) (hi0 : 0 ≤ i.toInt) (hiL : i.toInt + 7 ≤ (L : Int)) (hLs : L ≤ 1000000) (hw : ∀ d : Nat, d < 7 → vs0[kb + d]? = some (xs (i.toNatClampNeg + d))) (S : ab_S) (r : List (Nat × ab_S)) (h : ab_lx ki kb pg pc S = some r) (hg : ∀ q ∈ r, ab_G p l e R s m args below meth c Q D cl A sa dT nL vs0 hs0 q.1 q.2.1 q.2.2.1 q.2.2.2.1 q.2.2.2.2.1 q.2.2.2.2.2.1 q.2.2.2.2.2.2.1 q.2.2.2.2.2.2.2) : ab_G p l e R s m args below meth c Q D cl A sa dT nL vs0 hs0 pc S.1 S.2.1 S.2.2.1 S.2.2.2.1 S.2.2.2.2.1 S.2.2.2.2.2.1 S.2.2.2.2.2.2 := by
  unfold ab_lx at h
  split at h
  · rename_i hc
    obtain ⟨c1, c2, c3, c4⟩ := hc
    have d0 := ab_a0_ok hpg c1
    have d1 := ab_pgd hpg c2
    have hnn : i.toNatClampNeg = i.toInt.toNat := rfl
    split at h
    · rename_i c5
      cases h
      have d2 := ab_pgd hpg c5
      intro vs hs ls sv H locs hv hh his
      obtain ⟨w, h1, h2⟩ := ab_l_get his.2.2.1 c3
      obtain ⟨q, h3, rfl⟩ := ab_cv1 h1
      obtain ⟨w2, h4, h5⟩ := ab_l_get his.2.2.1 c4
      obtain ⟨x, h6, rfl⟩ := ab_cv0 h4
      obtain ⟨v1, rfl⟩ := hv
      obtain ⟨v2, rfl⟩ := hh
      have e1 := ab_app v2 h0
      rw [h3] at e1
      cases e1
      have e2 := ab_app v1 hi
      rw [h6] at e2
      cases e2
      obtain ⟨ws, -, -, -, hS⟩ := his.2.2.2.2
      have hin : vp_in i L := by
        intro q
        rcases q with q | q
        · have := Int32.lt_iff_toInt_lt.mp q
          rw [Int32.toInt_zero] at this
          omega
        · omega
      refine lv_aload_n X.1 X.2.1 d0 rfl h2 (lv_iload_n X.1 X.2.1 d1 rfl h5 (va_sld X.1 X.2.1 hX hbl hbA hS hin d2 ?_))
      have e3 := hw 0 (by decide)
      rw [Nat.add_zero, Nat.add_zero] at e3
      exact hg _ List.mem_cons_self _ _ _ _ _ _ ⟨v1, rfl⟩ ⟨v2, rfl⟩ (ab_pv his (ab_cv0' (ab_app v1 e3)))
    · cases hk : ab_kcq (ab_as pg (pc + 2)) with
      | none => rw [hk] at h; cases h
      | some k =>
        rw [hk] at h
        dsimp only at h
        split at h
        · rename_i hc2
          obtain ⟨c5, c6, c7⟩ := hc2
          cases h
          obtain ⟨i3, d2, e3⟩ := ab_kcq_ok hpg hk
          have d3 := ab_pgd hpg c5
          have d4 := ab_pgd hpg c6
          have hkr := ab_kc_r e3
          intro vs hs ls sv H locs hv hh his
          obtain ⟨w, h1, h2⟩ := ab_l_get his.2.2.1 c3
          obtain ⟨q, h3, rfl⟩ := ab_cv1 h1
          obtain ⟨w2, h4, h5⟩ := ab_l_get his.2.2.1 c4
          obtain ⟨x, h6, rfl⟩ := ab_cv0 h4
          obtain ⟨v1, rfl⟩ := hv
          obtain ⟨v2, rfl⟩ := hh
          have e1 := ab_app v2 h0
          rw [h3] at e1
          cases e1
          have e2 := ab_app v1 hi
          rw [h6] at e2
          cases e2
          obtain ⟨ws, -, -, -, hS⟩ := his.2.2.2.2
          have ek : (Int32.ofInt k.1).toInt = k.1 := by rw [Int32.toInt_ofInt]; exact ab_bm (by omega) (by omega)
          have ea : (i + Int32.ofInt k.1).toInt = i.toInt + k.1 := by
            rw [Int32.toInt_add, ek]
            exact ab_bm (by omega) (by omega)
          have eb : (i + Int32.ofInt k.1).toNatClampNeg = i.toNatClampNeg + k.1.toNat := by
            show (i + Int32.ofInt k.1).toInt.toNat = i.toInt.toNat + k.1.toNat
            rw [ea]
            omega
          have hin : vp_in (i + Int32.ofInt k.1) L := by
            intro q
            rcases q with q | q
            · have := Int32.lt_iff_toInt_lt.mp q
              rw [Int32.toInt_zero, ea] at this
              omega
            · rw [eb] at q
              omega
          refine lv_aload_n X.1 X.2.1 d0 rfl h2 (lv_iload_n X.1 X.2.1 d1 rfl h5 (ab_kcW X.1 X.2.1 e3 d2 (lv_iadd X.1 X.2.1 d3 (va_sld X.1 X.2.1 hX hbl hbA hS hin d4 ?_))))
          have e4 := hw k.1.toNat (by omega)
          rw [← eb] at e4
          exact hg _ List.mem_cons_self _ _ _ _ _ _ ⟨v1, rfl⟩ ⟨v2, rfl⟩ (ab_pv his (ab_cv0' (ab_app v1 e4)))
        · cases h
  · cases h
end
