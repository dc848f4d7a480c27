theorem cp_nat {k : Nat} (h : k < 2147483648) : (Int32.ofNat k).toInt = (k : Int) ∧ (Int32.ofNat k).toNatClampNeg = k := by
  have e : (Int32.ofNat k).toInt = (k : Int) := by
    have : Int32.ofNat k = Int32.ofInt (k : Int) := rfl
    rw [this, Int32.toInt_ofInt]
    exact ab_bm (by omega) (by omega)
  refine ⟨e, ?_⟩
  show (Int32.ofNat k).toInt.toNat = k
  rw [e]
  omega
def cp_D (cc : ByteArray) : Prop := decode cc 0 = .ok (.iconst 0, 1) ∧ decode cc 1 = .ok (.istore_n 2, 1) ∧ decode cc 2 = .ok (.iload_n 2, 1) ∧ decode cc 3 = .ok (.aload_n 0, 1) ∧ decode cc 4 = .ok (.arraylength, 1) ∧ decode cc 5 = .ok (.if_icmp .ge 15, 3) ∧ decode cc 8 = .ok (.aload_n 1, 1) ∧ decode cc 9 = .ok (.iload_n 2, 1) ∧ decode cc 10 = .ok (.aload_n 0, 1) ∧ decode cc 11 = .ok (.iload_n 2, 1) ∧ decode cc 12 = .ok (.iaload, 1) ∧ decode cc 13 = .ok (.iastore, 1) ∧ decode cc 14 = .ok (.iinc 2 1, 3) ∧ decode cc 17 = .ok (.goto (-15), 3) ∧ decode cc 20 = .ok (.return_, 1)
section
variable {p : Program} {l : Launch} {e : Env} {R : Room} {s : State} {m : MethodId} {args : Array Value} {below : List Frame} {meth : Method} {c : Code} {Q : State → Prop} {cc : ByteArray} {own : String} {D : va_G} {cl : List vw_C} {rn : List String} {A : Nat → Prop} {Ts : List Cond} {dT : Nat → ClassId}
theorem cp_loop (X : ab_X p s m args c cc own 3 D cl (ab_tys dT rn) A Ts) (hd : cp_D cc) {n q0 q1 : Nat} (hn : n < 2147483648) {f : Nat → Int32} {B : Nat → Int32 → Prop} (hB : ∀ i, i < n → B i (f i))
    (fin : ∀ (g : Nat → Int32) (H : Heap) (locs : List Loc) (ls : Array Slot), va_P D cl [(q0, .inl (dT 0, n, .inl f)), (q1, .inl (dT 0, n, .inl g))] H → va_D A [(q0, .inl (dT 0, n, .inl f)), (q1, .inl (dT 0, n, .inl g))] → va_S A s.heap H locs → (∀ i, i < n → B i (g i)) → W p l e R s m args below meth c H locs 0 0 Q (F0 m 20 ls [])) :
    ∀ (d k : Nat) (g : Nat → Int32) (H : Heap) (locs : List Loc) (ls : Array Slot), k + d = n → va_P D cl [(q0, .inl (dT 0, n, .inl f)), (q1, .inl (dT 0, n, .inl g))] H → va_D A [(q0, .inl (dT 0, n, .inl f)), (q1, .inl (dT 0, n, .inl g))] → va_S A s.heap H locs → (∀ i, i < n → B i (g i)) → lv_has ls 3 [(2, .int (Int32.ofNat k)), (0, .ref q0), (1, .ref q1)] → W p l e R s m args below meth c H locs 0 0 Q (F0 m 2 ls []) := by
  obtain ⟨-, -, d2, d3, d4, d5, d8, d9, d10, d11, d12, d13, d14, d17, -⟩ := hd
  intro d
  induction d with
  | zero =>
    intro k g H locs ls hk hP hD hS hg hl
    refine lv_iload_n X.1 X.2.1 d2 rfl (lv_at hl 0 rfl) ?_
    refine lv_aload_n X.1 X.2.1 d3 rfl (lv_at hl 1 rfl) ?_
    refine va_alen X.1 X.2.1 X.2.2.2.2.2.1 hP 0 0 rfl rfl rfl d4 ?_
    refine lv_icmp_ge X.1 X.2.1 d5 (tgt := 20) (by decide) (fun _ => fin g H locs ls hP hD hS hg) (fun h => ?_)
    exact absurd (by rw [Int32.le_iff_toInt_le, (cp_nat hn).1, (cp_nat (k := k) (by omega)).1]; omega) h
  | succ d ih =>
    intro k g H locs ls hk hP hD hS hg hl
    refine lv_iload_n X.1 X.2.1 d2 rfl (lv_at hl 0 rfl) ?_
    refine lv_aload_n X.1 X.2.1 d3 rfl (lv_at hl 1 rfl) ?_
    refine va_alen X.1 X.2.1 X.2.2.2.2.2.1 hP 0 0 rfl rfl rfl d4 ?_
    refine lv_icmp_ge X.1 X.2.1 d5 (tgt := 20) (by decide) (fun h => ?_) (fun _ => ?_)
    · rw [Int32.le_iff_toInt_le, (cp_nat hn).1, (cp_nat (k := k) (by omega)).1] at h
      omega
    · have hkn : k < n := by omega
      have hck := (cp_nat (k := k) (by omega))
      have hin : vp_in (Int32.ofNat k) n := by
        intro q
        rcases q with q | q
        · have := Int32.lt_iff_toInt_lt.mp q
          rw [Int32.toInt_zero, hck.1] at this
          omega
        · rw [hck.2] at q
          omega
      refine lv_aload_n X.1 X.2.1 d8 rfl (lv_at hl 2 rfl) ?_
      refine lv_iload_n X.1 X.2.1 d9 rfl (lv_at hl 0 rfl) ?_
      refine lv_aload_n X.1 X.2.1 d10 rfl (lv_at hl 1 rfl) ?_
      refine lv_iload_n X.1 X.2.1 d11 rfl (lv_at hl 0 rfl) ?_
      refine va_iald X.1 X.2.1 X.2.2.2.2.2.1 hP 0 0 rfl rfl hin d12 ?_
      refine va_iast X.1 X.2.1 X.2.2.2.2.2.1 hP hD hS 1 0 rfl rfl hin d13 (fun H1 locs1 r1 r2 r3 => ?_)
      refine lv_iinc (k := 0) (v := Int32.ofNat (k + 1)) X.1 X.2.1 d14 hl rfl (Int32.ofNat_add k 1).symm (by decide) rfl (fun ls' h' => ?_)
      refine lv_goto X.1 X.2.1 d17 (tgt := 2) (by decide) ?_
      refine ih (k + 1) (upd g (Int32.ofNat k).toNatClampNeg (f (Int32.ofNat k).toNatClampNeg)) H1 locs1 ls' (by omega) r1 r2 r3 (fun i hi => ?_) h'
      unfold upd
      split
      · rename_i hz
        rw [hck.2] at hz ⊢
        rw [hz]
        exact hB k hkn
      · exact hg i hi
end
theorem cp_met (l : Launch) {cl : List vw_C} {rn : List String} {SL : ab_SL} {NF : ab_NF} {NM : ab_NM} {Tc : List Cond} {y : MethodName} {cc : ByteArray} (hpl : plainName y.cls = true) (hd : cp_D cc) (n : Nat) (hn : n < 2147483648) (lo hi lo0 hi0 lo1 hi1 lo2 hi2 lo3 hi3 lo4 hi4 : Int) (h3 : min lo lo1 = lo3) (h4 : max hi hi1 = hi3) (h5 : min lo0 lo2 = lo4) (h6 : max hi0 hi2 = hi4) :
    ab_met l cl rn SL NF NM Tc y cc 3 none [] 2 [(0, .inr (.inl (n, lo, hi, lo0, hi0))), (1, .inr (.inl (n, lo1, hi1, lo2, hi2)))] [(1, 0), (1, 1)] [([], 2, [(0, .inr (.inl (n, lo, hi, lo0, hi0))), (1, .inr (.inl (n, lo3, hi3, lo4, hi4)))], none)] { frames := 0, cells := 0, slots := 0, locals := 0 } := by
  intro D sa dT vs0 hs0 ws vals sz he hnh hw ha
  subst h3
  subst h4
  subst h5
  subst h6
  refine Met.ofW (cc := cc) (maxL := 3) (ret := none) hpl rfl ?_
  intro p e s m args below meth c s₁ B hml hv
  obtain ⟨rfl, hsz, hP, hK, hD0, hSX⟩ := hv
  have hts := atoms_spec (ws := .code y cc 3 none :: Tc) B.pre
  have hts2 : ∀ w ∈ Tc, w.before vals.toArray s = true := fun w h => hts w (List.mem_cons_of_mem _ h)
  have hown : s.vm.findClass y.cls = some m.cls := findClass_of_methodNamed B.named
  subst hsz
  have hD := hD0.self (sz := s.heap.size)
  have X : ab_X p s m vals.toArray c cc y.cls 3 D cl (ab_tys dT rn) (va_A ws s.heap.size) Tc := ⟨B.exec, B.bytes, hml, hown, hts2, hK, fun q h => Or.inr h⟩
  have hlk := B.notSynchronized
  have hrt := B.returns
  obtain ⟨q0, e0, g01, g02, g03⟩ := hw.2 0 0 _ rfl
  obtain ⟨q1, e1, g11, g12, g13⟩ := hw.2 1 1 _ rfl
  obtain ⟨f, rfl, hf⟩ := g03
  obtain ⟨g, rfl, hg⟩ := g13
  have hws : ws = [(q0, .inl (dT 0, n, .inl f)), (q1, .inl (dT 0, n, .inl g))] := by
    have hl := hw.1
    match ws, hl, g02, g12 with
    | [a, b], _, h1, h2 =>
      cases h1
      cases h2
      rfl
  have hva : vals = [.ref q0, .ref q1] := by
    have hl := ab_lenL ha
    match vals, hl, ha with
    | [a, b], _, h =>
      simp only [List.map_cons, List.map_nil, List.cons.injEq] at h
      obtain ⟨x, k1, k2⟩ := ab_cv1 h.1
      obtain ⟨x2, k3, k4⟩ := ab_cv1 h.2.1
      rw [g01] at k1
      rw [g11] at k3
      cases k1
      cases k3
      rw [k2, k4]
  have hl := lv_entry vals (n := 3) (by rw [(ab_lo_ok _ _ 0 ha).2.2, ← ab_lenL ha]; decide)
  rw [lg_entry_eq]
  generalize (lg_sl vals ++ List.replicate (3 - (lg_sl vals).length) Slot.unset).toArray = ls at hl ⊢
  rw [hva] at hl
  have hl : lv_has ls 3 [(0, .ref q0), (1, .ref q1)] := hl
  obtain ⟨d0, d1, -⟩ := id hd
  have d20 : decode cc 20 = .ok (.return_, 1) := hd.2.2.2.2.2.2.2.2.2.2.2.2.2.2
  refine lv_iconst (v := 0) B.exec B.bytes d0 rfl ?_
  refine lv_istore_n B.exec B.bytes d1 rfl hl (by decide) rfl (fun ls' h' => ?_)
  have h' : lv_has ls' 3 [(2, .int (Int32.ofNat 0)), (0, .ref q0), (1, .ref q1)] := h'
  rw [hws] at hP
  have hD2 : va_D (va_A ws s.heap.size) [(q0, .inl (dT 0, n, .inl f)), (q1, .inl (dT 0, n, .inl g))] := by rw [← hws]; exact hD
  refine cp_loop (B := fun i x => ab_in (ab_b5 (min lo lo1) (max hi hi1) (min lo0 lo2) (max hi0 hi2) i) x) X hd hn (fun i hi => ab_b5_l (hf i hi)) (fun g2 H locs ls2 k1 k2 k3 k4 => ?_) n 0 g s.heap [] ls' (by omega) hP hD2 va_S.rf (fun i hi => ab_b5_r (hg i hi)) h'
  refine W.vret B.exec B.bytes hrt (fun t ht hW => ⟨⟨_, List.mem_cons_self, [], [], [(q0, .inl (dT 0, n, .inl f)), (q1, .inl (dT 0, n, .inl g2))], none, ?_, ?_, rfl, rfl, ?_, ?_, k2⟩, k3.F ht⟩) k3.2.2 d20 hlk
  · rw [List.append_nil]
    exact he
  · rw [List.append_nil]
    exact hnh
  · rw [List.append_nil, List.append_nil]
    refine ⟨rfl, fun j a x hj => ?_⟩
    match j, hj with
    | 0, hj =>
      cases hj
      exact ⟨q0, _, g01, rfl, f, rfl, hf⟩
    | 1, hj =>
      cases hj
      exact ⟨q1, _, g11, rfl, g2, rfl, k4⟩
    | j + 2, hj => cases hj
  · rw [ht]
    exact k1
theorem copy_D : cp_D prog_6_method_3_code := ⟨by decide +kernel, by decide +kernel, by decide +kernel, by decide +kernel, by decide +kernel, by decide +kernel, by decide +kernel, by decide +kernel, by decide +kernel, by decide +kernel, by decide +kernel, by decide +kernel, by decide +kernel, by decide +kernel, by decide +kernel⟩
