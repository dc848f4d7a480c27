def ab_s1 (σ : List Nat) (E0 E : List ab_I) (P : ab_P) : List Nat := ab_gr σ E.length (P.1.length - E0.length)
def ab_p1 (π : List Nat) (nh0 nh : Nat) (P : ab_P) : List Nat := ab_gr π nh (P.2.1 - nh0)
def ab_nE (σ : List Nat) (E0 E : List ab_I) (P : ab_P) : List ab_I := (if P.1.take E0.length = E0 then E else ab_me (σ.zip P.1) E) ++ P.1.drop E0.length
def ab_nH (σ π : List Nat) (E0 E : List ab_I) (nh0 nh : Nat) (hp0 hp : ab_H) (P : ab_P) : ab_H := (ab_rs hp.length (ab_ps hp π hp0)).map (fun i => hp.getD i (0, .inl (0, []))) ++ P.2.2.1.map (ab_sq (ab_s1 σ E0 E P) (ab_p1 π nh0 nh P))
def ab_nr (σ π : List Nat) (E0 E : List ab_I) (nh0 nh : Nat) (P : ab_P) : List ab_V := (P.2.2.2.map (ab_su (ab_s1 σ E0 E P) (ab_p1 π nh0 nh P))).toList
def ab_em (E : List ab_I) : Bool := E.all (fun i => decide (i.1 ≤ i.2))
theorem ab_em_ok {E : List ab_I} {vs : List Int32} (h : ab_e E vs) : ab_em E = true := by
  unfold ab_em
  rw [List.all_eq_true]
  intro i hi
  obtain ⟨k, hk⟩ := List.getElem?_of_mem hi
  obtain ⟨x, -, h1, h2⟩ := ab_e_at h hk
  exact decide_eq_true (Int.le_trans h1 h2)
theorem ab_drop_e {F : List ab_I} {v1 nv : List Int32} (h : ab_e F (v1 ++ nv)) {k : Nat} (hk : v1.length = k) : ab_e (F.drop k) nv := by
  subst hk
  refine ⟨?_, fun j i x h1 h2 => h.2 (v1.length + j) i x ?_ ?_⟩
  · have := h.1
    simp at this ⊢
    omega
  · rw [List.getElem?_drop] at h1
    exact h1
  · rw [List.getElem?_append_right (by omega), Nat.add_sub_cancel_left]
    exact h2
theorem ab_fst_e {F : List ab_I} {v1 nv : List Int32} (h : ab_e F (v1 ++ nv)) {j : Nat} {i : ab_I} {x : Int32} (h1 : F[j]? = some i) (h2 : v1[j]? = some x) : ab_in i x := h.2 j i x h1 (ab_app nv h2)
theorem ab_zip_inv {α β : Type} {l : List α} {r : List β} {q : α × β} (h : q ∈ l.zip r) : ∃ k : Nat, l[k]? = some q.1 ∧ r[k]? = some q.2 := by
  obtain ⟨k, hk⟩ := List.getElem?_of_mem h
  have h2 := List.getElem?_zip_eq_some.mp hk
  exact ⟨k, h2.1, h2.2⟩
theorem ab_aft {D : va_G} {cl : List vw_C} {A : Nat → Prop} {H0 : Heap} {sa : Nat → Nat} {dT : Nat → ClassId} {nL : Nat} {vs : List Int32} {hs : List Nat} {E E0 : List ab_I} {nh nh0 : Nat} {hp hp0 : ab_H} {loc : List (Nat × ab_V)} {rest : List ab_V} {ls : Array Slot} {rvs : List Value} {H H1 : Heap} {locs1 : List Loc} {ws w1 : va_W} {σ π : List Nat} {P : ab_P} {nv : List Int32} {nhs : List Nat} {rv : Option Value}
    (h1 : ab_e E vs) (h2 : hs.length = nh) (h3 : ab_l sa vs hs nL loc ls) (h4 : rest.map (ab_cv sa vs hs) = rvs.map some) (h5 : ab_w sa dT vs hs hp ws) (h6 : va_P D cl ws H) (h7 : va_D A ws) (c1 : ab_ek σ E0 E = true) (c0 : π.length = nh0) (c2 : ∀ k ∈ π, k < nh) (c3 : ab_ck σ π hp0 hp = true)
    (q1 : ab_e P.1 (ab_pk 0 vs σ ++ nv)) (q2 : (ab_pk 0 hs π ++ nhs).length = P.2.1) (q3 : P.2.2.2.map (ab_cv sa (ab_pk 0 vs σ ++ nv) (ab_pk 0 hs π ++ nhs)) = rv.map some) (q5 : ab_w sa dT (ab_pk 0 vs σ ++ nv) (ab_pk 0 hs π ++ nhs) P.2.2.1 w1) (q6 : va_P D cl w1 H1) (q7 : va_D (va_A (ab_pw ws (ab_ps hp π hp0)) H.size) w1)
    (hk : ∀ q : Nat, q < H.size → ¬ va_A (ab_pw ws (ab_ps hp π hp0)) H.size q → H1[q]? = H[q]?) (hF : ∀ q, va_A (ab_pw ws (ab_ps hp π hp0)) H.size q → A q) (hS1 : va_S A H0 H1 locs1) :
    ab_is D cl A H0 sa dT nL (vs ++ nv) (hs ++ nhs) (ab_nE σ E0 E P) (nh + (P.2.1 - nh0)) (ab_nH σ π E0 E nh0 nh hp0 hp P) loc (ab_nr σ π E0 E nh0 nh P ++ rest) ls (rv.toList ++ rvs) H1 locs1 := by
  obtain ⟨e1, l1⟩ := ab_ek_ok h1 c1
  obtain ⟨d1, d2, d3⟩ := ab_ck_ok h5 c3
  have l2 : ∀ k ∈ π, k < hs.length := fun k h => by rw [h2]; exact c2 k h
  have n1 : (ab_pk 0 vs σ).length = E0.length := e1.1
  have n2 : (ab_pk 0 hs π).length = nh0 := by simp [ab_pk, c0]
  have n3 : nv.length = P.1.length - E0.length := by
    have := q1.1
    rw [List.length_append] at this
    omega
  have n4 : nhs.length = P.2.1 - nh0 := by
    rw [List.length_append] at q2
    omega
  have hu : ∀ (v : ab_V) (w : Value), ab_cv sa (ab_pk 0 vs σ ++ nv) (ab_pk 0 hs π ++ nhs) v = some w → ab_cv sa (vs ++ nv) (hs ++ nhs) (ab_su (ab_s1 σ E0 E P) (ab_p1 π nh0 nh P) v) = some w := fun v w h => ab_su_up l1 l2 h1.1 (by omega) h2 (by omega) h
  have hme : ab_e (if P.1.take E0.length = E0 then E else ab_me (σ.zip P.1) E) vs := by
    split
    · exact h1
    · refine ab_me_ok _ _ _ h1 (fun q hq x hx => ?_)
      obtain ⟨k, g1, g2⟩ := ab_zip_inv hq
      exact ab_fst_e q1 g2 (ab_pk_at g1 hx)
  refine ⟨ab_e_app hme (ab_drop_e q1 n1), by rw [List.length_append]; omega, ab_l_mono nv nhs h3, ?_, ab_pw ws (ab_rs hp.length (ab_ps hp π hp0)) ++ w1, ?_, ?_⟩
  · rw [List.map_append, List.map_append, ab_monoL nv nhs h4]
    congr 1
    unfold ab_nr
    cases hr : P.2.2.2 with
    | none =>
      rw [hr] at q3
      cases rv with
      | none => rfl
      | some w => cases q3
    | some v =>
      rw [hr] at q3
      cases rv with
      | none => cases q3
      | some w =>
        have q4 : ab_cv sa (ab_pk 0 vs σ ++ nv) (ab_pk 0 hs π ++ nhs) v = some w := by simpa using q3
        show [ab_cv sa (vs ++ nv) (hs ++ nhs) (ab_su (ab_s1 σ E0 E P) (ab_p1 π nh0 nh P) v)] = [some w]
        rw [hu v w q4]
  · have r1 := (ab_rs_w h5 (ab_rs hp.length (ab_ps hp π hp0)) (fun i hi => List.mem_range.mp (List.mem_filter.mp hi).1)).2
    exact ab_w_app (ab_w_mono nv nhs r1) (ab_sq_up hu q5)
  · have r1 := (ab_rs_w h5 (ab_rs hp.length (ab_ps hp π hp0)) (fun i hi => List.mem_range.mp (List.mem_filter.mp hi).1)).1
    obtain ⟨j1, j2⟩ := va_join (A0 := A) (wr := ab_pw ws (ab_rs hp.length (ab_ps hp π hp0))) (w1 := w1) h6 h7 (ab_ps hp π hp0) (ab_rs hp.length (ab_ps hp π hp0)) d2 r1 (ab_rs_nd _ _) (fun i hi => ab_rs_dis i hi) hk hF q6 q7
    exact ⟨j1, j2, hS1⟩
theorem ab_P_pw {D : va_G} {cl : List vw_C} {ws : va_W} {H : Heap} {is : List Nat} (h : va_P D cl ws H) (hi : is.map (fun i => ws[i]?) = (ab_pw ws is).map some) : va_P D cl (ab_pw ws is) H := by
  intro k q hk
  have h1 : (is.map (fun i => ws[i]?))[k]? = some (some q) := by rw [hi, List.getElem?_map, hk]; rfl
  rw [List.getElem?_map] at h1
  cases h2 : is[k]? with
  | none => rw [h2] at h1; cases h1
  | some i =>
    rw [h2] at h1
    exact h i q (Option.some.inj h1)
theorem ab_split {sa : Nat → Nat} {vs : List Int32} {hs : List Nat} {a b : List ab_V} {sv : List Value} (h : (a.reverse ++ b).map (ab_cv sa vs hs) = sv.map some) : ∃ va vb : List Value, sv = va.reverse ++ vb ∧ a.map (ab_cv sa vs hs) = va.map some ∧ b.map (ab_cv sa vs hs) = vb.map some := by
  have hl := ab_lenL h
  rw [List.length_append, List.length_reverse] at hl
  refine ⟨(sv.take a.length).reverse, sv.drop a.length, by rw [List.reverse_reverse, List.take_append_drop], ?_, ?_⟩
  · have h1 := congrArg (List.take a.length) h
    rw [List.map_append, List.take_append_of_le_length (by simp), List.take_of_length_le (by simp), ← List.map_take] at h1
    have h2 := congrArg List.reverse h1
    rw [← List.map_reverse, List.reverse_reverse, ← List.map_reverse] at h2
    exact h2
  · have h1 := congrArg (List.drop a.length) h
    rw [List.map_append, List.drop_append_of_le_length (by simp), List.drop_of_length_le (by simp), ← List.map_drop, List.nil_append] at h1
    exact h1
section
variable {p : Program} {l : Launch} {e : Env} {R : Room} {s : State} {m : MethodId} {args : Array Value} {below : List Frame} {meth : Method} {c : Code} {Q : State → Prop} {cc : ByteArray} {own : String} {nL : Nat} {D : va_G} {cl : List vw_C} {rn : List String} {A : Nat → Prop} {Ts : List Cond} {sa : Nat → Nat} {dT : Nat → ClassId} {vs0 : List Int32} {hs0 : List Nat} {pc : Nat} {E : List ab_I} {nh nc ns : Nat} {hp : ab_H} {loc : List (Nat × ab_V)} {st : List ab_V}
variable {SL : ab_SL} {NF : ab_NF} {NM : ab_NM} {Tc : List Cond} {y : MethodName} {bytes : ByteArray} {maxL n ix rci : Nat} {ret : Option FieldType} {E0 : List ab_I} {nh0 : Nat} {hp0 : ab_H} {as0 : List ab_V} {posts : List ab_P} {rm : Room} {σ π : List Nat} {rest : List ab_V}
theorem ab_invV (X : ab_X p s m args c cc own nL D cl (ab_tys dT rn) A Ts) (SX : ab_SX rn SL NF NM sa A s s.heap) (hM : ab_met l cl rn SL NF NM Tc y bytes maxL ret E0 nh0 hp0 as0 posts rm) (hG : GoodIn Ts (.code y bytes maxL ret :: Tc)) (hL : ab_ML s args own cl 0 ix y ret n rci) (hd : decode cc pc = .ok (.invokevirtual ix, 3)) {a0 : Nat} {fs0 : List ab_V} {j0 : Nat} (hrc : (as0.map (ab_su σ π)).head? = some (1, a0)) (hrf : ab_fi hp a0 0 = some (j0, .inl (rci, fs0))) (hn : as0.length = n + 1) (c1 : ab_ek σ E0 E = true) (c0 : π.length = nh0) (c2 : ∀ k ∈ π, k < nh) (c3 : ab_ck σ π hp0 hp = true) (hr : rest.length ≤ 8) (hR : rm.frames + 1 ≤ R.frames ∧ 8 + (maxL + 11) + rm.locals ≤ R.locals) (hcap : nc + rm.cells ≤ R.cells ∧ ns + rm.slots ≤ R.slots)
    (g : ∀ P ∈ posts, ab_em (ab_nE σ E0 E P) = true → ab_G p l e R s m args below meth c Q D cl A sa dT nL vs0 hs0 (pc + 3) (ab_nE σ E0 E P) (nh + (P.2.1 - nh0)) (ab_nH σ π E0 E nh0 nh hp0 hp P) loc (ab_nr σ π E0 E nh0 nh P ++ rest) (nc + rm.cells) (ns + rm.slots)) : ab_G p l e R s m args below meth c Q D cl A sa dT nL vs0 hs0 pc E nh hp loc ((as0.map (ab_su σ π)).reverse ++ rest) nc ns := by
  intro vs hs ls sv H locs hv hh his
  obtain ⟨h1, h2, h3, h4, ws, h5, h6, h7, h8⟩ := his
  obtain ⟨vals, rvs, rfl, ha, h4r⟩ := ab_split h4
  obtain ⟨e1, l1⟩ := ab_ek_ok h1 c1
  obtain ⟨d1, d2, d3⟩ := ab_ck_ok h5 c3
  have hP1 := ab_P_pw h6 d2
  have hD1 := h7.sub (ab_ps hp π hp0) d1 d2
  have hFc := va_free (wc := ab_pw ws (ab_ps hp π hp0)) h7 h8 X.2.2.2.2.2.2 (ab_ps hp π hp0) d2
  have M := hM D sa dT (ab_pk 0 vs σ) (ab_pk 0 hs π) (ab_pw ws (ab_ps hp π hp0)) vals H.size e1 (by simp [ab_pk, c0]) d3 (ab_su_dnL ha)
  obtain ⟨b, vals', rfl, hb⟩ : ∃ (b : Nat) (vals' : List Value), vals = .ref b :: vals' ∧ hs[a0]? = some b := by
    cases has : as0.map (ab_su σ π) with
    | nil => rw [has] at hrc; cases hrc
    | cons x r =>
      rw [has] at hrc ha
      cases hrc
      cases vals with
      | nil => cases ha
      | cons w ws2 =>
        simp only [List.map_cons, List.cons.injEq] at ha
        obtain ⟨q, g1, rfl⟩ := ab_cv1 ha.1
        exact ⟨q, ws2, rfl, g1⟩
  have hnv : vals'.length = n := by
    have := ab_lenL ha
    simp at this
    omega
  have est : (Value.ref b :: vals').reverse ++ rvs = vals'.reverse ++ .ref b :: rvs := by simp
  rw [est]
  refine ab_cont (ab_runV X M hG hL hR ⟨ab_B_blind, fun U hU hW => ⟨rfl, by rw [hU], by rw [hU]; exact hP1, va_K.moved hW.alike X.2.2.2.2.2.1, hD1.weaken (fun _ _ _ _ => trivial), by rw [hU]; exact ab_SX_warm hW h8.2.1 hFc SX⟩⟩ (fun q hq2 => by
    obtain ⟨ce, g1, g2⟩ := ab_w_at h5 hrf hb
    obtain ⟨fw, rfl, g3⟩ := g2
    exact va_recv X.2.2.2.2.2.1 h6 hq2 g1) hnv h3.1.1 (by rw [ab_cat_sum h4r]; exact hr) hd hcap) h8 hFc hFc (fun _ _ _ q => q.2) (fun v st₀ t locs1 h0 hq hk hS1 => ?_)
  obtain ⟨⟨P, hP, nv, nhs, w1, rv, q1, q2, q3, q4, q5, q6, q7⟩, -⟩ := hq
  cases q4
  have af := ab_aft h1 h2 h3 h4r h5 h6 h7 c1 c0 c2 c3 q1 q2 q3 q5 q6 q7 hk hFc hS1
  exact g P hP (ab_em_ok af.1) _ _ _ _ _ _ (ab_x1 _ hv) (ab_x1 _ hh) af
theorem ab_invS (X : ab_X p s m args c cc own nL D cl (ab_tys dT rn) A Ts) (SX : ab_SX rn SL NF NM sa A s s.heap) (hM : ab_met l cl rn SL NF NM Tc y bytes maxL ret E0 nh0 hp0 as0 posts rm) (hG : GoodIn Ts (.code y bytes maxL ret :: Tc)) (hL : ab_ML s args own cl 1 ix y ret n rci) (hd : decode cc pc = .ok (.invokestatic ix, 3)) (hn : as0.length = n) (c1 : ab_ek σ E0 E = true) (c0 : π.length = nh0) (c2 : ∀ k ∈ π, k < nh) (c3 : ab_ck σ π hp0 hp = true) (hr : rest.length ≤ 8) (hR : rm.frames + 1 ≤ R.frames ∧ 8 + (maxL + 11) + rm.locals ≤ R.locals) (hcap : nc + rm.cells ≤ R.cells ∧ ns + rm.slots ≤ R.slots)
    (g : ∀ P ∈ posts, ab_em (ab_nE σ E0 E P) = true → ab_G p l e R s m args below meth c Q D cl A sa dT nL vs0 hs0 (pc + 3) (ab_nE σ E0 E P) (nh + (P.2.1 - nh0)) (ab_nH σ π E0 E nh0 nh hp0 hp P) loc (ab_nr σ π E0 E nh0 nh P ++ rest) (nc + rm.cells) (ns + rm.slots)) : ab_G p l e R s m args below meth c Q D cl A sa dT nL vs0 hs0 pc E nh hp loc ((as0.map (ab_su σ π)).reverse ++ rest) nc ns := by
  intro vs hs ls sv H locs hv hh his
  obtain ⟨h1, h2, h3, h4, ws, h5, h6, h7, h8⟩ := his
  obtain ⟨vals, rvs, rfl, ha, h4r⟩ := ab_split h4
  obtain ⟨e1, l1⟩ := ab_ek_ok h1 c1
  obtain ⟨d1, d2, d3⟩ := ab_ck_ok h5 c3
  have hP1 := ab_P_pw h6 d2
  have hD1 := h7.sub (ab_ps hp π hp0) d1 d2
  have hFc := va_free (wc := ab_pw ws (ab_ps hp π hp0)) h7 h8 X.2.2.2.2.2.2 (ab_ps hp π hp0) d2
  have M := hM D sa dT (ab_pk 0 vs σ) (ab_pk 0 hs π) (ab_pw ws (ab_ps hp π hp0)) vals H.size e1 (by simp [ab_pk, c0]) d3 (ab_su_dnL ha)
  have hnv : vals.length = n := by
    have := ab_lenL ha
    simp at this
    omega
  refine ab_cont (ab_runS X M hG hL hR ⟨ab_B_blind, fun U hU hW => ⟨rfl, by rw [hU], by rw [hU]; exact hP1, va_K.moved hW.alike X.2.2.2.2.2.1, hD1.weaken (fun _ _ _ _ => trivial), by rw [hU]; exact ab_SX_warm hW h8.2.1 hFc SX⟩⟩ hnv h3.1.1 (by rw [ab_cat_sum h4r]; exact hr) hd hcap) h8 hFc hFc (fun _ _ _ q => q.2) (fun v st₀ t locs1 h0 hq hk hS1 => ?_)
  obtain ⟨⟨P, hP, nv, nhs, w1, rv, q1, q2, q3, q4, q5, q6, q7⟩, -⟩ := hq
  cases q4
  have af := ab_aft h1 h2 h3 h4r h5 h6 h7 c1 c0 c2 c3 q1 q2 q3 q5 q6 q7 hk hFc hS1
  exact g P hP (ab_em_ok af.1) _ _ _ _ _ _ (ab_x1 _ hv) (ab_x1 _ hh) af
theorem ab_invI (X : ab_X p s m args c cc own nL D cl (ab_tys dT rn) A Ts) (SX : ab_SX rn SL NF NM sa A s s.heap) (hM : ab_met l cl rn SL NF NM Tc y bytes maxL ret E0 nh0 hp0 as0 posts rm) (hG : GoodIn Ts (.code y bytes maxL ret :: Tc)) (hL : ab_ML s args own cl 2 ix y ret n rci) (hd : decode cc pc = .ok (.invokespecial ix, 3)) {a0 : Nat} (hrc : (as0.map (ab_su σ π)).head? = some (1, a0)) (hret : ret = none) (hn : as0.length = n + 1) (c1 : ab_ek σ E0 E = true) (c0 : π.length = nh0) (c2 : ∀ k ∈ π, k < nh) (c3 : ab_ck σ π hp0 hp = true) (hr : rest.length ≤ 8) (hR : rm.frames + 1 ≤ R.frames ∧ 8 + (maxL + 11) + rm.locals ≤ R.locals) (hcap : nc + rm.cells ≤ R.cells ∧ ns + rm.slots ≤ R.slots)
    (g : ∀ P ∈ posts, ab_em (ab_nE σ E0 E P) = true → ab_G p l e R s m args below meth c Q D cl A sa dT nL vs0 hs0 (pc + 3) (ab_nE σ E0 E P) (nh + (P.2.1 - nh0)) (ab_nH σ π E0 E nh0 nh hp0 hp P) loc (ab_nr σ π E0 E nh0 nh P ++ rest) (nc + rm.cells) (ns + rm.slots)) : ab_G p l e R s m args below meth c Q D cl A sa dT nL vs0 hs0 pc E nh hp loc ((as0.map (ab_su σ π)).reverse ++ rest) nc ns := by
  intro vs hs ls sv H locs hv hh his
  obtain ⟨h1, h2, h3, h4, ws, h5, h6, h7, h8⟩ := his
  obtain ⟨vals, rvs, rfl, ha, h4r⟩ := ab_split h4
  obtain ⟨e1, l1⟩ := ab_ek_ok h1 c1
  obtain ⟨d1, d2, d3⟩ := ab_ck_ok h5 c3
  have hP1 := ab_P_pw h6 d2
  have hD1 := h7.sub (ab_ps hp π hp0) d1 d2
  have hFc := va_free (wc := ab_pw ws (ab_ps hp π hp0)) h7 h8 X.2.2.2.2.2.2 (ab_ps hp π hp0) d2
  have M := hM D sa dT (ab_pk 0 vs σ) (ab_pk 0 hs π) (ab_pw ws (ab_ps hp π hp0)) vals H.size e1 (by simp [ab_pk, c0]) d3 (ab_su_dnL ha)
  obtain ⟨b, vals', rfl, hb⟩ : ∃ (b : Nat) (vals' : List Value), vals = .ref b :: vals' ∧ hs[a0]? = some b := by
    cases has : as0.map (ab_su σ π) with
    | nil => rw [has] at hrc; cases hrc
    | cons x r =>
      rw [has] at hrc ha
      cases hrc
      cases vals with
      | nil => cases ha
      | cons w ws2 =>
        simp only [List.map_cons, List.cons.injEq] at ha
        obtain ⟨q, g1, rfl⟩ := ab_cv1 ha.1
        exact ⟨q, ws2, rfl, g1⟩
  have hnv : vals'.length = n := by
    have := ab_lenL ha
    simp at this
    omega
  have est : (Value.ref b :: vals').reverse ++ rvs = vals'.reverse ++ .ref b :: rvs := by simp
  rw [est]
  subst hret
  refine ab_cont (ab_runI X M hG hL hR ⟨ab_B_blind, fun U hU hW => ⟨rfl, by rw [hU], by rw [hU]; exact hP1, va_K.moved hW.alike X.2.2.2.2.2.1, hD1.weaken (fun _ _ _ _ => trivial), by rw [hU]; exact ab_SX_warm hW h8.2.1 hFc SX⟩⟩ hnv h3.1.1 (by rw [ab_cat_sum h4r]; exact hr) hd hcap) h8 hFc hFc (fun _ _ _ q => q.2) (fun v st₀ t locs1 h0 hq hk hS1 => ?_)
  obtain ⟨⟨P, hP, nv, nhs, w1, rv, q1, q2, q3, q4, q5, q6, q7⟩, -⟩ := hq
  cases q4
  have af := ab_aft h1 h2 h3 h4r h5 h6 h7 c1 c0 c2 c3 q1 q2 q3 q5 q6 q7 hk hFc hS1
  exact g P hP (ab_em_ok af.1) _ _ _ _ _ _ (ab_x1 _ hv) (ab_x1 _ hh) af

theorem ab_retQ {ws0 : va_W} {sz : Nat} {vs : List Int32} {hs : List Nat} {ls : Array Slot} {sv : List Value} {H : Heap} {locs : List Loc} {P : ab_P} {rv : Option Value} (hv : ∃ v, vs = vs0 ++ v) (hh : ∃ h, hs = hs0 ++ h) (his : ab_is D cl (va_A ws0 sz) s.heap sa dT nL vs hs E nh hp loc st ls sv H locs) (hP : P ∈ posts) (c1 : ab_ek σ P.1 E = true) (c0 : π.length = P.2.1) (c2 : ∀ k ∈ π, k < nh) (c3 : ab_ck σ π P.2.2.1 hp = true) (c4 : σ.take vs0.length = List.range vs0.length) (c5 : π.take hs0.length = List.range hs0.length) (c6 : (P.2.2.2.map (ab_su σ π)).map (ab_cv sa vs hs) = rv.map some) {t : State} (ht : t.heap = H) : ab_Q cl D sa dT vs0 hs0 ws0 sz posts args s (.returned rv) t := by
  obtain ⟨h1, h2, h3, h4, ws, h5, h6, h7, h8⟩ := his
  obtain ⟨e1, l1⟩ := ab_ek_ok h1 c1
  obtain ⟨d1, d2, d3⟩ := ab_ck_ok h5 c3
  have k1 : ab_pk 0 vs σ = vs0 ++ (ab_pk 0 vs σ).drop vs0.length := by
    have : (ab_pk 0 vs σ).take vs0.length = vs0 := by
      obtain ⟨v, rfl⟩ := hv
      unfold ab_pk
      rw [← List.map_take, c4]
      apply List.ext_getElem?
      intro j
      rw [List.getElem?_map]
      by_cases hj : j < vs0.length
      · rw [List.getElem?_range hj]
        simp [List.getD_eq_getElem?_getD, List.getElem?_append_left hj, List.getElem?_eq_getElem hj]
      · rw [List.getElem?_eq_none (by simp; omega), List.getElem?_eq_none (by omega)]
        rfl
    conv => lhs; rw [← List.take_append_drop vs0.length (ab_pk 0 vs σ), this]
  have k2 : ab_pk 0 hs π = hs0 ++ (ab_pk 0 hs π).drop hs0.length := by
    have : (ab_pk 0 hs π).take hs0.length = hs0 := by
      obtain ⟨v, rfl⟩ := hh
      unfold ab_pk
      rw [← List.map_take, c5]
      apply List.ext_getElem?
      intro j
      rw [List.getElem?_map]
      by_cases hj : j < hs0.length
      · rw [List.getElem?_range hj]
        simp [List.getD_eq_getElem?_getD, List.getElem?_append_left hj, List.getElem?_eq_getElem hj]
      · rw [List.getElem?_eq_none (by simp; omega), List.getElem?_eq_none (by omega)]
        rfl
    conv => lhs; rw [← List.take_append_drop hs0.length (ab_pk 0 hs π), this]
  refine ⟨⟨P, hP, (ab_pk 0 vs σ).drop vs0.length, (ab_pk 0 hs π).drop hs0.length, ab_pw ws (ab_ps hp π P.2.2.1), rv, ?_, ?_, ?_, rfl, ?_, ?_, ?_⟩, h8.F ht⟩
  · rw [← k1]; exact e1
  · rw [← k2]; simp [ab_pk, c0]
  · rw [← k1, ← k2]
    cases hr : P.2.2.2 with
    | none => rw [hr] at c6; exact c6
    | some v =>
      rw [hr] at c6
      cases rv with
      | none => cases c6
      | some w =>
        have q4 : ab_cv sa vs hs (ab_su σ π v) = some w := by simpa using c6
        show some (ab_cv sa (ab_pk 0 vs σ) (ab_pk 0 hs π) v) = some (some w)
        rw [ab_su_dn q4]
  · rw [← k1, ← k2]; exact d3
  · rw [ht]; exact ab_P_pw h6 d2
  · exact h7.sub _ d1 d2
theorem ab_vret {ws0 : va_W} {sz : Nat} {P : ab_P} (X : ab_X p s m args c cc own nL D cl (ab_tys dT rn) (va_A ws0 sz) Ts) (hl : meth.locks = false) (hr : meth.sig.returnType = none) (hd : decode cc pc = .ok (.return_, 1)) (hcap : nc ≤ rm.cells ∧ ns ≤ rm.slots) (hP : P ∈ posts) (c1 : ab_ek σ P.1 E = true) (c0 : π.length = P.2.1) (c2 : ∀ k ∈ π, k < nh) (c3 : ab_ck σ π P.2.2.1 hp = true) (c4 : σ.take vs0.length = List.range vs0.length) (c5 : π.take hs0.length = List.range hs0.length) (c6 : P.2.2.2 = none) :
    ab_G p l e R s m args below meth c (MQ below (ab_Q cl D sa dT vs0 hs0 ws0 sz posts) args s rm.cells rm.slots (va_A ws0 sz)) D cl (va_A ws0 sz) sa dT nL vs0 hs0 pc E nh hp loc [] nc ns := by
  intro vs hs ls sv H locs hv hh his
  have e : sv = [] := by
    have := ab_lenL his.2.2.2.1
    cases sv with
    | nil => rfl
    | cons a r => cases this
  subst e
  refine W.widen (k := rm.cells) (n := rm.slots) hcap.1 hcap.2 ?_
  have hS := his.2.2.2.2
  obtain ⟨ws, -, -, -, hS⟩ := hS
  exact W.vret X.1 X.2.1 hr (fun t ht hW => ab_retQ hv hh his hP c1 c0 c2 c3 c4 c5 (by rw [c6]; rfl) ht) hS.2.2 hd hl
theorem ab_iret {ws0 : va_W} {sz kx : Nat} {P : ab_P} {ty : FieldType} {i : ab_I} (X : ab_X p s m args c cc own nL D cl (ab_tys dT rn) (va_A ws0 sz) Ts) (hl : meth.locks = false) (hr : meth.sig.returnType = some ty) (hi : E[kx]? = some i) (hty : ty = .int ∨ (ty = .boolean ∧ 0 ≤ i.1 ∧ i.2 ≤ 1)) (hd : decode cc pc = .ok (.ireturn, 1)) (hcap : nc ≤ rm.cells ∧ ns ≤ rm.slots) (hP : P ∈ posts) (c1 : ab_ek σ P.1 E = true) (c0 : π.length = P.2.1) (c2 : ∀ k ∈ π, k < nh) (c3 : ab_ck σ π P.2.2.1 hp = true) (c4 : σ.take vs0.length = List.range vs0.length) (c5 : π.take hs0.length = List.range hs0.length) (c6 : P.2.2.2.map (ab_su σ π) = some (0, kx)) :
    ab_G p l e R s m args below meth c (MQ below (ab_Q cl D sa dT vs0 hs0 ws0 sz posts) args s rm.cells rm.slots (va_A ws0 sz)) D cl (va_A ws0 sz) sa dT nL vs0 hs0 pc E nh hp loc [(0, kx)] nc ns := by
  intro vs hs ls sv H locs hv hh his
  obtain ⟨w, sv, rfl, hw, his2⟩ := ab_pop his
  obtain ⟨x, hx, rfl⟩ := ab_cv0 hw
  have e : sv = [] := by
    have := ab_lenL his2.2.2.2.1
    cases sv with
    | nil => rfl
    | cons a r => cases this
  subst e
  refine W.widen (k := rm.cells) (n := rm.slots) hcap.1 hcap.2 ?_
  have hS := his.2.2.2.2
  obtain ⟨ws, -, -, -, hS⟩ := hS
  have hn : narrow ty (.int x) = .int x := by
    rcases hty with rfl | ⟨rfl, g1, g2⟩
    · rfl
    · have g3 := his.1.2 kx i x hi hx
      have g4 : x.toInt = 0 ∨ x.toInt = 1 := by have := g3.1; have := g3.2; omega
      rcases g4 with g4 | g4
      · have : x = 0 := Int32.toInt_inj.mp (by rw [g4, Int32.toInt_zero])
        subst this
        rfl
      · have : x = 1 := Int32.toInt_inj.mp (by rw [g4]; rfl)
        subst this
        rfl
  exact W.zret X.1 X.2.1 hr hn (fun t ht hW => ab_retQ hv hh his hP c1 c0 c2 c3 c4 c5 (by rw [c6]; show some (ab_cv sa vs hs (0, kx)) = some (some (Value.int x)); rw [hw]) ht) hS.2.2 hd hl
end
