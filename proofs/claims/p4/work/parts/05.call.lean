def ab_su (σ π : List Nat) (v : ab_V) : ab_V := match v.1 with
  | 0 => (match σ[v.2]? with
    | some k => (0, k)
    | none => (9, 0))
  | 1 => (match π[v.2]? with
    | some k => (1, k)
    | none => (9, 0))
  | _ => v
def ab_sc (σ π : List Nat) (x : ab_C) : ab_C := match x with
  | .inl (ci, fs) => .inl (ci, fs.map (ab_su σ π))
  | .inr (.inl y) => .inr (.inl y)
  | .inr (.inr (t, js)) => .inr (.inr (t, js.map (ab_su σ π)))
def ab_leC (σ π : List Nat) (x x' : ab_C) : Bool := match x, x' with
  | .inl (ci, fs), .inl (ci', fs') => decide (ci = ci') && decide (fs.map (ab_su σ π) = fs')
  | .inr (.inl (n, lo, hi, lo0, hi0)), .inr (.inl (n', lo', hi', lo0', hi0')) => decide (n = n') && (decide (lo ≤ lo') && (decide (hi' ≤ hi) && (decide (lo0 ≤ lo0') && decide (hi0' ≤ hi0))))
  | .inr (.inr (t, js)), .inr (.inr (t', js')) => decide (t = t') && decide (js.map (ab_su σ π) = js')
  | _, _ => false
def ab_pk {α : Type} (d : α) (vs : List α) (σ : List Nat) : List α := σ.map (fun k => vs.getD k d)
theorem ab_pk_at {α : Type} {d : α} {vs : List α} {σ : List Nat} {j k : Nat} {x : α} (h1 : σ[j]? = some k) (h2 : vs[k]? = some x) : (ab_pk d vs σ)[j]? = some x := by
  unfold ab_pk
  rw [List.getElem?_map, h1]
  simp [List.getD_eq_getElem?_getD, h2]
theorem ab_pk_inv {α : Type} {d : α} {vs : List α} {σ : List Nat} {j : Nat} {x : α} (hl : ∀ k ∈ σ, k < vs.length) (h : (ab_pk d vs σ)[j]? = some x) : ∃ k, σ[j]? = some k ∧ vs[k]? = some x := by
  unfold ab_pk at h
  rw [List.getElem?_map] at h
  cases hs : σ[j]? with
  | none => rw [hs] at h; cases h
  | some k =>
    rw [hs] at h
    have hk := hl k (List.mem_of_getElem? hs)
    refine ⟨k, rfl, ?_⟩
    simp [List.getD_eq_getElem?_getD, List.getElem?_eq_getElem hk] at h
    rw [List.getElem?_eq_getElem hk, h]
theorem ab_su_dn {sa : Nat → Nat} {vs : List Int32} {hs : List Nat} {σ π : List Nat} {v : ab_V} {w : Value} (h : ab_cv sa vs hs (ab_su σ π v) = some w) : ab_cv sa (ab_pk 0 vs σ) (ab_pk 0 hs π) v = some w := by
  obtain ⟨t, k⟩ := v
  rcases t with _ | _ | t
  · cases hs2 : σ[k]? with
    | none => simp [ab_su, hs2, ab_cv] at h
    | some j =>
      have e : ab_su σ π (0, k) = (0, j) := by simp [ab_su, hs2]
      rw [e] at h
      obtain ⟨x, h1, rfl⟩ := ab_cv0 h
      exact ab_cv0' (ab_pk_at hs2 h1)
  · cases hs2 : π[k]? with
    | none => simp [ab_su, hs2, ab_cv] at h
    | some j =>
      have e : ab_su σ π (1, k) = (1, j) := by simp [ab_su, hs2]
      rw [e] at h
      obtain ⟨x, h1, rfl⟩ := ab_cv1 h
      exact ab_cv1' (ab_pk_at hs2 h1)
  · have e : ab_su σ π (t + 2, k) = (t + 2, k) := rfl
    rw [e] at h
    rcases t with _ | _ | t
    · exact h
    · exact h
    · cases h
theorem ab_su_dnL {sa : Nat → Nat} {vs : List Int32} {hs : List Nat} {σ π : List Nat} {as : List ab_V} {ws : List Value} (h : (as.map (ab_su σ π)).map (ab_cv sa vs hs) = ws.map some) : as.map (ab_cv sa (ab_pk 0 vs σ) (ab_pk 0 hs π)) = ws.map some := by
  induction as generalizing ws with
  | nil => exact h
  | cons a r ih =>
    cases ws with
    | nil => cases h
    | cons w ws =>
      simp only [List.map_cons, List.cons.injEq] at h ⊢
      exact ⟨ab_su_dn h.1, ih h.2⟩
theorem ab_le_dn {sa : Nat → Nat} {dT : Nat → ClassId} {vs : List Int32} {hs : List Nat} {σ π : List Nat} {x x' : ab_C} {e : va_E} (hl : ab_leC σ π x x' = true) (h : ab_ce sa dT vs hs x' e) : ab_ce sa dT (ab_pk 0 vs σ) (ab_pk 0 hs π) x e := by
  rcases x with ⟨ci, fs⟩ | ⟨n, lo, hi, lo0, hi0⟩ | ⟨t, js⟩ <;> rcases x' with ⟨ci', fs'⟩ | ⟨n', lo', hi', lo0', hi0'⟩ | ⟨t', js'⟩ <;> simp only [ab_leC, Bool.and_eq_true, decide_eq_true_eq] at hl <;> try (exact absurd hl (by decide))
  · obtain ⟨rfl, rfl⟩ := hl
    obtain ⟨ws, h1, h2⟩ := h
    exact ⟨ws, h1, ab_su_dnL h2⟩
  · obtain ⟨rfl, h3, h4, h5, h6⟩ := hl
    obtain ⟨f, h1, h2⟩ := h
    refine ⟨f, h1, fun i hi => ?_⟩
    have h7 := h2 i hi
    unfold ab_b5 ab_in at *
    split at h7 <;> rename_i hz
    · rw [if_pos hz]; exact ⟨Int.le_trans h5 h7.1, Int.le_trans h7.2 h6⟩
    · rw [if_neg hz]; exact ⟨Int.le_trans h3 h7.1, Int.le_trans h7.2 h4⟩
  · obtain ⟨rfl, rfl⟩ := hl
    obtain ⟨f, h1, h2⟩ := h
    refine ⟨f, by rw [h1, List.length_map], fun i a hi => ab_su_dn (h2 i _ ?_)⟩
    rw [List.getElem?_map, hi]
    rfl
def ab_po (hp : ab_H) (π : List Nat) (q : Nat × ab_C) : Nat := match π[q.1]? with
  | some b => (match ab_fi hp b 0 with
    | some r => r.1
    | none => hp.length)
  | none => hp.length
def ab_ps (hp : ab_H) (π : List Nat) (hp0 : ab_H) : List Nat := hp0.map (ab_po hp π)
def ab_ck1 (σ π : List Nat) (hp : ab_H) (q : Nat × ab_C) : Bool := match π[q.1]? with
  | some b => (match ab_fi hp b 0 with
    | some r => ab_leC σ π q.2 r.2
    | none => false)
  | none => false
def ab_ck (σ π : List Nat) (hp0 hp : ab_H) : Bool := hp0.all (ab_ck1 σ π hp) && va_nd (ab_ps hp π hp0)
def ab_pw (ws : va_W) (is : List Nat) : va_W := is.map (fun i => ws.getD i (0, .inr (0, [])))
theorem ab_ck1_ok {sa : Nat → Nat} {dT : Nat → ClassId} {vs : List Int32} {hs : List Nat} {σ π : List Nat} {hp : ab_H} {ws : va_W} {q : Nat × ab_C} (hw : ab_w sa dT vs hs hp ws) (h : ab_ck1 σ π hp q = true) : ∃ (a : Nat) (e : va_E), (ab_pk 0 hs π)[q.1]? = some a ∧ ws[ab_po hp π q]? = some (a, e) ∧ ab_ce sa dT (ab_pk 0 vs σ) (ab_pk 0 hs π) q.2 e := by
  unfold ab_ck1 at h
  cases h1 : π[q.1]? with
  | none => rw [h1] at h; cases h
  | some b =>
    rw [h1] at h
    dsimp only at h
    cases h2 : ab_fi hp b 0 with
    | none => rw [h2] at h; cases h
    | some r =>
      rw [h2] at h
      obtain ⟨i, x⟩ := r
      obtain ⟨a, e, g1, g2, g3⟩ := hw.2 i b x (ab_fi0 h2)
      refine ⟨a, e, ab_pk_at h1 g1, ?_, ab_le_dn h g3⟩
      have : ab_po hp π q = i := by unfold ab_po; rw [h1]; dsimp only; rw [h2]
      rw [this]
      exact g2
theorem ab_ck_ok {sa : Nat → Nat} {dT : Nat → ClassId} {vs : List Int32} {hs : List Nat} {σ π : List Nat} {hp0 hp : ab_H} {ws : va_W} (hw : ab_w sa dT vs hs hp ws) (h : ab_ck σ π hp0 hp = true) : va_nd (ab_ps hp π hp0) = true ∧ (ab_ps hp π hp0).map (fun i => ws[i]?) = (ab_pw ws (ab_ps hp π hp0)).map some ∧ ab_w sa dT (ab_pk 0 vs σ) (ab_pk 0 hs π) hp0 (ab_pw ws (ab_ps hp π hp0)) := by
  unfold ab_ck at h
  rw [Bool.and_eq_true] at h
  obtain ⟨h1, h2⟩ := h
  rw [List.all_eq_true] at h1
  have key : ∀ (j : Nat) (q : Nat × ab_C), hp0[j]? = some q → ∃ (a : Nat) (e : va_E), (ab_pk 0 hs π)[q.1]? = some a ∧ ws[ab_po hp π q]? = some (a, e) ∧ (ab_pw ws (ab_ps hp π hp0))[j]? = some (a, e) ∧ ab_ce sa dT (ab_pk 0 vs σ) (ab_pk 0 hs π) q.2 e := by
    intro j q hj
    obtain ⟨a, e, g1, g2, g3⟩ := ab_ck1_ok hw (h1 q (List.mem_of_getElem? hj))
    refine ⟨a, e, g1, g2, ?_, g3⟩
    unfold ab_pw ab_ps
    rw [List.getElem?_map, List.getElem?_map, hj]
    simp [List.getD_eq_getElem?_getD, g2]
  refine ⟨h2, ?_, ?_, ?_⟩
  · apply List.ext_getElem?
    intro j
    cases hj : hp0[j]? with
    | none =>
      have hl : hp0.length ≤ j := List.getElem?_eq_none_iff.mp hj
      rw [List.getElem?_eq_none (by simp [ab_ps]; exact hl), List.getElem?_eq_none (by simp [ab_pw, ab_ps]; exact hl)]
    | some q =>
      obtain ⟨a, e, g1, g2, g3, g4⟩ := key j q hj
      rw [List.getElem?_map, List.getElem?_map, g3]
      unfold ab_ps
      rw [List.getElem?_map, hj]
      simp [g2]
  · simp [ab_pw, ab_ps]
  · intro j a x hj
    obtain ⟨b, e, g1, g2, g3, g4⟩ := key j (a, x) hj
    exact ⟨b, e, g1, g3, g4⟩
def ab_ek (σ : List Nat) (E0 E : List ab_I) : Bool := decide (σ.length = E0.length) && (σ.zip E0).all (fun q => match E[q.1]? with
  | some j => decide (q.2.1 ≤ j.1) && decide (j.2 ≤ q.2.2)
  | none => false)
theorem ab_zip_at {α β : Type} {l : List α} {r : List β} {k : Nat} {x : α} {y : β} (h1 : l[k]? = some x) (h2 : r[k]? = some y) : (x, y) ∈ l.zip r := by
  apply List.mem_of_getElem? (i := k)
  rw [List.getElem?_zip_eq_some]
  exact ⟨h1, h2⟩
theorem ab_ek_ok {σ : List Nat} {E0 E : List ab_I} {vs : List Int32} (he : ab_e E vs) (h : ab_ek σ E0 E = true) : ab_e E0 (ab_pk 0 vs σ) ∧ ∀ k ∈ σ, k < vs.length := by
  unfold ab_ek at h
  rw [Bool.and_eq_true, decide_eq_true_eq, List.all_eq_true] at h
  obtain ⟨h1, h2⟩ := h
  have key : ∀ (j k : Nat), σ[j]? = some k → ∃ (i0 i : ab_I), E0[j]? = some i0 ∧ E[k]? = some i ∧ i0.1 ≤ i.1 ∧ i.2 ≤ i0.2 := by
    intro j k hj
    have hl : j < E0.length := by rw [← h1]; exact (List.getElem?_eq_some_iff.mp hj).1
    have h3 := h2 (k, E0[j]) (ab_zip_at hj (List.getElem?_eq_getElem hl))
    dsimp only at h3
    cases h4 : E[k]? with
    | none => rw [h4] at h3; cases h3
    | some i =>
      rw [h4] at h3
      simp only [Bool.and_eq_true, decide_eq_true_eq] at h3
      exact ⟨E0[j], i, List.getElem?_eq_getElem hl, rfl, h3.1, h3.2⟩
  have hlt : ∀ k ∈ σ, k < vs.length := by
    intro k hk
    obtain ⟨j, hj⟩ := List.getElem?_of_mem hk
    obtain ⟨i0, i, -, g2, -⟩ := key j k hj
    rw [he.1]
    exact (List.getElem?_eq_some_iff.mp g2).1
  refine ⟨⟨by simp [ab_pk, h1], fun j i0 x g1 g2 => ?_⟩, hlt⟩
  obtain ⟨k, g3, g4⟩ := ab_pk_inv hlt g2
  obtain ⟨i1, i, g5, g6, g7, g8⟩ := key j k g3
  rw [g1] at g5
  cases g5
  have := he.2 k i x g6 g4
  exact ⟨Int.le_trans g7 this.1, Int.le_trans this.2 g8⟩
def ab_me : List (Nat × ab_I) → List ab_I → List ab_I
  | [], E => E
  | q :: r, E => ab_me r (match E[q.1]? with
    | some j => E.set q.1 (max q.2.1 j.1, min q.2.2 j.2)
    | none => E)
theorem ab_me_ok : ∀ (l : List (Nat × ab_I)) (E : List ab_I) (vs : List Int32), ab_e E vs → (∀ q ∈ l, ∀ x, vs[q.1]? = some x → ab_in q.2 x) → ab_e (ab_me l E) vs
  | [], _, _, h, _ => h
  | q :: r, E, vs, h, hq => by
    unfold ab_me
    refine ab_me_ok r _ vs ?_ (fun q' h' => hq q' (List.mem_cons_of_mem _ h'))
    split
    · rename_i j hj
      refine ab_e_set h q.1 (fun x hx => ?_)
      have h1 := hq q List.mem_cons_self x hx
      have h2 := h.2 q.1 j x hj hx
      unfold ab_in at *
      dsimp only
      omega
    · exact h
def ab_gr (σ : List Nat) (N k : Nat) : List Nat := σ ++ (List.range k).map (N + ·)
theorem ab_gr_at {α : Type} {σ : List Nat} {d : α} {vs nv : List α} {j : Nat} {x : α} (hl : ∀ k ∈ σ, k < vs.length) (h : (ab_pk d vs σ ++ nv)[j]? = some x) {N k : Nat} (hN : vs.length = N) (hk : nv.length ≤ k) : ∃ i, (ab_gr σ N k)[j]? = some i ∧ (vs ++ nv)[i]? = some x := by
  have hlen : (ab_pk d vs σ).length = σ.length := by simp [ab_pk]
  by_cases hj : j < σ.length
  · rw [List.getElem?_append_left (by rw [hlen]; exact hj)] at h
    obtain ⟨i, g1, g2⟩ := ab_pk_inv hl h
    exact ⟨i, ab_app _ g1, ab_app _ g2⟩
  · rw [List.getElem?_append_right (by rw [hlen]; omega), hlen] at h
    have hjl := (List.getElem?_eq_some_iff.mp h).1
    refine ⟨N + (j - σ.length), ?_, ?_⟩
    · unfold ab_gr
      rw [List.getElem?_append_right (by omega), List.getElem?_map, List.getElem?_range (by omega)]
      rfl
    · rw [List.getElem?_append_right (by omega)]
      have : N + (j - σ.length) - vs.length = j - σ.length := by omega
      rw [this]
      exact h
theorem ab_su_up {sa : Nat → Nat} {vs nv : List Int32} {hs nhs : List Nat} {σ π : List Nat} {N k M kk : Nat} (hl : ∀ k ∈ σ, k < vs.length) (hl2 : ∀ k ∈ π, k < hs.length) (hN : vs.length = N) (hk : nv.length ≤ k) (hM : hs.length = M) (hkk : nhs.length ≤ kk) {v : ab_V} {w : Value} (h : ab_cv sa (ab_pk 0 vs σ ++ nv) (ab_pk 0 hs π ++ nhs) v = some w) : ab_cv sa (vs ++ nv) (hs ++ nhs) (ab_su (ab_gr σ N k) (ab_gr π M kk) v) = some w := by
  obtain ⟨t, j⟩ := v
  rcases ab_tag h with e | e | e | e <;> dsimp only at e <;> subst e
  · obtain ⟨x, h1, rfl⟩ := ab_cv0 h
    obtain ⟨i, g1, g2⟩ := ab_gr_at hl h1 hN hk
    have e : ab_su (ab_gr σ N k) (ab_gr π M kk) (0, j) = (0, i) := by simp [ab_su, g1]
    rw [e]
    exact ab_cv0' g2
  · obtain ⟨x, h1, rfl⟩ := ab_cv1 h
    obtain ⟨i, g1, g2⟩ := ab_gr_at hl2 h1 hM hkk
    have e : ab_su (ab_gr σ N k) (ab_gr π M kk) (1, j) = (1, i) := by simp [ab_su, g1]
    rw [e]
    exact ab_cv1' g2
  · exact h
  · exact h
theorem ab_su_upL {sa : Nat → Nat} {vs vs' : List Int32} {hs hs' : List Nat} {σ π : List Nat} (hu : ∀ (v : ab_V) (w : Value), ab_cv sa vs hs v = some w → ab_cv sa vs' hs' (ab_su σ π v) = some w) {as : List ab_V} {ws : List Value} (h : as.map (ab_cv sa vs hs) = ws.map some) : (as.map (ab_su σ π)).map (ab_cv sa vs' hs') = ws.map some := by
  induction as generalizing ws with
  | nil => exact h
  | cons a r ih =>
    cases ws with
    | nil => cases h
    | cons w ws =>
      simp only [List.map_cons, List.cons.injEq] at h ⊢
      exact ⟨hu _ _ h.1, ih h.2⟩
theorem ab_sc_up {sa : Nat → Nat} {dT : Nat → ClassId} {vs vs' : List Int32} {hs hs' : List Nat} {σ π : List Nat} (hu : ∀ (v : ab_V) (w : Value), ab_cv sa vs hs v = some w → ab_cv sa vs' hs' (ab_su σ π v) = some w) {x : ab_C} {e : va_E} (h : ab_ce sa dT vs hs x e) : ab_ce sa dT vs' hs' (ab_sc σ π x) e := by
  rcases x with ⟨ci, fs⟩ | ⟨n, lo, hi, lo0, hi0⟩ | ⟨t, js⟩
  · obtain ⟨ws, h1, h3⟩ := h
    exact ⟨ws, h1, ab_su_upL hu h3⟩
  · exact h
  · obtain ⟨f, h1, h3⟩ := h
    refine ⟨f, by rw [h1, List.length_map], fun i a hi => ?_⟩
    rw [List.getElem?_map] at hi
    cases hj : js[i]? with
    | none => rw [hj] at hi; cases hi
    | some b =>
      rw [hj] at hi
      cases hi
      exact hu _ _ (h3 i b hj)
def ab_sq (σ π : List Nat) (q : Nat × ab_C) : Nat × ab_C := ((π[q.1]?).getD 0, ab_sc σ π q.2)
theorem ab_sq_up {sa : Nat → Nat} {dT : Nat → ClassId} {vs vs' : List Int32} {hs hs' : List Nat} {σ π : List Nat} (hu : ∀ (v : ab_V) (w : Value), ab_cv sa vs hs v = some w → ab_cv sa vs' hs' (ab_su σ π v) = some w) {hp : ab_H} {ws : va_W} (h : ab_w sa dT vs hs hp ws) : ab_w sa dT vs' hs' (hp.map (ab_sq σ π)) ws := by
  refine ⟨by rw [List.length_map]; exact h.1, fun j a x hj => ?_⟩
  rw [List.getElem?_map] at hj
  cases h0 : hp[j]? with
  | none => rw [h0] at hj; cases hj
  | some q =>
    rw [h0] at hj
    obtain ⟨b, y⟩ := q
    cases hj
    obtain ⟨q, e, g1, g2, g3⟩ := h.2 j b y h0
    refine ⟨q, e, ?_, g2, ab_sc_up hu g3⟩
    have g4 := hu (1, b) _ (ab_cv1' g1)
    cases hb : π[b]? with
    | none => simp [ab_su, hb, ab_cv] at g4
    | some i =>
      have e : ab_su σ π (1, b) = (1, i) := by simp [ab_su, hb]
      rw [e] at g4
      obtain ⟨x, g5, g6⟩ := ab_cv1 g4
      cases g6
      simpa [hb] using g5
def ab_rs (n : Nat) (is : List Nat) : List Nat := (List.range n).filter (fun i => !(is.contains i))
theorem ab_nd_filter (f : Nat → Bool) : ∀ l : List Nat, va_nd l = true → va_nd (l.filter f) = true
  | [], _ => rfl
  | a :: l, h => by
    simp only [va_nd, Bool.and_eq_true, decide_eq_true_eq] at h
    rw [List.filter_cons]
    split
    · simp only [va_nd, Bool.and_eq_true, decide_eq_true_eq]
      exact ⟨fun q => h.1 (List.mem_filter.mp q).1, ab_nd_filter f l h.2⟩
    · exact ab_nd_filter f l h.2
theorem ab_nd_of : ∀ l : List Nat, l.Nodup → va_nd l = true
  | [], _ => rfl
  | a :: l, h => by
    simp only [va_nd, Bool.and_eq_true, decide_eq_true_eq]
    exact ⟨(List.nodup_cons.mp h).1, ab_nd_of l (List.nodup_cons.mp h).2⟩
theorem ab_rs_nd (n : Nat) (is : List Nat) : va_nd (ab_rs n is) = true := ab_nd_filter _ _ (ab_nd_of _ List.nodup_range)
theorem ab_rs_dis {n : Nat} {is : List Nat} : ∀ i ∈ ab_rs n is, i ∉ is := by
  intro i hi h
  have := (List.mem_filter.mp hi).2
  simp [h] at this
theorem ab_rs_w {sa : Nat → Nat} {dT : Nat → ClassId} {vs : List Int32} {hs : List Nat} {hp : ab_H} {ws : va_W} (h : ab_w sa dT vs hs hp ws) (is : List Nat) (hb : ∀ i ∈ is, i < hp.length) : is.map (fun i => ws[i]?) = (ab_pw ws is).map some ∧ ab_w sa dT vs hs (is.map (fun i => hp.getD i (0, .inl (0, [])))) (ab_pw ws is) := by
  refine ⟨?_, by simp [ab_pw], fun j a x hj => ?_⟩
  · unfold ab_pw
    rw [List.map_map]
    apply List.map_congr_left
    intro i hi
    have hl : i < ws.length := by rw [h.1]; exact hb i hi
    simp [List.getD_eq_getElem?_getD, List.getElem?_eq_getElem hl]
  · rw [List.getElem?_map] at hj
    cases hi : is[j]? with
    | none => rw [hi] at hj; cases hj
    | some i =>
      rw [hi] at hj
      have hl : i < hp.length := hb i (List.mem_of_getElem? hi)
      have h0 : hp[i]? = some (a, x) := by
        simp [List.getD_eq_getElem?_getD, List.getElem?_eq_getElem hl] at hj
        rw [List.getElem?_eq_getElem hl, hj]
      obtain ⟨q, e, g1, g2, g3⟩ := h.2 i a x h0
      refine ⟨q, e, g1, ?_, g3⟩
      unfold ab_pw
      rw [List.getElem?_map, hi]
      simp [List.getD_eq_getElem?_getD, g2]
abbrev ab_P : Type := List ab_I × Nat × ab_H × Option ab_V
abbrev ab_SL : Type := List (String × String × String × List Int)
abbrev ab_NF : Type := List (String × Nat × String × String × String × String)
abbrev ab_NM : Type := List (String × Nat × MethodName × String)
def ab_SX (rn : List String) (SL : ab_SL) (NF : ab_NF) (NM : ab_NM) (sa : Nat → Nat) (A : Nat → Prop) (U : State) (H : Heap) : Prop :=
  (∀ C ∈ rn, va_AO C U) ∧ (∀ r ∈ NF, va_Nw (.fieldLinkNest r.1 r.2.1 r.2.2.1 r.2.2.2.1 r.2.2.2.2.1 r.2.2.2.2.2) U) ∧ (∀ r ∈ NM, va_Nw (.methodLinkNest r.1 r.2.1 r.2.2.1 r.2.2.2) U) ∧
    ∀ (t : Nat) (r : String × String × String × List Int), SL[t]? = some r → va_Z r.1 r.2.1 r.2.2.1 (.ref (sa t)) A U H ∧ va_T .int (sa t) r.2.2.2.length (fun j => .int (Int32.ofInt (r.2.2.2.getD j 0))) A U H
def ab_B (cl : List vw_C) (rn : List String) (SL : ab_SL) (NF : ab_NF) (NM : ab_NM) (D : va_G) (sa : Nat → Nat) (dT : Nat → ClassId) (ws : va_W) (sz : Nat) (U : State) : Prop :=
  U.heap.size = sz ∧ va_P D cl ws U.heap ∧ va_K D cl (ab_tys dT rn) U ∧ va_D (fun _ => True) ws ∧ ab_SX rn SL NF NM sa (va_A ws sz) U U.heap
def ab_Q (cl : List vw_C) (D : va_G) (sa : Nat → Nat) (dT : Nat → ClassId) (vs0 : List Int32) (hs0 : List Nat) (ws : va_W) (sz : Nat) (posts : List ab_P) : Array Value → State → Outcome → State → Prop := fun _ st oc t =>
  (∃ P ∈ posts, ∃ (nv : List Int32) (nhs : List Nat) (w1 : va_W) (rv : Option Value), ab_e P.1 (vs0 ++ nv) ∧ (hs0 ++ nhs).length = P.2.1 ∧ P.2.2.2.map (ab_cv sa (vs0 ++ nv) (hs0 ++ nhs)) = rv.map some ∧ oc = .returned rv ∧ ab_w sa dT (vs0 ++ nv) (hs0 ++ nhs) P.2.2.1 w1 ∧ va_P D cl w1 t.heap ∧ va_D (va_A ws sz) w1) ∧ va_F (va_A ws sz) st t
def ab_met (l : Launch) (cl : List vw_C) (rn : List String) (SL : ab_SL) (NF : ab_NF) (NM : ab_NM) (Ts : List Cond) (y : MethodName) (bytes : ByteArray) (maxL : Nat) (ret : Option FieldType) (E0 : List ab_I) (nh0 : Nat) (hp0 : ab_H) (as0 : List ab_V) (posts : List ab_P) (rm : Room) : Prop :=
  ∀ (D : va_G) (sa : Nat → Nat) (dT : Nat → ClassId) (vs0 : List Int32) (hs0 : List Nat) (ws : va_W) (vals : List Value) (sz : Nat), ab_e E0 vs0 → hs0.length = nh0 → ab_w sa dT vs0 hs0 hp0 ws → as0.map (ab_cv sa vs0 hs0) = vals.map some →
    Met l y (.code y bytes maxL ret :: Ts) rm (va_Pc vals (ab_B cl rn SL NF NM D sa dT ws sz)) (ab_Q cl D sa dT vs0 hs0 ws sz posts) rm.cells rm.slots (va_A ws sz)
theorem ab_SX_same {rn : List String} {SL : ab_SL} {NF : ab_NF} {NM : ab_NM} {sa : Nat → Nat} {A : Nat → Prop} {U U' : State} {H : Heap} (hvm : U.vm = U'.vm) (h : ab_SX rn SL NF NM sa A U H) : ab_SX rn SL NF NM sa A U' H :=
  have ha : U.vm.Alike U'.vm := by rw [hvm]; exact Vm.Alike.refl _
  ⟨fun r hr => (h.1 r hr).moved ha, fun r hr => va_Nw.same rfl hvm (h.2.1 r hr), fun r hr => va_Nw.same rfl hvm (h.2.2.1 r hr), fun t r ht => ⟨(h.2.2.2 t r ht).1.moved ha, (h.2.2.2 t r ht).2.moved ha⟩⟩
theorem ab_SX_warm {rn : List String} {SL : ab_SL} {NF : ab_NF} {NM : ab_NM} {sa : Nat → Nat} {A B : Nat → Prop} {s U : State} {H H1 : Heap} (hW : s.WarmedH U.vm) (hq : ∀ a : Nat, a < H.size → ¬ A a → H1[a]? = H[a]?) (hAB : ∀ q, B q → A q) (h : ab_SX rn SL NF NM sa A s H) : ab_SX rn SL NF NM sa B U H1 :=
  ⟨fun r hr => (h.1 r hr).moved hW.alike, fun r hr => va_Nw.warmF hW (h.2.1 r hr), fun r hr => va_Nw.warmM hW (h.2.2.1 r hr), fun t r ht => ⟨(((h.2.2.2 t r ht).1.kept hq).narrow hAB).moved hW.alike, (((h.2.2.2 t r ht).2.kept hq).narrow hAB).moved hW.alike⟩⟩
theorem ab_B_blind {cl : List vw_C} {rn : List String} {SL : ab_SL} {NF : ab_NF} {NM : ab_NM} {D : va_G} {sa : Nat → Nat} {dT : Nat → ClassId} {ws : va_W} {sz : Nat} {vals : List Value} : FrameBlind (va_Pc vals (ab_B cl rn SL NF NM D sa dT ws sz)) := by
  intro a U g mk q
  obtain ⟨q0, q1, qP, qK, qD, qS⟩ := q
  exact ⟨q0, q1, qP, va_K.moved (u := U) (U := U.calling g mk a) (Vm.Alike.refl U.vm) qK, qD, ab_SX_same (U := U) (U' := U.calling g mk a) rfl qS⟩
def ab_ML (s : State) (args : Array Value) (own : String) (cl : List vw_C) (kd ix : Nat) (y : MethodName) (ret : Option FieldType) (n rci : Nat) : Prop :=
  ((Cond.methodLink own ix y).before args s = true ∨ ∃ host, (Cond.methodLinkNest own ix y host).before args s = true) ∧ (Cond.initialized y.cls).before args s = true ∧ (y.cls ≠ "java/lang/invoke/MethodHandle" ∧ y.cls ≠ "java/lang/invoke/VarHandle" ∧ (parseMethodDescriptor y.desc).map (fun d => d.parameters.length) = some n) ∧
    (kd = 0 → (Cond.instanceMethod y).before args s = true ∧ ∃ q : vw_C, cl[rci]? = some q ∧ (Cond.selects q.1 y y).before args s = true) ∧ (kd = 1 → (Cond.static y).before args s = true) ∧ (kd = 2 → y.name = "<init>" ∧ (Cond.instanceMethod y).before args s = true ∧ ret = none)
section
variable {p : Program} {l : Launch} {e : Env} {R : Room} {s : State} {m : MethodId} {args : Array Value} {below : List Frame} {meth : Method} {c : Code} {Q : State → Prop} {cc : ByteArray} {own : String} {nL : Nat} {D : va_G} {cl : List vw_C} {rn : List String} {A : Nat → Prop} {Ts : List Cond} {sa : Nat → Nat} {dT : Nat → ClassId} {vs0 : List Int32} {hs0 : List Nat} {pc : Nat} {E : List ab_I} {nh nc ns : Nat} {hp : ab_H} {loc : List (Nat × ab_V)} {st : List ab_V}
variable {y : MethodName} {bytes : ByteArray} {maxL n ix rci mc ms cells slots : Nat} {ret : Option FieldType} {Tc : List Cond} {rm : Room} {Pc : Array Value → State → Prop} {Qc : Array Value → State → Outcome → State → Prop} {free : Addr → Prop} {H : Heap} {locs : List Loc} {ls : Array Slot} {As rest : List Value}
theorem ab_runS (X : ab_X p s m args c cc own nL D cl (ab_tys dT rn) A Ts) (hM : Met l y (.code y bytes maxL ret :: Tc) rm Pc Qc rm.cells rm.slots free) (hG : GoodIn Ts (.code y bytes maxL ret :: Tc)) (hL : ab_ML s args own cl 1 ix y ret n rci) (hR : rm.frames + 1 ≤ R.frames ∧ 8 + (maxL + 11) + rm.locals ≤ R.locals) (hp : PreS s H Pc As) (hn : As.length = n) (hsz : ls.size = nL) (hr : (rest.map fun v => v.category).sum ≤ 8) (hd : decode cc pc = .ok (.invokestatic ix, 3)) (hf : cells + rm.cells ≤ R.cells ∧ slots + rm.slots ≤ R.slots) :
    va_Run p l e R s m args below meth c H locs cells slots rm.cells rm.slots (F0 m pc ls (As.reverse ++ rest)) rest (Qc As.toArray) free := by
  obtain ⟨L1, L2, L3, -, L4, -⟩ := hL
  have S : CallFix p m c cc nL s args Ts own := ⟨X.1, X.2.1, X.2.2.1, X.2.2.2.1, X.2.2.2.2.1⟩
  rcases L1 with L1 | ⟨host, L1⟩
  · exact va_runS S hM ⟨callB_of n X.2.2.2.2.1 hG rfl rfl rfl L2 L1 L3 hR, L4 rfl⟩ hp rfl hn hsz rfl (lv_room hr) hd hf
  · exact va_runSN (host := host) S hM ⟨va_cnB n X.2.2.2.2.1 hG rfl rfl rfl (va_Nw.of rfl L1) L2 L3 hR, L4 rfl, trivial⟩ hp rfl hn hsz rfl (lv_room hr) hd hf
theorem ab_runI {b : Addr} {As : List Value} (X : ab_X p s m args c cc own nL D cl (ab_tys dT rn) A Ts) (hM : Met l y (.code y bytes maxL none :: Tc) rm Pc Qc rm.cells rm.slots free) (hG : GoodIn Ts (.code y bytes maxL none :: Tc)) (hL : ab_ML s args own cl 2 ix y ret n rci) (hR : rm.frames + 1 ≤ R.frames ∧ 8 + (maxL + 11) + rm.locals ≤ R.locals) (hp : PreS s H Pc (.ref b :: As)) (hn : As.length = n) (hsz : ls.size = nL) (hr : (rest.map fun v => v.category).sum ≤ 8) (hd : decode cc pc = .ok (.invokespecial ix, 3)) (hf : cells + rm.cells ≤ R.cells ∧ slots + rm.slots ≤ R.slots) :
    va_Run p l e R s m args below meth c H locs cells slots rm.cells rm.slots (F0 m pc ls (As.reverse ++ .ref b :: rest)) rest (Qc (Value.ref b :: As).toArray) free := by
  obtain ⟨L1, L2, L3, -, -, L4⟩ := hL
  have S : CallFix p m c cc nL s args Ts own := ⟨X.1, X.2.1, X.2.2.1, X.2.2.2.1, X.2.2.2.2.1⟩
  rcases L1 with L1 | ⟨host, L1⟩
  · exact va_runI S hM ⟨callB_of n X.2.2.2.2.1 hG rfl rfl rfl L2 L1 L3 hR, (L4 rfl).1, (L4 rfl).2.1⟩ hp rfl hn hsz rfl (lv_room hr) hd hf
  · exact va_runIN (host := host) S hM ⟨va_cnB n X.2.2.2.2.1 hG rfl rfl rfl (va_Nw.of rfl L1) L2 L3 hR, (L4 rfl).1, (L4 rfl).2.1⟩ hp rfl hn hsz rfl (lv_room hr) hd hf
theorem ab_runV {b : Addr} {As : List Value} (X : ab_X p s m args c cc own nL D cl (ab_tys dT rn) A Ts) (hM : Met l y (.code y bytes maxL ret :: Tc) rm Pc Qc rm.cells rm.slots free) (hG : GoodIn Ts (.code y bytes maxL ret :: Tc)) (hL : ab_ML s args own cl 0 ix y ret n rci) (hR : rm.frames + 1 ≤ R.frames ∧ 8 + (maxL + 11) + rm.locals ≤ R.locals) (hp : PreS s H Pc (.ref b :: As)) (hb : ∀ q : vw_C, cl[rci]? = some q → ∃ cellB : Cell, H[b]? = some cellB ∧ cellB.vm.isStatics = false ∧ s.vm.findClass q.1 = some cellB.cls) (hn : As.length = n) (hsz : ls.size = nL) (hr : (rest.map fun v => v.category).sum ≤ 8) (hd : decode cc pc = .ok (.invokevirtual ix, 3)) (hf : cells + rm.cells ≤ R.cells ∧ slots + rm.slots ≤ R.slots) :
    va_Run p l e R s m args below meth c H locs cells slots rm.cells rm.slots (F0 m pc ls (As.reverse ++ .ref b :: rest)) rest (Qc (Value.ref b :: As).toArray) free := by
  obtain ⟨L1, L2, L3, L4, -⟩ := hL
  obtain ⟨L5, q, L6, L7⟩ := L4 rfl
  have S : CallFix p m c cc nL s args Ts own := ⟨X.1, X.2.1, X.2.2.1, X.2.2.2.1, X.2.2.2.2.1⟩
  have hpv : PreV s H q.1 b Pc As := ⟨hp.1, hb q L6, hp.2⟩
  rcases L1 with L1 | ⟨host, L1⟩
  · exact va_runV S hM ⟨callB_of n X.2.2.2.2.1 hG rfl rfl rfl L2 L1 L3 hR, L5, L7⟩ hpv rfl hn hsz rfl (lv_room hr) hd hf
  · exact va_runVN (host := host) S hM ⟨va_cnB n X.2.2.2.2.1 hG rfl rfl rfl (va_Nw.of rfl L1) L2 L3 hR, L5, L7⟩ hpv rfl hn hsz rfl (lv_room hr) hd hf
theorem ab_cont {A1 : Nat → Prop} {Qa : State → Outcome → State → Prop} {st0 : List Value} (hr : va_Run p l e R s m args below meth c H locs cells slots mc ms (F0 m pc ls st0) rest Qa free) (hS : va_S A s.heap H locs) (hA : ∀ q, A1 q → A q) (hf : ∀ q, free q → A q) (hF : ∀ (st₀ t : State) (v : Option Value), Qa st₀ (.returned v) t → va_F A1 st₀ t)
    (kk : ∀ (v : Option Value) (st₀ t : State) (locs1 : List Loc), st₀.heap = H → Qa st₀ (.returned v) t → (∀ q : Nat, q < H.size → ¬ A1 q → t.heap[q]? = H[q]?) → va_S A s.heap t.heap locs1 → W p l e R s m args below meth c t.heap locs1 (cells + mc) (slots + ms) Q (F0 m (pc + 3) ls (v.toList ++ rest))) : W p l e R s m args below meth c H locs cells slots Q (F0 m pc ls st0) := by
  intro T hT X
  obtain ⟨v, st₀, t, T', L, h0, X', hL, e1, e2, hq, st⟩ := hr T hT X
  obtain ⟨hz, hk⟩ := hF st₀ t v hq
  rw [h0] at hz hk
  obtain ⟨t2, a1, b1⟩ := kk v st₀ t (locs ++ L) h0 hq hk
    ⟨Nat.le_trans hS.1 hz, fun q h1 h2 => by rw [hk q (Nat.lt_of_lt_of_le h1 hS.1) (fun z => h2 (hA q z))]; exact hS.2.1 q h1 h2, fun q hq => by
      rcases List.mem_append.mp hq with h | h
      · exact hS.2.2 q h
      · exact hf _ (hL q h)⟩ T' e1 X'
  exact ⟨t2, st t2 a1, b1⟩
end
