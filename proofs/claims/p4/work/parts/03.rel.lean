abbrev ab_V : Type := Nat × Nat
abbrev ab_C : Type := (Nat × List ab_V) ⊕ ((Nat × Int × Int × Int × Int) ⊕ (Nat × List ab_V))
def ab_b5 (lo hi lo0 hi0 : Int) (i : Nat) : ab_I := if i % 5 = 0 then (lo0, hi0) else (lo, hi)
abbrev ab_H : Type := List (Nat × ab_C)
def ab_cv (sa : Nat → Nat) (vs : List Int32) (hs : List Nat) (a : ab_V) : Option Value :=
  match a.1 with
  | 0 => (vs[a.2]?).map Value.int
  | 1 => (hs[a.2]?).map Value.ref
  | 2 => some .null
  | 3 => some (.ref (sa a.2))
  | _ => none
theorem ab_app {α : Type} {l : List α} {k : Nat} {x : α} (r : List α) (h : l[k]? = some x) : (l ++ r)[k]? = some x := by
  rw [List.getElem?_append_left (List.getElem?_eq_some_iff.mp h).1]
  exact h
theorem ab_end {α : Type} (l : List α) (x : α) : (l ++ [x])[l.length]? = some x := by
  rw [List.getElem?_append_right (Nat.le_refl _), Nat.sub_self]
  rfl
theorem ab_cv0 {sa : Nat → Nat} {vs : List Int32} {hs : List Nat} {k : Nat} {w : Value} (h : ab_cv sa vs hs (0, k) = some w) : ∃ x, vs[k]? = some x ∧ w = .int x := by
  have h : (vs[k]?).map Value.int = some w := h
  cases hv : vs[k]? with
  | none => rw [hv] at h; cases h
  | some x => rw [hv] at h; cases h; exact ⟨x, rfl, rfl⟩
theorem ab_cv1 {sa : Nat → Nat} {vs : List Int32} {hs : List Nat} {k : Nat} {w : Value} (h : ab_cv sa vs hs (1, k) = some w) : ∃ x, hs[k]? = some x ∧ w = .ref x := by
  have h : (hs[k]?).map Value.ref = some w := h
  cases hv : hs[k]? with
  | none => rw [hv] at h; cases h
  | some x => rw [hv] at h; cases h; exact ⟨x, rfl, rfl⟩
theorem ab_cv0' {sa : Nat → Nat} {vs : List Int32} {hs : List Nat} {k : Nat} {x : Int32} (h : vs[k]? = some x) : ab_cv sa vs hs (0, k) = some (.int x) := by
  show (vs[k]?).map Value.int = _
  rw [h]
  rfl
theorem ab_cv1' {sa : Nat → Nat} {vs : List Int32} {hs : List Nat} {k : Nat} {x : Nat} (h : hs[k]? = some x) : ab_cv sa vs hs (1, k) = some (.ref x) := by
  show (hs[k]?).map Value.ref = _
  rw [h]
  rfl
theorem ab_tag {sa : Nat → Nat} {vs : List Int32} {hs : List Nat} {a : ab_V} {w : Value} (h : ab_cv sa vs hs a = some w) : a.1 = 0 ∨ a.1 = 1 ∨ a.1 = 2 ∨ a.1 = 3 := by
  obtain ⟨t, k⟩ := a
  rcases t with _ | _ | _ | _ | t
  · exact Or.inl rfl
  · exact Or.inr (Or.inl rfl)
  · exact Or.inr (Or.inr (Or.inl rfl))
  · exact Or.inr (Or.inr (Or.inr rfl))
  · cases h
theorem ab_mono {sa : Nat → Nat} {vs : List Int32} {hs : List Nat} (v2 : List Int32) (h2 : List Nat) {a : ab_V} {w : Value} (h : ab_cv sa vs hs a = some w) : ab_cv sa (vs ++ v2) (hs ++ h2) a = some w := by
  obtain ⟨t, k⟩ := a
  rcases ab_tag h with e | e | e | e <;> dsimp only at e <;> subst e
  · obtain ⟨x, h1, rfl⟩ := ab_cv0 h
    exact ab_cv0' (ab_app v2 h1)
  · obtain ⟨x, h1, rfl⟩ := ab_cv1 h
    exact ab_cv1' (ab_app h2 h1)
  · exact h
  · exact h
theorem ab_cat {sa : Nat → Nat} {vs : List Int32} {hs : List Nat} {a : ab_V} {w : Value} (h : ab_cv sa vs hs a = some w) : w.category = 1 := by
  obtain ⟨t, k⟩ := a
  rcases ab_tag h with e | e | e | e <;> dsimp only at e <;> subst e
  · obtain ⟨x, h1, rfl⟩ := ab_cv0 h
    rfl
  · obtain ⟨x, h1, rfl⟩ := ab_cv1 h
    rfl
  · cases h
    rfl
  · cases h
    rfl
theorem ab_monoL {sa : Nat → Nat} {vs : List Int32} {hs : List Nat} (v2 : List Int32) (h2 : List Nat) {as : List ab_V} {ws : List Value} (h : as.map (ab_cv sa vs hs) = ws.map some) : as.map (ab_cv sa (vs ++ v2) (hs ++ h2)) = ws.map some := by
  induction as generalizing ws with
  | nil => exact h
  | cons a r ih =>
    cases ws with
    | nil => cases h
    | cons w ws =>
      simp only [List.map_cons, List.cons.injEq] at h ⊢
      exact ⟨ab_mono v2 h2 h.1, ih h.2⟩
theorem ab_cat_sum {sa : Nat → Nat} {vs : List Int32} {hs : List Nat} {as : List ab_V} {ws : List Value} (h : as.map (ab_cv sa vs hs) = ws.map some) : (ws.map fun v => v.category).sum = as.length := by
  induction as generalizing ws with
  | nil =>
    cases ws with
    | nil => rfl
    | cons w ws => cases h
  | cons a r ih =>
    cases ws with
    | nil => cases h
    | cons w ws =>
      simp only [List.map_cons, List.cons.injEq] at h
      have h1 := ab_cat h.1
      have h2 := ih h.2
      simp only [List.map_cons, List.sum_cons, List.length_cons]
      omega
theorem ab_at {sa : Nat → Nat} {vs : List Int32} {hs : List Nat} {as : List ab_V} {ws : List Value} (h : as.map (ab_cv sa vs hs) = ws.map some) {k : Nat} {a : ab_V} (hk : as[k]? = some a) : ∃ w, ws[k]? = some w ∧ ab_cv sa vs hs a = some w := by
  have h1 : (as.map (ab_cv sa vs hs))[k]? = some (ab_cv sa vs hs a) := by rw [List.getElem?_map, hk]; rfl
  rw [h, List.getElem?_map] at h1
  cases hw : ws[k]? with
  | none => rw [hw] at h1; cases h1
  | some w => rw [hw] at h1; exact ⟨w, rfl, (Option.some.inj h1).symm⟩
theorem ab_setL {sa : Nat → Nat} {vs : List Int32} {hs : List Nat} {as : List ab_V} {ws : List Value} (h : as.map (ab_cv sa vs hs) = ws.map some) {a : ab_V} {w : Value} (k : Nat) (ha : ab_cv sa vs hs a = some w) : (as.set k a).map (ab_cv sa vs hs) = (ws.set k w).map some := by
  rw [List.map_set, List.map_set, h, ha]
theorem ab_lenL {sa : Nat → Nat} {vs : List Int32} {hs : List Nat} {as : List ab_V} {ws : List Value} (h : as.map (ab_cv sa vs hs) = ws.map some) : as.length = ws.length := by
  have := congrArg List.length h
  simpa using this
def ab_e (E : List ab_I) (vs : List Int32) : Prop := vs.length = E.length ∧ ∀ (k : Nat) (i : ab_I) (x : Int32), E[k]? = some i → vs[k]? = some x → ab_in i x
theorem ab_e_app {E F : List ab_I} {vs ws : List Int32} (h : ab_e E vs) (h2 : ab_e F ws) : ab_e (E ++ F) (vs ++ ws) := by
  refine ⟨by simp [h.1, h2.1], fun k i x h3 h4 => ?_⟩
  by_cases hk : k < E.length
  · rw [List.getElem?_append_left hk] at h3
    rw [List.getElem?_append_left (by rw [h.1]; exact hk)] at h4
    exact h.2 k i x h3 h4
  · rw [List.getElem?_append_right (by omega)] at h3
    rw [List.getElem?_append_right (by rw [h.1]; omega), h.1] at h4
    exact h2.2 _ i x h3 h4
theorem ab_e_one {i : ab_I} {x : Int32} (h : ab_in i x) : ab_e [i] [x] := by
  refine ⟨rfl, fun k j y h1 h2 => ?_⟩
  cases k with
  | zero => cases h1; cases h2; exact h
  | succ k => cases h1
theorem ab_e_set {E : List ab_I} {vs : List Int32} (h : ab_e E vs) (k : Nat) {i : ab_I} (hi : ∀ x, vs[k]? = some x → ab_in i x) : ab_e (E.set k i) vs := by
  refine ⟨by rw [h.1, List.length_set], fun j i' x h3 h4 => ?_⟩
  by_cases hj : k = j
  · subst hj
    have hl : k < E.length := by rw [← h.1]; exact (List.getElem?_eq_some_iff.mp h4).1
    rw [List.getElem?_set_self hl] at h3
    cases h3
    exact hi x h4
  · rw [List.getElem?_set_ne hj] at h3
    exact h.2 j i' x h3 h4
theorem ab_e_at {E : List ab_I} {vs : List Int32} (h : ab_e E vs) {k : Nat} {i : ab_I} (hk : E[k]? = some i) : ∃ x, vs[k]? = some x ∧ ab_in i x := by
  have hl : k < vs.length := by rw [h.1]; exact (List.getElem?_eq_some_iff.mp hk).1
  exact ⟨vs[k], List.getElem?_eq_getElem hl, h.2 k i _ hk (List.getElem?_eq_getElem hl)⟩
theorem ab_e_has {E : List ab_I} {vs : List Int32} (h : ab_e E vs) {k : Nat} {x : Int32} (hk : vs[k]? = some x) : ∃ i, E[k]? = some i ∧ ab_in i x := by
  have hl : k < E.length := by rw [← h.1]; exact (List.getElem?_eq_some_iff.mp hk).1
  exact ⟨E[k], List.getElem?_eq_getElem hl, h.2 k _ x (List.getElem?_eq_getElem hl) hk⟩
def ab_ce (sa : Nat → Nat) (dT : Nat → ClassId) (vs : List Int32) (hs : List Nat) (x : ab_C) (e : va_E) : Prop := match x with
  | .inl (ci, fs) => ∃ ws : List Value, e = .inr (ci, ws) ∧ fs.map (ab_cv sa vs hs) = ws.map some
  | .inr (.inl (n, lo, hi, lo0, hi0)) => ∃ f : Nat → Int32, e = .inl (dT 0, n, .inl f) ∧ ∀ i, i < n → ab_in (ab_b5 lo hi lo0 hi0 i) (f i)
  | .inr (.inr (t, js)) => ∃ f : Nat → Option Nat, e = .inl (dT (t + 1), js.length, .inr (.inr (.inr (.inr f)))) ∧ ∀ (i : Nat) (a : ab_V), js[i]? = some a → ab_cv sa vs hs a = some (va_rf (f i))
theorem ab_ce_mono {sa : Nat → Nat} {dT : Nat → ClassId} {vs : List Int32} {hs : List Nat} (v2 : List Int32) (h2 : List Nat) {x : ab_C} {e : va_E} (h : ab_ce sa dT vs hs x e) : ab_ce sa dT (vs ++ v2) (hs ++ h2) x e := by
  rcases x with ⟨ci, fs⟩ | ⟨n, lo, hi, lo0, hi0⟩ | ⟨t, js⟩
  · obtain ⟨ws, h1, h3⟩ := h
    exact ⟨ws, h1, ab_monoL v2 h2 h3⟩
  · exact h
  · obtain ⟨f, h1, h3⟩ := h
    exact ⟨f, h1, fun i a hi => ab_mono v2 h2 (h3 i a hi)⟩
def ab_w (sa : Nat → Nat) (dT : Nat → ClassId) (vs : List Int32) (hs : List Nat) (hp : ab_H) (ws : va_W) : Prop := ws.length = hp.length ∧ ∀ (j a : Nat) (x : ab_C), hp[j]? = some (a, x) → ∃ (q : Nat) (e : va_E), hs[a]? = some q ∧ ws[j]? = some (q, e) ∧ ab_ce sa dT vs hs x e
theorem ab_w_mono {sa : Nat → Nat} {dT : Nat → ClassId} {vs : List Int32} {hs : List Nat} (v2 : List Int32) (h2 : List Nat) {hp : ab_H} {ws : va_W} (h : ab_w sa dT vs hs hp ws) : ab_w sa dT (vs ++ v2) (hs ++ h2) hp ws := by
  refine ⟨h.1, fun j a x hj => ?_⟩
  obtain ⟨q, e, h1, h3, h4⟩ := h.2 j a x hj
  exact ⟨q, e, ab_app h2 h1, h3, ab_ce_mono v2 h2 h4⟩
theorem ab_w_set {sa : Nat → Nat} {dT : Nat → ClassId} {vs : List Int32} {hs : List Nat} {hp : ab_H} {ws : va_W} (h : ab_w sa dT vs hs hp ws) {j a q : Nat} {x y : ab_C} {e0 e : va_E} (hj : hp[j]? = some (a, x)) (hw : ws[j]? = some (q, e0)) (hq : hs[a]? = some q) (hc : ab_ce sa dT vs hs y e) : ab_w sa dT vs hs (hp.set j (a, y)) (ws.set j (q, e)) := by
  refine ⟨by rw [List.length_set, List.length_set]; exact h.1, fun i b z hi => ?_⟩
  by_cases hij : j = i
  · subst hij
    rw [List.getElem?_set_self (List.getElem?_eq_some_iff.mp hj).1] at hi
    cases hi
    exact ⟨q, e, hq, List.getElem?_set_self (List.getElem?_eq_some_iff.mp hw).1, hc⟩
  · rw [List.getElem?_set_ne hij] at hi
    rw [List.getElem?_set_ne hij]
    exact h.2 i b z hi
theorem ab_w_app {sa : Nat → Nat} {dT : Nat → ClassId} {vs : List Int32} {hs : List Nat} {hp h2 : ab_H} {ws w2 : va_W} (h : ab_w sa dT vs hs hp ws) (g : ab_w sa dT vs hs h2 w2) : ab_w sa dT vs hs (hp ++ h2) (ws ++ w2) := by
  refine ⟨by rw [List.length_append, List.length_append, h.1, g.1], fun i b z hi => ?_⟩
  by_cases hk : i < hp.length
  · rw [List.getElem?_append_left hk] at hi
    obtain ⟨q, e, h1, h3, h4⟩ := h.2 i b z hi
    exact ⟨q, e, h1, ab_app _ h3, h4⟩
  · rw [List.getElem?_append_right (by omega)] at hi
    obtain ⟨q, e, h1, h3, h4⟩ := g.2 _ b z hi
    refine ⟨q, e, h1, ?_, h4⟩
    rw [List.getElem?_append_right (by rw [h.1]; omega), h.1]
    exact h3
def ab_fi : ab_H → Nat → Nat → Option (Nat × ab_C)
  | [], _, _ => none
  | (b, x) :: r, a, j => if b = a then some (j, x) else ab_fi r a (j + 1)
theorem ab_fi_ok : ∀ (hp : ab_H) (a j i : Nat) (x : ab_C), ab_fi hp a j = some (i, x) → ∃ d, i = j + d ∧ hp[d]? = some (a, x)
  | [], _, _, _, _, h => by cases h
  | (b, y) :: r, a, j, i, x, h => by
    unfold ab_fi at h
    split at h
    · rename_i hb
      cases h
      exact ⟨0, rfl, by rw [hb]; rfl⟩
    · obtain ⟨d, h1, h2⟩ := ab_fi_ok r a (j + 1) i x h
      exact ⟨d + 1, by omega, h2⟩
theorem ab_fi0 {hp : ab_H} {a i : Nat} {x : ab_C} (h : ab_fi hp a 0 = some (i, x)) : hp[i]? = some (a, x) := by
  obtain ⟨d, h1, h2⟩ := ab_fi_ok hp a 0 i x h
  rw [Nat.zero_add] at h1
  rw [h1]
  exact h2
theorem ab_w_at {sa : Nat → Nat} {dT : Nat → ClassId} {vs : List Int32} {hs : List Nat} {hp : ab_H} {ws : va_W} (h : ab_w sa dT vs hs hp ws) {a i q : Nat} {x : ab_C} (hf : ab_fi hp a 0 = some (i, x)) (hq : hs[a]? = some q) : ∃ e, ws[i]? = some (q, e) ∧ ab_ce sa dT vs hs x e := by
  obtain ⟨q2, e, h1, h2, h3⟩ := h.2 i a x (ab_fi0 hf)
  rw [hq] at h1
  cases h1
  exact ⟨e, h2, h3⟩
def ab_lk : List (Nat × ab_V) → Nat → Option ab_V
  | [], _ => none
  | (j, a) :: r, i => if j = i then some a else ab_lk r i
theorem ab_lk_ok : ∀ (l : List (Nat × ab_V)) (i : Nat) (a : ab_V), ab_lk l i = some a → (i, a) ∈ l
  | [], _, _, h => by cases h
  | (j, b) :: r, i, a, h => by
    unfold ab_lk at h
    split at h
    · rename_i hb
      cases h
      rw [hb]
      exact List.mem_cons_self
    · exact List.mem_cons_of_mem _ (ab_lk_ok r i a h)
def ab_l (sa : Nat → Nat) (vs : List Int32) (hs : List Nat) (nL : Nat) (loc : List (Nat × ab_V)) (ls : Array Slot) : Prop := lv_has ls nL (loc.map fun q => (q.1, (ab_cv sa vs hs q.2).getD .null)) ∧ ∀ q ∈ loc, ∃ v, ab_cv sa vs hs q.2 = some v
theorem ab_l_get {sa : Nat → Nat} {vs : List Int32} {hs : List Nat} {nL : Nat} {loc : List (Nat × ab_V)} {ls : Array Slot} (h : ab_l sa vs hs nL loc ls) {i : Nat} {a : ab_V} (hk : ab_lk loc i = some a) : ∃ v, ab_cv sa vs hs a = some v ∧ ls[i]? = some (.val v) := by
  have hm := ab_lk_ok loc i a hk
  obtain ⟨v, hv⟩ := h.2 _ hm
  refine ⟨v, hv, ?_⟩
  have := h.1.2.2 (i, (ab_cv sa vs hs a).getD .null) (List.mem_map.mpr ⟨(i, a), hm, rfl⟩)
  rw [hv] at this
  exact this
theorem ab_l_mono {sa : Nat → Nat} {vs : List Int32} {hs : List Nat} (v2 : List Int32) (h2 : List Nat) {nL : Nat} {loc : List (Nat × ab_V)} {ls : Array Slot} (h : ab_l sa vs hs nL loc ls) : ab_l sa (vs ++ v2) (hs ++ h2) nL loc ls := by
  refine ⟨⟨h.1.1, h.1.2.1, fun q hq => ?_⟩, fun q hq => ?_⟩
  · obtain ⟨r, hr, rfl⟩ := List.mem_map.mp hq
    obtain ⟨v, hv⟩ := h.2 r hr
    have := h.1.2.2 (r.1, (ab_cv sa vs hs r.2).getD .null) (List.mem_map.mpr ⟨r, hr, rfl⟩)
    rw [hv] at this
    rw [ab_mono v2 h2 hv]
    exact this
  · obtain ⟨v, hv⟩ := h.2 q hq
    exact ⟨v, ab_mono v2 h2 hv⟩
def ab_ls (loc : List (Nat × ab_V)) (i : Nat) (a : ab_V) : List (Nat × ab_V) := (i, a) :: loc.filter (fun q => !(q.1 == i))
theorem ab_l_set {sa : Nat → Nat} {vs : List Int32} {hs : List Nat} {nL : Nat} {loc : List (Nat × ab_V)} {ls ls' : Array Slot} (h : ab_l sa vs hs nL loc ls) {i : Nat} {a : ab_V} {v : Value} (hv : ab_cv sa vs hs a = some v)
    (h' : lv_has ls' nL ((i, v) :: (loc.map fun q => (q.1, (ab_cv sa vs hs q.2).getD .null)).filter (fun q => !(q.1 == i) && !(q.1 + 1 == i && q.2.category == 2)))) : ab_l sa vs hs nL (ab_ls loc i a) ls' := by
  refine ⟨⟨h'.1, h'.2.1, fun q hq => ?_⟩, fun q hq => ?_⟩
  · obtain ⟨r, hr, rfl⟩ := List.mem_map.mp hq
    rcases List.mem_cons.mp hr with rfl | hr
    · have := h'.2.2 (i, v) List.mem_cons_self
      rw [hv]
      exact this
    · obtain ⟨h1, h2⟩ := List.mem_filter.mp hr
      obtain ⟨w, hw⟩ := h.2 r h1
      apply h'.2.2
      refine List.mem_cons_of_mem _ (List.mem_filter.mpr ⟨List.mem_map.mpr ⟨r, h1, rfl⟩, ?_⟩)
      have hc := ab_cat hw
      rw [hw]
      simp only [Option.getD_some, hc]
      simpa using h2
  · rcases List.mem_cons.mp hq with rfl | hr
    · exact ⟨v, hv⟩
    · exact h.2 q (List.mem_filter.mp hr).1
