section
abbrev ab_I : Type := Int × Int
def ab_in (i : ab_I) (x : Int32) : Prop := i.1 ≤ x.toInt ∧ x.toInt ≤ i.2
def ab_cl (r : ab_I) : ab_I := if -2147483648 ≤ r.1 ∧ r.2 ≤ 2147483647 then r else (-2147483648, 2147483647)
theorem ab_full (x : Int32) : ab_in (-2147483648, 2147483647) x := by
  have h1 := x.le_toInt
  have h2 := x.toInt_lt
  exact ⟨by simpa using h1, by simp at h2; show x.toInt ≤ 2147483647; omega⟩
theorem ab_bm {x : Int} (h1 : -2147483648 ≤ x) (h2 : x ≤ 2147483647) : x.bmod (2 ^ 32) = x := by
  have e : ((2 ^ 32 : Nat) : Int) = 4294967296 := by decide
  unfold Int.bmod
  simp only [e]
  split <;> omega
theorem ab_add {a b : ab_I} {x y : Int32} (hx : ab_in a x) (hy : ab_in b y) : ab_in (ab_cl (a.1 + b.1, a.2 + b.2)) (x + y) := by
  unfold ab_cl
  obtain ⟨h1, h2⟩ := hx
  obtain ⟨h3, h4⟩ := hy
  split
  · rename_i h
    obtain ⟨h5, h6⟩ := h
    dsimp only at h5 h6
    have e : (x + y).toInt = x.toInt + y.toInt := by
      rw [Int32.toInt_add]
      exact ab_bm (by omega) (by omega)
    exact ⟨by rw [e]; dsimp only; omega, by rw [e]; dsimp only; omega⟩
  · exact ab_full _
theorem ab_sub {a b : ab_I} {x y : Int32} (hx : ab_in a x) (hy : ab_in b y) : ab_in (ab_cl (a.1 - b.2, a.2 - b.1)) (x - y) := by
  unfold ab_cl
  obtain ⟨h1, h2⟩ := hx
  obtain ⟨h3, h4⟩ := hy
  split
  · rename_i h
    obtain ⟨h5, h6⟩ := h
    dsimp only at h5 h6
    have e : (x - y).toInt = x.toInt - y.toInt := by
      rw [Int32.toInt_sub]
      exact ab_bm (by omega) (by omega)
    exact ⟨by rw [e]; dsimp only; omega, by rw [e]; dsimp only; omega⟩
  · exact ab_full _
def ab_mulI (a b : ab_I) : ab_I := if 0 ≤ a.1 ∧ 0 ≤ b.1 then ab_cl (a.1 * b.1, a.2 * b.2) else (-2147483648, 2147483647)
theorem ab_mul {a b : ab_I} {x y : Int32} (hx : ab_in a x) (hy : ab_in b y) : ab_in (ab_mulI a b) (x * y) := by
  unfold ab_mulI
  split
  · rename_i h0
    unfold ab_cl
    obtain ⟨h1, h2⟩ := hx
    obtain ⟨h3, h4⟩ := hy
    split
    · rename_i h
      obtain ⟨h5, h6⟩ := h
      dsimp only at h5 h6
      have g1 : a.1 * b.1 ≤ x.toInt * y.toInt := Int.mul_le_mul h1 h3 h0.2 (Int.le_trans h0.1 h1)
      have g2 : x.toInt * y.toInt ≤ a.2 * b.2 := Int.mul_le_mul h2 h4 (Int.le_trans h0.2 h3) (Int.le_trans (Int.le_trans h0.1 h1) h2)
      have e : (x * y).toInt = x.toInt * y.toInt := by
        rw [Int32.toInt_mul]
        exact ab_bm (by omega) (by omega)
      exact ⟨by rw [e]; exact g1, by rw [e]; exact g2⟩
    · exact ab_full _
  · exact ab_full _
theorem ab_nn {x : Int32} (h : 0 ≤ x.toInt) : x.toInt = (x.toBitVec.toNat : Int) := by
  have h1 : x.toInt = x.toBitVec.toInt := rfl
  rw [h1] at h ⊢
  rw [BitVec.toInt_eq_toNat_cond] at h ⊢
  have := x.toBitVec.isLt
  split at h
  · rename_i hc
    rw [if_pos hc]
  · omega
theorem ab_nni {x : Int32} (h : x.toBitVec.toNat < 2147483648) : x.toInt = (x.toBitVec.toNat : Int) := by
  have h1 : x.toInt = x.toBitVec.toInt := rfl
  rw [h1, BitVec.toInt_eq_toNat_cond, if_pos (by omega)]
theorem ab_small {x : Int32} (h : 0 ≤ x.toInt) : x.toBitVec.toNat < 2147483648 := by
  have h1 := ab_nn h
  have h2 := (ab_full x).2
  dsimp only at h2
  omega
theorem ab_andL {x y : Int32} (h : 0 ≤ y.toInt) : 0 ≤ (x &&& y).toInt ∧ (x &&& y).toInt ≤ y.toInt := by
  have e : (x &&& y).toBitVec.toNat = x.toBitVec.toNat &&& y.toBitVec.toNat := by rw [Int32.toBitVec_and, BitVec.toNat_and]
  have h1 : x.toBitVec.toNat &&& y.toBitVec.toNat ≤ y.toBitVec.toNat := Nat.and_le_right
  have h2 := ab_small h
  have h3 := ab_nni (x := x &&& y) (by omega)
  have h4 := ab_nn h
  omega
theorem ab_andC (x y : Int32) : x &&& y = y &&& x := Int32.toBitVec_inj.mp (by rw [Int32.toBitVec_and, Int32.toBitVec_and, BitVec.and_comm])
def ab_andI (a b : ab_I) : ab_I := if 0 ≤ b.1 then (if 0 ≤ a.1 then (0, min a.2 b.2) else (0, b.2)) else (if 0 ≤ a.1 then (0, a.2) else (-2147483648, 2147483647))
theorem ab_and {a b : ab_I} {x y : Int32} (hx : ab_in a x) (hy : ab_in b y) : ab_in (ab_andI a b) (x &&& y) := by
  unfold ab_andI
  obtain ⟨h1, h2⟩ := hx
  obtain ⟨h3, h4⟩ := hy
  split
  · rename_i h
    have g := ab_andL (x := x) (y := y) (by omega)
    split
    · rename_i h9
      have g2 := ab_andL (x := y) (y := x) (by omega)
      rw [ab_andC y x] at g2
      exact ⟨g.1, by dsimp only; omega⟩
    · exact ⟨g.1, by dsimp only; omega⟩
  · split
    · rename_i h9
      have g2 := ab_andL (x := y) (y := x) (by omega)
      rw [ab_andC y x] at g2
      exact ⟨g2.1, by dsimp only; omega⟩
    · exact ab_full _
def ab_up (n : Nat) : Nat := 2 ^ (n.log2 + 1)
theorem ab_up_lt (n : Nat) : n < ab_up n := Nat.lt_log2_self
def ab_orI (a b : ab_I) : ab_I := if 0 ≤ a.1 ∧ 0 ≤ b.1 ∧ a.2 < 1073741824 ∧ b.2 < 1073741824 then (0, ((ab_up (max a.2 b.2).toNat : Nat) : Int) - 1) else (-2147483648, 2147483647)
theorem ab_up_le {n : Nat} (h : n < 1073741824) : ab_up n ≤ 1073741824 := by
  unfold ab_up
  by_cases hn : n = 0
  · subst hn; decide
  · have h1 : n.log2 < 30 := (Nat.log2_lt hn).mpr (by simpa using h)
    have h2 : 2 ^ (n.log2 + 1) ≤ 2 ^ 30 := Nat.pow_le_pow_right (by decide) (by omega)
    simpa using h2
theorem ab_or {a b : ab_I} {x y : Int32} (hx : ab_in a x) (hy : ab_in b y) : ab_in (ab_orI a b) (x ||| y) := by
  unfold ab_orI
  obtain ⟨h1, h2⟩ := hx
  obtain ⟨h3, h4⟩ := hy
  split
  · rename_i h
    obtain ⟨g1, g2, g3, g4⟩ := h
    have e : (x ||| y).toBitVec.toNat = x.toBitVec.toNat ||| y.toBitVec.toNat := by rw [Int32.toBitVec_or, BitVec.toNat_or]
    have n1 := ab_nn (x := x) (by omega)
    have n2 := ab_nn (x := y) (by omega)
    have k1 := ab_up_lt (max a.2 b.2).toNat
    have k2 := ab_up_le (n := (max a.2 b.2).toNat) (by omega)
    have k3 : x.toBitVec.toNat ||| y.toBitVec.toNat < 2 ^ ((max a.2 b.2).toNat.log2 + 1) := Nat.or_lt_two_pow (by show _ < ab_up _; omega) (by show _ < ab_up _; omega)
    have k4 : x.toBitVec.toNat ||| y.toBitVec.toNat < ab_up (max a.2 b.2).toNat := k3
    have n3 := ab_nni (x := x ||| y) (by omega)
    exact ⟨by dsimp only; omega, by dsimp only; omega⟩
  · exact ab_full _
theorem ab_xor {a b : ab_I} {x y : Int32} (hx : ab_in a x) (hy : ab_in b y) : ab_in (ab_orI a b) (x ^^^ y) := by
  unfold ab_orI
  obtain ⟨h1, h2⟩ := hx
  obtain ⟨h3, h4⟩ := hy
  split
  · rename_i h
    obtain ⟨g1, g2, g3, g4⟩ := h
    have e : (x ^^^ y).toBitVec.toNat = x.toBitVec.toNat ^^^ y.toBitVec.toNat := by rw [Int32.toBitVec_xor, BitVec.toNat_xor]
    have n1 := ab_nn (x := x) (by omega)
    have n2 := ab_nn (x := y) (by omega)
    have k1 := ab_up_lt (max a.2 b.2).toNat
    have k2 := ab_up_le (n := (max a.2 b.2).toNat) (by omega)
    have k3 : x.toBitVec.toNat ^^^ y.toBitVec.toNat < 2 ^ ((max a.2 b.2).toNat.log2 + 1) := Nat.xor_lt_two_pow (by show _ < ab_up _; omega) (by show _ < ab_up _; omega)
    have k4 : x.toBitVec.toNat ^^^ y.toBitVec.toNat < ab_up (max a.2 b.2).toNat := k3
    have n3 := ab_nni (x := x ^^^ y) (by omega)
    exact ⟨by dsimp only; omega, by dsimp only; omega⟩
  · exact ab_full _
theorem ab_divV {x y : Int32} (h1 : 0 ≤ x.toInt) (h2 : 0 < y.toInt) : (x / y).toInt = x.toInt / y.toInt := by
  have e : x.toInt.tdiv y.toInt = x.toInt / y.toInt := Int.tdiv_eq_ediv_of_nonneg h1
  have g1 : 0 ≤ x.toInt / y.toInt := Int.ediv_nonneg h1 (by omega)
  have g2 : x.toInt / y.toInt ≤ x.toInt := Int.ediv_le_self _ h1
  have g3 := (ab_full x).2
  dsimp only at g3
  rw [Int32.toInt_div, e]
  exact ab_bm (by omega) (by omega)
def ab_divI (a b : ab_I) : Option ab_I := if 0 ≤ a.1 ∧ 0 < b.1 ∧ b.1 = b.2 then some (a.1 / b.1, a.2 / b.1) else none
theorem ab_div {a b r : ab_I} {x y : Int32} (hx : ab_in a x) (hy : ab_in b y) (hr : ab_divI a b = some r) : ¬ y = 0 ∧ ab_in r (x / y) := by
  unfold ab_divI at hr
  obtain ⟨h1, h2⟩ := hx
  obtain ⟨h3, h4⟩ := hy
  split at hr
  · rename_i h
    obtain ⟨g1, g2, g3⟩ := h
    cases hr
    have e : y.toInt = b.1 := by omega
    refine ⟨fun q => ?_, ?_⟩
    · subst q
      simp at e
      omega
    · have k := ab_divV (x := x) (y := y) (by omega) (by omega)
      exact ⟨by rw [k, e]; exact Int.ediv_le_ediv g2 h1, by rw [k, e]; exact Int.ediv_le_ediv g2 h2⟩
  · cases hr
theorem ab_remV {x y : Int32} (h1 : 0 ≤ x.toInt) (h2 : 0 < y.toInt) : (x - x / y * y).toInt = x.toInt % y.toInt := by
  have k := ab_divV h1 h2
  have g1 : 0 ≤ x.toInt / y.toInt := Int.ediv_nonneg h1 (by omega)
  have g3 := (ab_full x).2
  dsimp only at g3
  have q := Int.mul_ediv_add_emod x.toInt y.toInt
  have q2 := Int.emod_nonneg x.toInt (show y.toInt ≠ 0 by omega)
  have q3 : x.toInt / y.toInt * y.toInt = y.toInt * (x.toInt / y.toInt) := Int.mul_comm _ _
  have q4 : 0 ≤ x.toInt / y.toInt * y.toInt := Int.mul_nonneg g1 (by omega)
  have e1 : (x / y * y).toInt = x.toInt / y.toInt * y.toInt := by
    rw [Int32.toInt_mul, k]
    exact ab_bm (by omega) (by omega)
  rw [Int32.toInt_sub, e1]
  rw [ab_bm (by omega) (by omega)]
  omega
def ab_remI (a b : ab_I) : Option ab_I := if 0 ≤ a.1 ∧ 0 < b.1 ∧ b.1 = b.2 then some (if a.2 < b.1 then a else (0, b.1 - 1)) else none
theorem ab_rem {a b r : ab_I} {x y : Int32} (hx : ab_in a x) (hy : ab_in b y) (hr : ab_remI a b = some r) : ¬ y = 0 ∧ ab_in r (x - x / y * y) := by
  unfold ab_remI at hr
  obtain ⟨h1, h2⟩ := hx
  obtain ⟨h3, h4⟩ := hy
  split at hr
  · rename_i h
    obtain ⟨g1, g2, g3⟩ := h
    have e : y.toInt = b.1 := by omega
    have k := ab_remV (x := x) (y := y) (by omega) (by omega)
    rw [e] at k
    refine ⟨fun q => ?_, ?_⟩
    · subst q
      simp at e
      omega
    · cases hr
      unfold ab_in
      rw [k]
      split
      · rw [Int.emod_eq_of_lt (by omega) (by omega)]
        exact ⟨h1, h2⟩
      · have m1 := Int.emod_nonneg x.toInt (show b.1 ≠ 0 by omega)
        have m2 := Int.emod_lt_of_pos x.toInt g2
        exact ⟨m1, by dsimp only; omega⟩
  · cases hr
theorem ab_const {n : Int} (h1 : -2147483648 ≤ n) (h2 : n ≤ 2147483647) : ab_in (n, n) (Int32.ofInt n) := by
  have e : (Int32.ofInt n).toInt = n := by rw [Int32.toInt_ofInt]; exact ab_bm h1 h2
  exact ⟨by rw [e]; exact Int.le_refl _, by rw [e]; exact Int.le_refl _⟩
theorem ab_push8 {n : Int} (h1 : -128 ≤ n) (h2 : n ≤ 127) : (Int8.ofInt n).toInt32 = Int32.ofInt n := by
  apply Int32.toInt_inj.mp
  rw [Int8.toInt_toInt32, Int8.toInt_ofInt, Int32.toInt_ofInt, ab_bm (by omega) (by omega)]
  have e : ((2 ^ 8 : Nat) : Int) = 256 := by decide
  unfold Int.bmod
  simp only [e]
  split <;> omega
theorem ab_push16 {n : Int} (h1 : -32768 ≤ n) (h2 : n ≤ 32767) : (Int16.ofInt n).toInt32 = Int32.ofInt n := by
  apply Int32.toInt_inj.mp
  rw [Int16.toInt_toInt32, Int16.toInt_ofInt, Int32.toInt_ofInt, ab_bm (by omega) (by omega)]
  have e : ((2 ^ 16 : Nat) : Int) = 65536 := by decide
  unfold Int.bmod
  simp only [e]
  split <;> omega
def ab_ne (a b : ab_I) : ab_I := if b.1 = b.2 then (if a.1 = b.1 then (a.1 + 1, a.2) else if a.2 = b.1 then (a.1, a.2 - 1) else a) else a
def ab_rf (c : ClassFile.Cond) (a b : ab_I) : ab_I × ab_I := match c with
  | .lt => ((a.1, min a.2 (b.2 - 1)), (max b.1 (a.1 + 1), b.2))
  | .ge => ((max a.1 b.1, a.2), (b.1, min b.2 a.2))
  | .gt => ((max a.1 (b.1 + 1), a.2), (b.1, min b.2 (a.2 - 1)))
  | .le => ((a.1, min a.2 b.2), (max b.1 a.1, b.2))
  | .eq => ((max a.1 b.1, min a.2 b.2), (max a.1 b.1, min a.2 b.2))
  | .ne => (ab_ne a b, ab_ne b a)
def ab_ng (c : ClassFile.Cond) : ClassFile.Cond := match c with
  | .lt => .ge
  | .ge => .lt
  | .gt => .le
  | .le => .gt
  | .eq => .ne
  | .ne => .eq
def ab_cc (c : ClassFile.Cond) (x y : Int) : Prop := match c with
  | .lt => x < y
  | .ge => y ≤ x
  | .gt => y < x
  | .le => x ≤ y
  | .eq => x = y
  | .ne => ¬ x = y
theorem ab_cc_ng {c : ClassFile.Cond} {x y : Int} (h : ¬ ab_cc c x y) : ab_cc (ab_ng c) x y := by
  cases c <;> simp only [ab_cc, ab_ng] at h ⊢ <;> omega
theorem ab_ne_ok {a b : ab_I} {x y : Int} (h1 : a.1 ≤ x ∧ x ≤ a.2) (h2 : b.1 ≤ y ∧ y ≤ b.2) (h : ¬ x = y) : (ab_ne a b).1 ≤ x ∧ x ≤ (ab_ne a b).2 := by
  unfold ab_ne
  split
  · split
    · dsimp only; omega
    · split
      · dsimp only; omega
      · exact h1
  · exact h1
theorem ab_rf_ok {c : ClassFile.Cond} {a b : ab_I} {x y : Int} (h1 : a.1 ≤ x ∧ x ≤ a.2) (h2 : b.1 ≤ y ∧ y ≤ b.2) (h : ab_cc c x y) : ((ab_rf c a b).1.1 ≤ x ∧ x ≤ (ab_rf c a b).1.2) ∧ ((ab_rf c a b).2.1 ≤ y ∧ y ≤ (ab_rf c a b).2.2) := by
  cases c <;> simp only [ab_cc, ab_rf] at h ⊢
  case ne => exact ⟨ab_ne_ok h1 h2 h, ab_ne_ok h2 h1 (fun q => h q.symm)⟩
  all_goals omega
end
section
abbrev ab_V : Type := Nat × Nat
abbrev ab_C : Type := (Nat × List ab_V) ⊕ ((Nat × Int × Int × Int × Int) ⊕ (Nat × List ab_V))
def ab_b5 (lo hi lo0 hi0 : Int) (i : Nat) : ab_I := if i % 5 = 0 then (lo0, hi0) else (lo, hi)
abbrev ab_H : Type := List (Nat × ab_C)
def ab_cv (sa : Nat → Nat) (vs : List Int32) (hs : List Nat) (a : ab_V) : Option Value :=
  match a.1 with
  | 0 => (vs[a.2]?).map Value.int
  | 1 => (hs[a.2]?).map Value.ref
  | 2 => some .null
  | 3 => some (.ref (sa a.2))
  | _ => none
theorem ab_app {α : Type} {l : List α} {k : Nat} {x : α} (r : List α) (h : l[k]? = some x) : (l ++ r)[k]? = some x := by
  rw [List.getElem?_append_left (List.getElem?_eq_some_iff.mp h).1]
  exact h
theorem ab_end {α : Type} (l : List α) (x : α) : (l ++ [x])[l.length]? = some x := by
  rw [List.getElem?_append_right (Nat.le_refl _), Nat.sub_self]
  rfl
theorem ab_cv0 {sa : Nat → Nat} {vs : List Int32} {hs : List Nat} {k : Nat} {w : Value} (h : ab_cv sa vs hs (0, k) = some w) : ∃ x, vs[k]? = some x ∧ w = .int x := by
  have h : (vs[k]?).map Value.int = some w := h
  cases hv : vs[k]? with
  | none => rw [hv] at h; cases h
  | some x => rw [hv] at h; cases h; exact ⟨x, rfl, rfl⟩
theorem ab_cv1 {sa : Nat → Nat} {vs : List Int32} {hs : List Nat} {k : Nat} {w : Value} (h : ab_cv sa vs hs (1, k) = some w) : ∃ x, hs[k]? = some x ∧ w = .ref x := by
  have h : (hs[k]?).map Value.ref = some w := h
  cases hv : hs[k]? with
  | none => rw [hv] at h; cases h
  | some x => rw [hv] at h; cases h; exact ⟨x, rfl, rfl⟩
theorem ab_cv0' {sa : Nat → Nat} {vs : List Int32} {hs : List Nat} {k : Nat} {x : Int32} (h : vs[k]? = some x) : ab_cv sa vs hs (0, k) = some (.int x) := by
  show (vs[k]?).map Value.int = _
  rw [h]
  rfl
theorem ab_cv1' {sa : Nat → Nat} {vs : List Int32} {hs : List Nat} {k : Nat} {x : Nat} (h : hs[k]? = some x) : ab_cv sa vs hs (1, k) = some (.ref x) := by
  show (hs[k]?).map Value.ref = _
  rw [h]
  rfl
theorem ab_tag {sa : Nat → Nat} {vs : List Int32} {hs : List Nat} {a : ab_V} {w : Value} (h : ab_cv sa vs hs a = some w) : a.1 = 0 ∨ a.1 = 1 ∨ a.1 = 2 ∨ a.1 = 3 := by
  obtain ⟨t, k⟩ := a
  rcases t with _ | _ | _ | _ | t
  · exact Or.inl rfl
  · exact Or.inr (Or.inl rfl)
  · exact Or.inr (Or.inr (Or.inl rfl))
  · exact Or.inr (Or.inr (Or.inr rfl))
  · cases h
theorem ab_mono {sa : Nat → Nat} {vs : List Int32} {hs : List Nat} (v2 : List Int32) (h2 : List Nat) {a : ab_V} {w : Value} (h : ab_cv sa vs hs a = some w) : ab_cv sa (vs ++ v2) (hs ++ h2) a = some w := by
  obtain ⟨t, k⟩ := a
  rcases ab_tag h with e | e | e | e <;> dsimp only at e <;> subst e
  · obtain ⟨x, h1, rfl⟩ := ab_cv0 h
    exact ab_cv0' (ab_app v2 h1)
  · obtain ⟨x, h1, rfl⟩ := ab_cv1 h
    exact ab_cv1' (ab_app h2 h1)
  · exact h
  · exact h
theorem ab_cat {sa : Nat → Nat} {vs : List Int32} {hs : List Nat} {a : ab_V} {w : Value} (h : ab_cv sa vs hs a = some w) : w.category = 1 := by
  obtain ⟨t, k⟩ := a
  rcases ab_tag h with e | e | e | e <;> dsimp only at e <;> subst e
  · obtain ⟨x, h1, rfl⟩ := ab_cv0 h
    rfl
  · obtain ⟨x, h1, rfl⟩ := ab_cv1 h
    rfl
  · cases h
    rfl
  · cases h
    rfl
theorem ab_monoL {sa : Nat → Nat} {vs : List Int32} {hs : List Nat} (v2 : List Int32) (h2 : List Nat) {as : List ab_V} {ws : List Value} (h : as.map (ab_cv sa vs hs) = ws.map some) : as.map (ab_cv sa (vs ++ v2) (hs ++ h2)) = ws.map some := by
  induction as generalizing ws with
  | nil => exact h
  | cons a r ih =>
    cases ws with
    | nil => cases h
    | cons w ws =>
      simp only [List.map_cons, List.cons.injEq] at h ⊢
      exact ⟨ab_mono v2 h2 h.1, ih h.2⟩
theorem ab_cat_sum {sa : Nat → Nat} {vs : List Int32} {hs : List Nat} {as : List ab_V} {ws : List Value} (h : as.map (ab_cv sa vs hs) = ws.map some) : (ws.map fun v => v.category).sum = as.length := by
  induction as generalizing ws with
  | nil =>
    cases ws with
    | nil => rfl
    | cons w ws => cases h
  | cons a r ih =>
    cases ws with
    | nil => cases h
    | cons w ws =>
      simp only [List.map_cons, List.cons.injEq] at h
      have h1 := ab_cat h.1
      have h2 := ih h.2
      simp only [List.map_cons, List.sum_cons, List.length_cons]
      omega
theorem ab_at {sa : Nat → Nat} {vs : List Int32} {hs : List Nat} {as : List ab_V} {ws : List Value} (h : as.map (ab_cv sa vs hs) = ws.map some) {k : Nat} {a : ab_V} (hk : as[k]? = some a) : ∃ w, ws[k]? = some w ∧ ab_cv sa vs hs a = some w := by
  have h1 : (as.map (ab_cv sa vs hs))[k]? = some (ab_cv sa vs hs a) := by rw [List.getElem?_map, hk]; rfl
  rw [h, List.getElem?_map] at h1
  cases hw : ws[k]? with
  | none => rw [hw] at h1; cases h1
  | some w => rw [hw] at h1; exact ⟨w, rfl, (Option.some.inj h1).symm⟩
theorem ab_setL {sa : Nat → Nat} {vs : List Int32} {hs : List Nat} {as : List ab_V} {ws : List Value} (h : as.map (ab_cv sa vs hs) = ws.map some) {a : ab_V} {w : Value} (k : Nat) (ha : ab_cv sa vs hs a = some w) : (as.set k a).map (ab_cv sa vs hs) = (ws.set k w).map some := by
  rw [List.map_set, List.map_set, h, ha]
theorem ab_lenL {sa : Nat → Nat} {vs : List Int32} {hs : List Nat} {as : List ab_V} {ws : List Value} (h : as.map (ab_cv sa vs hs) = ws.map some) : as.length = ws.length := by
  have := congrArg List.length h
  simpa using this
def ab_e (E : List ab_I) (vs : List Int32) : Prop := vs.length = E.length ∧ ∀ (k : Nat) (i : ab_I) (x : Int32), E[k]? = some i → vs[k]? = some x → ab_in i x
theorem ab_e_app {E F : List ab_I} {vs ws : List Int32} (h : ab_e E vs) (h2 : ab_e F ws) : ab_e (E ++ F) (vs ++ ws) := by
  refine ⟨by simp [h.1, h2.1], fun k i x h3 h4 => ?_⟩
  by_cases hk : k < E.length
  · rw [List.getElem?_append_left hk] at h3
    rw [List.getElem?_append_left (by rw [h.1]; exact hk)] at h4
    exact h.2 k i x h3 h4
  · rw [List.getElem?_append_right (by omega)] at h3
    rw [List.getElem?_append_right (by rw [h.1]; omega), h.1] at h4
    exact h2.2 _ i x h3 h4
theorem ab_e_one {i : ab_I} {x : Int32} (h : ab_in i x) : ab_e [i] [x] := by
  refine ⟨rfl, fun k j y h1 h2 => ?_⟩
  cases k with
  | zero => cases h1; cases h2; exact h
  | succ k => cases h1
theorem ab_e_set {E : List ab_I} {vs : List Int32} (h : ab_e E vs) (k : Nat) {i : ab_I} (hi : ∀ x, vs[k]? = some x → ab_in i x) : ab_e (E.set k i) vs := by
  refine ⟨by rw [h.1, List.length_set], fun j i' x h3 h4 => ?_⟩
  by_cases hj : k = j
  · subst hj
    have hl : k < E.length := by rw [← h.1]; exact (List.getElem?_eq_some_iff.mp h4).1
    rw [List.getElem?_set_self hl] at h3
    cases h3
    exact hi x h4
  · rw [List.getElem?_set_ne hj] at h3
    exact h.2 j i' x h3 h4
theorem ab_e_at {E : List ab_I} {vs : List Int32} (h : ab_e E vs) {k : Nat} {i : ab_I} (hk : E[k]? = some i) : ∃ x, vs[k]? = some x ∧ ab_in i x := by
  have hl : k < vs.length := by rw [h.1]; exact (List.getElem?_eq_some_iff.mp hk).1
  exact ⟨vs[k], List.getElem?_eq_getElem hl, h.2 k i _ hk (List.getElem?_eq_getElem hl)⟩
theorem ab_e_has {E : List ab_I} {vs : List Int32} (h : ab_e E vs) {k : Nat} {x : Int32} (hk : vs[k]? = some x) : ∃ i, E[k]? = some i ∧ ab_in i x := by
  have hl : k < E.length := by rw [← h.1]; exact (List.getElem?_eq_some_iff.mp hk).1
  exact ⟨E[k], List.getElem?_eq_getElem hl, h.2 k _ x (List.getElem?_eq_getElem hl) hk⟩
def ab_ce (sa : Nat → Nat) (dT : Nat → ClassId) (vs : List Int32) (hs : List Nat) (x : ab_C) (e : va_E) : Prop := match x with
  | .inl (ci, fs) => ∃ ws : List Value, e = .inr (ci, ws) ∧ fs.map (ab_cv sa vs hs) = ws.map some
  | .inr (.inl (n, lo, hi, lo0, hi0)) => ∃ f : Nat → Int32, e = .inl (dT 0, n, .inl f) ∧ ∀ i, i < n → ab_in (ab_b5 lo hi lo0 hi0 i) (f i)
  | .inr (.inr (t, js)) => ∃ f : Nat → Option Nat, e = .inl (dT (t + 1), js.length, .inr (.inr (.inr (.inr f)))) ∧ ∀ (i : Nat) (a : ab_V), js[i]? = some a → ab_cv sa vs hs a = some (va_rf (f i))
theorem ab_ce_mono {sa : Nat → Nat} {dT : Nat → ClassId} {vs : List Int32} {hs : List Nat} (v2 : List Int32) (h2 : List Nat) {x : ab_C} {e : va_E} (h : ab_ce sa dT vs hs x e) : ab_ce sa dT (vs ++ v2) (hs ++ h2) x e := by
  rcases x with ⟨ci, fs⟩ | ⟨n, lo, hi, lo0, hi0⟩ | ⟨t, js⟩
  · obtain ⟨ws, h1, h3⟩ := h
    exact ⟨ws, h1, ab_monoL v2 h2 h3⟩
  · exact h
  · obtain ⟨f, h1, h3⟩ := h
    exact ⟨f, h1, fun i a hi => ab_mono v2 h2 (h3 i a hi)⟩
def ab_w (sa : Nat → Nat) (dT : Nat → ClassId) (vs : List Int32) (hs : List Nat) (hp : ab_H) (ws : va_W) : Prop := ws.length = hp.length ∧ ∀ (j a : Nat) (x : ab_C), hp[j]? = some (a, x) → ∃ (q : Nat) (e : va_E), hs[a]? = some q ∧ ws[j]? = some (q, e) ∧ ab_ce sa dT vs hs x e
theorem ab_w_mono {sa : Nat → Nat} {dT : Nat → ClassId} {vs : List Int32} {hs : List Nat} (v2 : List Int32) (h2 : List Nat) {hp : ab_H} {ws : va_W} (h : ab_w sa dT vs hs hp ws) : ab_w sa dT (vs ++ v2) (hs ++ h2) hp ws := by
  refine ⟨h.1, fun j a x hj => ?_⟩
  obtain ⟨q, e, h1, h3, h4⟩ := h.2 j a x hj
  exact ⟨q, e, ab_app h2 h1, h3, ab_ce_mono v2 h2 h4⟩
theorem ab_w_set {sa : Nat → Nat} {dT : Nat → ClassId} {vs : List Int32} {hs : List Nat} {hp : ab_H} {ws : va_W} (h : ab_w sa dT vs hs hp ws) {j a q : Nat} {x y : ab_C} {e0 e : va_E} (hj : hp[j]? = some (a, x)) (hw : ws[j]? = some (q, e0)) (hq : hs[a]? = some q) (hc : ab_ce sa dT vs hs y e) : ab_w sa dT vs hs (hp.set j (a, y)) (ws.set j (q, e)) := by
  refine ⟨by rw [List.length_set, List.length_set]; exact h.1, fun i b z hi => ?_⟩
  by_cases hij : j = i
  · subst hij
    rw [List.getElem?_set_self (List.getElem?_eq_some_iff.mp hj).1] at hi
    cases hi
    exact ⟨q, e, hq, List.getElem?_set_self (List.getElem?_eq_some_iff.mp hw).1, hc⟩
  · rw [List.getElem?_set_ne hij] at hi
    rw [List.getElem?_set_ne hij]
    exact h.2 i b z hi
theorem ab_w_app {sa : Nat → Nat} {dT : Nat → ClassId} {vs : List Int32} {hs : List Nat} {hp h2 : ab_H} {ws w2 : va_W} (h : ab_w sa dT vs hs hp ws) (g : ab_w sa dT vs hs h2 w2) : ab_w sa dT vs hs (hp ++ h2) (ws ++ w2) := by
  refine ⟨by rw [List.length_append, List.length_append, h.1, g.1], fun i b z hi => ?_⟩
  by_cases hk : i < hp.length
  · rw [List.getElem?_append_left hk] at hi
    obtain ⟨q, e, h1, h3, h4⟩ := h.2 i b z hi
    exact ⟨q, e, h1, ab_app _ h3, h4⟩
  · rw [List.getElem?_append_right (by omega)] at hi
    obtain ⟨q, e, h1, h3, h4⟩ := g.2 _ b z hi
    refine ⟨q, e, h1, ?_, h4⟩
    rw [List.getElem?_append_right (by rw [h.1]; omega), h.1]
    exact h3
def ab_fi : ab_H → Nat → Nat → Option (Nat × ab_C)
  | [], _, _ => none
  | (b, x) :: r, a, j => if b = a then some (j, x) else ab_fi r a (j + 1)
theorem ab_fi_ok : ∀ (hp : ab_H) (a j i : Nat) (x : ab_C), ab_fi hp a j = some (i, x) → ∃ d, i = j + d ∧ hp[d]? = some (a, x)
  | [], _, _, _, _, h => by cases h
  | (b, y) :: r, a, j, i, x, h => by
    unfold ab_fi at h
    split at h
    · rename_i hb
      cases h
      exact ⟨0, rfl, by rw [hb]; rfl⟩
    · obtain ⟨d, h1, h2⟩ := ab_fi_ok r a (j + 1) i x h
      exact ⟨d + 1, by omega, h2⟩
theorem ab_fi0 {hp : ab_H} {a i : Nat} {x : ab_C} (h : ab_fi hp a 0 = some (i, x)) : hp[i]? = some (a, x) := by
  obtain ⟨d, h1, h2⟩ := ab_fi_ok hp a 0 i x h
  rw [Nat.zero_add] at h1
  rw [h1]
  exact h2
theorem ab_w_at {sa : Nat → Nat} {dT : Nat → ClassId} {vs : List Int32} {hs : List Nat} {hp : ab_H} {ws : va_W} (h : ab_w sa dT vs hs hp ws) {a i q : Nat} {x : ab_C} (hf : ab_fi hp a 0 = some (i, x)) (hq : hs[a]? = some q) : ∃ e, ws[i]? = some (q, e) ∧ ab_ce sa dT vs hs x e := by
  obtain ⟨q2, e, h1, h2, h3⟩ := h.2 i a x (ab_fi0 hf)
  rw [hq] at h1
  cases h1
  exact ⟨e, h2, h3⟩
def ab_lk : List (Nat × ab_V) → Nat → Option ab_V
  | [], _ => none
  | (j, a) :: r, i => if j = i then some a else ab_lk r i
theorem ab_lk_ok : ∀ (l : List (Nat × ab_V)) (i : Nat) (a : ab_V), ab_lk l i = some a → (i, a) ∈ l
  | [], _, _, h => by cases h
  | (j, b) :: r, i, a, h => by
    unfold ab_lk at h
    split at h
    · rename_i hb
      cases h
      rw [hb]
      exact List.mem_cons_self
    · exact List.mem_cons_of_mem _ (ab_lk_ok r i a h)
def ab_l (sa : Nat → Nat) (vs : List Int32) (hs : List Nat) (nL : Nat) (loc : List (Nat × ab_V)) (ls : Array Slot) : Prop := lv_has ls nL (loc.map fun q => (q.1, (ab_cv sa vs hs q.2).getD .null)) ∧ ∀ q ∈ loc, ∃ v, ab_cv sa vs hs q.2 = some v
theorem ab_l_get {sa : Nat → Nat} {vs : List Int32} {hs : List Nat} {nL : Nat} {loc : List (Nat × ab_V)} {ls : Array Slot} (h : ab_l sa vs hs nL loc ls) {i : Nat} {a : ab_V} (hk : ab_lk loc i = some a) : ∃ v, ab_cv sa vs hs a = some v ∧ ls[i]? = some (.val v) := by
  have hm := ab_lk_ok loc i a hk
  obtain ⟨v, hv⟩ := h.2 _ hm
  refine ⟨v, hv, ?_⟩
  have := h.1.2.2 (i, (ab_cv sa vs hs a).getD .null) (List.mem_map.mpr ⟨(i, a), hm, rfl⟩)
  rw [hv] at this
  exact this
theorem ab_l_mono {sa : Nat → Nat} {vs : List Int32} {hs : List Nat} (v2 : List Int32) (h2 : List Nat) {nL : Nat} {loc : List (Nat × ab_V)} {ls : Array Slot} (h : ab_l sa vs hs nL loc ls) : ab_l sa (vs ++ v2) (hs ++ h2) nL loc ls := by
  refine ⟨⟨h.1.1, h.1.2.1, fun q hq => ?_⟩, fun q hq => ?_⟩
  · obtain ⟨r, hr, rfl⟩ := List.mem_map.mp hq
    obtain ⟨v, hv⟩ := h.2 r hr
    have := h.1.2.2 (r.1, (ab_cv sa vs hs r.2).getD .null) (List.mem_map.mpr ⟨r, hr, rfl⟩)
    rw [hv] at this
    rw [ab_mono v2 h2 hv]
    exact this
  · obtain ⟨v, hv⟩ := h.2 q hq
    exact ⟨v, ab_mono v2 h2 hv⟩
def ab_ls (loc : List (Nat × ab_V)) (i : Nat) (a : ab_V) : List (Nat × ab_V) := (i, a) :: loc.filter (fun q => !(q.1 == i))
theorem ab_l_set {sa : Nat → Nat} {vs : List Int32} {hs : List Nat} {nL : Nat} {loc : List (Nat × ab_V)} {ls ls' : Array Slot} (h : ab_l sa vs hs nL loc ls) {i : Nat} {a : ab_V} {v : Value} (hv : ab_cv sa vs hs a = some v)
    (h' : lv_has ls' nL ((i, v) :: (loc.map fun q => (q.1, (ab_cv sa vs hs q.2).getD .null)).filter (fun q => !(q.1 == i) && !(q.1 + 1 == i && q.2.category == 2)))) : ab_l sa vs hs nL (ab_ls loc i a) ls' := by
  refine ⟨⟨h'.1, h'.2.1, fun q hq => ?_⟩, fun q hq => ?_⟩
  · obtain ⟨r, hr, rfl⟩ := List.mem_map.mp hq
    rcases List.mem_cons.mp hr with rfl | hr
    · have := h'.2.2 (i, v) List.mem_cons_self
      rw [hv]
      exact this
    · obtain ⟨h1, h2⟩ := List.mem_filter.mp hr
      obtain ⟨w, hw⟩ := h.2 r h1
      apply h'.2.2
      refine List.mem_cons_of_mem _ (List.mem_filter.mpr ⟨List.mem_map.mpr ⟨r, h1, rfl⟩, ?_⟩)
      have hc := ab_cat hw
      rw [hw]
      simp only [Option.getD_some, hc]
      simpa using h2
  · rcases List.mem_cons.mp hq with rfl | hr
    · exact ⟨v, hv⟩
    · exact h.2 q (List.mem_filter.mp hr).1
end
section
def ab_tys (dT : Nat → ClassId) (rn : List String) : List (ClassId × FieldType) := (dT 0, .int) :: (List.range rn.length).map (fun t => (dT (t + 1), .object (rn.getD t "")))
theorem ab_tys_at {dT : Nat → ClassId} {rn : List String} {t : Nat} {C : String} (h : rn[t]? = some C) : (ab_tys dT rn)[t + 1]? = some (dT (t + 1), .object C) := by
  show ((List.range rn.length).map (fun t => (dT (t + 1), FieldType.object (rn.getD t ""))))[t]? = _
  rw [List.getElem?_map, List.getElem?_range (List.getElem?_eq_some_iff.mp h).1]
  simp [List.getD_eq_getElem?_getD, h]
def ab_is (D : va_G) (cl : List vw_C) (A : Nat → Prop) (H0 : Heap) (sa : Nat → Nat) (dT : Nat → ClassId) (nL : Nat) (vs : List Int32) (hs : List Nat) (E : List ab_I) (nh : Nat) (hp : ab_H) (loc : List (Nat × ab_V)) (st : List ab_V) (ls : Array Slot) (sv : List Value) (H : Heap) (locs : List Loc) : Prop :=
  ab_e E vs ∧ hs.length = nh ∧ ab_l sa vs hs nL loc ls ∧ st.map (ab_cv sa vs hs) = sv.map some ∧ ∃ ws : va_W, ab_w sa dT vs hs hp ws ∧ va_P D cl ws H ∧ va_D A ws ∧ va_S A H0 H locs
def ab_X (p : Program) (s : State) (m : MethodId) (args : Array Value) (c : Code) (cc : ByteArray) (own : String) (nL : Nat) (D : va_G) (cl : List vw_C) (tys : List (ClassId × FieldType)) (A : Nat → Prop) (Ts : List Cond) : Prop :=
  p.tables.exec = Jvm.exec ∧ c.code = cc ∧ c.maxLocals = nL ∧ s.vm.findClass own = some m.cls ∧ (∀ w ∈ Ts, w.before args s = true) ∧ va_K D cl tys s ∧ (∀ q, s.heap.size ≤ q → A q)
def ab_G (p : Program) (l : Launch) (e : Env) (R : Room) (s : State) (m : MethodId) (args : Array Value) (below : List Frame) (meth : Method) (c : Code) (Q : State → Prop) (D : va_G) (cl : List vw_C) (A : Nat → Prop) (sa : Nat → Nat) (dT : Nat → ClassId) (nL : Nat) (vs0 : List Int32) (hs0 : List Nat) (pc : Nat) (E : List ab_I) (nh : Nat) (hp : ab_H) (loc : List (Nat × ab_V)) (st : List ab_V) (nc ns : Nat) : Prop :=
  ∀ (vs : List Int32) (hs : List Nat) (ls : Array Slot) (sv : List Value) (H : Heap) (locs : List Loc), (∃ v, vs = vs0 ++ v) → (∃ h, hs = hs0 ++ h) → ab_is D cl A s.heap sa dT nL vs hs E nh hp loc st ls sv H locs → W p l e R s m args below meth c H locs nc ns Q (F0 m pc ls sv)
theorem ab_x1 {α : Type} {vs vs0 : List α} (x : List α) (h : ∃ v, vs = vs0 ++ v) : ∃ v, vs ++ x = vs0 ++ v := by
  obtain ⟨v, rfl⟩ := h
  exact ⟨v ++ x, by rw [List.append_assoc]⟩
section
variable {p : Program} {l : Launch} {e : Env} {R : Room} {s : State} {m : MethodId} {args : Array Value} {below : List Frame} {meth : Method} {c : Code} {Q : State → Prop} {cc : ByteArray} {own : String} {nL : Nat} {D : va_G} {cl : List vw_C} {rn : List String} {A : Nat → Prop} {Ts : List Cond} {sa : Nat → Nat} {dT : Nat → ClassId} {vs0 : List Int32} {hs0 : List Nat} {pc : Nat} {E : List ab_I} {nh nc ns : Nat} {hp : ab_H} {loc : List (Nat × ab_V)} {st : List ab_V}
variable {H0 : Heap} {vs : List Int32} {hs : List Nat} {ls : Array Slot} {sv : List Value} {H : Heap} {locs : List Loc}
theorem ab_pop {a : ab_V} (h : ab_is D cl A H0 sa dT nL vs hs E nh hp loc (a :: st) ls sv H locs) : ∃ (v : Value) (sv' : List Value), sv = v :: sv' ∧ ab_cv sa vs hs a = some v ∧ ab_is D cl A H0 sa dT nL vs hs E nh hp loc st ls sv' H locs := by
  obtain ⟨h1, h2, h3, h4, h5⟩ := h
  cases sv with
  | nil => cases h4
  | cons v sv' =>
    simp only [List.map_cons, List.cons.injEq] at h4
    exact ⟨v, sv', rfl, h4.1, h1, h2, h3, h4.2, h5⟩
theorem ab_pv {a : ab_V} {v : Value} (h : ab_is D cl A H0 sa dT nL vs hs E nh hp loc st ls sv H locs) (hv : ab_cv sa vs hs a = some v) : ab_is D cl A H0 sa dT nL vs hs E nh hp loc (a :: st) ls (v :: sv) H locs := by
  obtain ⟨h1, h2, h3, h4, h5⟩ := h
  exact ⟨h1, h2, h3, by rw [List.map_cons, List.map_cons, h4, hv], h5⟩
theorem ab_grow {i : ab_I} {x : Int32} (h : ab_is D cl A H0 sa dT nL vs hs E nh hp loc st ls sv H locs) (hi : ab_in i x) : ab_is D cl A H0 sa dT nL (vs ++ [x]) hs (E ++ [i]) nh hp loc st ls sv H locs := by
  obtain ⟨h1, h2, h3, h4, ws, h5, h6⟩ := h
  have g3 := ab_l_mono [x] [] h3
  have g4 := ab_monoL [x] [] h4
  have g5 := ab_w_mono [x] [] h5
  rw [List.append_nil] at g3 g4 g5
  exact ⟨ab_e_app h1 (ab_e_one hi), h2, g3, g4, ws, g5, h6⟩
theorem ab_push {i : ab_I} {x : Int32} (h : ab_is D cl A H0 sa dT nL vs hs E nh hp loc st ls sv H locs) (hi : ab_in i x) : ab_is D cl A H0 sa dT nL (vs ++ [x]) hs (E ++ [i]) nh hp loc ((0, E.length) :: st) ls (.int x :: sv) H locs :=
  ab_pv (ab_grow h hi) (ab_cv0' (by rw [← h.1.1]; exact ab_end vs x))
theorem ab_env {E' : List ab_I} (h : ab_is D cl A H0 sa dT nL vs hs E nh hp loc st ls sv H locs) (he : ab_e E' vs) : ab_is D cl A H0 sa dT nL vs hs E' nh hp loc st ls sv H locs := ⟨he, h.2⟩
end
def ab_ic (cn : ClassFile.Cond) (x y : Int32) : Prop := match cn with
  | .eq => x = y
  | .ne => ¬ x = y
  | .lt => x < y
  | .ge => y ≤ x
  | .gt => y < x
  | .le => x ≤ y
theorem ab_ic_iff {cn : ClassFile.Cond} {x y : Int32} : ab_ic cn x y ↔ ab_cc cn x.toInt y.toInt := by
  cases cn <;> simp only [ab_ic, ab_cc, Int32.lt_iff_toInt_lt, Int32.le_iff_toInt_le, Int32.toInt_inj]
def ab_br (cn : ClassFile.Cond) (E : List ab_I) (kx ky : Nat) (ix iy : ab_I) : List (List ab_I) :=
  if (ab_rf cn ix iy).1.1 ≤ (ab_rf cn ix iy).1.2 ∧ (ab_rf cn ix iy).2.1 ≤ (ab_rf cn ix iy).2.2 then [(E.set kx (ab_rf cn ix iy).1).set ky (ab_rf cn ix iy).2] else []
def ab_br1 (cn : ClassFile.Cond) (E : List ab_I) (kx : Nat) (ix : ab_I) : List (List ab_I) :=
  if (ab_rf cn ix (0, 0)).1.1 ≤ (ab_rf cn ix (0, 0)).1.2 ∧ (ab_rf cn ix (0, 0)).2.1 ≤ (ab_rf cn ix (0, 0)).2.2 then [E.set kx (ab_rf cn ix (0, 0)).1] else []
theorem ab_br_ok {cn : ClassFile.Cond} {E : List ab_I} {kx ky : Nat} {ix iy : ab_I} {vs : List Int32} {x y : Int32} (he : ab_e E vs) (h1 : E[kx]? = some ix) (h2 : E[ky]? = some iy) (h3 : vs[kx]? = some x) (h4 : vs[ky]? = some y) (h : ab_ic cn x y) : ∃ E' ∈ ab_br cn E kx ky ix iy, ab_e E' vs := by
  obtain ⟨g1, g2⟩ := ab_rf_ok (he.2 kx ix x h1 h3) (he.2 ky iy y h2 h4) (ab_ic_iff.mp h)
  unfold ab_br
  rw [if_pos ⟨by omega, by omega⟩]
  refine ⟨_, List.mem_singleton.mpr rfl, ab_e_set (ab_e_set he kx (fun z hz => ?_)) ky (fun z hz => ?_)⟩
  · rw [h3] at hz; cases hz; exact g1
  · rw [h4] at hz; cases hz; exact g2
theorem ab_br1_ok {cn : ClassFile.Cond} {E : List ab_I} {kx : Nat} {ix : ab_I} {vs : List Int32} {x : Int32} (he : ab_e E vs) (h1 : E[kx]? = some ix) (h3 : vs[kx]? = some x) (h : ab_ic cn x 0) : ∃ E' ∈ ab_br1 cn E kx ix, ab_e E' vs := by
  have h := ab_ic_iff.mp h
  rw [Int32.toInt_zero] at h
  obtain ⟨g1, g2⟩ := ab_rf_ok (b := (0, 0)) (he.2 kx ix x h1 h3) ⟨Int.le_refl _, Int.le_refl _⟩ h
  unfold ab_br1
  rw [if_pos ⟨by omega, by omega⟩]
  refine ⟨_, List.mem_singleton.mpr rfl, ab_e_set he kx (fun z hz => ?_)⟩
  rw [h3] at hz; cases hz; exact g1
section
variable {p : Program} {l : Launch} {e : Env} {R : Room} {s : State} {m : MethodId} {args : Array Value} {below : List Frame} {meth : Method} {c : Code} {Q : State → Prop} {cc : ByteArray} {own : String} {nL : Nat} {D : va_G} {cl : List vw_C} {rn : List String} {A : Nat → Prop} {Ts : List Cond} {sa : Nat → Nat} {dT : Nat → ClassId} {vs0 : List Int32} {hs0 : List Nat} {pc : Nat} {E : List ab_I} {nh nc ns : Nat} {hp : ab_H} {loc : List (Nat × ab_V)} {st : List ab_V}
theorem ab_cmpR {H : Heap} {locs : List Loc} {ls : Array Slot} {rest : List Value} (hx : p.tables.exec = Jvm.exec) (hb : c.code = cc) {cn : ClassFile.Cond} {x y : Int32} {off : Int} {tgt : Nat} (hd : decode cc pc = .ok (.if_icmp cn off, 3)) (ht : (pc : Int) + off = (tgt : Int))
    (kt : ab_ic cn x y → W p l e R s m args below meth c H locs nc ns Q (F0 m tgt ls rest)) (kf : ¬ ab_ic cn x y → W p l e R s m args below meth c H locs nc ns Q (F0 m (pc + 3) ls rest)) : W p l e R s m args below meth c H locs nc ns Q (F0 m pc ls (.int y :: .int x :: rest)) := by
  cases cn
  · exact lv_icmp_eq hx hb hd ht kt kf
  · exact lv_icmp_ne hx hb hd ht kt (fun h => kf (fun q => q h))
  · exact lv_icmp_lt hx hb hd ht kt kf
  · exact lv_icmp_ge hx hb hd ht kt kf
  · exact lv_icmp_gt hx hb hd ht kt kf
  · exact lv_icmp_le hx hb hd ht kt kf
theorem ab_cmp0 {H : Heap} {locs : List Loc} {ls : Array Slot} {rest : List Value} (hx : p.tables.exec = Jvm.exec) (hb : c.code = cc) {cn : ClassFile.Cond} {x : Int32} {off : Int} {tgt : Nat} (hd : decode cc pc = .ok (.ifCond cn off, 3)) (ht : (pc : Int) + off = (tgt : Int))
    (kt : ab_ic cn x 0 → W p l e R s m args below meth c H locs nc ns Q (F0 m tgt ls rest)) (kf : ¬ ab_ic cn x 0 → W p l e R s m args below meth c H locs nc ns Q (F0 m (pc + 3) ls rest)) : W p l e R s m args below meth c H locs nc ns Q (F0 m pc ls (.int x :: rest)) := by
  cases cn
  · exact lv_if_eq hx hb hd ht kt kf
  · exact lv_if_ne hx hb hd ht kt (fun h => kf (fun q => q h))
  · exact lv_if_lt hx hb hd ht kt kf
  · exact lv_if_ge hx hb hd ht kt kf
  · exact lv_if_gt hx hb hd ht kt kf
  · exact lv_if_le hx hb hd ht kt kf
theorem ab_ic_ng {cn : ClassFile.Cond} {x y : Int32} (h : ¬ ab_ic cn x y) : ab_ic (ab_ng cn) x y := ab_ic_iff.mpr (ab_cc_ng (fun q => h (ab_ic_iff.mpr q)))
theorem ab_icmp (X : ab_X p s m args c cc own nL D cl (ab_tys dT rn) A Ts) {cn : ClassFile.Cond} {off : Int} {tgt kx ky : Nat} {ix iy : ab_I} (hd : decode cc pc = .ok (.if_icmp cn off, 3)) (ht : (pc : Int) + off = (tgt : Int)) (h1 : E[kx]? = some ix) (h2 : E[ky]? = some iy)
    (gt : ∀ E' ∈ ab_br cn E kx ky ix iy, ab_G p l e R s m args below meth c Q D cl A sa dT nL vs0 hs0 tgt E' nh hp loc st nc ns) (gf : ∀ E' ∈ ab_br (ab_ng cn) E kx ky ix iy, ab_G p l e R s m args below meth c Q D cl A sa dT nL vs0 hs0 (pc + 3) E' nh hp loc st nc ns) : ab_G p l e R s m args below meth c Q D cl A sa dT nL vs0 hs0 pc E nh hp loc ((0, ky) :: (0, kx) :: st) nc ns := by
  intro vs hs ls sv H locs hv hh his
  obtain ⟨vy, sv, rfl, hy, his1⟩ := ab_pop his
  obtain ⟨vx, sv, rfl, hx, his2⟩ := ab_pop his1
  obtain ⟨y, hyq, rfl⟩ := ab_cv0 hy
  obtain ⟨x, hxq, rfl⟩ := ab_cv0 hx
  refine ab_cmpR X.1 X.2.1 hd ht (fun h => ?_) (fun h => ?_)
  · obtain ⟨E', h3, h4⟩ := ab_br_ok his2.1 h1 h2 hxq hyq h
    exact gt E' h3 _ _ _ _ _ _ hv hh (ab_env his2 h4)
  · obtain ⟨E', h3, h4⟩ := ab_br_ok his2.1 h1 h2 hxq hyq (ab_ic_ng h)
    exact gf E' h3 _ _ _ _ _ _ hv hh (ab_env his2 h4)
theorem ab_ifc (X : ab_X p s m args c cc own nL D cl (ab_tys dT rn) A Ts) {cn : ClassFile.Cond} {off : Int} {tgt kx : Nat} {ix : ab_I} (hd : decode cc pc = .ok (.ifCond cn off, 3)) (ht : (pc : Int) + off = (tgt : Int)) (h1 : E[kx]? = some ix)
    (gt : ∀ E' ∈ ab_br1 cn E kx ix, ab_G p l e R s m args below meth c Q D cl A sa dT nL vs0 hs0 tgt E' nh hp loc st nc ns) (gf : ∀ E' ∈ ab_br1 (ab_ng cn) E kx ix, ab_G p l e R s m args below meth c Q D cl A sa dT nL vs0 hs0 (pc + 3) E' nh hp loc st nc ns) : ab_G p l e R s m args below meth c Q D cl A sa dT nL vs0 hs0 pc E nh hp loc ((0, kx) :: st) nc ns := by
  intro vs hs ls sv H locs hv hh his
  obtain ⟨vx, sv, rfl, hx, his1⟩ := ab_pop his
  obtain ⟨x, hxq, rfl⟩ := ab_cv0 hx
  refine ab_cmp0 X.1 X.2.1 hd ht (fun h => ?_) (fun h => ?_)
  · obtain ⟨E', h3, h4⟩ := ab_br1_ok his1.1 h1 hxq h
    exact gt E' h3 _ _ _ _ _ _ hv hh (ab_env his1 h4)
  · obtain ⟨E', h3, h4⟩ := ab_br1_ok his1.1 h1 hxq (ab_ic_ng h)
    exact gf E' h3 _ _ _ _ _ _ hv hh (ab_env his1 h4)
theorem ab_goto (X : ab_X p s m args c cc own nL D cl (ab_tys dT rn) A Ts) {off : Int} {tgt : Nat} (hd : decode cc pc = .ok (.goto off, 3)) (ht : (pc : Int) + off = (tgt : Int)) (g : ab_G p l e R s m args below meth c Q D cl A sa dT nL vs0 hs0 tgt E nh hp loc st nc ns) : ab_G p l e R s m args below meth c Q D cl A sa dT nL vs0 hs0 pc E nh hp loc st nc ns :=
  fun _ _ _ _ _ _ hv hh his => lv_goto X.1 X.2.1 hd ht (g _ _ _ _ _ _ hv hh his)
theorem ab_iconst (X : ab_X p s m args c cc own nL D cl (ab_tys dT rn) A Ts) {n : Int} (hd : decode cc pc = .ok (.iconst n, 1)) (hn : -2147483648 ≤ n ∧ n ≤ 2147483647) (g : ab_G p l e R s m args below meth c Q D cl A sa dT nL vs0 hs0 (pc + 1) (E ++ [(n, n)]) nh hp loc ((0, E.length) :: st) nc ns) : ab_G p l e R s m args below meth c Q D cl A sa dT nL vs0 hs0 pc E nh hp loc st nc ns :=
  fun _ _ _ _ _ _ hv hh his => lv_iconst X.1 X.2.1 hd rfl (g _ _ _ _ _ _ (ab_x1 _ hv) hh (ab_push his (ab_const hn.1 hn.2)))
theorem ab_bipush (X : ab_X p s m args c cc own nL D cl (ab_tys dT rn) A Ts) {n : Int} (hd : decode cc pc = .ok (.bipush n, 2)) (hn : -128 ≤ n ∧ n ≤ 127) (g : ab_G p l e R s m args below meth c Q D cl A sa dT nL vs0 hs0 (pc + 2) (E ++ [(n, n)]) nh hp loc ((0, E.length) :: st) nc ns) : ab_G p l e R s m args below meth c Q D cl A sa dT nL vs0 hs0 pc E nh hp loc st nc ns :=
  fun _ _ _ _ _ _ hv hh his => lv_bipush X.1 X.2.1 hd (ab_push8 hn.1 hn.2) (g _ _ _ _ _ _ (ab_x1 _ hv) hh (ab_push his (ab_const (by omega) (by omega))))
theorem ab_sipush (X : ab_X p s m args c cc own nL D cl (ab_tys dT rn) A Ts) {n : Int} (hd : decode cc pc = .ok (.sipush n, 3)) (hn : -32768 ≤ n ∧ n ≤ 32767) (g : ab_G p l e R s m args below meth c Q D cl A sa dT nL vs0 hs0 (pc + 3) (E ++ [(n, n)]) nh hp loc ((0, E.length) :: st) nc ns) : ab_G p l e R s m args below meth c Q D cl A sa dT nL vs0 hs0 pc E nh hp loc st nc ns :=
  fun _ _ _ _ _ _ hv hh his => lv_sipush X.1 X.2.1 hd (ab_push16 hn.1 hn.2) (g _ _ _ _ _ _ (ab_x1 _ hv) hh (ab_push his (ab_const (by omega) (by omega))))
theorem ab_ldc (X : ab_X p s m args c cc own nL D cl (ab_tys dT rn) A Ts) {ix : Nat} {n : Int} (hd : decode cc pc = .ok (.ldc ix, 2)) (hn : -2147483648 ≤ n ∧ n ≤ 2147483647) (hc : (Jvm.Cond.constant own ix (Int32.ofInt n)).before args s = true) (g : ab_G p l e R s m args below meth c Q D cl A sa dT nL vs0 hs0 (pc + 2) (E ++ [(n, n)]) nh hp loc ((0, E.length) :: st) nc ns) : ab_G p l e R s m args below meth c Q D cl A sa dT nL vs0 hs0 pc E nh hp loc st nc ns :=
  fun _ _ _ _ _ _ hv hh his => lv_ldc X.1 X.2.1 X.2.2.2.1 hc hd (g _ _ _ _ _ _ (ab_x1 _ hv) hh (ab_push his (ab_const hn.1 hn.2)))
theorem ab_ldcw (X : ab_X p s m args c cc own nL D cl (ab_tys dT rn) A Ts) {ix : Nat} {n : Int} (hd : decode cc pc = .ok (.ldc_w ix, 3)) (hn : -2147483648 ≤ n ∧ n ≤ 2147483647) (hc : (Jvm.Cond.constant own ix (Int32.ofInt n)).before args s = true) (g : ab_G p l e R s m args below meth c Q D cl A sa dT nL vs0 hs0 (pc + 3) (E ++ [(n, n)]) nh hp loc ((0, E.length) :: st) nc ns) : ab_G p l e R s m args below meth c Q D cl A sa dT nL vs0 hs0 pc E nh hp loc st nc ns :=
  fun _ _ _ _ _ _ hv hh his => lv_ldcw X.1 X.2.1 X.2.2.2.1 hc hd (g _ _ _ _ _ _ (ab_x1 _ hv) hh (ab_push his (ab_const hn.1 hn.2)))
theorem ab_iload_n (X : ab_X p s m args c cc own nL D cl (ab_tys dT rn) A Ts) {i : Fin 4} {k : Nat} (hd : decode cc pc = .ok (.iload_n i, 1)) (hl : ab_lk loc (i : Nat) = some (0, k)) (g : ab_G p l e R s m args below meth c Q D cl A sa dT nL vs0 hs0 (pc + 1) E nh hp loc ((0, k) :: st) nc ns) : ab_G p l e R s m args below meth c Q D cl A sa dT nL vs0 hs0 pc E nh hp loc st nc ns := by
  intro vs hs ls sv H locs hv hh his
  obtain ⟨w, h1, h2⟩ := ab_l_get his.2.2.1 hl
  obtain ⟨x, h3, rfl⟩ := ab_cv0 h1
  exact lv_iload_n X.1 X.2.1 hd rfl h2 (g _ _ _ _ _ _ hv hh (ab_pv his h1))
theorem ab_iload (X : ab_X p s m args c cc own nL D cl (ab_tys dT rn) A Ts) {i k : Nat} (hd : decode cc pc = .ok (.iload i, 2)) (hl : ab_lk loc i = some (0, k)) (g : ab_G p l e R s m args below meth c Q D cl A sa dT nL vs0 hs0 (pc + 2) E nh hp loc ((0, k) :: st) nc ns) : ab_G p l e R s m args below meth c Q D cl A sa dT nL vs0 hs0 pc E nh hp loc st nc ns := by
  intro vs hs ls sv H locs hv hh his
  obtain ⟨w, h1, h2⟩ := ab_l_get his.2.2.1 hl
  obtain ⟨x, h3, rfl⟩ := ab_cv0 h1
  exact lv_iload X.1 X.2.1 hd h2 (g _ _ _ _ _ _ hv hh (ab_pv his h1))
theorem ab_aload_n (X : ab_X p s m args c cc own nL D cl (ab_tys dT rn) A Ts) {i : Fin 4} {k : Nat} (hd : decode cc pc = .ok (.aload_n i, 1)) (hl : ab_lk loc (i : Nat) = some (1, k)) (g : ab_G p l e R s m args below meth c Q D cl A sa dT nL vs0 hs0 (pc + 1) E nh hp loc ((1, k) :: st) nc ns) : ab_G p l e R s m args below meth c Q D cl A sa dT nL vs0 hs0 pc E nh hp loc st nc ns := by
  intro vs hs ls sv H locs hv hh his
  obtain ⟨w, h1, h2⟩ := ab_l_get his.2.2.1 hl
  obtain ⟨x, h3, rfl⟩ := ab_cv1 h1
  exact lv_aload_n X.1 X.2.1 hd rfl h2 (g _ _ _ _ _ _ hv hh (ab_pv his h1))
theorem ab_aload (X : ab_X p s m args c cc own nL D cl (ab_tys dT rn) A Ts) {i k : Nat} (hd : decode cc pc = .ok (.aload i, 2)) (hl : ab_lk loc i = some (1, k)) (g : ab_G p l e R s m args below meth c Q D cl A sa dT nL vs0 hs0 (pc + 2) E nh hp loc ((1, k) :: st) nc ns) : ab_G p l e R s m args below meth c Q D cl A sa dT nL vs0 hs0 pc E nh hp loc st nc ns := by
  intro vs hs ls sv H locs hv hh his
  obtain ⟨w, h1, h2⟩ := ab_l_get his.2.2.1 hl
  obtain ⟨x, h3, rfl⟩ := ab_cv1 h1
  exact lv_aload X.1 X.2.1 hd h2 (g _ _ _ _ _ _ hv hh (ab_pv his h1))
theorem ab_istore_n (X : ab_X p s m args c cc own nL D cl (ab_tys dT rn) A Ts) {i : Fin 4} {k : Nat} (hd : decode cc pc = .ok (.istore_n i, 1)) (hi : (i : Nat) < nL) (g : ab_G p l e R s m args below meth c Q D cl A sa dT nL vs0 hs0 (pc + 1) E nh hp (ab_ls loc i (0, k)) st nc ns) : ab_G p l e R s m args below meth c Q D cl A sa dT nL vs0 hs0 pc E nh hp loc ((0, k) :: st) nc ns := by
  intro vs hs ls sv H locs hv hh his
  obtain ⟨vx, sv, rfl, hx, his1⟩ := ab_pop his
  obtain ⟨x, h3, rfl⟩ := ab_cv0 hx
  exact lv_istore_n X.1 X.2.1 hd rfl his1.2.2.1.1 hi rfl (fun ls' h' => g _ _ _ _ _ _ hv hh ⟨his1.1, his1.2.1, ab_l_set his1.2.2.1 hx h', his1.2.2.2⟩)
theorem ab_istore (X : ab_X p s m args c cc own nL D cl (ab_tys dT rn) A Ts) {i k : Nat} (hd : decode cc pc = .ok (.istore i, 2)) (hi : i < nL) (g : ab_G p l e R s m args below meth c Q D cl A sa dT nL vs0 hs0 (pc + 2) E nh hp (ab_ls loc i (0, k)) st nc ns) : ab_G p l e R s m args below meth c Q D cl A sa dT nL vs0 hs0 pc E nh hp loc ((0, k) :: st) nc ns := by
  intro vs hs ls sv H locs hv hh his
  obtain ⟨vx, sv, rfl, hx, his1⟩ := ab_pop his
  obtain ⟨x, h3, rfl⟩ := ab_cv0 hx
  exact lv_istore X.1 X.2.1 hd his1.2.2.1.1 hi rfl (fun ls' h' => g _ _ _ _ _ _ hv hh ⟨his1.1, his1.2.1, ab_l_set his1.2.2.1 hx h', his1.2.2.2⟩)
theorem ab_astore_n (X : ab_X p s m args c cc own nL D cl (ab_tys dT rn) A Ts) {i : Fin 4} {k : Nat} (hd : decode cc pc = .ok (.astore_n i, 1)) (hi : (i : Nat) < nL) (g : ab_G p l e R s m args below meth c Q D cl A sa dT nL vs0 hs0 (pc + 1) E nh hp (ab_ls loc i (1, k)) st nc ns) : ab_G p l e R s m args below meth c Q D cl A sa dT nL vs0 hs0 pc E nh hp loc ((1, k) :: st) nc ns := by
  intro vs hs ls sv H locs hv hh his
  obtain ⟨vx, sv, rfl, hx, his1⟩ := ab_pop his
  obtain ⟨x, h3, rfl⟩ := ab_cv1 hx
  exact lv_astore_n X.1 X.2.1 hd rfl his1.2.2.1.1 hi rfl (fun ls' h' => g _ _ _ _ _ _ hv hh ⟨his1.1, his1.2.1, ab_l_set his1.2.2.1 hx h', his1.2.2.2⟩)
theorem ab_astore (X : ab_X p s m args c cc own nL D cl (ab_tys dT rn) A Ts) {i k : Nat} (hd : decode cc pc = .ok (.astore i, 2)) (hi : i < nL) (g : ab_G p l e R s m args below meth c Q D cl A sa dT nL vs0 hs0 (pc + 2) E nh hp (ab_ls loc i (1, k)) st nc ns) : ab_G p l e R s m args below meth c Q D cl A sa dT nL vs0 hs0 pc E nh hp loc ((1, k) :: st) nc ns := by
  intro vs hs ls sv H locs hv hh his
  obtain ⟨vx, sv, rfl, hx, his1⟩ := ab_pop his
  obtain ⟨x, h3, rfl⟩ := ab_cv1 hx
  exact lv_astore X.1 X.2.1 hd his1.2.2.1.1 hi rfl (fun ls' h' => g _ _ _ _ _ _ hv hh ⟨his1.1, his1.2.1, ab_l_set his1.2.2.1 hx h', his1.2.2.2⟩)
theorem ab_iinc (X : ab_X p s m args c cc own nL D cl (ab_tys dT rn) A Ts) {i k : Nat} {n : Int} {j : ab_I} (hd : decode cc pc = .ok (.iinc i n, 3)) (hn : -2147483648 ≤ n ∧ n ≤ 2147483647) (hi : i < nL) (hl : ab_lk loc i = some (0, k)) (hk : E[k]? = some j) (g : ab_G p l e R s m args below meth c Q D cl A sa dT nL vs0 hs0 (pc + 3) (E ++ [ab_cl (j.1 + n, j.2 + n)]) nh hp (ab_ls loc i (0, E.length)) st nc ns) : ab_G p l e R s m args below meth c Q D cl A sa dT nL vs0 hs0 pc E nh hp loc st nc ns := by
  intro vs hs ls sv H locs hv hh his
  obtain ⟨w, h1, h2⟩ := ab_l_get his.2.2.1 hl
  obtain ⟨x, h3, rfl⟩ := ab_cv0 h1
  have his2 := ab_push his (ab_add (his.1.2 k j x hk h3) (ab_const hn.1 hn.2))
  obtain ⟨v2, sv2, e2, h4, his2⟩ := ab_pop his2
  cases e2
  have hm := List.mem_map_of_mem (f := fun q : Nat × ab_V => (q.1, (ab_cv sa (vs ++ [x + Int32.ofInt n]) hs q.2).getD .null)) (ab_lk_ok loc i (0, k) hl)
  have h5 := ab_mono [x + Int32.ofInt n] [] h1
  rw [List.append_nil] at h5
  dsimp only at hm
  rw [h5] at hm
  obtain ⟨kk, hkk⟩ := List.getElem?_of_mem hm
  exact lv_iinc X.1 X.2.1 hd his2.2.2.1.1 hkk rfl hi rfl (fun ls' h' => g _ _ _ _ _ _ (ab_x1 _ hv) hh ⟨his2.1, his2.2.1, ab_l_set his2.2.2.1 h4 h', his2.2.2.2⟩)
theorem ab_iadd (X : ab_X p s m args c cc own nL D cl (ab_tys dT rn) A Ts) {kx ky : Nat} {ix iy : ab_I} (hd : decode cc pc = .ok (.iadd, 1)) (h1 : E[kx]? = some ix) (h2 : E[ky]? = some iy) (g : ab_G p l e R s m args below meth c Q D cl A sa dT nL vs0 hs0 (pc + 1) (E ++ [ab_cl (ix.1 + iy.1, ix.2 + iy.2)]) nh hp loc ((0, E.length) :: st) nc ns) : ab_G p l e R s m args below meth c Q D cl A sa dT nL vs0 hs0 pc E nh hp loc ((0, ky) :: (0, kx) :: st) nc ns := by
  intro vs hs ls sv H locs hv hh his
  obtain ⟨vy, sv, rfl, hy, his1⟩ := ab_pop his
  obtain ⟨vx, sv, rfl, hx, his2⟩ := ab_pop his1
  obtain ⟨y, hyq, rfl⟩ := ab_cv0 hy
  obtain ⟨x, hxq, rfl⟩ := ab_cv0 hx
  exact lv_iadd X.1 X.2.1 hd (g _ _ _ _ _ _ (ab_x1 _ hv) hh (ab_push his2 (ab_add (his2.1.2 kx ix x h1 hxq) (his2.1.2 ky iy y h2 hyq))))
theorem ab_isub (X : ab_X p s m args c cc own nL D cl (ab_tys dT rn) A Ts) {kx ky : Nat} {ix iy : ab_I} (hd : decode cc pc = .ok (.isub, 1)) (h1 : E[kx]? = some ix) (h2 : E[ky]? = some iy) (g : ab_G p l e R s m args below meth c Q D cl A sa dT nL vs0 hs0 (pc + 1) (E ++ [ab_cl (ix.1 - iy.2, ix.2 - iy.1)]) nh hp loc ((0, E.length) :: st) nc ns) : ab_G p l e R s m args below meth c Q D cl A sa dT nL vs0 hs0 pc E nh hp loc ((0, ky) :: (0, kx) :: st) nc ns := by
  intro vs hs ls sv H locs hv hh his
  obtain ⟨vy, sv, rfl, hy, his1⟩ := ab_pop his
  obtain ⟨vx, sv, rfl, hx, his2⟩ := ab_pop his1
  obtain ⟨y, hyq, rfl⟩ := ab_cv0 hy
  obtain ⟨x, hxq, rfl⟩ := ab_cv0 hx
  exact lv_isub X.1 X.2.1 hd (g _ _ _ _ _ _ (ab_x1 _ hv) hh (ab_push his2 (ab_sub (his2.1.2 kx ix x h1 hxq) (his2.1.2 ky iy y h2 hyq))))
theorem ab_imul (X : ab_X p s m args c cc own nL D cl (ab_tys dT rn) A Ts) {kx ky : Nat} {ix iy : ab_I} (hd : decode cc pc = .ok (.imul, 1)) (h1 : E[kx]? = some ix) (h2 : E[ky]? = some iy) (g : ab_G p l e R s m args below meth c Q D cl A sa dT nL vs0 hs0 (pc + 1) (E ++ [ab_mulI ix iy]) nh hp loc ((0, E.length) :: st) nc ns) : ab_G p l e R s m args below meth c Q D cl A sa dT nL vs0 hs0 pc E nh hp loc ((0, ky) :: (0, kx) :: st) nc ns := by
  intro vs hs ls sv H locs hv hh his
  obtain ⟨vy, sv, rfl, hy, his1⟩ := ab_pop his
  obtain ⟨vx, sv, rfl, hx, his2⟩ := ab_pop his1
  obtain ⟨y, hyq, rfl⟩ := ab_cv0 hy
  obtain ⟨x, hxq, rfl⟩ := ab_cv0 hx
  exact lv_imul X.1 X.2.1 hd (g _ _ _ _ _ _ (ab_x1 _ hv) hh (ab_push his2 (ab_mul (his2.1.2 kx ix x h1 hxq) (his2.1.2 ky iy y h2 hyq))))
theorem ab_iand (X : ab_X p s m args c cc own nL D cl (ab_tys dT rn) A Ts) {kx ky : Nat} {ix iy : ab_I} (hd : decode cc pc = .ok (.iand, 1)) (h1 : E[kx]? = some ix) (h2 : E[ky]? = some iy) (g : ab_G p l e R s m args below meth c Q D cl A sa dT nL vs0 hs0 (pc + 1) (E ++ [ab_andI ix iy]) nh hp loc ((0, E.length) :: st) nc ns) : ab_G p l e R s m args below meth c Q D cl A sa dT nL vs0 hs0 pc E nh hp loc ((0, ky) :: (0, kx) :: st) nc ns := by
  intro vs hs ls sv H locs hv hh his
  obtain ⟨vy, sv, rfl, hy, his1⟩ := ab_pop his
  obtain ⟨vx, sv, rfl, hx, his2⟩ := ab_pop his1
  obtain ⟨y, hyq, rfl⟩ := ab_cv0 hy
  obtain ⟨x, hxq, rfl⟩ := ab_cv0 hx
  exact lv_iand X.1 X.2.1 hd (g _ _ _ _ _ _ (ab_x1 _ hv) hh (ab_push his2 (ab_and (his2.1.2 kx ix x h1 hxq) (his2.1.2 ky iy y h2 hyq))))
theorem ab_ior (X : ab_X p s m args c cc own nL D cl (ab_tys dT rn) A Ts) {kx ky : Nat} {ix iy : ab_I} (hd : decode cc pc = .ok (.ior, 1)) (h1 : E[kx]? = some ix) (h2 : E[ky]? = some iy) (g : ab_G p l e R s m args below meth c Q D cl A sa dT nL vs0 hs0 (pc + 1) (E ++ [ab_orI ix iy]) nh hp loc ((0, E.length) :: st) nc ns) : ab_G p l e R s m args below meth c Q D cl A sa dT nL vs0 hs0 pc E nh hp loc ((0, ky) :: (0, kx) :: st) nc ns := by
  intro vs hs ls sv H locs hv hh his
  obtain ⟨vy, sv, rfl, hy, his1⟩ := ab_pop his
  obtain ⟨vx, sv, rfl, hx, his2⟩ := ab_pop his1
  obtain ⟨y, hyq, rfl⟩ := ab_cv0 hy
  obtain ⟨x, hxq, rfl⟩ := ab_cv0 hx
  exact lv_ior X.1 X.2.1 hd (g _ _ _ _ _ _ (ab_x1 _ hv) hh (ab_push his2 (ab_or (his2.1.2 kx ix x h1 hxq) (his2.1.2 ky iy y h2 hyq))))
theorem ab_ixor (X : ab_X p s m args c cc own nL D cl (ab_tys dT rn) A Ts) {kx ky : Nat} {ix iy : ab_I} (hd : decode cc pc = .ok (.ixor, 1)) (h1 : E[kx]? = some ix) (h2 : E[ky]? = some iy) (g : ab_G p l e R s m args below meth c Q D cl A sa dT nL vs0 hs0 (pc + 1) (E ++ [ab_orI ix iy]) nh hp loc ((0, E.length) :: st) nc ns) : ab_G p l e R s m args below meth c Q D cl A sa dT nL vs0 hs0 pc E nh hp loc ((0, ky) :: (0, kx) :: st) nc ns := by
  intro vs hs ls sv H locs hv hh his
  obtain ⟨vy, sv, rfl, hy, his1⟩ := ab_pop his
  obtain ⟨vx, sv, rfl, hx, his2⟩ := ab_pop his1
  obtain ⟨y, hyq, rfl⟩ := ab_cv0 hy
  obtain ⟨x, hxq, rfl⟩ := ab_cv0 hx
  exact lv_ixor X.1 X.2.1 hd (g _ _ _ _ _ _ (ab_x1 _ hv) hh (ab_push his2 (ab_xor (his2.1.2 kx ix x h1 hxq) (his2.1.2 ky iy y h2 hyq))))
theorem ab_idiv (X : ab_X p s m args c cc own nL D cl (ab_tys dT rn) A Ts) {kx ky : Nat} {ix iy r : ab_I} (hd : decode cc pc = .ok (.idiv, 1)) (h1 : E[kx]? = some ix) (h2 : E[ky]? = some iy) (h3 : ab_divI ix iy = some r) (g : ab_G p l e R s m args below meth c Q D cl A sa dT nL vs0 hs0 (pc + 1) (E ++ [r]) nh hp loc ((0, E.length) :: st) nc ns) : ab_G p l e R s m args below meth c Q D cl A sa dT nL vs0 hs0 pc E nh hp loc ((0, ky) :: (0, kx) :: st) nc ns := by
  intro vs hs ls sv H locs hv hh his
  obtain ⟨vy, sv, rfl, hy, his1⟩ := ab_pop his
  obtain ⟨vx, sv, rfl, hx, his2⟩ := ab_pop his1
  obtain ⟨y, hyq, rfl⟩ := ab_cv0 hy
  obtain ⟨x, hxq, rfl⟩ := ab_cv0 hx
  obtain ⟨k1, k2⟩ := ab_div (his2.1.2 kx ix x h1 hxq) (his2.1.2 ky iy y h2 hyq) h3
  exact lv_idiv X.1 X.2.1 hd k1 (g _ _ _ _ _ _ (ab_x1 _ hv) hh (ab_push his2 k2))
theorem ab_irem (X : ab_X p s m args c cc own nL D cl (ab_tys dT rn) A Ts) {kx ky : Nat} {ix iy r : ab_I} (hd : decode cc pc = .ok (.irem, 1)) (h1 : E[kx]? = some ix) (h2 : E[ky]? = some iy) (h3 : ab_remI ix iy = some r) (g : ab_G p l e R s m args below meth c Q D cl A sa dT nL vs0 hs0 (pc + 1) (E ++ [r]) nh hp loc ((0, E.length) :: st) nc ns) : ab_G p l e R s m args below meth c Q D cl A sa dT nL vs0 hs0 pc E nh hp loc ((0, ky) :: (0, kx) :: st) nc ns := by
  intro vs hs ls sv H locs hv hh his
  obtain ⟨vy, sv, rfl, hy, his1⟩ := ab_pop his
  obtain ⟨vx, sv, rfl, hx, his2⟩ := ab_pop his1
  obtain ⟨y, hyq, rfl⟩ := ab_cv0 hy
  obtain ⟨x, hxq, rfl⟩ := ab_cv0 hx
  obtain ⟨k1, k2⟩ := ab_rem (his2.1.2 kx ix x h1 hxq) (his2.1.2 ky iy y h2 hyq) h3
  exact lv_irem X.1 X.2.1 hd k1 (g _ _ _ _ _ _ (ab_x1 _ hv) hh (ab_push his2 k2))

theorem ab_dup (X : ab_X p s m args c cc own nL D cl (ab_tys dT rn) A Ts) {a : ab_V} (hd : decode cc pc = .ok (.dup, 1)) (g : ab_G p l e R s m args below meth c Q D cl A sa dT nL vs0 hs0 (pc + 1) E nh hp loc (a :: a :: st) nc ns) : ab_G p l e R s m args below meth c Q D cl A sa dT nL vs0 hs0 pc E nh hp loc (a :: st) nc ns := by
  intro vs hs ls sv H locs hv hh his
  obtain ⟨vx, sv, rfl, hx, his1⟩ := ab_pop his
  exact lv_dup X.1 X.2.1 hd (ab_cat hx) (g _ _ _ _ _ _ hv hh (ab_pv (ab_pv his1 hx) hx))
theorem ab_popi (X : ab_X p s m args c cc own nL D cl (ab_tys dT rn) A Ts) {a : ab_V} (hd : decode cc pc = .ok (.pop, 1)) (g : ab_G p l e R s m args below meth c Q D cl A sa dT nL vs0 hs0 (pc + 1) E nh hp loc st nc ns) : ab_G p l e R s m args below meth c Q D cl A sa dT nL vs0 hs0 pc E nh hp loc (a :: st) nc ns := by
  intro vs hs ls sv H locs hv hh his
  obtain ⟨vx, sv, rfl, hx, his1⟩ := ab_pop his
  exact lv_pop X.1 X.2.1 hd (ab_cat hx) (g _ _ _ _ _ _ hv hh his1)
theorem ab_dupx1 (X : ab_X p s m args c cc own nL D cl (ab_tys dT rn) A Ts) {a b : ab_V} (hd : decode cc pc = .ok (.dup_x1, 1)) (g : ab_G p l e R s m args below meth c Q D cl A sa dT nL vs0 hs0 (pc + 1) E nh hp loc (a :: b :: a :: st) nc ns) : ab_G p l e R s m args below meth c Q D cl A sa dT nL vs0 hs0 pc E nh hp loc (a :: b :: st) nc ns := by
  intro vs hs ls sv H locs hv hh his
  obtain ⟨vx, sv, rfl, hx, his1⟩ := ab_pop his
  obtain ⟨vy, sv, rfl, hy, his2⟩ := ab_pop his1
  exact lv_dup_x1 X.1 X.2.1 hd (ab_cat hx) (ab_cat hy) (g _ _ _ _ _ _ hv hh (ab_pv (ab_pv (ab_pv his2 hx) hy) hx))
theorem ab_dupx2 (X : ab_X p s m args c cc own nL D cl (ab_tys dT rn) A Ts) {a b d : ab_V} (hd : decode cc pc = .ok (.dup_x2, 1)) (g : ab_G p l e R s m args below meth c Q D cl A sa dT nL vs0 hs0 (pc + 1) E nh hp loc (a :: b :: d :: a :: st) nc ns) : ab_G p l e R s m args below meth c Q D cl A sa dT nL vs0 hs0 pc E nh hp loc (a :: b :: d :: st) nc ns := by
  intro vs hs ls sv H locs hv hh his
  obtain ⟨vx, sv, rfl, hx, his1⟩ := ab_pop his
  obtain ⟨vy, sv, rfl, hy, his2⟩ := ab_pop his1
  obtain ⟨vz, sv, rfl, hz, his3⟩ := ab_pop his2
  exact lv_dup_x2 X.1 X.2.1 hd (ab_cat hx) (ab_cat hy) (ab_cat hz) (g _ _ _ _ _ _ hv hh (ab_pv (ab_pv (ab_pv (ab_pv his3 hx) hz) hy) hx))
theorem ab_dup2 (X : ab_X p s m args c cc own nL D cl (ab_tys dT rn) A Ts) {a b : ab_V} (hd : decode cc pc = .ok (.dup2, 1)) (g : ab_G p l e R s m args below meth c Q D cl A sa dT nL vs0 hs0 (pc + 1) E nh hp loc (a :: b :: a :: b :: st) nc ns) : ab_G p l e R s m args below meth c Q D cl A sa dT nL vs0 hs0 pc E nh hp loc (a :: b :: st) nc ns := by
  intro vs hs ls sv H locs hv hh his
  obtain ⟨vx, sv, rfl, hx, his1⟩ := ab_pop his
  obtain ⟨vy, sv, rfl, hy, his2⟩ := ab_pop his1
  exact lv_dup2_11 X.1 X.2.1 hd (ab_cat hx) (ab_cat hy) (g _ _ _ _ _ _ hv hh (ab_pv (ab_pv (ab_pv (ab_pv his2 hy) hx) hy) hx))
theorem ab_tab (X : ab_X p s m args c cc own nL D cl (ab_tys dT rn) A Ts) {df lo hi : Int} {offs : Array Int} {len kx td : Nat} {ix : ab_I} (hd : decode cc pc = .ok (.tableswitch df lo hi offs, len)) (h1 : E[kx]? = some ix)
    (gi : ∀ z : Int, ix.1 ≤ z → z ≤ ix.2 → lo ≤ z → z ≤ hi → ∃ (off : Int) (t : Nat), offs[(z - lo).toNat]? = some off ∧ (pc : Int) + off = (t : Int) ∧ ab_G p l e R s m args below meth c Q D cl A sa dT nL vs0 hs0 t (E.set kx (z, z)) nh hp loc st nc ns)
    (hdt : (pc : Int) + df = (td : Int)) (go : ix.1 < lo ∨ hi < ix.2 → ab_G p l e R s m args below meth c Q D cl A sa dT nL vs0 hs0 td E nh hp loc st nc ns) : ab_G p l e R s m args below meth c Q D cl A sa dT nL vs0 hs0 pc E nh hp loc ((0, kx) :: st) nc ns := by
  intro vs hs ls sv H locs hv hh his
  obtain ⟨vx, sv, rfl, hx, his1⟩ := ab_pop his
  obtain ⟨x, hxq, rfl⟩ := ab_cv0 hx
  have hi2 := his1.1.2 kx ix x h1 hxq
  by_cases hin : x.toInt < lo ∨ hi < x.toInt
  · exact lv_tableOut X.1 X.2.1 hd hin hdt (go (by have := hi2.1; have := hi2.2; omega) _ _ _ _ _ _ hv hh his1)
  · obtain ⟨off, t, g1, g2, g3⟩ := gi x.toInt hi2.1 hi2.2 (by omega) (by omega)
    exact lv_tableIn X.1 X.2.1 hd (by omega) (by omega) g1 g2 (g3 _ _ _ _ _ _ hv hh (ab_env his1 (ab_e_set his1.1 kx (fun z hz => by rw [hxq] at hz; cases hz; exact ⟨Int.le_refl _, Int.le_refl _⟩))))
theorem ab_lksw (X : ab_X p s m args c cc own nL D cl (ab_tys dT rn) A Ts) {df : Int} {ps : Array (Int × Int)} {len kx : Nat} {ix : ab_I} (hd : decode cc pc = .ok (.lookupswitch df ps, len)) (hp0 : (ps.toList.zip (ps.toList.drop 1)).all (fun (a, next) => a.1 < next.1) = true) (h1 : E[kx]? = some ix)
    (gi : ∀ x : Int32, ab_in ix x → ∃ (t : Nat) (E' : List ab_I), (pc : Int) + Op.lookupswitch.offset ps.toList df x.toInt = (t : Int) ∧ (∀ vs : List Int32, ab_e E vs → vs[kx]? = some x → ab_e E' vs) ∧ ab_G p l e R s m args below meth c Q D cl A sa dT nL vs0 hs0 t E' nh hp loc st nc ns) : ab_G p l e R s m args below meth c Q D cl A sa dT nL vs0 hs0 pc E nh hp loc ((0, kx) :: st) nc ns := by
  intro vs hs ls sv H locs hv hh his
  obtain ⟨vx, sv, rfl, hx, his1⟩ := ab_pop his
  obtain ⟨x, hxq, rfl⟩ := ab_cv0 hx
  obtain ⟨t, E', g1, g2, g3⟩ := gi x (his1.1.2 kx ix x h1 hxq)
  exact lv_lookup X.1 X.2.1 hd hp0 rfl g1 (g3 _ _ _ _ _ _ hv hh (ab_env his1 (g2 vs his1.1 hxq)))
def ab_FL (s : State) (args : Array Value) (own : String) (cl : List vw_C) (Ts : List Cond) (ix ci k fl : Nat) : Prop :=
  ∃ (C : String) (T : u_T) (N : Nat) (ty0 : Nat → FieldType) (ref : String), cl[ci]? = some (C, T, N) ∧ k < N ∧ (∀ w ∈ u_ws C T N, w ∈ Ts) ∧ (∀ k, k < N → parseFieldDescriptor (T k).2.2.1 = some (ty0 k)) ∧ (∀ a, a < N → ∀ b, b < N → a ≠ b → (T a).2.1 ≠ (T b).2.1) ∧
    (∀ x, s.fieldFound? (T k).1 (T k).2.1 (T k).2.2.1 = some x → s.fieldFound? ref (T k).2.1 (T k).2.2.1 = some x) ∧ ((Cond.fieldLink own ix ref (T k).2.1 (T k).2.2.1).before args s = true ∨ ∃ host, (Cond.fieldLinkNest own ix ref (T k).2.1 (T k).2.2.1 host).before args s = true) ∧
    (fl % 2 = 0 → ty0 k = .int) ∧ (fl % 2 = 1 → (∃ n, ty0 k = .object n) ∨ ∃ t, ty0 k = .array t) ∧ (fl < 2 → (T k).2.2.2 = false) ∧ (2 ≤ fl → fl < 4 → (T k).2.2.2 = true ∧ (T k).1 = own ∧ (Cond.fieldLink own ix ref (T k).2.1 (T k).2.2.1).before args s = true)
theorem ab_getf (X : ab_X p s m args c cc own nL D cl (ab_tys dT rn) A Ts) {ix ci k fl a j : Nat} {fs : List ab_V} {v : ab_V} (hF : ab_FL s args own cl Ts ix ci k fl) (hd : decode cc pc = .ok (.getfield ix, 3)) (hf : ab_fi hp a 0 = some (j, .inl (ci, fs))) (hv : fs[k]? = some v) (g : ab_G p l e R s m args below meth c Q D cl A sa dT nL vs0 hs0 (pc + 3) E nh hp loc (v :: st) nc ns) : ab_G p l e R s m args below meth c Q D cl A sa dT nL vs0 hs0 pc E nh hp loc ((1, a) :: st) nc ns := by
  intro vs hs ls sv H locs hv0 hh his
  obtain ⟨w, sv, rfl, hw, his1⟩ := ab_pop his
  obtain ⟨q, hq, rfl⟩ := ab_cv1 hw
  obtain ⟨h1, h2, h3, h4, ws, h5, h6, h7, h8⟩ := id his1
  obtain ⟨ce, g1, g2⟩ := ab_w_at h5 hf hq
  obtain ⟨fw, rfl, g3⟩ := g2
  obtain ⟨x, g4, g5⟩ := ab_at g3 hv
  obtain ⟨C, T, N, ty0, ref, f1, f2, f3, f4, f5, f6, f7, -⟩ := hF
  rcases f7 with f7 | ⟨host, f7⟩
  · exact va_get X.1 X.2.1 X.2.2.2.2.1 f3 X.2.2.2.1 X.2.2.2.2.2.1 h6 j g1 f1 k f2 f7 f6 g4 hd (g _ _ _ _ _ _ hv0 hh (ab_pv his1 g5))
  · exact va_getN X.1 X.2.1 X.2.2.2.2.1 f3 X.2.2.2.1 X.2.2.2.2.2.1 h6 j g1 f1 k f2 f7 f6 g4 hd (g _ _ _ _ _ _ hv0 hh (ab_pv his1 g5))
theorem ab_nar {ty : FieldType} {v : ab_V} {sa : Nat → Nat} {vs : List Int32} {hs : List Nat} {w : Value} {fl : Nat} (hv : ab_cv sa vs hs v = some w) (h0 : fl % 2 = 0 → ty = .int) (h1 : fl % 2 = 1 → (∃ n, ty = .object n) ∨ ∃ t, ty = .array t) (ht : (fl % 2 = 0 ∧ v.1 = 0) ∨ (fl % 2 = 1 ∧ v.1 ≠ 0)) : narrow ty w = w ∧ fits ty w = true := by
  obtain ⟨t, k⟩ := v
  rcases ht with ⟨a, b⟩ | ⟨a, b⟩
  · dsimp only at b
    subst b
    obtain ⟨x, -, rfl⟩ := ab_cv0 hv
    rw [h0 a]
    exact ⟨rfl, rfl⟩
  · rcases ab_tag hv with e | e | e | e <;> dsimp only at e b <;> subst e
    · exact absurd rfl b
    · obtain ⟨x, -, rfl⟩ := ab_cv1 hv
      rcases h1 a with ⟨n, rfl⟩ | ⟨n, rfl⟩ <;> exact ⟨rfl, rfl⟩
    · cases hv
      rcases h1 a with ⟨n, rfl⟩ | ⟨n, rfl⟩ <;> exact ⟨rfl, rfl⟩
    · cases hv
      rcases h1 a with ⟨n, rfl⟩ | ⟨n, rfl⟩ <;> exact ⟨rfl, rfl⟩
theorem ab_putf (X : ab_X p s m args c cc own nL D cl (ab_tys dT rn) A Ts) {ix ci k fl a j : Nat} {fs : List ab_V} {v : ab_V} (hF : ab_FL s args own cl Ts ix ci k fl) (hini : 2 ≤ fl → meth.name = "<init>") (hf4 : fl < 4) (hd : decode cc pc = .ok (.putfield ix, 3)) (hf : ab_fi hp a 0 = some (j, .inl (ci, fs))) (hk : k < fs.length) (ht : (fl % 2 = 0 ∧ v.1 = 0) ∨ (fl % 2 = 1 ∧ v.1 ≠ 0)) (g : ab_G p l e R s m args below meth c Q D cl A sa dT nL vs0 hs0 (pc + 3) E nh (hp.set j (a, .inl (ci, fs.set k v))) loc st nc ns) : ab_G p l e R s m args below meth c Q D cl A sa dT nL vs0 hs0 pc E nh hp loc (v :: (1, a) :: st) nc ns := by
  intro vs hs ls sv H locs hv0 hh his
  obtain ⟨w2, sv, rfl, hw2, his1⟩ := ab_pop his
  obtain ⟨w, sv, rfl, hw, his2⟩ := ab_pop his1
  obtain ⟨q, hq, rfl⟩ := ab_cv1 hw
  obtain ⟨h1, h2, h3, h4, ws, h5, h6, h7, h8⟩ := id his2
  obtain ⟨ce, g1, g2⟩ := ab_w_at h5 hf hq
  obtain ⟨fw, rfl, g3⟩ := g2
  obtain ⟨C, T, N, ty0, ref, f1, f2, f3, f4, f5, f6, f7, f8, f9, f10, f11⟩ := hF
  obtain ⟨n1, n2⟩ := ab_nar hw2 f8 f9 ht
  have hl : k < fw.length := by rw [← ab_lenL g3]; exact hk
  have kk : ∀ (H1 : Heap) (locs1 : List Loc), va_P D cl (ws.set j (q, .inr (ci, fw.set k w2))) H1 → va_D A (ws.set j (q, .inr (ci, fw.set k w2))) → va_S A s.heap H1 locs1 → W p l e R s m args below meth c H1 locs1 nc ns Q (F0 m (pc + 3) ls sv) := by
    intro H1 locs1 k1 k2 k3
    exact g _ _ _ _ _ _ hv0 hh ⟨h1, h2, h3, h4, _, ab_w_set h5 (ab_fi0 hf) g1 hq ⟨_, rfl, ab_setL g3 k hw2⟩, k1, k2, k3⟩
  by_cases hfl : fl < 2
  · rcases f7 with f7 | ⟨host, f7⟩
    · exact va_put X.1 X.2.1 X.2.2.2.2.1 f3 ty0 f4 f5 X.2.2.2.1 X.2.2.2.2.2.1 h6 h7 h8 j g1 f1 k f2 f7 f6 (f10 hfl) (f4 k f2) n1 n2 hl hd kk
    · exact va_putN X.1 X.2.1 X.2.2.2.2.1 f3 ty0 f4 f5 X.2.2.2.1 X.2.2.2.2.2.1 h6 h7 h8 j g1 f1 k f2 f7 f6 (f10 hfl) (f4 k f2) n1 n2 hl hd kk
  · obtain ⟨f12, f13, f14⟩ := f11 (by omega) hf4
    exact va_putF X.1 X.2.1 X.2.2.2.2.1 f3 ty0 f4 f5 X.2.2.2.1 X.2.2.2.2.2.1 h6 h7 h8 j g1 f1 k f2 f14 f6 f12 (hini (by omega)) f13 (f4 k f2) n1 n2 hl hd kk
theorem ab_inN {lo hi : Int} {n : Nat} {x : Int32} (h : ab_in (lo, hi) x) (h1 : 0 ≤ lo) (h2 : hi < (n : Int)) : vp_in x n ∧ x.toNatClampNeg < n ∧ ((x.toNatClampNeg : Nat) : Int) = x.toInt := by
  have g1 := h.1
  have g2 := h.2
  dsimp only at g1 g2
  have e : x.toNatClampNeg = x.toInt.toNat := rfl
  have g3 : x.toNatClampNeg < n := by rw [e]; omega
  refine ⟨fun q => ?_, g3, by rw [e]; omega⟩
  rcases q with q | q
  · have := Int32.lt_iff_toInt_lt.mp q
    rw [Int32.toInt_zero] at this
    omega
  · omega
def ab_ixI (i : ab_I) (lo hi lo0 hi0 : Int) : ab_I := if i.1 = i.2 then (if i.1 % 5 = 0 then (lo0, hi0) else (lo, hi)) else (min lo lo0, max hi hi0)
theorem ab_ixI_ok {i : ab_I} {lo hi lo0 hi0 : Int} {z : Nat} {x : Int32} (h1 : i.1 ≤ (z : Int)) (h2 : (z : Int) ≤ i.2) (h : ab_in (ab_b5 lo hi lo0 hi0 z) x) : ab_in (ab_ixI i lo hi lo0 hi0) x := by
  unfold ab_ixI
  unfold ab_b5 at h
  split
  · split
    · rw [if_pos (by omega)] at h
      exact h
    · rw [if_neg (by omega)] at h
      exact h
  · unfold ab_in at *
    split at h <;> dsimp only at * <;> omega
def ab_stI (i v : ab_I) (lo hi lo0 hi0 : Int) : Int × Int × Int × Int :=
  ((if i.1 = i.2 ∧ i.1 % 5 = 0 then lo else min lo v.1), (if i.1 = i.2 ∧ i.1 % 5 = 0 then hi else max hi v.2), (if i.1 = i.2 ∧ ¬ i.1 % 5 = 0 then lo0 else min lo0 v.1), (if i.1 = i.2 ∧ ¬ i.1 % 5 = 0 then hi0 else max hi0 v.2))
theorem ab_stI_old {i v : ab_I} {lo hi lo0 hi0 : Int} {z : Nat} {x : Int32} (h : ab_in (ab_b5 lo hi lo0 hi0 z) x) : ab_in (ab_b5 (ab_stI i v lo hi lo0 hi0).1 (ab_stI i v lo hi lo0 hi0).2.1 (ab_stI i v lo hi lo0 hi0).2.2.1 (ab_stI i v lo hi lo0 hi0).2.2.2 z) x := by
  unfold ab_stI
  unfold ab_b5 at *
  unfold ab_in at *
  dsimp only
  split at h
  · rename_i hz
    rw [if_pos hz]
    dsimp only at *
    split <;> omega
  · rename_i hz
    rw [if_neg hz]
    dsimp only at *
    split <;> omega
theorem ab_stI_new {i v : ab_I} {lo hi lo0 hi0 : Int} {z : Nat} {x : Int32} (h1 : i.1 ≤ (z : Int)) (h2 : (z : Int) ≤ i.2) (h : ab_in v x) : ab_in (ab_b5 (ab_stI i v lo hi lo0 hi0).1 (ab_stI i v lo hi lo0 hi0).2.1 (ab_stI i v lo hi lo0 hi0).2.2.1 (ab_stI i v lo hi lo0 hi0).2.2.2 z) x := by
  unfold ab_stI ab_b5
  unfold ab_in at *
  dsimp only
  split
  · rename_i hz
    dsimp only at *
    rw [if_neg (by omega), if_neg (by omega)]
    omega
  · rename_i hz
    dsimp only at *
    rw [if_neg (by omega), if_neg (by omega)]
    omega
theorem ab_iald (X : ab_X p s m args c cc own nL D cl (ab_tys dT rn) A Ts) {a j n ki : Nat} {lo hi lo0 hi0 : Int} {i : ab_I} (hd : decode cc pc = .ok (.iaload, 1)) (hf : ab_fi hp a 0 = some (j, .inr (.inl (n, lo, hi, lo0, hi0)))) (hi1 : E[ki]? = some i) (h1 : 0 ≤ i.1) (h2 : i.2 < (n : Int)) (g : ab_G p l e R s m args below meth c Q D cl A sa dT nL vs0 hs0 (pc + 1) (E ++ [ab_ixI i lo hi lo0 hi0]) nh hp loc ((0, E.length) :: st) nc ns) : ab_G p l e R s m args below meth c Q D cl A sa dT nL vs0 hs0 pc E nh hp loc ((0, ki) :: (1, a) :: st) nc ns := by
  intro vs hs ls sv H locs hv0 hh his
  obtain ⟨w2, sv, rfl, hw2, his1⟩ := ab_pop his
  obtain ⟨w, sv, rfl, hw, his2⟩ := ab_pop his1
  obtain ⟨x, hx, rfl⟩ := ab_cv0 hw2
  obtain ⟨q, hq, rfl⟩ := ab_cv1 hw
  obtain ⟨k1, k2, k3, k4, ws, k5, k6, k7, k8⟩ := id his2
  obtain ⟨ce, g1, g2⟩ := ab_w_at k5 hf hq
  obtain ⟨f, rfl, g3⟩ := g2
  have hin := k1.2 ki i x hi1 hx
  obtain ⟨m1, m2, m3⟩ := ab_inN hin h1 h2
  exact va_iald X.1 X.2.1 X.2.2.2.2.2.1 k6 j 0 g1 rfl m1 hd (g _ _ _ _ _ _ (ab_x1 _ hv0) hh (ab_push his2 (ab_ixI_ok (by rw [m3]; exact hin.1) (by rw [m3]; exact hin.2) (g3 _ m2))))
theorem ab_iast (X : ab_X p s m args c cc own nL D cl (ab_tys dT rn) A Ts) {a j n ki kx : Nat} {lo hi lo0 hi0 : Int} {i ix : ab_I} (hd : decode cc pc = .ok (.iastore, 1)) (hf : ab_fi hp a 0 = some (j, .inr (.inl (n, lo, hi, lo0, hi0)))) (hi1 : E[ki]? = some i) (hx1 : E[kx]? = some ix) (h1 : 0 ≤ i.1) (h2 : i.2 < (n : Int)) (g : ab_G p l e R s m args below meth c Q D cl A sa dT nL vs0 hs0 (pc + 1) E nh (hp.set j (a, .inr (.inl (n, ab_stI i ix lo hi lo0 hi0)))) loc st nc ns) : ab_G p l e R s m args below meth c Q D cl A sa dT nL vs0 hs0 pc E nh hp loc ((0, kx) :: (0, ki) :: (1, a) :: st) nc ns := by
  intro vs hs ls sv H locs hv0 hh his
  obtain ⟨w3, sv, rfl, hw3, his1⟩ := ab_pop his
  obtain ⟨w2, sv, rfl, hw2, his2⟩ := ab_pop his1
  obtain ⟨w, sv, rfl, hw, his3⟩ := ab_pop his2
  obtain ⟨y, hy, rfl⟩ := ab_cv0 hw3
  obtain ⟨x, hx, rfl⟩ := ab_cv0 hw2
  obtain ⟨q, hq, rfl⟩ := ab_cv1 hw
  obtain ⟨k1, k2, k3, k4, ws, k5, k6, k7, k8⟩ := id his3
  obtain ⟨ce, g1, g2⟩ := ab_w_at k5 hf hq
  obtain ⟨f, rfl, g3⟩ := g2
  have hin := k1.2 ki i x hi1 hx
  obtain ⟨m1, m2, m3⟩ := ab_inN hin h1 h2
  have my := k1.2 kx ix y hx1 hy
  refine va_iast X.1 X.2.1 X.2.2.2.2.2.1 k6 k7 k8 j 0 g1 rfl m1 hd (fun H1 locs1 r1 r2 r3 => g _ _ _ _ _ _ hv0 hh ⟨k1, k2, k3, k4, _, ab_w_set k5 (ab_fi0 hf) g1 hq ⟨_, rfl, fun t ht => ?_⟩, r1, r2, r3⟩)
  show ab_in (ab_b5 (ab_stI i ix lo hi lo0 hi0).1 (ab_stI i ix lo hi lo0 hi0).2.1 (ab_stI i ix lo hi lo0 hi0).2.2.1 (ab_stI i ix lo hi lo0 hi0).2.2.2 t) (if t = x.toNatClampNeg then y else f t)
  by_cases ht2 : t = x.toNatClampNeg
  · rw [if_pos ht2, ht2]
    exact ab_stI_new (by rw [m3]; exact hin.1) (by rw [m3]; exact hin.2) my
  · rw [if_neg ht2]
    exact ab_stI_old (g3 t ht)
theorem ab_aald (X : ab_X p s m args c cc own nL D cl (ab_tys dT rn) A Ts) {a j t ki : Nat} {js : List ab_V} {C : String} {i : ab_I} (hd : decode cc pc = .ok (.aaload, 1)) (hC : rn[t]? = some C) (hf : ab_fi hp a 0 = some (j, .inr (.inr (t, js)))) (hi1 : E[ki]? = some i) (h1 : 0 ≤ i.1) (h2 : i.2 < (js.length : Int)) (g : ∀ (z : Nat) (v : ab_V), i.1 ≤ (z : Int) → (z : Int) ≤ i.2 → js[z]? = some v → ab_G p l e R s m args below meth c Q D cl A sa dT nL vs0 hs0 (pc + 1) (E.set ki ((z : Int), (z : Int))) nh hp loc (v :: st) nc ns) : ab_G p l e R s m args below meth c Q D cl A sa dT nL vs0 hs0 pc E nh hp loc ((0, ki) :: (1, a) :: st) nc ns := by
  intro vs hs ls sv H locs hv0 hh his
  obtain ⟨w2, sv, rfl, hw2, his1⟩ := ab_pop his
  obtain ⟨w, sv, rfl, hw, his2⟩ := ab_pop his1
  obtain ⟨x, hx, rfl⟩ := ab_cv0 hw2
  obtain ⟨q, hq, rfl⟩ := ab_cv1 hw
  obtain ⟨k1, k2, k3, k4, ws, k5, k6, k7, k8⟩ := id his2
  obtain ⟨ce, g1, g2⟩ := ab_w_at k5 hf hq
  obtain ⟨f, rfl, g3⟩ := g2
  have hin := k1.2 ki i x hi1 hx
  obtain ⟨m1, m2, m3⟩ := ab_inN hin h1 h2
  have m4 : js[x.toNatClampNeg]? = some js[x.toNatClampNeg] := List.getElem?_eq_getElem m2
  refine va_aldq X.1 X.2.1 X.2.2.2.2.2.1 k6 j (t + 1) g1 (ab_tys_at hC) m1 hd (g _ _ (by rw [m3]; exact hin.1) (by rw [m3]; exact hin.2) m4 _ _ _ _ _ _ hv0 hh (ab_pv (ab_env his2 (ab_e_set k1 ki (fun z hz => ?_))) (g3 _ _ m4)))
  rw [hx] at hz
  cases hz
  rw [m3]
  exact ⟨Int.le_refl _, Int.le_refl _⟩
theorem ab_alen (X : ab_X p s m args c cc own nL D cl (ab_tys dT rn) A Ts) {a j n : Nat} {lo hi lo0 hi0 : Int} (hn : n < 2147483648) (hd : decode cc pc = .ok (.arraylength, 1)) (hf : ab_fi hp a 0 = some (j, .inr (.inl (n, lo, hi, lo0, hi0)))) (g : ab_G p l e R s m args below meth c Q D cl A sa dT nL vs0 hs0 (pc + 1) (E ++ [((n : Int), (n : Int))]) nh hp loc ((0, E.length) :: st) nc ns) : ab_G p l e R s m args below meth c Q D cl A sa dT nL vs0 hs0 pc E nh hp loc ((1, a) :: st) nc ns := by
  intro vs hs ls sv H locs hv0 hh his
  obtain ⟨w, sv, rfl, hw, his1⟩ := ab_pop his
  obtain ⟨q, hq, rfl⟩ := ab_cv1 hw
  obtain ⟨k1, k2, k3, k4, ws, k5, k6, k7, k8⟩ := id his1
  obtain ⟨ce, g1, g2⟩ := ab_w_at k5 hf hq
  obtain ⟨f, rfl, g3⟩ := g2
  have e : Int32.ofNat n = Int32.ofInt (n : Int) := rfl
  exact va_alen X.1 X.2.1 X.2.2.2.2.2.1 k6 j 0 g1 rfl e hd (g _ _ _ _ _ _ (ab_x1 _ hv0) hh (ab_push his1 (ab_const (by omega) (by omega))))
end
end
section
def ab_su (σ π : List Nat) (v : ab_V) : ab_V := match v.1 with
  | 0 => (match σ[v.2]? with
    | some k => (0, k)
    | none => (9, 0))
  | 1 => (match π[v.2]? with
    | some k => (1, k)
    | none => (9, 0))
  | _ => v
def ab_sc (σ π : List Nat) (x : ab_C) : ab_C := match x with
  | .inl (ci, fs) => .inl (ci, fs.map (ab_su σ π))
  | .inr (.inl y) => .inr (.inl y)
  | .inr (.inr (t, js)) => .inr (.inr (t, js.map (ab_su σ π)))
def ab_leC (σ π : List Nat) (x x' : ab_C) : Bool := match x, x' with
  | .inl (ci, fs), .inl (ci', fs') => decide (ci = ci') && decide (fs.map (ab_su σ π) = fs')
  | .inr (.inl (n, lo, hi, lo0, hi0)), .inr (.inl (n', lo', hi', lo0', hi0')) => decide (n = n') && (decide (lo ≤ lo') && (decide (hi' ≤ hi) && (decide (lo0 ≤ lo0') && decide (hi0' ≤ hi0))))
  | .inr (.inr (t, js)), .inr (.inr (t', js')) => decide (t = t') && decide (js.map (ab_su σ π) = js')
  | _, _ => false
def ab_pk {α : Type} (d : α) (vs : List α) (σ : List Nat) : List α := σ.map (fun k => vs.getD k d)
theorem ab_pk_at {α : Type} {d : α} {vs : List α} {σ : List Nat} {j k : Nat} {x : α} (h1 : σ[j]? = some k) (h2 : vs[k]? = some x) : (ab_pk d vs σ)[j]? = some x := by
  unfold ab_pk
  rw [List.getElem?_map, h1]
  simp [List.getD_eq_getElem?_getD, h2]
theorem ab_pk_inv {α : Type} {d : α} {vs : List α} {σ : List Nat} {j : Nat} {x : α} (hl : ∀ k ∈ σ, k < vs.length) (h : (ab_pk d vs σ)[j]? = some x) : ∃ k, σ[j]? = some k ∧ vs[k]? = some x := by
  unfold ab_pk at h
  rw [List.getElem?_map] at h
  cases hs : σ[j]? with
  | none => rw [hs] at h; cases h
  | some k =>
    rw [hs] at h
    have hk := hl k (List.mem_of_getElem? hs)
    refine ⟨k, rfl, ?_⟩
    simp [List.getD_eq_getElem?_getD, List.getElem?_eq_getElem hk] at h
    rw [List.getElem?_eq_getElem hk, h]
theorem ab_su_dn {sa : Nat → Nat} {vs : List Int32} {hs : List Nat} {σ π : List Nat} {v : ab_V} {w : Value} (h : ab_cv sa vs hs (ab_su σ π v) = some w) : ab_cv sa (ab_pk 0 vs σ) (ab_pk 0 hs π) v = some w := by
  obtain ⟨t, k⟩ := v
  rcases t with _ | _ | t
  · cases hs2 : σ[k]? with
    | none => simp [ab_su, hs2, ab_cv] at h
    | some j =>
      have e : ab_su σ π (0, k) = (0, j) := by simp [ab_su, hs2]
      rw [e] at h
      obtain ⟨x, h1, rfl⟩ := ab_cv0 h
      exact ab_cv0' (ab_pk_at hs2 h1)
  · cases hs2 : π[k]? with
    | none => simp [ab_su, hs2, ab_cv] at h
    | some j =>
      have e : ab_su σ π (1, k) = (1, j) := by simp [ab_su, hs2]
      rw [e] at h
      obtain ⟨x, h1, rfl⟩ := ab_cv1 h
      exact ab_cv1' (ab_pk_at hs2 h1)
  · have e : ab_su σ π (t + 2, k) = (t + 2, k) := rfl
    rw [e] at h
    rcases t with _ | _ | t
    · exact h
    · exact h
    · cases h
theorem ab_su_dnL {sa : Nat → Nat} {vs : List Int32} {hs : List Nat} {σ π : List Nat} {as : List ab_V} {ws : List Value} (h : (as.map (ab_su σ π)).map (ab_cv sa vs hs) = ws.map some) : as.map (ab_cv sa (ab_pk 0 vs σ) (ab_pk 0 hs π)) = ws.map some := by
  induction as generalizing ws with
  | nil => exact h
  | cons a r ih =>
    cases ws with
    | nil => cases h
    | cons w ws =>
      simp only [List.map_cons, List.cons.injEq] at h ⊢
      exact ⟨ab_su_dn h.1, ih h.2⟩
theorem ab_le_dn {sa : Nat → Nat} {dT : Nat → ClassId} {vs : List Int32} {hs : List Nat} {σ π : List Nat} {x x' : ab_C} {e : va_E} (hl : ab_leC σ π x x' = true) (h : ab_ce sa dT vs hs x' e) : ab_ce sa dT (ab_pk 0 vs σ) (ab_pk 0 hs π) x e := by
  rcases x with ⟨ci, fs⟩ | ⟨n, lo, hi, lo0, hi0⟩ | ⟨t, js⟩ <;> rcases x' with ⟨ci', fs'⟩ | ⟨n', lo', hi', lo0', hi0'⟩ | ⟨t', js'⟩ <;> simp only [ab_leC, Bool.and_eq_true, decide_eq_true_eq] at hl <;> try (exact absurd hl (by decide))
  · obtain ⟨rfl, rfl⟩ := hl
    obtain ⟨ws, h1, h2⟩ := h
    exact ⟨ws, h1, ab_su_dnL h2⟩
  · obtain ⟨rfl, h3, h4, h5, h6⟩ := hl
    obtain ⟨f, h1, h2⟩ := h
    refine ⟨f, h1, fun i hi => ?_⟩
    have h7 := h2 i hi
    unfold ab_b5 ab_in at *
    split at h7 <;> rename_i hz
    · rw [if_pos hz]; exact ⟨Int.le_trans h5 h7.1, Int.le_trans h7.2 h6⟩
    · rw [if_neg hz]; exact ⟨Int.le_trans h3 h7.1, Int.le_trans h7.2 h4⟩
  · obtain ⟨rfl, rfl⟩ := hl
    obtain ⟨f, h1, h2⟩ := h
    refine ⟨f, by rw [h1, List.length_map], fun i a hi => ab_su_dn (h2 i _ ?_)⟩
    rw [List.getElem?_map, hi]
    rfl
def ab_po (hp : ab_H) (π : List Nat) (q : Nat × ab_C) : Nat := match π[q.1]? with
  | some b => (match ab_fi hp b 0 with
    | some r => r.1
    | none => hp.length)
  | none => hp.length
def ab_ps (hp : ab_H) (π : List Nat) (hp0 : ab_H) : List Nat := hp0.map (ab_po hp π)
def ab_ck1 (σ π : List Nat) (hp : ab_H) (q : Nat × ab_C) : Bool := match π[q.1]? with
  | some b => (match ab_fi hp b 0 with
    | some r => ab_leC σ π q.2 r.2
    | none => false)
  | none => false
def ab_ck (σ π : List Nat) (hp0 hp : ab_H) : Bool := hp0.all (ab_ck1 σ π hp) && va_nd (ab_ps hp π hp0)
def ab_pw (ws : va_W) (is : List Nat) : va_W := is.map (fun i => ws.getD i (0, .inr (0, [])))
theorem ab_ck1_ok {sa : Nat → Nat} {dT : Nat → ClassId} {vs : List Int32} {hs : List Nat} {σ π : List Nat} {hp : ab_H} {ws : va_W} {q : Nat × ab_C} (hw : ab_w sa dT vs hs hp ws) (h : ab_ck1 σ π hp q = true) : ∃ (a : Nat) (e : va_E), (ab_pk 0 hs π)[q.1]? = some a ∧ ws[ab_po hp π q]? = some (a, e) ∧ ab_ce sa dT (ab_pk 0 vs σ) (ab_pk 0 hs π) q.2 e := by
  unfold ab_ck1 at h
  cases h1 : π[q.1]? with
  | none => rw [h1] at h; cases h
  | some b =>
    rw [h1] at h
    dsimp only at h
    cases h2 : ab_fi hp b 0 with
    | none => rw [h2] at h; cases h
    | some r =>
      rw [h2] at h
      obtain ⟨i, x⟩ := r
      obtain ⟨a, e, g1, g2, g3⟩ := hw.2 i b x (ab_fi0 h2)
      refine ⟨a, e, ab_pk_at h1 g1, ?_, ab_le_dn h g3⟩
      have : ab_po hp π q = i := by unfold ab_po; rw [h1]; dsimp only; rw [h2]
      rw [this]
      exact g2
theorem ab_ck_ok {sa : Nat → Nat} {dT : Nat → ClassId} {vs : List Int32} {hs : List Nat} {σ π : List Nat} {hp0 hp : ab_H} {ws : va_W} (hw : ab_w sa dT vs hs hp ws) (h : ab_ck σ π hp0 hp = true) : va_nd (ab_ps hp π hp0) = true ∧ (ab_ps hp π hp0).map (fun i => ws[i]?) = (ab_pw ws (ab_ps hp π hp0)).map some ∧ ab_w sa dT (ab_pk 0 vs σ) (ab_pk 0 hs π) hp0 (ab_pw ws (ab_ps hp π hp0)) := by
  unfold ab_ck at h
  rw [Bool.and_eq_true] at h
  obtain ⟨h1, h2⟩ := h
  rw [List.all_eq_true] at h1
  have key : ∀ (j : Nat) (q : Nat × ab_C), hp0[j]? = some q → ∃ (a : Nat) (e : va_E), (ab_pk 0 hs π)[q.1]? = some a ∧ ws[ab_po hp π q]? = some (a, e) ∧ (ab_pw ws (ab_ps hp π hp0))[j]? = some (a, e) ∧ ab_ce sa dT (ab_pk 0 vs σ) (ab_pk 0 hs π) q.2 e := by
    intro j q hj
    obtain ⟨a, e, g1, g2, g3⟩ := ab_ck1_ok hw (h1 q (List.mem_of_getElem? hj))
    refine ⟨a, e, g1, g2, ?_, g3⟩
    unfold ab_pw ab_ps
    rw [List.getElem?_map, List.getElem?_map, hj]
    simp [List.getD_eq_getElem?_getD, g2]
  refine ⟨h2, ?_, ?_, ?_⟩
  · apply List.ext_getElem?
    intro j
    cases hj : hp0[j]? with
    | none =>
      have hl : hp0.length ≤ j := List.getElem?_eq_none_iff.mp hj
      rw [List.getElem?_eq_none (by simp [ab_ps]; exact hl), List.getElem?_eq_none (by simp [ab_pw, ab_ps]; exact hl)]
    | some q =>
      obtain ⟨a, e, g1, g2, g3, g4⟩ := key j q hj
      rw [List.getElem?_map, List.getElem?_map, g3]
      unfold ab_ps
      rw [List.getElem?_map, hj]
      simp [g2]
  · simp [ab_pw, ab_ps]
  · intro j a x hj
    obtain ⟨b, e, g1, g2, g3, g4⟩ := key j (a, x) hj
    exact ⟨b, e, g1, g3, g4⟩
def ab_ek (σ : List Nat) (E0 E : List ab_I) : Bool := decide (σ.length = E0.length) && (σ.zip E0).all (fun q => match E[q.1]? with
  | some j => decide (q.2.1 ≤ j.1) && decide (j.2 ≤ q.2.2)
  | none => false)
theorem ab_zip_at {α β : Type} {l : List α} {r : List β} {k : Nat} {x : α} {y : β} (h1 : l[k]? = some x) (h2 : r[k]? = some y) : (x, y) ∈ l.zip r := by
  apply List.mem_of_getElem? (i := k)
  rw [List.getElem?_zip_eq_some]
  exact ⟨h1, h2⟩
theorem ab_ek_ok {σ : List Nat} {E0 E : List ab_I} {vs : List Int32} (he : ab_e E vs) (h : ab_ek σ E0 E = true) : ab_e E0 (ab_pk 0 vs σ) ∧ ∀ k ∈ σ, k < vs.length := by
  unfold ab_ek at h
  rw [Bool.and_eq_true, decide_eq_true_eq, List.all_eq_true] at h
  obtain ⟨h1, h2⟩ := h
  have key : ∀ (j k : Nat), σ[j]? = some k → ∃ (i0 i : ab_I), E0[j]? = some i0 ∧ E[k]? = some i ∧ i0.1 ≤ i.1 ∧ i.2 ≤ i0.2 := by
    intro j k hj
    have hl : j < E0.length := by rw [← h1]; exact (List.getElem?_eq_some_iff.mp hj).1
    have h3 := h2 (k, E0[j]) (ab_zip_at hj (List.getElem?_eq_getElem hl))
    dsimp only at h3
    cases h4 : E[k]? with
    | none => rw [h4] at h3; cases h3
    | some i =>
      rw [h4] at h3
      simp only [Bool.and_eq_true, decide_eq_true_eq] at h3
      exact ⟨E0[j], i, List.getElem?_eq_getElem hl, rfl, h3.1, h3.2⟩
  have hlt : ∀ k ∈ σ, k < vs.length := by
    intro k hk
    obtain ⟨j, hj⟩ := List.getElem?_of_mem hk
    obtain ⟨i0, i, -, g2, -⟩ := key j k hj
    rw [he.1]
    exact (List.getElem?_eq_some_iff.mp g2).1
  refine ⟨⟨by simp [ab_pk, h1], fun j i0 x g1 g2 => ?_⟩, hlt⟩
  obtain ⟨k, g3, g4⟩ := ab_pk_inv hlt g2
  obtain ⟨i1, i, g5, g6, g7, g8⟩ := key j k g3
  rw [g1] at g5
  cases g5
  have := he.2 k i x g6 g4
  exact ⟨Int.le_trans g7 this.1, Int.le_trans this.2 g8⟩
def ab_me : List (Nat × ab_I) → List ab_I → List ab_I
  | [], E => E
  | q :: r, E => ab_me r (match E[q.1]? with
    | some j => E.set q.1 (max q.2.1 j.1, min q.2.2 j.2)
    | none => E)
theorem ab_me_ok : ∀ (l : List (Nat × ab_I)) (E : List ab_I) (vs : List Int32), ab_e E vs → (∀ q ∈ l, ∀ x, vs[q.1]? = some x → ab_in q.2 x) → ab_e (ab_me l E) vs
  | [], _, _, h, _ => h
  | q :: r, E, vs, h, hq => by
    unfold ab_me
    refine ab_me_ok r _ vs ?_ (fun q' h' => hq q' (List.mem_cons_of_mem _ h'))
    split
    · rename_i j hj
      refine ab_e_set h q.1 (fun x hx => ?_)
      have h1 := hq q List.mem_cons_self x hx
      have h2 := h.2 q.1 j x hj hx
      unfold ab_in at *
      dsimp only
      omega
    · exact h
def ab_gr (σ : List Nat) (N k : Nat) : List Nat := σ ++ (List.range k).map (N + ·)
theorem ab_gr_at {α : Type} {σ : List Nat} {d : α} {vs nv : List α} {j : Nat} {x : α} (hl : ∀ k ∈ σ, k < vs.length) (h : (ab_pk d vs σ ++ nv)[j]? = some x) {N k : Nat} (hN : vs.length = N) (hk : nv.length ≤ k) : ∃ i, (ab_gr σ N k)[j]? = some i ∧ (vs ++ nv)[i]? = some x := by
  have hlen : (ab_pk d vs σ).length = σ.length := by simp [ab_pk]
  by_cases hj : j < σ.length
  · rw [List.getElem?_append_left (by rw [hlen]; exact hj)] at h
    obtain ⟨i, g1, g2⟩ := ab_pk_inv hl h
    exact ⟨i, ab_app _ g1, ab_app _ g2⟩
  · rw [List.getElem?_append_right (by rw [hlen]; omega), hlen] at h
    have hjl := (List.getElem?_eq_some_iff.mp h).1
    refine ⟨N + (j - σ.length), ?_, ?_⟩
    · unfold ab_gr
      rw [List.getElem?_append_right (by omega), List.getElem?_map, List.getElem?_range (by omega)]
      rfl
    · rw [List.getElem?_append_right (by omega)]
      have : N + (j - σ.length) - vs.length = j - σ.length := by omega
      rw [this]
      exact h
theorem ab_su_up {sa : Nat → Nat} {vs nv : List Int32} {hs nhs : List Nat} {σ π : List Nat} {N k M kk : Nat} (hl : ∀ k ∈ σ, k < vs.length) (hl2 : ∀ k ∈ π, k < hs.length) (hN : vs.length = N) (hk : nv.length ≤ k) (hM : hs.length = M) (hkk : nhs.length ≤ kk) {v : ab_V} {w : Value} (h : ab_cv sa (ab_pk 0 vs σ ++ nv) (ab_pk 0 hs π ++ nhs) v = some w) : ab_cv sa (vs ++ nv) (hs ++ nhs) (ab_su (ab_gr σ N k) (ab_gr π M kk) v) = some w := by
  obtain ⟨t, j⟩ := v
  rcases ab_tag h with e | e | e | e <;> dsimp only at e <;> subst e
  · obtain ⟨x, h1, rfl⟩ := ab_cv0 h
    obtain ⟨i, g1, g2⟩ := ab_gr_at hl h1 hN hk
    have e : ab_su (ab_gr σ N k) (ab_gr π M kk) (0, j) = (0, i) := by simp [ab_su, g1]
    rw [e]
    exact ab_cv0' g2
  · obtain ⟨x, h1, rfl⟩ := ab_cv1 h
    obtain ⟨i, g1, g2⟩ := ab_gr_at hl2 h1 hM hkk
    have e : ab_su (ab_gr σ N k) (ab_gr π M kk) (1, j) = (1, i) := by simp [ab_su, g1]
    rw [e]
    exact ab_cv1' g2
  · exact h
  · exact h
theorem ab_su_upL {sa : Nat → Nat} {vs vs' : List Int32} {hs hs' : List Nat} {σ π : List Nat} (hu : ∀ (v : ab_V) (w : Value), ab_cv sa vs hs v = some w → ab_cv sa vs' hs' (ab_su σ π v) = some w) {as : List ab_V} {ws : List Value} (h : as.map (ab_cv sa vs hs) = ws.map some) : (as.map (ab_su σ π)).map (ab_cv sa vs' hs') = ws.map some := by
  induction as generalizing ws with
  | nil => exact h
  | cons a r ih =>
    cases ws with
    | nil => cases h
    | cons w ws =>
      simp only [List.map_cons, List.cons.injEq] at h ⊢
      exact ⟨hu _ _ h.1, ih h.2⟩
theorem ab_sc_up {sa : Nat → Nat} {dT : Nat → ClassId} {vs vs' : List Int32} {hs hs' : List Nat} {σ π : List Nat} (hu : ∀ (v : ab_V) (w : Value), ab_cv sa vs hs v = some w → ab_cv sa vs' hs' (ab_su σ π v) = some w) {x : ab_C} {e : va_E} (h : ab_ce sa dT vs hs x e) : ab_ce sa dT vs' hs' (ab_sc σ π x) e := by
  rcases x with ⟨ci, fs⟩ | ⟨n, lo, hi, lo0, hi0⟩ | ⟨t, js⟩
  · obtain ⟨ws, h1, h3⟩ := h
    exact ⟨ws, h1, ab_su_upL hu h3⟩
  · exact h
  · obtain ⟨f, h1, h3⟩ := h
    refine ⟨f, by rw [h1, List.length_map], fun i a hi => ?_⟩
    rw [List.getElem?_map] at hi
    cases hj : js[i]? with
    | none => rw [hj] at hi; cases hi
    | some b =>
      rw [hj] at hi
      cases hi
      exact hu _ _ (h3 i b hj)
def ab_sq (σ π : List Nat) (q : Nat × ab_C) : Nat × ab_C := ((π[q.1]?).getD 0, ab_sc σ π q.2)
theorem ab_sq_up {sa : Nat → Nat} {dT : Nat → ClassId} {vs vs' : List Int32} {hs hs' : List Nat} {σ π : List Nat} (hu : ∀ (v : ab_V) (w : Value), ab_cv sa vs hs v = some w → ab_cv sa vs' hs' (ab_su σ π v) = some w) {hp : ab_H} {ws : va_W} (h : ab_w sa dT vs hs hp ws) : ab_w sa dT vs' hs' (hp.map (ab_sq σ π)) ws := by
  refine ⟨by rw [List.length_map]; exact h.1, fun j a x hj => ?_⟩
  rw [List.getElem?_map] at hj
  cases h0 : hp[j]? with
  | none => rw [h0] at hj; cases hj
  | some q =>
    rw [h0] at hj
    obtain ⟨b, y⟩ := q
    cases hj
    obtain ⟨q, e, g1, g2, g3⟩ := h.2 j b y h0
    refine ⟨q, e, ?_, g2, ab_sc_up hu g3⟩
    have g4 := hu (1, b) _ (ab_cv1' g1)
    cases hb : π[b]? with
    | none => simp [ab_su, hb, ab_cv] at g4
    | some i =>
      have e : ab_su σ π (1, b) = (1, i) := by simp [ab_su, hb]
      rw [e] at g4
      obtain ⟨x, g5, g6⟩ := ab_cv1 g4
      cases g6
      simpa [hb] using g5
def ab_rs (n : Nat) (is : List Nat) : List Nat := (List.range n).filter (fun i => !(is.contains i))
theorem ab_nd_filter (f : Nat → Bool) : ∀ l : List Nat, va_nd l = true → va_nd (l.filter f) = true
  | [], _ => rfl
  | a :: l, h => by
    simp only [va_nd, Bool.and_eq_true, decide_eq_true_eq] at h
    rw [List.filter_cons]
    split
    · simp only [va_nd, Bool.and_eq_true, decide_eq_true_eq]
      exact ⟨fun q => h.1 (List.mem_filter.mp q).1, ab_nd_filter f l h.2⟩
    · exact ab_nd_filter f l h.2
theorem ab_nd_of : ∀ l : List Nat, l.Nodup → va_nd l = true
  | [], _ => rfl
  | a :: l, h => by
    simp only [va_nd, Bool.and_eq_true, decide_eq_true_eq]
    exact ⟨(List.nodup_cons.mp h).1, ab_nd_of l (List.nodup_cons.mp h).2⟩
theorem ab_rs_nd (n : Nat) (is : List Nat) : va_nd (ab_rs n is) = true := ab_nd_filter _ _ (ab_nd_of _ List.nodup_range)
theorem ab_rs_dis {n : Nat} {is : List Nat} : ∀ i ∈ ab_rs n is, i ∉ is := by
  intro i hi h
  have := (List.mem_filter.mp hi).2
  simp [h] at this
theorem ab_rs_w {sa : Nat → Nat} {dT : Nat → ClassId} {vs : List Int32} {hs : List Nat} {hp : ab_H} {ws : va_W} (h : ab_w sa dT vs hs hp ws) (is : List Nat) (hb : ∀ i ∈ is, i < hp.length) : is.map (fun i => ws[i]?) = (ab_pw ws is).map some ∧ ab_w sa dT vs hs (is.map (fun i => hp.getD i (0, .inl (0, [])))) (ab_pw ws is) := by
  refine ⟨?_, by simp [ab_pw], fun j a x hj => ?_⟩
  · unfold ab_pw
    rw [List.map_map]
    apply List.map_congr_left
    intro i hi
    have hl : i < ws.length := by rw [h.1]; exact hb i hi
    simp [List.getD_eq_getElem?_getD, List.getElem?_eq_getElem hl]
  · rw [List.getElem?_map] at hj
    cases hi : is[j]? with
    | none => rw [hi] at hj; cases hj
    | some i =>
      rw [hi] at hj
      have hl : i < hp.length := hb i (List.mem_of_getElem? hi)
      have h0 : hp[i]? = some (a, x) := by
        simp [List.getD_eq_getElem?_getD, List.getElem?_eq_getElem hl] at hj
        rw [List.getElem?_eq_getElem hl, hj]
      obtain ⟨q, e, g1, g2, g3⟩ := h.2 i a x h0
      refine ⟨q, e, g1, ?_, g3⟩
      unfold ab_pw
      rw [List.getElem?_map, hi]
      simp [List.getD_eq_getElem?_getD, g2]
abbrev ab_P : Type := List ab_I × Nat × ab_H × Option ab_V
abbrev ab_SL : Type := List (String × String × String × List Int)
abbrev ab_NF : Type := List (String × Nat × String × String × String × String)
abbrev ab_NM : Type := List (String × Nat × MethodName × String)
def ab_SX (rn : List String) (SL : ab_SL) (NF : ab_NF) (NM : ab_NM) (sa : Nat → Nat) (A : Nat → Prop) (U : State) (H : Heap) : Prop :=
  (∀ C ∈ rn, va_AO C U) ∧ (∀ r ∈ NF, va_Nw (.fieldLinkNest r.1 r.2.1 r.2.2.1 r.2.2.2.1 r.2.2.2.2.1 r.2.2.2.2.2) U) ∧ (∀ r ∈ NM, va_Nw (.methodLinkNest r.1 r.2.1 r.2.2.1 r.2.2.2) U) ∧
    ∀ (t : Nat) (r : String × String × String × List Int), SL[t]? = some r → va_Z r.1 r.2.1 r.2.2.1 (.ref (sa t)) A U H ∧ va_T .int (sa t) r.2.2.2.length (fun j => .int (Int32.ofInt (r.2.2.2.getD j 0))) A U H
def ab_B (cl : List vw_C) (rn : List String) (SL : ab_SL) (NF : ab_NF) (NM : ab_NM) (D : va_G) (sa : Nat → Nat) (dT : Nat → ClassId) (ws : va_W) (sz : Nat) (U : State) : Prop :=
  U.heap.size = sz ∧ va_P D cl ws U.heap ∧ va_K D cl (ab_tys dT rn) U ∧ va_D (fun _ => True) ws ∧ ab_SX rn SL NF NM sa (va_A ws sz) U U.heap
def ab_Q (cl : List vw_C) (D : va_G) (sa : Nat → Nat) (dT : Nat → ClassId) (vs0 : List Int32) (hs0 : List Nat) (ws : va_W) (sz : Nat) (posts : List ab_P) : Array Value → State → Outcome → State → Prop := fun _ st oc t =>
  (∃ P ∈ posts, ∃ (nv : List Int32) (nhs : List Nat) (w1 : va_W) (rv : Option Value), ab_e P.1 (vs0 ++ nv) ∧ (hs0 ++ nhs).length = P.2.1 ∧ P.2.2.2.map (ab_cv sa (vs0 ++ nv) (hs0 ++ nhs)) = rv.map some ∧ oc = .returned rv ∧ ab_w sa dT (vs0 ++ nv) (hs0 ++ nhs) P.2.2.1 w1 ∧ va_P D cl w1 t.heap ∧ va_D (va_A ws sz) w1) ∧ va_F (va_A ws sz) st t
def ab_met (l : Launch) (cl : List vw_C) (rn : List String) (SL : ab_SL) (NF : ab_NF) (NM : ab_NM) (Ts : List Cond) (y : MethodName) (bytes : ByteArray) (maxL : Nat) (ret : Option FieldType) (E0 : List ab_I) (nh0 : Nat) (hp0 : ab_H) (as0 : List ab_V) (posts : List ab_P) (rm : Room) : Prop :=
  ∀ (D : va_G) (sa : Nat → Nat) (dT : Nat → ClassId) (vs0 : List Int32) (hs0 : List Nat) (ws : va_W) (vals : List Value) (sz : Nat), ab_e E0 vs0 → hs0.length = nh0 → ab_w sa dT vs0 hs0 hp0 ws → as0.map (ab_cv sa vs0 hs0) = vals.map some →
    Met l y (.code y bytes maxL ret :: Ts) rm (va_Pc vals (ab_B cl rn SL NF NM D sa dT ws sz)) (ab_Q cl D sa dT vs0 hs0 ws sz posts) rm.cells rm.slots (va_A ws sz)
theorem ab_SX_same {rn : List String} {SL : ab_SL} {NF : ab_NF} {NM : ab_NM} {sa : Nat → Nat} {A : Nat → Prop} {U U' : State} {H : Heap} (hvm : U.vm = U'.vm) (h : ab_SX rn SL NF NM sa A U H) : ab_SX rn SL NF NM sa A U' H :=
  have ha : U.vm.Alike U'.vm := by rw [hvm]; exact Vm.Alike.refl _
  ⟨fun r hr => (h.1 r hr).moved ha, fun r hr => va_Nw.same rfl hvm (h.2.1 r hr), fun r hr => va_Nw.same rfl hvm (h.2.2.1 r hr), fun t r ht => ⟨(h.2.2.2 t r ht).1.moved ha, (h.2.2.2 t r ht).2.moved ha⟩⟩
theorem ab_SX_warm {rn : List String} {SL : ab_SL} {NF : ab_NF} {NM : ab_NM} {sa : Nat → Nat} {A B : Nat → Prop} {s U : State} {H H1 : Heap} (hW : s.WarmedH U.vm) (hq : ∀ a : Nat, a < H.size → ¬ A a → H1[a]? = H[a]?) (hAB : ∀ q, B q → A q) (h : ab_SX rn SL NF NM sa A s H) : ab_SX rn SL NF NM sa B U H1 :=
  ⟨fun r hr => (h.1 r hr).moved hW.alike, fun r hr => va_Nw.warmF hW (h.2.1 r hr), fun r hr => va_Nw.warmM hW (h.2.2.1 r hr), fun t r ht => ⟨(((h.2.2.2 t r ht).1.kept hq).narrow hAB).moved hW.alike, (((h.2.2.2 t r ht).2.kept hq).narrow hAB).moved hW.alike⟩⟩
theorem ab_B_blind {cl : List vw_C} {rn : List String} {SL : ab_SL} {NF : ab_NF} {NM : ab_NM} {D : va_G} {sa : Nat → Nat} {dT : Nat → ClassId} {ws : va_W} {sz : Nat} {vals : List Value} : FrameBlind (va_Pc vals (ab_B cl rn SL NF NM D sa dT ws sz)) := by
  intro a U g mk q
  obtain ⟨q0, q1, qP, qK, qD, qS⟩ := q
  exact ⟨q0, q1, qP, va_K.moved (u := U) (U := U.calling g mk a) (Vm.Alike.refl U.vm) qK, qD, ab_SX_same (U := U) (U' := U.calling g mk a) rfl qS⟩
def ab_ML (s : State) (args : Array Value) (own : String) (cl : List vw_C) (kd ix : Nat) (y : MethodName) (ret : Option FieldType) (n rci : Nat) : Prop :=
  ((Cond.methodLink own ix y).before args s = true ∨ ∃ host, (Cond.methodLinkNest own ix y host).before args s = true) ∧ (Cond.initialized y.cls).before args s = true ∧ (y.cls ≠ "java/lang/invoke/MethodHandle" ∧ y.cls ≠ "java/lang/invoke/VarHandle" ∧ (parseMethodDescriptor y.desc).map (fun d => d.parameters.length) = some n) ∧
    (kd = 0 → (Cond.instanceMethod y).before args s = true ∧ ∃ q : vw_C, cl[rci]? = some q ∧ (Cond.selects q.1 y y).before args s = true) ∧ (kd = 1 → (Cond.static y).before args s = true) ∧ (kd = 2 → y.name = "<init>" ∧ (Cond.instanceMethod y).before args s = true ∧ ret = none)
section
variable {p : Program} {l : Launch} {e : Env} {R : Room} {s : State} {m : MethodId} {args : Array Value} {below : List Frame} {meth : Method} {c : Code} {Q : State → Prop} {cc : ByteArray} {own : String} {nL : Nat} {D : va_G} {cl : List vw_C} {rn : List String} {A : Nat → Prop} {Ts : List Cond} {sa : Nat → Nat} {dT : Nat → ClassId} {vs0 : List Int32} {hs0 : List Nat} {pc : Nat} {E : List ab_I} {nh nc ns : Nat} {hp : ab_H} {loc : List (Nat × ab_V)} {st : List ab_V}
variable {y : MethodName} {bytes : ByteArray} {maxL n ix rci mc ms cells slots : Nat} {ret : Option FieldType} {Tc : List Cond} {rm : Room} {Pc : Array Value → State → Prop} {Qc : Array Value → State → Outcome → State → Prop} {free : Addr → Prop} {H : Heap} {locs : List Loc} {ls : Array Slot} {As rest : List Value}
theorem ab_runS (X : ab_X p s m args c cc own nL D cl (ab_tys dT rn) A Ts) (hM : Met l y (.code y bytes maxL ret :: Tc) rm Pc Qc rm.cells rm.slots free) (hG : GoodIn Ts (.code y bytes maxL ret :: Tc)) (hL : ab_ML s args own cl 1 ix y ret n rci) (hR : rm.frames + 1 ≤ R.frames ∧ 8 + (maxL + 11) + rm.locals ≤ R.locals) (hp : PreS s H Pc As) (hn : As.length = n) (hsz : ls.size = nL) (hr : (rest.map fun v => v.category).sum ≤ 8) (hd : decode cc pc = .ok (.invokestatic ix, 3)) (hf : cells + rm.cells ≤ R.cells ∧ slots + rm.slots ≤ R.slots) :
    va_Run p l e R s m args below meth c H locs cells slots rm.cells rm.slots (F0 m pc ls (As.reverse ++ rest)) rest (Qc As.toArray) free := by
  obtain ⟨L1, L2, L3, -, L4, -⟩ := hL
  have S : CallFix p m c cc nL s args Ts own := ⟨X.1, X.2.1, X.2.2.1, X.2.2.2.1, X.2.2.2.2.1⟩
  rcases L1 with L1 | ⟨host, L1⟩
  · exact va_runS S hM ⟨callB_of n X.2.2.2.2.1 hG rfl rfl rfl L2 L1 L3 hR, L4 rfl⟩ hp rfl hn hsz rfl (lv_room hr) hd hf
  · exact va_runSN (host := host) S hM ⟨va_cnB n X.2.2.2.2.1 hG rfl rfl rfl (va_Nw.of rfl L1) L2 L3 hR, L4 rfl, trivial⟩ hp rfl hn hsz rfl (lv_room hr) hd hf
theorem ab_runI {b : Addr} {As : List Value} (X : ab_X p s m args c cc own nL D cl (ab_tys dT rn) A Ts) (hM : Met l y (.code y bytes maxL none :: Tc) rm Pc Qc rm.cells rm.slots free) (hG : GoodIn Ts (.code y bytes maxL none :: Tc)) (hL : ab_ML s args own cl 2 ix y ret n rci) (hR : rm.frames + 1 ≤ R.frames ∧ 8 + (maxL + 11) + rm.locals ≤ R.locals) (hp : PreS s H Pc (.ref b :: As)) (hn : As.length = n) (hsz : ls.size = nL) (hr : (rest.map fun v => v.category).sum ≤ 8) (hd : decode cc pc = .ok (.invokespecial ix, 3)) (hf : cells + rm.cells ≤ R.cells ∧ slots + rm.slots ≤ R.slots) :
    va_Run p l e R s m args below meth c H locs cells slots rm.cells rm.slots (F0 m pc ls (As.reverse ++ .ref b :: rest)) rest (Qc (Value.ref b :: As).toArray) free := by
  obtain ⟨L1, L2, L3, -, -, L4⟩ := hL
  have S : CallFix p m c cc nL s args Ts own := ⟨X.1, X.2.1, X.2.2.1, X.2.2.2.1, X.2.2.2.2.1⟩
  rcases L1 with L1 | ⟨host, L1⟩
  · exact va_runI S hM ⟨callB_of n X.2.2.2.2.1 hG rfl rfl rfl L2 L1 L3 hR, (L4 rfl).1, (L4 rfl).2.1⟩ hp rfl hn hsz rfl (lv_room hr) hd hf
  · exact va_runIN (host := host) S hM ⟨va_cnB n X.2.2.2.2.1 hG rfl rfl rfl (va_Nw.of rfl L1) L2 L3 hR, (L4 rfl).1, (L4 rfl).2.1⟩ hp rfl hn hsz rfl (lv_room hr) hd hf
theorem ab_runV {b : Addr} {As : List Value} (X : ab_X p s m args c cc own nL D cl (ab_tys dT rn) A Ts) (hM : Met l y (.code y bytes maxL ret :: Tc) rm Pc Qc rm.cells rm.slots free) (hG : GoodIn Ts (.code y bytes maxL ret :: Tc)) (hL : ab_ML s args own cl 0 ix y ret n rci) (hR : rm.frames + 1 ≤ R.frames ∧ 8 + (maxL + 11) + rm.locals ≤ R.locals) (hp : PreS s H Pc (.ref b :: As)) (hb : ∀ q : vw_C, cl[rci]? = some q → ∃ cellB : Cell, H[b]? = some cellB ∧ cellB.vm.isStatics = false ∧ s.vm.findClass q.1 = some cellB.cls) (hn : As.length = n) (hsz : ls.size = nL) (hr : (rest.map fun v => v.category).sum ≤ 8) (hd : decode cc pc = .ok (.invokevirtual ix, 3)) (hf : cells + rm.cells ≤ R.cells ∧ slots + rm.slots ≤ R.slots) :
    va_Run p l e R s m args below meth c H locs cells slots rm.cells rm.slots (F0 m pc ls (As.reverse ++ .ref b :: rest)) rest (Qc (Value.ref b :: As).toArray) free := by
  obtain ⟨L1, L2, L3, L4, -⟩ := hL
  obtain ⟨L5, q, L6, L7⟩ := L4 rfl
  have S : CallFix p m c cc nL s args Ts own := ⟨X.1, X.2.1, X.2.2.1, X.2.2.2.1, X.2.2.2.2.1⟩
  have hpv : PreV s H q.1 b Pc As := ⟨hp.1, hb q L6, hp.2⟩
  rcases L1 with L1 | ⟨host, L1⟩
  · exact va_runV S hM ⟨callB_of n X.2.2.2.2.1 hG rfl rfl rfl L2 L1 L3 hR, L5, L7⟩ hpv rfl hn hsz rfl (lv_room hr) hd hf
  · exact va_runVN (host := host) S hM ⟨va_cnB n X.2.2.2.2.1 hG rfl rfl rfl (va_Nw.of rfl L1) L2 L3 hR, L5, L7⟩ hpv rfl hn hsz rfl (lv_room hr) hd hf
theorem ab_cont {A1 : Nat → Prop} {Qa : State → Outcome → State → Prop} {st0 : List Value} (hr : va_Run p l e R s m args below meth c H locs cells slots mc ms (F0 m pc ls st0) rest Qa free) (hS : va_S A s.heap H locs) (hA : ∀ q, A1 q → A q) (hf : ∀ q, free q → A q) (hF : ∀ (st₀ t : State) (v : Option Value), Qa st₀ (.returned v) t → va_F A1 st₀ t)
    (kk : ∀ (v : Option Value) (st₀ t : State) (locs1 : List Loc), st₀.heap = H → Qa st₀ (.returned v) t → (∀ q : Nat, q < H.size → ¬ A1 q → t.heap[q]? = H[q]?) → va_S A s.heap t.heap locs1 → W p l e R s m args below meth c t.heap locs1 (cells + mc) (slots + ms) Q (F0 m (pc + 3) ls (v.toList ++ rest))) : W p l e R s m args below meth c H locs cells slots Q (F0 m pc ls st0) := by
  intro T hT X
  obtain ⟨v, st₀, t, T', L, h0, X', hL, e1, e2, hq, st⟩ := hr T hT X
  obtain ⟨hz, hk⟩ := hF st₀ t v hq
  rw [h0] at hz hk
  obtain ⟨t2, a1, b1⟩ := kk v st₀ t (locs ++ L) h0 hq hk
    ⟨Nat.le_trans hS.1 hz, fun q h1 h2 => by rw [hk q (Nat.lt_of_lt_of_le h1 hS.1) (fun z => h2 (hA q z))]; exact hS.2.1 q h1 h2, fun q hq => by
      rcases List.mem_append.mp hq with h | h
      · exact hS.2.2 q h
      · exact hf _ (hL q h)⟩ T' e1 X'
  exact ⟨t2, st t2 a1, b1⟩
end
end
