abbrev ab_I : Type := Int × Int
def ab_in (i : ab_I) (x : Int32) : Prop := i.1 ≤ x.toInt ∧ x.toInt ≤ i.2
def ab_cl (r : ab_I) : ab_I := if -2147483648 ≤ r.1 ∧ r.2 ≤ 2147483647 then r else (-2147483648, 2147483647)
theorem ab_full (x : Int32) : ab_in (-2147483648, 2147483647) x := by
  have h1 := x.le_toInt
  have h2 := x.toInt_lt
  exact ⟨by simpa using h1, by simp at h2; show x.toInt ≤ 2147483647; omega⟩
theorem ab_bm {x : Int} (h1 : -2147483648 ≤ x) (h2 : x ≤ 2147483647) : x.bmod (2 ^ 32) = x := by
  have e : ((2 ^ 32 : Nat) : Int) = 4294967296 := by decide
  unfold Int.bmod
  simp only [e]
  split <;> omega
theorem ab_add {a b : ab_I} {x y : Int32} (hx : ab_in a x) (hy : ab_in b y) : ab_in (ab_cl (a.1 + b.1, a.2 + b.2)) (x + y) := by
  unfold ab_cl
  obtain ⟨h1, h2⟩ := hx
  obtain ⟨h3, h4⟩ := hy
  split
  · rename_i h
    obtain ⟨h5, h6⟩ := h
    dsimp only at h5 h6
    have e : (x + y).toInt = x.toInt + y.toInt := by
      rw [Int32.toInt_add]
      exact ab_bm (by omega) (by omega)
    exact ⟨by rw [e]; dsimp only; omega, by rw [e]; dsimp only; omega⟩
  · exact ab_full _
theorem ab_sub {a b : ab_I} {x y : Int32} (hx : ab_in a x) (hy : ab_in b y) : ab_in (ab_cl (a.1 - b.2, a.2 - b.1)) (x - y) := by
  unfold ab_cl
  obtain ⟨h1, h2⟩ := hx
  obtain ⟨h3, h4⟩ := hy
  split
  · rename_i h
    obtain ⟨h5, h6⟩ := h
    dsimp only at h5 h6
    have e : (x - y).toInt = x.toInt - y.toInt := by
      rw [Int32.toInt_sub]
      exact ab_bm (by omega) (by omega)
    exact ⟨by rw [e]; dsimp only; omega, by rw [e]; dsimp only; omega⟩
  · exact ab_full _
def ab_mulI (a b : ab_I) : ab_I := if 0 ≤ a.1 ∧ 0 ≤ b.1 then ab_cl (a.1 * b.1, a.2 * b.2) else (-2147483648, 2147483647)
theorem ab_mul {a b : ab_I} {x y : Int32} (hx : ab_in a x) (hy : ab_in b y) : ab_in (ab_mulI a b) (x * y) := by
  unfold ab_mulI
  split
  · rename_i h0
    unfold ab_cl
    obtain ⟨h1, h2⟩ := hx
    obtain ⟨h3, h4⟩ := hy
    split
    · rename_i h
      obtain ⟨h5, h6⟩ := h
      dsimp only at h5 h6
      have g1 : a.1 * b.1 ≤ x.toInt * y.toInt := Int.mul_le_mul h1 h3 h0.2 (Int.le_trans h0.1 h1)
      have g2 : x.toInt * y.toInt ≤ a.2 * b.2 := Int.mul_le_mul h2 h4 (Int.le_trans h0.2 h3) (Int.le_trans (Int.le_trans h0.1 h1) h2)
      have e : (x * y).toInt = x.toInt * y.toInt := by
        rw [Int32.toInt_mul]
        exact ab_bm (by omega) (by omega)
      exact ⟨by rw [e]; exact g1, by rw [e]; exact g2⟩
    · exact ab_full _
  · exact ab_full _
theorem ab_nn {x : Int32} (h : 0 ≤ x.toInt) : x.toInt = (x.toBitVec.toNat : Int) := by
  have h1 : x.toInt = x.toBitVec.toInt := rfl
  rw [h1] at h ⊢
  rw [BitVec.toInt_eq_toNat_cond] at h ⊢
  have := x.toBitVec.isLt
  split at h
  · rename_i hc
    rw [if_pos hc]
  · omega
theorem ab_nni {x : Int32} (h : x.toBitVec.toNat < 2147483648) : x.toInt = (x.toBitVec.toNat : Int) := by
  have h1 : x.toInt = x.toBitVec.toInt := rfl
  rw [h1, BitVec.toInt_eq_toNat_cond, if_pos (by omega)]
theorem ab_small {x : Int32} (h : 0 ≤ x.toInt) : x.toBitVec.toNat < 2147483648 := by
  have h1 := ab_nn h
  have h2 := (ab_full x).2
  dsimp only at h2
  omega
theorem ab_andL {x y : Int32} (h : 0 ≤ y.toInt) : 0 ≤ (x &&& y).toInt ∧ (x &&& y).toInt ≤ y.toInt := by
  have e : (x &&& y).toBitVec.toNat = x.toBitVec.toNat &&& y.toBitVec.toNat := by rw [Int32.toBitVec_and, BitVec.toNat_and]
  have h1 : x.toBitVec.toNat &&& y.toBitVec.toNat ≤ y.toBitVec.toNat := Nat.and_le_right
  have h2 := ab_small h
  have h3 := ab_nni (x := x &&& y) (by omega)
  have h4 := ab_nn h
  omega
theorem ab_andC (x y : Int32) : x &&& y = y &&& x := Int32.toBitVec_inj.mp (by rw [Int32.toBitVec_and, Int32.toBitVec_and, BitVec.and_comm])
def ab_andI (a b : ab_I) : ab_I := if 0 ≤ b.1 then (if 0 ≤ a.1 then (0, min a.2 b.2) else (0, b.2)) else (if 0 ≤ a.1 then (0, a.2) else (-2147483648, 2147483647))
theorem ab_and {a b : ab_I} {x y : Int32} (hx : ab_in a x) (hy : ab_in b y) : ab_in (ab_andI a b) (x &&& y) := by
  unfold ab_andI
  obtain ⟨h1, h2⟩ := hx
  obtain ⟨h3, h4⟩ := hy
  split
  · rename_i h
    have g := ab_andL (x := x) (y := y) (by omega)
    split
    · rename_i h9
      have g2 := ab_andL (x := y) (y := x) (by omega)
      rw [ab_andC y x] at g2
      exact ⟨g.1, by dsimp only; omega⟩
    · exact ⟨g.1, by dsimp only; omega⟩
  · split
    · rename_i h9
      have g2 := ab_andL (x := y) (y := x) (by omega)
      rw [ab_andC y x] at g2
      exact ⟨g2.1, by dsimp only; omega⟩
    · exact ab_full _
def ab_up (n : Nat) : Nat := 2 ^ (n.log2 + 1)
theorem ab_up_lt (n : Nat) : n < ab_up n := Nat.lt_log2_self
def ab_orI (a b : ab_I) : ab_I := if 0 ≤ a.1 ∧ 0 ≤ b.1 ∧ a.2 < 1073741824 ∧ b.2 < 1073741824 then (0, ((ab_up (max a.2 b.2).toNat : Nat) : Int) - 1) else (-2147483648, 2147483647)
theorem ab_up_le {n : Nat} (h : n < 1073741824) : ab_up n ≤ 1073741824 := by
  unfold ab_up
  by_cases hn : n = 0
  · subst hn; decide
  · have h1 : n.log2 < 30 := (Nat.log2_lt hn).mpr (by simpa using h)
    have h2 : 2 ^ (n.log2 + 1) ≤ 2 ^ 30 := Nat.pow_le_pow_right (by decide) (by omega)
    simpa using h2
theorem ab_or {a b : ab_I} {x y : Int32} (hx : ab_in a x) (hy : ab_in b y) : ab_in (ab_orI a b) (x ||| y) := by
  unfold ab_orI
  obtain ⟨h1, h2⟩ := hx
  obtain ⟨h3, h4⟩ := hy
  split
  · rename_i h
    obtain ⟨g1, g2, g3, g4⟩ := h
    have e : (x ||| y).toBitVec.toNat = x.toBitVec.toNat ||| y.toBitVec.toNat := by rw [Int32.toBitVec_or, BitVec.toNat_or]
    have n1 := ab_nn (x := x) (by omega)
    have n2 := ab_nn (x := y) (by omega)
    have k1 := ab_up_lt (max a.2 b.2).toNat
    have k2 := ab_up_le (n := (max a.2 b.2).toNat) (by omega)
    have k3 : x.toBitVec.toNat ||| y.toBitVec.toNat < 2 ^ ((max a.2 b.2).toNat.log2 + 1) := Nat.or_lt_two_pow (by show _ < ab_up _; omega) (by show _ < ab_up _; omega)
    have k4 : x.toBitVec.toNat ||| y.toBitVec.toNat < ab_up (max a.2 b.2).toNat := k3
    have n3 := ab_nni (x := x ||| y) (by omega)
    exact ⟨by dsimp only; omega, by dsimp only; omega⟩
  · exact ab_full _
theorem ab_xor {a b : ab_I} {x y : Int32} (hx : ab_in a x) (hy : ab_in b y) : ab_in (ab_orI a b) (x ^^^ y) := by
  unfold ab_orI
  obtain ⟨h1, h2⟩ := hx
  obtain ⟨h3, h4⟩ := hy
  split
  · rename_i h
    obtain ⟨g1, g2, g3, g4⟩ := h
    have e : (x ^^^ y).toBitVec.toNat = x.toBitVec.toNat ^^^ y.toBitVec.toNat := by rw [Int32.toBitVec_xor, BitVec.toNat_xor]
    have n1 := ab_nn (x := x) (by omega)
    have n2 := ab_nn (x := y) (by omega)
    have k1 := ab_up_lt (max a.2 b.2).toNat
    have k2 := ab_up_le (n := (max a.2 b.2).toNat) (by omega)
    have k3 : x.toBitVec.toNat ^^^ y.toBitVec.toNat < 2 ^ ((max a.2 b.2).toNat.log2 + 1) := Nat.xor_lt_two_pow (by show _ < ab_up _; omega) (by show _ < ab_up _; omega)
    have k4 : x.toBitVec.toNat ^^^ y.toBitVec.toNat < ab_up (max a.2 b.2).toNat := k3
    have n3 := ab_nni (x := x ^^^ y) (by omega)
    exact ⟨by dsimp only; omega, by dsimp only; omega⟩
  · exact ab_full _
theorem ab_divV {x y : Int32} (h1 : 0 ≤ x.toInt) (h2 : 0 < y.toInt) : (x / y).toInt = x.toInt / y.toInt := by
  have e : x.toInt.tdiv y.toInt = x.toInt / y.toInt := Int.tdiv_eq_ediv_of_nonneg h1
  have g1 : 0 ≤ x.toInt / y.toInt := Int.ediv_nonneg h1 (by omega)
  have g2 : x.toInt / y.toInt ≤ x.toInt := Int.ediv_le_self _ h1
  have g3 := (ab_full x).2
  dsimp only at g3
  rw [Int32.toInt_div, e]
  exact ab_bm (by omega) (by omega)
def ab_divI (a b : ab_I) : Option ab_I := if 0 ≤ a.1 ∧ 0 < b.1 ∧ b.1 = b.2 then some (a.1 / b.1, a.2 / b.1) else none
theorem ab_div {a b r : ab_I} {x y : Int32} (hx : ab_in a x) (hy : ab_in b y) (hr : ab_divI a b = some r) : ¬ y = 0 ∧ ab_in r (x / y) := by
  unfold ab_divI at hr
  obtain ⟨h1, h2⟩ := hx
  obtain ⟨h3, h4⟩ := hy
  split at hr
  · rename_i h
    obtain ⟨g1, g2, g3⟩ := h
    cases hr
    have e : y.toInt = b.1 := by omega
    refine ⟨fun q => ?_, ?_⟩
    · subst q
      simp at e
      omega
    · have k := ab_divV (x := x) (y := y) (by omega) (by omega)
      exact ⟨by rw [k, e]; exact Int.ediv_le_ediv g2 h1, by rw [k, e]; exact Int.ediv_le_ediv g2 h2⟩
  · cases hr
theorem ab_remV {x y : Int32} (h1 : 0 ≤ x.toInt) (h2 : 0 < y.toInt) : (x - x / y * y).toInt = x.toInt % y.toInt := by
  have k := ab_divV h1 h2
  have g1 : 0 ≤ x.toInt / y.toInt := Int.ediv_nonneg h1 (by omega)
  have g3 := (ab_full x).2
  dsimp only at g3
  have q := Int.mul_ediv_add_emod x.toInt y.toInt
  have q2 := Int.emod_nonneg x.toInt (show y.toInt ≠ 0 by omega)
  have q3 : x.toInt / y.toInt * y.toInt = y.toInt * (x.toInt / y.toInt) := Int.mul_comm _ _
  have q4 : 0 ≤ x.toInt / y.toInt * y.toInt := Int.mul_nonneg g1 (by omega)
  have e1 : (x / y * y).toInt = x.toInt / y.toInt * y.toInt := by
    rw [Int32.toInt_mul, k]
    exact ab_bm (by omega) (by omega)
  rw [Int32.toInt_sub, e1]
  rw [ab_bm (by omega) (by omega)]
  omega
def ab_remI (a b : ab_I) : Option ab_I := if 0 ≤ a.1 ∧ 0 < b.1 ∧ b.1 = b.2 then some (if a.2 < b.1 then a else (0, b.1 - 1)) else none
theorem ab_rem {a b r : ab_I} {x y : Int32} (hx : ab_in a x) (hy : ab_in b y) (hr : ab_remI a b = some r) : ¬ y = 0 ∧ ab_in r (x - x / y * y) := by
  unfold ab_remI at hr
  obtain ⟨h1, h2⟩ := hx
  obtain ⟨h3, h4⟩ := hy
  split at hr
  · rename_i h
    obtain ⟨g1, g2, g3⟩ := h
    have e : y.toInt = b.1 := by omega
    have k := ab_remV (x := x) (y := y) (by omega) (by omega)
    rw [e] at k
    refine ⟨fun q => ?_, ?_⟩
    · subst q
      simp at e
      omega
    · cases hr
      unfold ab_in
      rw [k]
      split
      · rw [Int.emod_eq_of_lt (by omega) (by omega)]
        exact ⟨h1, h2⟩
      · have m1 := Int.emod_nonneg x.toInt (show b.1 ≠ 0 by omega)
        have m2 := Int.emod_lt_of_pos x.toInt g2
        exact ⟨m1, by dsimp only; omega⟩
  · cases hr
theorem ab_const {n : Int} (h1 : -2147483648 ≤ n) (h2 : n ≤ 2147483647) : ab_in (n, n) (Int32.ofInt n) := by
  have e : (Int32.ofInt n).toInt = n := by rw [Int32.toInt_ofInt]; exact ab_bm h1 h2
  exact ⟨by rw [e]; exact Int.le_refl _, by rw [e]; exact Int.le_refl _⟩
theorem ab_push8 {n : Int} (h1 : -128 ≤ n) (h2 : n ≤ 127) : (Int8.ofInt n).toInt32 = Int32.ofInt n := by
  apply Int32.toInt_inj.mp
  rw [Int8.toInt_toInt32, Int8.toInt_ofInt, Int32.toInt_ofInt, ab_bm (by omega) (by omega)]
  have e : ((2 ^ 8 : Nat) : Int) = 256 := by decide
  unfold Int.bmod
  simp only [e]
  split <;> omega
theorem ab_push16 {n : Int} (h1 : -32768 ≤ n) (h2 : n ≤ 32767) : (Int16.ofInt n).toInt32 = Int32.ofInt n := by
  apply Int32.toInt_inj.mp
  rw [Int16.toInt_toInt32, Int16.toInt_ofInt, Int32.toInt_ofInt, ab_bm (by omega) (by omega)]
  have e : ((2 ^ 16 : Nat) : Int) = 65536 := by decide
  unfold Int.bmod
  simp only [e]
  split <;> omega
def ab_ne (a b : ab_I) : ab_I := if b.1 = b.2 then (if a.1 = b.1 then (a.1 + 1, a.2) else if a.2 = b.1 then (a.1, a.2 - 1) else a) else a
def ab_rf (c : ClassFile.Cond) (a b : ab_I) : ab_I × ab_I := match c with
  | .lt => ((a.1, min a.2 (b.2 - 1)), (max b.1 (a.1 + 1), b.2))
  | .ge => ((max a.1 b.1, a.2), (b.1, min b.2 a.2))
  | .gt => ((max a.1 (b.1 + 1), a.2), (b.1, min b.2 (a.2 - 1)))
  | .le => ((a.1, min a.2 b.2), (max b.1 a.1, b.2))
  | .eq => ((max a.1 b.1, min a.2 b.2), (max a.1 b.1, min a.2 b.2))
  | .ne => (ab_ne a b, ab_ne b a)
def ab_ng (c : ClassFile.Cond) : ClassFile.Cond := match c with
  | .lt => .ge
  | .ge => .lt
  | .gt => .le
  | .le => .gt
  | .eq => .ne
  | .ne => .eq
def ab_cc (c : ClassFile.Cond) (x y : Int) : Prop := match c with
  | .lt => x < y
  | .ge => y ≤ x
  | .gt => y < x
  | .le => x ≤ y
  | .eq => x = y
  | .ne => ¬ x = y
theorem ab_cc_ng {c : ClassFile.Cond} {x y : Int} (h : ¬ ab_cc c x y) : ab_cc (ab_ng c) x y := by
  cases c <;> simp only [ab_cc, ab_ng] at h ⊢ <;> omega
theorem ab_ne_ok {a b : ab_I} {x y : Int} (h1 : a.1 ≤ x ∧ x ≤ a.2) (h2 : b.1 ≤ y ∧ y ≤ b.2) (h : ¬ x = y) : (ab_ne a b).1 ≤ x ∧ x ≤ (ab_ne a b).2 := by
  unfold ab_ne
  split
  · split
    · dsimp only; omega
    · split
      · dsimp only; omega
      · exact h1
  · exact h1
theorem ab_rf_ok {c : ClassFile.Cond} {a b : ab_I} {x y : Int} (h1 : a.1 ≤ x ∧ x ≤ a.2) (h2 : b.1 ≤ y ∧ y ≤ b.2) (h : ab_cc c x y) : ((ab_rf c a b).1.1 ≤ x ∧ x ≤ (ab_rf c a b).1.2) ∧ ((ab_rf c a b).2.1 ≤ y ∧ y ≤ (ab_rf c a b).2.2) := by
  cases c <;> simp only [ab_cc, ab_rf] at h ⊢
  case ne => exact ⟨ab_ne_ok h1 h2 h, ab_ne_ok h2 h1 (fun q => h q.symm)⟩
  all_goals omega
