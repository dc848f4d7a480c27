theorem lx_SX {p : Program} {s : State} {m : MethodId} {meth : Method} {c : Code} {b L : Nat} {xs : Nat → Int32} (C0 : lw_At p s m meth c b L xs) {A : Nat → Prop} : ab_SX nRn nSL nNF nNM (fun _ => 0) A s s.heap :=
  ⟨ab_mc (va_AO.of (C0.2.2.2.2.2.1 _ (List.mem_append_right _ (List.mem_of_getElem? (i := 30) (by decide +kernel))))) ab_mn, ab_mc (va_Nw.of rfl (C0.2.2.2.2.2.1 _ (List.mem_append_right _ (List.mem_of_getElem? (i := 37) (by decide +kernel))))) (ab_mc (va_Nw.of rfl (C0.2.2.2.2.2.1 _ (List.mem_append_right _ (List.mem_of_getElem? (i := 39) (by decide +kernel))))) (ab_mc (va_Nw.of rfl (C0.2.2.2.2.2.1 _ (List.mem_append_right _ (List.mem_of_getElem? (i := 41) (by decide +kernel))))) (ab_mc (va_Nw.of rfl (C0.2.2.2.2.2.1 _ (List.mem_append_right _ (List.mem_of_getElem? (i := 43) (by decide +kernel))))) (ab_mc (va_Nw.of rfl (C0.2.2.2.2.2.1 _ (List.mem_append_right _ (List.mem_of_getElem? (i := 45) (by decide +kernel))))) (ab_mc (va_Nw.of rfl (C0.2.2.2.2.2.1 _ (List.mem_append_right _ (List.mem_of_getElem? (i := 47) (by decide +kernel))))) (ab_mc (va_Nw.of rfl (C0.2.2.2.2.2.1 _ (List.mem_append_right _ (List.mem_of_getElem? (i := 68) (by decide +kernel))))) (ab_mc (va_Nw.of rfl (C0.2.2.2.2.2.1 _ (List.mem_append_right _ (List.mem_of_getElem? (i := 70) (by decide +kernel))))) (ab_mc (va_Nw.of rfl (C0.2.2.2.2.2.1 _ (List.mem_append_right _ (List.mem_of_getElem? (i := 72) (by decide +kernel))))) (ab_mc (va_Nw.of rfl (C0.2.2.2.2.2.1 _ (List.mem_append_right _ (List.mem_of_getElem? (i := 73) (by decide +kernel))))) (ab_mc (va_Nw.of rfl (C0.2.2.2.2.2.1 _ (List.mem_append_right _ (List.mem_of_getElem? (i := 74) (by decide +kernel))))) (ab_mn))))))))))), ab_mc (va_Nw.of rfl (C0.2.2.2.2.2.1 _ (List.mem_append_right _ (List.mem_of_getElem? (i := 63) (by decide +kernel))))) (ab_mn), fun t r h => by cases h⟩
section
variable {p : Program} {l : Launch} {e : Env} {s : State} {m : MethodId} {below : List Frame} {meth : Method} {c : Code} {b L : Nat} {xs : Nat → Int32} {D : va_G} {dT : Nat → ClassId}
theorem lx_sv {sa : Nat → Nat} {vs : List Int32} {hs : List Nat} {sv : List Value} (h : ([] : List ab_V).map (ab_cv sa vs hs) = sv.map some) : sv = [] := by
  cases sv with
  | nil => rfl
  | cons a r => cases h
theorem lx_389 (C0 : lw_At p s m meth c b L xs) (hL : L ≤ 7) {vs0 : List Int32} {hs0 : List Nat} (h0 : hs0[0]? = some b) {x : Int32} (hx : vs0[20]? = some x) (hx0 : x.toInt = 0) : ab_G p l e room_1 s m #[Value.ref b] below meth c (lw_Z below #[Value.ref b] s) D nCl (fun q => s.heap.size ≤ q) (fun _ => 0) dT 4 vs0 hs0 389 lwC.1 lwC.2.1 lwC.2.2.1 lwC.2.2.2.1 lwC.2.2.2.2.1 lwC.2.2.2.2.2.1 lwC.2.2.2.2.2.2 := by
  intro vs hs ls sv H locs hv hh his
  obtain ⟨w, h1, h2⟩ := ab_l_get his.2.2.1 (i := 0) (a := (1, 0)) rfl
  obtain ⟨q, h3, rfl⟩ := ab_cv1 h1
  obtain ⟨w2, h4, h5⟩ := ab_l_get his.2.2.1 (i := 3) (a := (0, 20)) rfl
  obtain ⟨x2, h6, rfl⟩ := ab_cv0 h4
  have hsv := lx_sv his.2.2.2.1
  obtain ⟨v1, rfl⟩ := hv
  obtain ⟨v2, rfl⟩ := hh
  have e1 := ab_app v2 h0
  rw [h3] at e1
  cases e1
  have e2 := ab_app v1 hx
  rw [h6] at e2
  cases e2
  subst hsv
  obtain ⟨ws, -, -, -, hS⟩ := his.2.2.2.2
  refine lv_iinc (k := 1) (x := x) C0.1 C0.2.1 lx_dI his.2.2.1.1 (by show some (3, (ab_cv (fun _ => 0) (vs0 ++ v1) (hs0 ++ v2) (0, 20)).getD .null) = some (3, Value.int x); rw [h4]; rfl) rfl (by decide) rfl (fun ls' h' => ?_)
  refine lv_goto C0.1 C0.2.1 lx_dG (tgt := 18) (by decide) ?_
  have g3 := h'.2.2 (3, .int (x + Int32.ofInt 7)) List.mem_cons_self
  have g0 := h'.2.2 (0, .ref b) (List.mem_cons_of_mem _ (List.mem_filter.mpr ⟨List.mem_map.mpr ⟨(0, (1, 0)), List.mem_cons_self, by show (0, (ab_cv (fun _ => 0) (vs0 ++ v1) (hs0 ++ v2) (1, 0)).getD .null) = (0, Value.ref b); rw [h1]; rfl⟩, rfl⟩))
  refine lx_head C0 (by omega) hS (by decide) g0 g3 (fun hle => ?_)
  have e7 : (Int32.ofInt 7).toInt = 7 := by rw [Int32.toInt_ofInt]; exact ab_bm (by omega) (by omega)
  have e8 : (x + Int32.ofInt 7).toInt = 7 := by
    rw [Int32.toInt_add, e7, hx0]
    exact ab_bm (by omega) (by omega)
  omega
theorem lx_18 (C0 : lw_At p s m meth c b L xs) (hL : L ≤ 7) (hTc : ∀ w ∈ nTc, w.before #[Value.ref b] s = true) (hK : va_K D nCl (ab_tys dT nRn) s) : ab_G p l e room_1 s m #[Value.ref b] below meth c (lw_Z below #[Value.ref b] s) D nCl (fun q => s.heap.size ≤ q) (fun _ => 0) dT 4 [] [b] 18 lwJ.1 lwJ.2.1 lwJ.2.2.1 lwJ.2.2.2.1 lwJ.2.2.2.2.1 lwJ.2.2.2.2.2.1 lwJ.2.2.2.2.2.2 := by
  intro vs hs ls sv H locs hv hh his
  obtain ⟨w, h1, h2⟩ := ab_l_get his.2.2.1 (i := 0) (a := (1, 0)) rfl
  obtain ⟨q, h3, rfl⟩ := ab_cv1 h1
  obtain ⟨w2, h4, h5⟩ := ab_l_get his.2.2.1 (i := 3) (a := (0, 20)) rfl
  obtain ⟨x, h6, rfl⟩ := ab_cv0 h4
  have hsv := lx_sv his.2.2.2.1
  obtain ⟨v2, rfl⟩ := hh
  have e1 : ([b] ++ v2)[0]? = some b := rfl
  rw [h3] at e1
  cases e1
  subst hsv
  obtain ⟨ws, k5, k6, k7, hS⟩ := id his.2.2.2.2
  have hx0 : x.toInt = 0 := by
    have := his.1.2 20 (0, 0) x rfl h6
    unfold ab_in at this
    dsimp only at this
    omega
  refine lx_head C0 (by omega) hS (by decide) h2 h5 (fun hle => ?_)
  have hL7 : L = 7 := by omega
  subst hL7
  have hbl := C0.2.2.2.2.2.2.2.1
  have X : ab_X p s m #[Value.ref b] c code "LevelMachineLaw" 4 D nCl (ab_tys dT nRn) (fun q => s.heap.size ≤ q) nTc := ⟨C0.1, C0.2.1, C0.2.2.2.1, C0.2.2.2.2.1, hTc, hK, fun _ h => h⟩
  have SX : ab_SX nRn nSL nNF nNM (fun _ => 0) (fun q => s.heap.size ≤ q) s s.heap := lx_SX C0
  obtain ⟨t1, t2, t3, t4, t5, t6, t7, t8, t9⟩ := tB5 s _ hTc SX.2.1 SX.2.2.1
  have hlen : vs.length = 21 := his.1.1
  have hnl : ([b] ++ v2).length = 28 := his.2.1
  have hxn : x.toNatClampNeg = 0 := by
    show x.toInt.toNat = 0
    rw [hx0]
    rfl
  have hwl : (vs ++ [xs 0, xs 1, xs 2, xs 3, xs 4, xs 5, xs 6]).length = 28 := by rw [List.length_append, hlen]; rfl
  have hwin : ∀ d : Nat, d < 7 → (vs ++ [xs 0, xs 1, xs 2, xs 3, xs 4, xs 5, xs 6])[21 + d]? = some (xs (x.toNatClampNeg + d)) := by
    intro d hd
    rw [hxn, Nat.zero_add, List.getElem?_append_right (by omega)]
    have : 21 + d - vs.length = d := by omega
    rw [this]
    match d, hd with
    | 0, _ => rfl
    | 1, _ => rfl
    | 2, _ => rfl
    | 3, _ => rfl
    | 4, _ => rfl
    | 5, _ => rfl
    | 6, _ => rfl
    | d + 7, hd => omega
  have hA : ¬ s.heap.size ≤ b := by omega
  generalize hVe : vs ++ [xs 0, xs 1, xs 2, xs 3, xs 4, xs 5, xs 6] = V at hwin hwl
  have h6V : V[20]? = some x := by rw [← hVe]; exact ab_app _ h6
  generalize hNe : [b] ++ v2 = NN at h3 hnl his
  have gC : ab_G p l e room_1 s m #[Value.ref b] below meth c (lw_Z below #[Value.ref b] s) D nCl (fun q => s.heap.size ≤ q) (fun _ => 0) dT 4 V NN 389 lwC.1 lwC.2.1 lwC.2.2.1 lwC.2.2.2.1 lwC.2.2.2.2.1 lwC.2.2.2.2.2.1 lwC.2.2.2.2.2.2 := lx_389 C0 (by omega) h3 h6V hx0
  have hlx : ∀ (pc : Nat) (S : ab_S) (r : List (Nat × ab_S)), ab_lx 20 21 pgL pc S = some r → (∀ q ∈ r, ab_G p l e room_1 s m #[Value.ref b] below meth c (lw_Z below #[Value.ref b] s) D nCl (fun q => s.heap.size ≤ q) (fun _ => 0) dT 4 V NN q.1 q.2.1 q.2.2.1 q.2.2.2.1 q.2.2.2.2.1 q.2.2.2.2.2.1 q.2.2.2.2.2.2.1 q.2.2.2.2.2.2.2) → ab_G p l e room_1 s m #[Value.ref b] below meth c (lw_Z below #[Value.ref b] s) D nCl (fun q => s.heap.size ≤ q) (fun _ => 0) dT 4 V NN pc S.1 S.2.1 S.2.2.1 S.2.2.2.1 S.2.2.2.2.1 S.2.2.2.2.2.1 S.2.2.2.2.2.2 := fun pc S r h hg => ab_lx_ok (i := x) X pgL_ok C0.2.2.2.2.2.2.1 hbl hA h3 h6V (by omega) (by omega) (by omega) hwin S r h hg
  have hfC : ∀ (pc : Nat) (S : ab_S), (decide (pc = 389) && ab_mtS 28 28 lwC S) = true → ab_G p l e room_1 s m #[Value.ref b] below meth c (lw_Z below #[Value.ref b] s) D nCl (fun q => s.heap.size ≤ q) (fun _ => 0) dT 4 V NN pc S.1 S.2.1 S.2.2.1 S.2.2.2.1 S.2.2.2.2.1 S.2.2.2.2.2.1 S.2.2.2.2.2.2 := by
    intro pc S hf
    rw [Bool.and_eq_true, decide_eq_true_eq] at hf
    obtain ⟨rfl, hf⟩ := hf
    exact ab_cutG (by rw [hwl, hnl]; exact hf) gC
  have g0 : ab_G p l e room_1 s m #[Value.ref b] below meth c (lw_Z below #[Value.ref b] s) D nCl (fun q => s.heap.size ≤ q) (fun _ => 0) dT 4 V NN 84 lwO0.1 lwO0.2.1 lwO0.2.2.1 lwO0.2.2.2.1 lwO0.2.2.2.2.1 lwO0.2.2.2.2.2.1 lwO0.2.2.2.2.2.2 := ab_ai_ok (l := l) (e := e) (below := below) (meth := meth) (R := room_1) (Q := lw_Z below #[Value.ref b] s) (vs0 := V) (hs0 := NN) X SX (ini := false) (fun h => absurd h (by decide)) t1 t2 t3 t4 t5 t6 t7 t8 (lwEO0 l) t9 pgL_ok hlx hfC 12 84 lwO0 lwRun0
  have g1 : ab_G p l e room_1 s m #[Value.ref b] below meth c (lw_Z below #[Value.ref b] s) D nCl (fun q => s.heap.size ≤ q) (fun _ => 0) dT 4 V NN 117 lwO1.1 lwO1.2.1 lwO1.2.2.1 lwO1.2.2.2.1 lwO1.2.2.2.2.1 lwO1.2.2.2.2.2.1 lwO1.2.2.2.2.2.2 := ab_ai_ok (l := l) (e := e) (below := below) (meth := meth) (R := room_1) (Q := lw_Z below #[Value.ref b] s) (vs0 := V) (hs0 := NN) X SX (ini := false) (fun h => absurd h (by decide)) t1 t2 t3 t4 t5 t6 t7 t8 (lwEO1 l) t9 pgL_ok hlx hfC 10 117 lwO1 lwRun1
  have g2 : ab_G p l e room_1 s m #[Value.ref b] below meth c (lw_Z below #[Value.ref b] s) D nCl (fun q => s.heap.size ≤ q) (fun _ => 0) dT 4 V NN 140 lwO2.1 lwO2.2.1 lwO2.2.2.1 lwO2.2.2.2.1 lwO2.2.2.2.2.1 lwO2.2.2.2.2.2.1 lwO2.2.2.2.2.2.2 := ab_ai_ok (l := l) (e := e) (below := below) (meth := meth) (R := room_1) (Q := lw_Z below #[Value.ref b] s) (vs0 := V) (hs0 := NN) X SX (ini := false) (fun h => absurd h (by decide)) t1 t2 t3 t4 t5 t6 t7 t8 (lwEO2 l) t9 pgL_ok hlx hfC 26 140 lwO2 lwRun2
  have g3 : ab_G p l e room_1 s m #[Value.ref b] below meth c (lw_Z below #[Value.ref b] s) D nCl (fun q => s.heap.size ≤ q) (fun _ => 0) dT 4 V NN 231 lwO3.1 lwO3.2.1 lwO3.2.2.1 lwO3.2.2.2.1 lwO3.2.2.2.2.1 lwO3.2.2.2.2.2.1 lwO3.2.2.2.2.2.2 := ab_ai_ok (l := l) (e := e) (below := below) (meth := meth) (R := room_1) (Q := lw_Z below #[Value.ref b] s) (vs0 := V) (hs0 := NN) X SX (ini := false) (fun h => absurd h (by decide)) t1 t2 t3 t4 t5 t6 t7 t8 (lwEO3 l) t9 pgL_ok hlx hfC 12 231 lwO3 lwRun3
  have g4 : ab_G p l e room_1 s m #[Value.ref b] below meth c (lw_Z below #[Value.ref b] s) D nCl (fun q => s.heap.size ≤ q) (fun _ => 0) dT 4 V NN 264 lwO4.1 lwO4.2.1 lwO4.2.2.1 lwO4.2.2.2.1 lwO4.2.2.2.2.1 lwO4.2.2.2.2.2.1 lwO4.2.2.2.2.2.2 := ab_ai_ok (l := l) (e := e) (below := below) (meth := meth) (R := room_1) (Q := lw_Z below #[Value.ref b] s) (vs0 := V) (hs0 := NN) X SX (ini := false) (fun h => absurd h (by decide)) t1 t2 t3 t4 t5 t6 t7 t8 (lwEO4 l) t9 pgL_ok hlx hfC 12 264 lwO4 lwRun4
  have g5 : ab_G p l e room_1 s m #[Value.ref b] below meth c (lw_Z below #[Value.ref b] s) D nCl (fun q => s.heap.size ≤ q) (fun _ => 0) dT 4 V NN 297 lwO5.1 lwO5.2.1 lwO5.2.2.1 lwO5.2.2.2.1 lwO5.2.2.2.2.1 lwO5.2.2.2.2.2.1 lwO5.2.2.2.2.2.2 := ab_ai_ok (l := l) (e := e) (below := below) (meth := meth) (R := room_1) (Q := lw_Z below #[Value.ref b] s) (vs0 := V) (hs0 := NN) X SX (ini := false) (fun h => absurd h (by decide)) t1 t2 t3 t4 t5 t6 t7 t8 (lwEO5 l) t9 pgL_ok hlx hfC 10 297 lwO5 lwRun5
  have g6 : ab_G p l e room_1 s m #[Value.ref b] below meth c (lw_Z below #[Value.ref b] s) D nCl (fun q => s.heap.size ≤ q) (fun _ => 0) dT 4 V NN 320 lwO6.1 lwO6.2.1 lwO6.2.2.1 lwO6.2.2.2.1 lwO6.2.2.2.2.1 lwO6.2.2.2.2.2.1 lwO6.2.2.2.2.2.2 := ab_ai_ok (l := l) (e := e) (below := below) (meth := meth) (R := room_1) (Q := lw_Z below #[Value.ref b] s) (vs0 := V) (hs0 := NN) X SX (ini := false) (fun h => absurd h (by decide)) t1 t2 t3 t4 t5 t6 t7 t8 (lwEO6 l) t9 pgL_ok hlx hfC 8 320 lwO6 lwRun6
  have g7 : ab_G p l e room_1 s m #[Value.ref b] below meth c (lw_Z below #[Value.ref b] s) D nCl (fun q => s.heap.size ≤ q) (fun _ => 0) dT 4 V NN 333 lwO7.1 lwO7.2.1 lwO7.2.2.1 lwO7.2.2.2.1 lwO7.2.2.2.2.1 lwO7.2.2.2.2.2.1 lwO7.2.2.2.2.2.2 := ab_ai_ok (l := l) (e := e) (below := below) (meth := meth) (R := room_1) (Q := lw_Z below #[Value.ref b] s) (vs0 := V) (hs0 := NN) X SX (ini := false) (fun h => absurd h (by decide)) t1 t2 t3 t4 t5 t6 t7 t8 (lwEO7 l) t9 pgL_ok hlx hfC 10 333 lwO7 lwRun7
  have g8 : ab_G p l e room_1 s m #[Value.ref b] below meth c (lw_Z below #[Value.ref b] s) D nCl (fun q => s.heap.size ≤ q) (fun _ => 0) dT 4 V NN 356 lwO8.1 lwO8.2.1 lwO8.2.2.1 lwO8.2.2.2.1 lwO8.2.2.2.2.1 lwO8.2.2.2.2.2.1 lwO8.2.2.2.2.2.2 := ab_ai_ok (l := l) (e := e) (below := below) (meth := meth) (R := room_1) (Q := lw_Z below #[Value.ref b] s) (vs0 := V) (hs0 := NN) X SX (ini := false) (fun h => absurd h (by decide)) t1 t2 t3 t4 t5 t6 t7 t8 (lwEO8 l) t9 pgL_ok hlx hfC 12 356 lwO8 lwRun8
  have hcuts : ∀ d ∈ lwCuts, ab_G p l e room_1 s m #[Value.ref b] below meth c (lw_Z below #[Value.ref b] s) D nCl (fun q => s.heap.size ≤ q) (fun _ => 0) dT 4 V NN d.1 d.2.1 d.2.2.1 d.2.2.2.1 d.2.2.2.2.1 d.2.2.2.2.2.1 d.2.2.2.2.2.2.1 d.2.2.2.2.2.2.2 := ab_mc gC (ab_mc g0 (ab_mc g1 (ab_mc g2 (ab_mc g3 (ab_mc g4 (ab_mc g5 (ab_mc g6 (ab_mc g7 (ab_mc g8 (ab_mn))))))))))
  have g := ab_ai_ok (l := l) (e := e) (below := below) (meth := meth) (R := room_1) (Q := lw_Z below #[Value.ref b] s) (vs0 := V) (hs0 := NN) X SX (ini := false) (fun h => absurd h (by decide)) t1 t2 t3 t4 t5 t6 t7 t8 (lwEN_ok l) t9 pgL_ok (ex := ab_lx 20 21 pgL) (fin := fun pc S => lwCuts.any (fun d => decide (d.1 = pc) && ab_mtS 28 28 d.2 S)) hlx
    (fun pc S hf => by
      obtain ⟨d, hd1, hd2⟩ := List.any_eq_true.mp hf
      rw [Bool.and_eq_true, decide_eq_true_eq] at hd2
      obtain ⟨rfl, hd2⟩ := hd2
      exact ab_cutG (by rw [hwl, hnl]; exact hd2) (hcuts d hd1)) 12 27 lwB lwBody
  subst hVe
  subst hNe
  have m3 := ab_l_mono [xs 0, xs 1, xs 2, xs 3, xs 4, xs 5, xs 6] [] his.2.2.1
  have m5 := ab_w_mono [xs 0, xs 1, xs 2, xs 3, xs 4, xs 5, xs 6] [] k5
  rw [List.append_nil] at m3 m5
  refine g _ _ ls [] H locs ⟨[], (List.append_nil _).symm⟩ ⟨[], (List.append_nil _).symm⟩ ⟨ab_e_app his.1 ⟨rfl, fun k i2 y a1 a2 => ?_⟩, hnl, m3, rfl, ws, m5, k6, k7, hS⟩
  have a3 : i2 = (-2147483648, 2147483647) := by
    have := List.mem_of_getElem? a1
    simp at this
    exact this
  rw [a3]
  exact ab_full y
end
set_option maxHeartbeats 4000000 in
theorem whole_start {p : Program} {e : Env} {s : State} {m : MethodId} {below : List Frame} {meth : Method} {c : Code} (l : Launch) {b L : Nat} {xs : Nat → Int32} (hL : L ≤ 7) (C0 : lw_At p s m meth c b L xs) : W p l e room_1 s m #[Value.ref b] below meth c s.heap [] 0 0 (lw_Z below #[Value.ref b] s) (entryFrame m ([Value.ref b] : List Value).toArray 4) := by
  have hTc : ∀ w ∈ nTc, w.before #[Value.ref b] s = true := fun w hw => C0.2.2.2.2.2.1 w (List.mem_filter.mp hw).1
  obtain ⟨D, dT, hK⟩ := lx_K hTc (C0.2.2.2.2.2.1 _ (List.mem_append_right _ (List.mem_of_getElem? (i := 30) (by decide +kernel))))
  have X : ab_X p s m #[Value.ref b] c code "LevelMachineLaw" 4 D nCl (ab_tys dT nRn) (fun q => s.heap.size ≤ q) nTc := ⟨C0.1, C0.2.1, C0.2.2.2.1, C0.2.2.2.2.1, hTc, hK, fun _ h => h⟩
  have SX : ab_SX nRn nSL nNF nNM (fun _ => 0) (fun q => s.heap.size ≤ q) s s.heap := lx_SX C0
  obtain ⟨t1, t2, t3, t4, t5, t6, t7, t8, t9⟩ := tB5 s _ hTc SX.2.1 SX.2.2.1
  have g := ab_ai_ok (l := l) (e := e) (below := below) (meth := meth) (R := room_1) (Q := lw_Z below #[Value.ref b] s) (vs0 := []) (hs0 := [b]) X SX (ini := false) (fun h => absurd h (by decide)) t1 t2 t3 t4 t5 t6 t7 t8 (lwEN_ok l) t9 pgL_ok (ex := fun _ _ => none) (fin := fun pc S => decide (pc = 18) && ab_mtS 0 1 lwJ S) (fun _ _ _ h => by cases h)
    (fun pc S hf => by
      rw [Bool.and_eq_true, decide_eq_true_eq] at hf
      obtain ⟨rfl, hf⟩ := hf
      exact ab_cutG (vs0 := []) (hs0 := [b]) hf (lx_18 C0 hL hTc hK)) 40 0 _ lwPre
  have hl := lv_entry ([.ref b]) (n := 4) (Nat.le_of_ble_eq_true rfl)
  rw [lg_entry_eq]
  generalize (lg_sl ([.ref b]) ++ List.replicate (4 - (lg_sl ([.ref b])).length) Slot.unset).toArray = ls at hl ⊢
  have hl : lv_has ls 4 [(0, .ref b)] := hl
  refine g [] [b] ls [] s.heap [] ⟨[], rfl⟩ ⟨[], rfl⟩ ⟨⟨rfl, (fun k i x h1 _ => by cases h1)⟩, rfl, ⟨hl, fun q hq => ?_⟩, rfl, [], ⟨rfl, (fun j a x h => by cases h)⟩, (fun k q h => by cases h), ⟨(fun i j p2 q h => by cases h), (fun k q h => by cases h)⟩, va_S.rf⟩
  rcases List.mem_cons.mp hq with rfl | hq
  · exact ⟨_, rfl⟩
  · cases hq
set_option maxHeartbeats 4000000 in
theorem lw_walk (l : Launch) (b : Addr) (xs : List Int32) : MetFree l x (headSpec (Jvm.Cond.code x code maxLocals ret :: tables_1) room_1) (lw_P b xs) (fun _ _ _ _ _ => True) lw_Q := by
  refine MetFree.of_bodyS (code := code) (maxLocals := maxLocals) (ret := ret) (by decide) ?_ ?_
  · intro args s m h hn
    obtain ⟨meth, c, h1, h2, h3, h4, h5, h6, -, -⟩ := Cond.code_spec hn (atoms_spec (ws := Jvm.Cond.code x code maxLocals ret :: tables_1) h _ List.mem_cons_self)
    exact ⟨meth, c, h1, h2, h3, h4, h5, h6⟩
  · intro p e s m args below meth c s₁ B hml0 hP _
    obtain ⟨rfl, hx, hbd, hgv⟩ := hP
    obtain ⟨scr, harrAt, hlist, hof, hsmall⟩ := hx
    obtain ⟨hcb, hkn, -, -⟩ := State.arrayAt?_spec harrAt
    have hown : s.vm.findClass R_law = some m.cls := findClass_of_methodNamed B.named
    have hts0 : ∀ c ∈ (Jvm.Cond.code x code maxLocals ret :: tables_1), c.before #[Value.ref b] s = true := atoms_spec (ws := Jvm.Cond.code x code maxLocals ret :: tables_1) B.pre
    have hts : ∀ w ∈ lw_tbl, w.before #[Value.ref b] s = true := k2_hts_sels lw_privs (fun w hw => hts0 w (List.mem_cons_of_mem _ hw)) lw_privs_ok
    have hml : c.maxLocals = 4 := B.maxLocals_eq (hts0 _ List.mem_cons_self)
    have X₀ : Stand p l e room_1 s m #[Value.ref b] below meth c s₁ [] 0 0 := Stand.of_body B
    have hh0 : s₁.heap = s.heap := by rw [B.state]; rfl
    have hsz : scr.slots.size = xs.length := by rw [← Array.length_toList, hlist, List.length_map]
    have hval : ∀ j : Nat, j < xs.length → scr.slots[j]? = some (.int (xs.getD j 0)) := fun j hj => by
      rw [← Array.getElem?_toList, hlist]
      simp [hj]
    have hbl : b < s.heap.size := (Array.getElem?_eq_some_iff.mp hcb).1
    have hX : va_X b xs.length (fun j => xs.getD j 0) s s.heap := ⟨scr, hcb, hof, hkn, hsz, hval⟩
    have K : W p l e room_1 s m #[Value.ref b] below meth c s₁.heap [] 0 0 (lw_Z below #[Value.ref b] s) (entryFrame m ([Value.ref b] : List Value).toArray 4) := by
      rw [hh0]
      exact whole_start l hbd ⟨B.exec, B.bytes, B.returns, hml, hown, hts, hX, hbl, B.notSynchronized, hgv⟩
    obtain ⟨t, a1, o, b1, b2, b3⟩ := K s₁ rfl X₀
    exact ⟨t, o, a1, b1, b2, b3⟩
theorem lw_pre_spec {args : Array Value} {s : State} (h : (Jvm.Cond.and given_1 narrow_1).before args s = true) (hr : rest_1_c.before args s = true) : ∃ (b : Addr) (xs : List Int32), lw_P b xs args s := by
  have hs := flat_of_before _ h
  have hq := flat_of_before _ hr
  have hc : (Cond.count 1).before args s = true := hs _ (by decide +kernel)
  have harr : (Cond.arrayOf (.arg 0) .int).before args s = true := hs _ (by decide +kernel)
  have hle : (Cond.le (.length (.arg 0)) (.int 7)).before args s = true := hs _ (by decide +kernel)
  have hlen : (Cond.isInt (.length (.arg 0))).before args s = true := hq _ (by decide +kernel)
  have hall : (Cond.all (.arg 0) (.isInt (.elem (.arg 0) (.index 0)))).before args s = true := hq _ (by decide +kernel)
  obtain ⟨b, xs, hb, hx⟩ := State.ints_of_pre rfl harr hlen hall
  have hsm : xs.length < 2 ^ 31 := hx.choose_spec.2.2.2
  have hev : (Term.length (.arg 0)).eval args s none [] s = some (.int xs.length.toInt32) := hx.length_eval hb
  have hv := Cond.le_ints hev (show (Term.int 7).eval args s none [] s = some (.int 7) from rfl)
  have hd : xs.length.toInt32 ≤ 7 := by
    simpa [Cond.before, Cond.holds, hv] using hle
  have hN : xs.length ≤ 7 := (Int32.ofNat_le_ofNat hsm (by decide)).mp (show Int32.ofNat xs.length ≤ Int32.ofNat 7 from hd)
  exact ⟨b, xs, Cond.one_arg hc (show args[0]? = some (.ref b) from hb), hx, hN, h⟩
theorem lw_comes (l : Launch) : Comes l x (Jvm.Cond.code x code maxLocals ret :: tables_1) room_1 (fun tb e args s => Calls_1 tb e args s ∧ rest_1 tb e args s ∧ Pre_1 tb e args s)
    (fun _ _ args s o t => lw_Q args s o t) := by
  intro p e ha hc hk s m args below hf hfit hheap happ hpre
  obtain ⟨b, xs, hP⟩ := lw_pre_spec hpre.2.2 hpre.2.1
  obtain ⟨k, o, h1, h2, h3, hQ⟩ := lw_walk l b xs p e ha hc hk s m args below hf ((Spec.applies_iff_loose hf).mp happ).1 hP trivial
  exact ⟨k, o, h1, h2, h3, hQ⟩
theorem lw_frame {s t : State} {o : Outcome} {args : Array Value} (h : Framed s o t [] 600000 7302250) :
    Framed s o t (fieldLocs frame_1_writes args s ++ arrayLocs frame_1_arrays args s ++ staticLocs frame_1_statics s) 600000 7302250 := h
theorem lw_limb (L : Cond) (hL : ∀ (args : Array Value) (s t : State), L.after args s (.returned (some (.int 1))) t = true) :
    ArmFor flags0 classFile x code maxLocals ret World_1 tables_1 room_1 Calls_1 rest_1 Pre_1
      (fun tb e a s o t => postC L tb e a s o t ∧ Framed s o t (fieldLocs frame_1_writes a s ++ arrayLocs frame_1_arrays a s ++ staticLocs frame_1_statics s) 600000 7302250) := by
  intro l _ _ _ p e ha hc hk s m args below hf hfit hheap happ hpre
  obtain ⟨k, o, h1, h2, h3, rfl, hF⟩ := lw_comes l p e ha hc hk s m args below hf hfit hheap happ hpre
  exact ⟨k, _, h1, h2, h3, hL args s _, lw_frame hF⟩
theorem i_vc : Claimed_1_1 ∧ Claimed_1_2 := ⟨lw_limb limb_1_1 (fun args s t => by simp [limb_1_1, Cond.after, Cond.holds, Cond.value]), lw_limb limb_1_2 (fun args s t => Cond.after_iff.mpr (by
  first | (rw [show limb_1_2 = Cond.eq .result (.int 1) from rfl, Cond.eq_ints (x := 1) (y := 1) rfl rfl]; simp; done) | (simp [limb_1_2, Cond.value, Term.eval]; done)))⟩
