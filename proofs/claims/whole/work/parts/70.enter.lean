set_option maxRecDepth 100000 in
theorem wcl_RL_7 : Cond.classLink RL 7 RX4 ∈ k_tbl := k_in (List.mem_append_right _ (List.mem_of_getElem? (i := 11) (by decide +kernel))) (by decide +kernel)
set_option maxRecDepth 100000 in
theorem wcl_RL_10 : Cond.classLink RL 10 RX5 ∈ k_tbl := k_in (List.mem_append_right _ (List.mem_of_getElem? (i := 646) (by decide +kernel))) (by decide +kernel)
set_option maxRecDepth 100000 in
theorem win_RX4 : Cond.instantiable RX4 17 ∈ k_tbl := k_in (List.mem_append_right _ (List.mem_of_getElem? (i := 12) (by decide +kernel))) (by decide +kernel)
set_option maxRecDepth 100000 in
theorem win_RX5 : Cond.instantiable RX5 27 ∈ k_tbl := k_in (List.mem_append_right _ (List.mem_of_getElem? (i := 647) (by decide +kernel))) (by decide +kernel)
set_option maxRecDepth 100000 in
theorem wm_RL_9 : Cond.methodLink RL 9 yX4_init ∈ k_tbl := k_in (List.mem_append_right _ (List.mem_of_getElem? (i := 13) (by decide +kernel))) (by decide +kernel)
set_option maxRecDepth 100000 in
theorem wc_X4_init : Cond.code yX4_init cX4_init 2 none ∈ k_tbl := k_in (List.mem_append_right _ (List.mem_of_getElem? (i := 15) (by decide +kernel))) (by decide +kernel)
set_option maxRecDepth 100000 in
theorem wn_X4_init : Cond.instanceMethod yX4_init ∈ k_tbl := k_in (List.mem_append_right _ (List.mem_of_getElem? (i := 14) (by decide +kernel))) (by decide +kernel)
theorem lkI_RL_9 : kc_lk 9 RL yX4_init cX4_init 2 := ⟨wm_RL_9, wi_RX4, wc_X4_init, wn_X4_init, by decide +kernel, by decide, rfl⟩
set_option maxRecDepth 100000 in
theorem wm_RL_12 : Cond.methodLink RL 12 yX5_init ∈ k_tbl := k_in (List.mem_append_right _ (List.mem_of_getElem? (i := 648) (by decide +kernel))) (by decide +kernel)
set_option maxRecDepth 100000 in
theorem wc_X5_init : Cond.code yX5_init cX5_init 2 none ∈ k_tbl := k_in (List.mem_append_right _ (List.mem_of_getElem? (i := 650) (by decide +kernel))) (by decide +kernel)
set_option maxRecDepth 100000 in
theorem wn_X5_init : Cond.instanceMethod yX5_init ∈ k_tbl := k_in (List.mem_append_right _ (List.mem_of_getElem? (i := 649) (by decide +kernel))) (by decide +kernel)
theorem lkI_RL_12 : kc_lk 12 RL yX5_init cX5_init 2 := ⟨wm_RL_12, wi_RX5, wc_X5_init, wn_X5_init, by decide +kernel, by decide, rfl⟩
/-! the law, from its entry to its loop -/
set_option maxRecDepth 100000 in
theorem st_T {s : State} {a : Array Value} (hts : ∀ w ∈ lw_tbl, w.before a s = true) : kc_T s := by
  refine ⟨kc_AA.of (hts _ (List.mem_append_right _ (List.mem_of_getElem? (i := 20) (by decide +kernel)))), kc_AA.of (hts _ (List.mem_append_right _ (List.mem_of_getElem? (i := 22) (by decide +kernel)))), va_AO.of (hts _ (List.mem_append_right _ (List.mem_of_getElem? (i := 30) (by decide +kernel)))), va_AO.of (hts _ (List.mem_append_right _ (List.mem_of_getElem? (i := 121) (by decide +kernel)))), va_Nw.of rfl (hts _ (List.mem_append_right _ (List.mem_of_getElem? (i := 32) (by decide +kernel)))), va_Nw.of rfl (hts _ (List.mem_append_right _ (List.mem_of_getElem? (i := 100) (by decide +kernel)))), va_Nw.of rfl (hts _ (List.mem_append_right _ (List.mem_of_getElem? (i := 124) (by decide +kernel))))⟩
theorem st_G {s : State} {a : Array Value} (hts : ∀ w ∈ k_tbl, w.before a s = true) : ∃ D : va_G, va_K D vwCl [] s := by
  obtain ⟨c0, i0, h0⟩ := u_known hts kinX0 (hts _ win_RX0)
  obtain ⟨c1, i1, h1⟩ := u_known hts kinX1 (hts _ win_RX1)
  obtain ⟨c2, i2, h2⟩ := u_known hts kinX2 (hts _ win_RX2)
  obtain ⟨c3, i3, h3⟩ := u_known hts kinX3 (hts _ win_RX3)
  obtain ⟨c4, i4, h4⟩ := u_known hts kinX4 (hts _ win_RX4)
  obtain ⟨c5, i5, h5⟩ := u_known hts kinX5 (hts _ win_RX5)
  refine ⟨(fun i => ([c0, c1, c2, c3, c4, c5] : List ClassId).getD i c0, fun i => ([i0, i1, i2, i3, i4, i5] : List (Nat → Nat)).getD i i0), fun c q hq => ?_, fun k q hk => by simp at hk⟩
  match c, hq with
  | 0, hq => cases hq; exact h0
  | 1, hq => cases hq; exact h1
  | 2, hq => cases hq; exact h2
  | 3, hq => cases hq; exact h3
  | 4, hq => cases hq; exact h4
  | 5, hq => cases hq; exact h5
  | c + 6, hq => simp at hq
set_option maxRecDepth 100000 in
theorem st_Z {s : State} {a : Array Value} (hts : ∀ w ∈ lw_tbl, w.before a s = true) (hg : (Jvm.Cond.and given_1 narrow_1).before a s = true) : k_Z (fun q => s.heap.size ≤ q) s s.heap := by
  have hs := flat_of_before _ hg
  have hA : ∀ q : Nat, q < s.heap.size → ¬ s.heap.size ≤ q := fun q h => Nat.not_le.mpr h
  have e0 := va_eqt (z := 112) (hs (Cond.eq (Term.elem (Term.static "TripCalls" "LETTERS" "[I") (Term.int 0)) (Term.int 112)) (by decide +kernel))
  have e1 := va_eqt (z := 108) (hs (Cond.eq (Term.elem (Term.static "TripCalls" "LETTERS" "[I") (Term.int 1)) (Term.int 108)) (by decide +kernel))
  have e2 := va_eqt (z := 116) (hs (Cond.eq (Term.elem (Term.static "TripCalls" "LETTERS" "[I") (Term.int 2)) (Term.int 116)) (by decide +kernel))
  have e3 := va_eqt (z := 101) (hs (Cond.eq (Term.elem (Term.static "TripCalls" "LETTERS" "[I") (Term.int 3)) (Term.int 101)) (by decide +kernel))
  have e4 := va_eqt (z := 115) (hs (Cond.eq (Term.elem (Term.static "TripCalls" "LETTERS" "[I") (Term.int 4)) (Term.int 115)) (by decide +kernel))
  have e5 := va_eqt (z := 98) (hs (Cond.eq (Term.elem (Term.static "TripCalls" "LETTERS" "[I") (Term.int 5)) (Term.int 98)) (by decide +kernel))
  have el := va_eqt (z := 6) (hs (Cond.eq (Term.length (Term.static "TripCalls" "LETTERS" "[I")) (Term.int 6)) (by decide +kernel))
  obtain ⟨t, ht, hT⟩ := va_Tof (N := 6) (f := fun j => .int (k_letters j)) (A := fun q => s.heap.size ≤ q) (by decide) (hs (Cond.arrayOf (Term.static "TripCalls" "LETTERS" "[I") .int) (by decide +kernel)) el (fun j hj => by
    rcases (show j = 0 ∨ j = 1 ∨ j = 2 ∨ j = 3 ∨ j = 4 ∨ j = 5 by omega) with rfl | rfl | rfl | rfl | rfl | rfl
    · exact e0
    · exact e1
    · exact e2
    · exact e3
    · exact e4
    · exact e5) hA
  exact ⟨t, va_Zof (hts _ (List.mem_append_right _ (List.mem_of_getElem? (i := 273) (by decide +kernel)))) (hts _ (List.mem_filter.mp wi_RX4).1) ht hA, hT⟩
theorem st_way {X : kc_C} {b : Nat} (hx : OkC X code RL 4 ret 20 100 20000) (hfin : ∀ (q q' : Nat → Nat) (c c' : Nat → ClassId) (g8 g14 g1 g3 : Nat → Int32), (∀ j, j < 6 → g8 j = -1) → (∀ j, j < 4 → g14 j = -1) → (∀ j, j < 6 → g1 j = -1) → (∀ j, j < 4 → g3 j = -1) → JC X 4 (w_4 q c g8 g14 ++ w_5 q' c' g1 g3) (t_4 c ++ t_5 c') 81 15390 18 [(3, .int 0), (2, .ref (q' 0)), (1, .ref (q 0)), (0, .ref b)] []) : JC X 4 [] [] 0 0 0 [(0, .ref b)] [] := by
  refine JC_new (ci := 4) (C := RX4) (T := TX4) (N := 17) (ty := tyX4) (fs := [.null, .null, .null, .null, .null, .null, .null, .null, .null, .int 0, .long 0, .long 0, .int 0, .null, .null, .null, .null]) hx rfl kinX4 tyX4_ok wcl_RL_7 win_RX4 wi_RX4 (fun j hj => by rcases (show j = 0 ∨ j = 1 ∨ j = 2 ∨ j = 3 ∨ j = 4 ∨ j = 5 ∨ j = 6 ∨ j = 7 ∨ j = 8 ∨ j = 9 ∨ j = 10 ∨ j = 11 ∨ j = 12 ∨ j = 13 ∨ j = 14 ∨ j = 15 ∨ j = 16 by omega) with rfl | rfl | rfl | rfl | rfl | rfl | rfl | rfl | rfl | rfl | rfl | rfl | rfl | rfl | rfl | rfl | rfl <;> rfl) (Nat.le_of_ble_eq_true rfl) (Nat.le_of_ble_eq_true rfl) dL_0 (fun r => ?_)
  refine JC_dup hx dL_3 rfl ?_
  refine JC_init hx lkI_RL_9 (c_X4 _ r) (by decide) (Nat.le_of_ble_eq_true rfl) (Nat.le_of_ble_eq_true rfl) (Nat.le_of_ble_eq_true rfl) (Nat.le_of_ble_eq_true rfl) (Nat.le_of_ble_eq_true rfl) dL_4 ?_
  rintro w1 t1 ⟨q, c, g8, g14, rfl, h8, h14, rfl, rfl⟩
  refine JC_astore_n (x := q 0) (lv' := [(1, .ref (q 0)), (0, .ref b)]) hx dL_7 rfl (by decide) rfl ?_
  refine JC_new (ci := 5) (C := RX5) (T := TX5) (N := 27) (ty := tyX5) (fs := [.null, .null, .null, .null, .int 0, .null, .null, .null, .null, .null, .null, .int 0, .null, .null, .int 0, .long 0, .long 0, .int 0, .null, .int 0, .int 0, .null, .null, .int 0, .int 0, .null, .null]) hx rfl kinX5 tyX5_ok wcl_RL_10 win_RX5 wi_RX5 (fun j hj => by rcases (show j = 0 ∨ j = 1 ∨ j = 2 ∨ j = 3 ∨ j = 4 ∨ j = 5 ∨ j = 6 ∨ j = 7 ∨ j = 8 ∨ j = 9 ∨ j = 10 ∨ j = 11 ∨ j = 12 ∨ j = 13 ∨ j = 14 ∨ j = 15 ∨ j = 16 ∨ j = 17 ∨ j = 18 ∨ j = 19 ∨ j = 20 ∨ j = 21 ∨ j = 22 ∨ j = 23 ∨ j = 24 ∨ j = 25 ∨ j = 26 by omega) with rfl | rfl | rfl | rfl | rfl | rfl | rfl | rfl | rfl | rfl | rfl | rfl | rfl | rfl | rfl | rfl | rfl | rfl | rfl | rfl | rfl | rfl | rfl | rfl | rfl | rfl | rfl <;> rfl) (Nat.le_of_ble_eq_true rfl) (Nat.le_of_ble_eq_true rfl) dL_8 (fun r => ?_)
  refine JC_dup hx dL_11 rfl ?_
  refine JC_init hx lkI_RL_12 (c_X5 _ r) (by decide) (Nat.le_of_ble_eq_true rfl) (Nat.le_of_ble_eq_true rfl) (Nat.le_of_ble_eq_true rfl) (Nat.le_of_ble_eq_true rfl) (Nat.le_of_ble_eq_true rfl) dL_12 ?_
  rintro w1 t1 ⟨q', c', g1, g3, rfl, h1, h3, rfl, rfl⟩
  refine JC_astore_n (x := q' 0) (lv' := [(2, .ref (q' 0)), (1, .ref (q 0)), (0, .ref b)]) hx dL_15 rfl (by decide) rfl ?_
  refine JC_iconst (v := 0) hx dL_16 (by decide) ?_
  refine JC_istore_n (x := 0) (lv' := [(3, .int 0), (2, .ref (q' 0)), (1, .ref (q 0)), (0, .ref b)]) hx dL_17 rfl (by decide) rfl ?_
  exact hfin q q' c c' g8 g14 g1 g3 h8 h14 h1 h3
theorem whole_start {p : Program} {e : Env} {s : State} {m : MethodId} {below : List Frame} {meth : Method} {c : Code} (l : Launch) {b L : Nat} {xs : Nat → Int32} (hL : L ≤ 3072) (C0 : lw_At p s m meth c b L xs) : W p l e room_1 s m #[Value.ref b] below meth c s.heap [] 0 0 (lw_Z below #[Value.ref b] s) (entryFrame m ([Value.ref b] : List Value).toArray 4) := by
  obtain ⟨hexec, hb, hr, hml, hown, hts, hX, hbl, hlk, hg⟩ := C0
  have htk : ∀ w ∈ k_tbl, w.before #[Value.ref b] s = true := fun w hw => hts w (List.mem_filter.mp hw).1
  obtain ⟨D, hK⟩ := st_G htk
  have hZ := st_Z hts hg
  have hT := st_T hts
  have key := st_way (X := (p, l, e, room_1, s, m, #[Value.ref b], below, meth, c, lw_Z below #[Value.ref b] s, D, fun q => s.heap.size ≤ q)) (b := b)
    ⟨hexec, hb, hml, hown, htk, hlk, hr, fun q h => h, hT, Nat.le_of_ble_eq_true rfl, Nat.le_of_ble_eq_true rfl, Nat.le_of_ble_eq_true rfl, Nat.le_of_ble_eq_true rfl⟩
    (fun q q' c1 c2 g8 g14 g1 g3 h8 h14 h1 h3 => by
      intro H locs ls hP hD hS hK2 hl
      have hk := st_K hK2
      exact law_loop (X := (p, l, e, room_1, s, m, #[Value.ref b], below, meth, c, lw_Z below #[Value.ref b] s, D, st_cA c1 c2, fun q => s.heap.size ≤ q, 81, 15390)) (ad := st_ad q q') (b := b) (N := L) (xs := xs)
        ⟨hexec, hb, hml, hown, htk, hlk, hr, fun q h => h, hZ, hk, Nat.le_of_ble_eq_true rfl, Nat.le_of_ble_eq_true rfl, Nat.le_of_ble_eq_true rfl, Nat.le_of_ble_eq_true rfl⟩
        ⟨hX, hbl, Nat.not_le.mpr hbl⟩ ⟨rfl, rfl, rfl, fun q h => h, Nat.le_of_ble_eq_true rfl, Nat.le_of_ble_eq_true rfl⟩ hL (L + 1) 0 _ _ (by omega) (by omega) (st_R h8 h14 h1 h3) H locs ls ⟨st_P hP, st_D hD, hS⟩ (lv_sub hl [0, 3, 2, 1] rfl))
  have hl := lv_entry ([.ref b] : List Value) (n := 4) (Nat.le_of_ble_eq_true rfl)
  rw [lg_entry_eq]
  exact key s.heap [] _ (fun k x hk => by simp at hk) ⟨fun i j x y hi => by simp at hi, fun k x hk => by simp at hk⟩ va_S.rf hK hl
