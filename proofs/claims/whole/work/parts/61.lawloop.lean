/-! the law's loop -/
def k_law (X : k_C) (b : Nat) : Prop := match X with
  | (_, _, _, R, s, _, args, below, _, _, Q, _, _, A, cells, slots) => R = room_1 ∧ args = #[Value.ref b] ∧ Q = lw_Z below #[Value.ref b] s ∧ (∀ q, A q → s.heap.size ≤ q) ∧ cells ≤ 600000 ∧ slots ≤ 7302250
theorem J_lend {X : k_C} {ad : Nat → Nat} {I : StI} {L : StL} {b : Nat} {lv : List (Nat × Value)} (hx : Ok X code RL 4 ret 20) (hq : k_law X b) : J X ad 4 I L 1339 lv [.int 1] := by
  obtain ⟨p, l, e, R, s, m, args, below, meth, c, Q, D, cA, A, cells, slots⟩ := X
  obtain ⟨hexec, hb, hml, hown, hts, hlk, hr, hA, hZ, hK, hcl, hsl, hfr, hlo⟩ := hx
  obtain ⟨rfl, rfl, rfl, q4, q5, q6⟩ := hq
  intro H locs ls hW hl
  exact va_forget (fun q hq => q4 q.base (hW.2.2.2.2 q hq)) (W.widen q5 q6 (lw_ret hexec hb hr hlk dL_1339))
theorem law_sw {X : k_C} {ad : Nat → Nat} {I : StI} {L : StL} {b N i : Nat} {xs : Nat → Int32} {x : Int32} (hx : Ok X code RL 4 ret 20) (hX : k_scr X b N xs) (hi : i + 6 ≤ N ∧ N ≤ 3072) (hR : Rel I L) (kk : ∀ I L, Rel I L → J X ad 4 I L 1332 [(3, .int (nI i)), (0, .ref b), (1, .ref (ad 0)), (2, .ref (ad 63))] []) (k : Nat) (hk : k < 64) (ek : x = nI k) : J X ad 4 I L 33 [(3, .int (nI i)), (0, .ref b), (1, .ref (ad 0)), (2, .ref (ad 63))] [.int x] := by
  match k, hk, ek with
  | 0, _, ek => exact J_tIn hx dL_33 ek (by decide) (by decide) rfl 220 (by decide) (lawC_0 hx hX hi hR kk)
  | 1, _, ek => exact J_tIn hx dL_33 ek (by decide) (by decide) rfl 253 (by decide) (lawC_1 hx hX hi hR kk)
  | 2, _, ek => exact J_tIn hx dL_33 ek (by decide) (by decide) rfl 296 (by decide) (lawC_2 hx hX hi hR kk)
  | 3, _, ek => exact J_tIn hx dL_33 ek (by decide) (by decide) rfl 329 (by decide) (lawC_3 hx hX hi hR kk)
  | 4, _, ek => exact J_tIn hx dL_33 ek (by decide) (by decide) rfl 352 (by decide) (lawC_4 hx hX hi hR kk)
  | 5, _, ek => exact J_tIn hx dL_33 ek (by decide) (by decide) rfl 415 (by decide) (lawC_5 hx hX hi hR kk)
  | 6, _, ek => exact J_tIn hx dL_33 ek (by decide) (by decide) rfl 438 (by decide) (lawC_6 hx hX hi hR kk)
  | 7, _, ek => exact J_tIn hx dL_33 ek (by decide) (by decide) rfl 471 (by decide) (lawC_7 hx hX hi hR kk)
  | 8, _, ek => exact J_tIn hx dL_33 ek (by decide) (by decide) rfl 514 (by decide) (lawC_8 hx hX hi hR kk)
  | 9, _, ek => exact J_tIn hx dL_33 ek (by decide) (by decide) rfl 537 (by decide) (lawC_9 hx hX hi hR kk)
  | 10, _, ek => exact J_tIn hx dL_33 ek (by decide) (by decide) rfl 560 (by decide) (lawC_10 hx hX hi hR kk)
  | 11, _, ek => exact J_tIn hx dL_33 ek (by decide) (by decide) rfl 593 (by decide) (lawC_11 hx hX hi hR kk)
  | 12, _, ek => exact J_tIn hx dL_33 ek (by decide) (by decide) rfl 626 (by decide) (lawC_12 hx hX hi hR kk)
  | 13, _, ek => exact J_tIn hx dL_33 ek (by decide) (by decide) rfl 649 (by decide) (lawC_13 hx hX hi hR kk)
  | 14, _, ek => exact J_tIn hx dL_33 ek (by decide) (by decide) rfl 662 (by decide) (lawC_14 hx hX hi hR kk)
  | 15, _, ek => exact J_tIn hx dL_33 ek (by decide) (by decide) rfl 685 (by decide) (lawC_15 hx hX hi hR kk)
  | 16, _, ek => exact J_tIn hx dL_33 ek (by decide) (by decide) rfl 708 (by decide) (lawC_16 hx hX hi hR kk)
  | 17, _, ek => exact J_tIn hx dL_33 ek (by decide) (by decide) rfl 741 (by decide) (lawC_17 hx hX hi hR kk)
  | 18, _, ek => exact J_tIn hx dL_33 ek (by decide) (by decide) rfl 764 (by decide) (lawC_18 hx hX hi hR kk)
  | 19, _, ek => exact J_tIn hx dL_33 ek (by decide) (by decide) rfl 787 (by decide) (lawC_19 hx hX hi hR kk)
  | 20, _, ek => exact J_tIn hx dL_33 ek (by decide) (by decide) rfl 810 (by decide) (lawC_20 hx hX hi hR kk)
  | 21, _, ek => exact J_tIn hx dL_33 ek (by decide) (by decide) rfl 833 (by decide) (lawC_21 hx hX hi hR kk)
  | 22, _, ek => exact J_tIn hx dL_33 ek (by decide) (by decide) rfl 846 (by decide) (lawC_22 hx hX hi hR kk)
  | 23, _, ek => exact J_tIn hx dL_33 ek (by decide) (by decide) rfl 879 (by decide) (lawC_23 hx hX hi hR kk)
  | 24, _, ek => exact J_tIn hx dL_33 ek (by decide) (by decide) rfl 902 (by decide) (lawC_24 hx hX hi hR kk)
  | 25, _, ek => exact J_tIn hx dL_33 ek (by decide) (by decide) rfl 915 (by decide) (lawC_25 hx hX hi hR kk)
  | 26, _, ek => exact J_tIn hx dL_33 ek (by decide) (by decide) rfl 938 (by decide) (lawC_26 hx hX hi hR kk)
  | 27, _, ek => exact J_tIn hx dL_33 ek (by decide) (by decide) rfl 961 (by decide) (lawC_27 hx hX hi hR kk)
  | 28, _, ek => exact J_tIn hx dL_33 ek (by decide) (by decide) rfl 994 (by decide) (lawC_28 hx hX hi hR kk)
  | 29, _, ek => exact J_tIn hx dL_33 ek (by decide) (by decide) rfl 1017 (by decide) (lawC_29 hx hX hi hR kk)
  | 30, _, ek => exact J_tIn hx dL_33 ek (by decide) (by decide) rfl 1040 (by decide) (lawC_30 hx hX hi hR kk)
  | 31, _, ek => exact J_tIn hx dL_33 ek (by decide) (by decide) rfl 1073 (by decide) (lawC_31 hx hX hi hR kk)
  | 32, _, ek => exact J_tIn hx dL_33 ek (by decide) (by decide) rfl 1106 (by decide) (lawC_32 hx hX hi hR kk)
  | 33, _, ek => exact J_tIn hx dL_33 ek (by decide) (by decide) rfl 1129 (by decide) (lawC_33 hx hX hi hR kk)
  | 34, _, ek => exact J_tIn hx dL_33 ek (by decide) (by decide) rfl 1162 (by decide) (lawC_34 hx hX hi hR kk)
  | 35, _, ek => exact J_tIn hx dL_33 ek (by decide) (by decide) rfl 1185 (by decide) (lawC_35 hx hX hi hR kk)
  | 36, _, ek => exact J_tIn hx dL_33 ek (by decide) (by decide) rfl 1218 (by decide) (lawC_36 hx hX hi hR kk)
  | 37, _, ek => exact J_tIn hx dL_33 ek (by decide) (by decide) rfl 1231 (by decide) (lawC_37 hx hX hi hR kk)
  | 38, _, ek => exact J_tIn hx dL_33 ek (by decide) (by decide) rfl 1245 (by decide) (lawC_38 hx hX hi hR kk)
  | 39, _, ek => exact J_tIn hx dL_33 ek (by decide) (by decide) rfl 1259 (by decide) (lawC_39 hx hX hi hR kk)
  | 40, _, ek => exact J_tIn hx dL_33 ek (by decide) (by decide) rfl 1282 (by decide) (lawC_40 hx hX hi hR kk)
  | 41, _, ek => exact J_tIn hx dL_33 ek (by decide) (by decide) rfl 1295 (by decide) (lawC_41 hx hX hi hR kk)
  | 42, _, ek => exact J_tIn hx dL_33 ek (by decide) (by decide) rfl 1318 (by decide) (lawC_42 hx hX hi hR kk)
  | k + 43, hk, ek => exact J_tOut hx dL_33 (Or.inr (by rw [ek, i_n (by omega)]; omega)) 1332 (by decide) (kk I L hR)
theorem law_loop {X : k_C} {ad : Nat → Nat} {b N : Nat} {xs : Nat → Int32} (hx : Ok X code RL 4 ret 20) (hX : k_scr X b N xs) (hq : k_law X b) (hN : N ≤ 3072) : ∀ (k i : Nat) (I : StI) (L : StL), N - i < k → i ≤ 4000 → Rel I L → J X ad 4 I L 18 [(3, .int (nI i)), (0, .ref b), (1, .ref (ad 0)), (2, .ref (ad 63))] []
  | 0, _, _, _, h, _, _ => absurd h (Nat.not_lt_zero _)
  | k + 1, i, I, L, h, h4, hR => by
    refine J_iload_n hx dL_18 0 rfl ?_
    refine J_aload_n hx dL_19 1 rfl ?_
    refine J_slen hx hX dL_20 ?_
    refine J_bipush (v := 6) hx dL_21 (by decide) ?_
    refine J_isub hx dL_23 ?_
    have e6 : (nI N - 6).toInt = (N : Int) - 6 := by
      rw [i_sub (by rw [i_n (by omega)]; simp only [Int32.reduceToInt]; omega) (by rw [i_n (by omega)]; simp only [Int32.reduceToInt]; omega), i_n (by omega)]
      rfl
    refine J_ic_gt hx dL_24 1338 (by decide) (fun c => ?_) (fun c => ?_)
    · exact J_iconst (v := 1) hx dL_1338 (by decide) (J_lend hx hq)
    · have hi : i + 6 ≤ N ∧ N ≤ 3072 := by
        rw [i_lt, e6, i_n (by omega)] at c
        omega
      refine J_aload_n hx dL_27 1 rfl ?_
      refine J_iload_n hx dL_28 0 rfl ?_
      refine J_sld hx hX (scr_in0 hi) dL_29 ?_
      refine J_bipush (v := 63) hx dL_30 (by decide) ?_
      refine J_iand hx dL_32 ?_
      obtain ⟨y, hy, ey⟩ := pk_andE (xs (nI i).toNatClampNeg) (m := 63) 6 rfl
      refine law_sw hx hX hi hR (fun I1 L1 hR1 => ?_) y hy ey
      refine J_iinc (x := nI (i + 6)) hx dL_1332 0 rfl (nI_add i 6) (by decide) rfl ?_
      exact J_goto hx dL_1335 18 (by decide) (law_loop hx hX hq hN k (i + 6) I1 L1 (by omega) (by omega) hR1)
