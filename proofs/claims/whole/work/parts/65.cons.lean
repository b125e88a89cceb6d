set_option maxRecDepth 100000 in
theorem wno_obj : Cond.instanceMethod Lib.objectInit ∈ k_tbl := k_in (List.mem_append_right _ (List.mem_of_getElem? (i := 17) (by decide +kernel))) (by decide +kernel)
set_option maxRecDepth 100000 in
theorem wco_obj : Cond.code Lib.objectInit ⟨#[0xb1]⟩ 1 none ∈ k_tbl := k_in (List.mem_append_right _ (List.mem_of_getElem? (i := 18) (by decide +kernel))) (by decide +kernel)
set_option maxRecDepth 100000 in
theorem wac_int : Cond.arrayClass .int ∈ k_tbl := k_in (List.mem_append_right _ (List.mem_of_getElem? (i := 63) (by decide +kernel))) (by decide +kernel)
set_option maxRecDepth 100000 in
theorem wac_byte : Cond.arrayClass .byte ∈ k_tbl := k_in (List.mem_append_right _ (List.mem_of_getElem? (i := 64) (by decide +kernel))) (by decide +kernel)
set_option maxRecDepth 100000 in
theorem wac_boolean : Cond.arrayClass .boolean ∈ k_tbl := k_in (List.mem_append_right _ (List.mem_of_getElem? (i := 734) (by decide +kernel))) (by decide +kernel)
set_option maxRecDepth 100000 in
theorem wmo_RX0_3 : Cond.methodLink RX0 3 Lib.objectInit ∈ k_tbl := k_in (List.mem_append_right _ (List.mem_of_getElem? (i := 35) (by decide +kernel))) (by decide +kernel)
set_option maxRecDepth 100000 in
theorem wmo_RX1_3 : Cond.methodLink RX1 3 Lib.objectInit ∈ k_tbl := k_in (List.mem_append_right _ (List.mem_of_getElem? (i := 127) (by decide +kernel))) (by decide +kernel)
set_option maxRecDepth 100000 in
theorem wmo_RX2_3 : Cond.methodLink RX2 3 Lib.objectInit ∈ k_tbl := k_in (List.mem_append_right _ (List.mem_of_getElem? (i := 103) (by decide +kernel))) (by decide +kernel)
set_option maxRecDepth 100000 in
theorem wmo_RX3_3 : Cond.methodLink RX3 3 Lib.objectInit ∈ k_tbl := k_in (List.mem_append_right _ (List.mem_of_getElem? (i := 28) (by decide +kernel))) (by decide +kernel)
set_option maxRecDepth 100000 in
theorem wcl_RX3_9 : Cond.classLink RX3 9 RX0 ∈ k_tbl := k_in (List.mem_append_right _ (List.mem_of_getElem? (i := 29) (by decide +kernel))) (by decide +kernel)
set_option maxRecDepth 100000 in
theorem wc_X0_init : Cond.code yX0_init cX0_init 1 none ∈ k_tbl := k_in (List.mem_append_right _ (List.mem_of_getElem? (i := 34) (by decide +kernel))) (by decide +kernel)
set_option maxRecDepth 100000 in
theorem wn_X0_init : Cond.instanceMethod yX0_init ∈ k_tbl := k_in (List.mem_append_right _ (List.mem_of_getElem? (i := 33) (by decide +kernel))) (by decide +kernel)
theorem lkN_X0_init : kc_lkN yX0_init cX0_init 1 := ⟨wi_RX0, wc_X0_init, wn_X0_init, by decide +kernel, by decide, rfl⟩
set_option maxRecDepth 100000 in
theorem win_RX0 : Cond.instantiable RX0 7 ∈ k_tbl := k_in (List.mem_append_right _ (List.mem_of_getElem? (i := 31) (by decide +kernel))) (by decide +kernel)
theorem c_X0 (l : Launch) (h0 : Nat) : kc_Met l 1 0 0 yX0_init cX0_init 1 h0 0 [.int 0, .int 0, .int 0, .int 0, .int 0, .int 0, .int 0] (fun ws tys => ws = [(h0, .inr (0, [.int 0, .int 0, .int 0, .int 0, .int 0, .int 0, .int 0]))] ∧ tys = []) := by
  refine kc_enter (by decide +kernel) rfl (Nat.le_refl 1) (fun X hl hx hi hQ => ?_)
  have hx : OkC X cX0_init RX0 1 none 1 0 0 := hx
  refine JC_aload_n hx dX0_init_0 0 rfl ?_
  refine JC_obj hx wmo_RX0_3 wno_obj wco_obj (Nat.le_of_ble_eq_true rfl) (Nat.le_refl 1) dX0_init_1 ?_
  exact JC_vret hx hQ dX0_init_4 ⟨rfl, rfl⟩
theorem c_X1 (l : Launch) (h0 : Nat) : kc_Met l 1 0 0 yX1_init cX1_init 1 h0 1 [.int 0, .int 0] (fun ws tys => ws = [(h0, .inr (1, [.int 0, .int 0]))] ∧ tys = []) := by
  refine kc_enter (by decide +kernel) rfl (Nat.le_refl 1) (fun X hl hx hi hQ => ?_)
  have hx : OkC X cX1_init RX1 1 none 1 0 0 := hx
  refine JC_aload_n hx dX1_init_0 0 rfl ?_
  refine JC_obj hx wmo_RX1_3 wno_obj wco_obj (Nat.le_of_ble_eq_true rfl) (Nat.le_refl 1) dX1_init_1 ?_
  exact JC_vret hx hQ dX1_init_4 ⟨rfl, rfl⟩
theorem c_X2 (l : Launch) (h0 : Nat) : kc_Met l 1 3 120 yX2_init cX2_init 1 h0 2 [.null, .null, .null, .int 0] (fun ws tys => ∃ (q1 q2 q3 : Nat) (c1 c2 c3 : ClassId), ws = [(h0, .inr (2, [.ref q1, .ref q2, .ref q3, .int 0])), (q1, .inl (c1, 40, .inl (fun _ => 0))), (q2, .inl (c2, 40, .inl (fun _ => 0))), (q3, .inl (c3, 40, .inl (fun _ => 0)))] ∧ tys = [(c1, .int), (c2, .int), (c3, .int)]) := by
  refine kc_enter (by decide +kernel) rfl (Nat.le_refl 1) (fun X hl hx hi hQ => ?_)
  have hx : OkC X cX2_init RX2 1 none 1 3 120 := hx
  refine JC_aload_n hx dX2_init_0 0 rfl ?_
  refine JC_obj hx wmo_RX2_3 wno_obj wco_obj (Nat.le_of_ble_eq_true rfl) (Nat.le_refl 1) dX2_init_1 ?_
  refine JC_aload_n hx dX2_init_4 0 rfl ?_
  refine JC_bipush (v := 40) hx dX2_init_5 (by decide) ?_
  refine JC_newa (atype := .int) (a0 := (40, .inl (fun _ => 0))) (ty := .int) (N := 40) hx wac_int rfl (fun _ => rfl) (by decide) rfl (Nat.le_of_ble_eq_true rfl) (Nat.le_of_ble_eq_true rfl) (Nat.le_of_ble_eq_true rfl) dX2_init_7 (fun q1 c1 => ?_)
  refine JC_putF (k := 0) (ty := .array .int) (v := .ref q1) hx hi 0 rfl rfl kinX2 tyX2_ok nmX2 (by decide) wf_RX2_9 rfl rfl (by decide +kernel) rfl rfl (Nat.le_of_ble_eq_true rfl) dX2_init_9 ?_
  refine JC_aload_n hx dX2_init_12 0 rfl ?_
  refine JC_bipush (v := 40) hx dX2_init_13 (by decide) ?_
  refine JC_newa (atype := .int) (a0 := (40, .inl (fun _ => 0))) (ty := .int) (N := 40) hx wac_int rfl (fun _ => rfl) (by decide) rfl (Nat.le_of_ble_eq_true rfl) (Nat.le_of_ble_eq_true rfl) (Nat.le_of_ble_eq_true rfl) dX2_init_15 (fun q2 c2 => ?_)
  refine JC_putF (k := 1) (ty := .array .int) (v := .ref q2) hx hi 0 rfl rfl kinX2 tyX2_ok nmX2 (by decide) wf_RX2_15 rfl rfl (by decide +kernel) rfl rfl (Nat.le_of_ble_eq_true rfl) dX2_init_17 ?_
  refine JC_aload_n hx dX2_init_20 0 rfl ?_
  refine JC_bipush (v := 40) hx dX2_init_21 (by decide) ?_
  refine JC_newa (atype := .int) (a0 := (40, .inl (fun _ => 0))) (ty := .int) (N := 40) hx wac_int rfl (fun _ => rfl) (by decide) rfl (Nat.le_of_ble_eq_true rfl) (Nat.le_of_ble_eq_true rfl) (Nat.le_of_ble_eq_true rfl) dX2_init_23 (fun q3 c3 => ?_)
  refine JC_putF (k := 2) (ty := .array .int) (v := .ref q3) hx hi 0 rfl rfl kinX2 tyX2_ok nmX2 (by decide) wf_RX2_18 rfl rfl (by decide +kernel) rfl rfl (Nat.le_of_ble_eq_true rfl) dX2_init_25 ?_
  exact JC_vret hx hQ dX2_init_28 ⟨q1, q2, q3, c1, c2, c3, rfl, rfl⟩
theorem c_X3 (l : Launch) (h0 : Nat) : kc_Met l 2 8 56 yX3_init cX3_init 2 h0 3 [.null, .int 0, .int 0, .int 0, .int 0, .int 0, .int 0, .int 0] (fun ws tys => ∃ (qa : Nat) (ca : ClassId) (r0 r1 r2 r3 r4 r5 r6 : Nat), ws = [(h0, .inr (3, [.ref qa, .int 0, .int 0, .int 0, .int 0, .int 0, .int 0, .int 0])), (qa, .inl (ca, 7, .inr (.inr (.inr (.inr (va_up (va_up (va_up (va_up (va_up (va_up (va_up (fun _ => none) (0 : Int32).toNatClampNeg (some r0)) (1 : Int32).toNatClampNeg (some r1)) (2 : Int32).toNatClampNeg (some r2)) (3 : Int32).toNatClampNeg (some r3)) (4 : Int32).toNatClampNeg (some r4)) (5 : Int32).toNatClampNeg (some r5)) (6 : Int32).toNatClampNeg (some r6))))))), (r0, .inr (0, [.int 0, .int 0, .int 0, .int 0, .int 0, .int 0, .int 0])), (r1, .inr (0, [.int 0, .int 0, .int 0, .int 0, .int 0, .int 0, .int 0])), (r2, .inr (0, [.int 0, .int 0, .int 0, .int 0, .int 0, .int 0, .int 0])), (r3, .inr (0, [.int 0, .int 0, .int 0, .int 0, .int 0, .int 0, .int 0])), (r4, .inr (0, [.int 0, .int 0, .int 0, .int 0, .int 0, .int 0, .int 0])), (r5, .inr (0, [.int 0, .int 0, .int 0, .int 0, .int 0, .int 0, .int 0])), (r6, .inr (0, [.int 0, .int 0, .int 0, .int 0, .int 0, .int 0, .int 0]))] ∧ tys = [(ca, .object "TripCalls$Caller")]) := by
  refine kc_enter (by decide +kernel) rfl (by decide) (fun X hl hx hi hQ => ?_)
  have hx : OkC X cX3_init RX3 2 none 2 8 56 := hx
  refine JC_aload_n hx dX3_init_0 0 rfl ?_
  refine JC_obj hx wmo_RX3_3 wno_obj wco_obj (Nat.le_of_ble_eq_true rfl) (by decide) dX3_init_1 ?_
  refine JC_aload_n hx dX3_init_4 0 rfl ?_
  refine JC_bipush (v := 7) hx dX3_init_5 (by decide) ?_
  refine JC_newq (C := "TripCalls$Caller") (N := 7) hx wcl_RX3_9 (Or.inl rfl) (by decide) rfl (Nat.le_of_ble_eq_true rfl) (Nat.le_of_ble_eq_true rfl) (Nat.le_of_ble_eq_true rfl) dX3_init_7 (fun qa ca => ?_)
  refine JC_putF (k := 0) (ty := .array (.object "TripCalls$Caller")) (v := .ref qa) hx hi 0 rfl rfl kinX3 tyX3_ok nmX3 (by decide) wf_RX3_11 rfl rfl (by decide +kernel) rfl rfl (Nat.le_of_ble_eq_true rfl) dX3_init_10 ?_
  refine JC_iconst (v := 0) hx dX3_init_13 (by decide) ?_
  refine JC_istore_n (x := 0) (lv' := [(1, .int 0), (0, .ref h0)]) hx dX3_init_14 rfl (by decide) rfl ?_
  refine JC_iload_n (x := 0) hx dX3_init_15 0 rfl ?_
  refine JC_bipush (v := 7) hx dX3_init_16 (by decide) ?_
  refine JC_ic_ge hx dX3_init_18 40 (by decide) (fun z => absurd z (by decide)) (fun _ => ?_)
  refine JC_aload_n hx dX3_init_21 1 rfl ?_
  refine JC_get (k := 0) hx 0 rfl rfl kinX3 (by decide) wf_RX3_11 rfl dX3_init_22 ?_
  refine JC_iload_n (x := 0) hx dX3_init_25 0 rfl ?_
  refine JC_new (ci := 0) (C := RX0) (T := TX0) (N := 7) (ty := tyX0) (fs := [.int 0, .int 0, .int 0, .int 0, .int 0, .int 0, .int 0]) hx rfl kinX0 tyX0_ok wcl_RX3_9 win_RX0 wi_RX0 (fun j hj => by rcases (show j = 0 ∨ j = 1 ∨ j = 2 ∨ j = 3 ∨ j = 4 ∨ j = 5 ∨ j = 6 by omega) with rfl | rfl | rfl | rfl | rfl | rfl | rfl <;> rfl) (Nat.le_of_ble_eq_true rfl) (Nat.le_of_ble_eq_true rfl) dX3_init_26 (fun r0 => ?_)
  refine JC_dup hx dX3_init_29 rfl ?_
  refine JC_initN hx (fun U h => h.2.2.2.2.1) lkN_X0_init (c_X0 _ r0) (by decide) (Nat.le_of_ble_eq_true rfl) (Nat.le_of_ble_eq_true rfl) (Nat.le_of_ble_eq_true rfl) dX3_init_30 ?_
  rintro w1 t1 ⟨rfl, rfl⟩
  refine JC_astq (ci := 0) (r := (RX0, TX0, 7)) hx 1 0 2 rfl rfl rfl rfl (vp_in_iff.mpr (by decide)) dX3_init_33 ?_
  refine JC_iinc (x := 1) (lv' := [(1, .int 1), (0, .ref h0)]) hx dX3_init_34 0 rfl (by decide) (by decide) rfl ?_
  refine JC_goto hx dX3_init_37 15 (by decide) ?_
  refine JC_iload_n (x := 1) hx dX3_init_15 0 rfl ?_
  refine JC_bipush (v := 7) hx dX3_init_16 (by decide) ?_
  refine JC_ic_ge hx dX3_init_18 40 (by decide) (fun z => absurd z (by decide)) (fun _ => ?_)
  refine JC_aload_n hx dX3_init_21 1 rfl ?_
  refine JC_get (k := 0) hx 0 rfl rfl kinX3 (by decide) wf_RX3_11 rfl dX3_init_22 ?_
  refine JC_iload_n (x := 1) hx dX3_init_25 0 rfl ?_
  refine JC_new (ci := 0) (C := RX0) (T := TX0) (N := 7) (ty := tyX0) (fs := [.int 0, .int 0, .int 0, .int 0, .int 0, .int 0, .int 0]) hx rfl kinX0 tyX0_ok wcl_RX3_9 win_RX0 wi_RX0 (fun j hj => by rcases (show j = 0 ∨ j = 1 ∨ j = 2 ∨ j = 3 ∨ j = 4 ∨ j = 5 ∨ j = 6 by omega) with rfl | rfl | rfl | rfl | rfl | rfl | rfl <;> rfl) (Nat.le_of_ble_eq_true rfl) (Nat.le_of_ble_eq_true rfl) dX3_init_26 (fun r1 => ?_)
  refine JC_dup hx dX3_init_29 rfl ?_
  refine JC_initN hx (fun U h => h.2.2.2.2.1) lkN_X0_init (c_X0 _ r1) (by decide) (Nat.le_of_ble_eq_true rfl) (Nat.le_of_ble_eq_true rfl) (Nat.le_of_ble_eq_true rfl) dX3_init_30 ?_
  rintro w1 t1 ⟨rfl, rfl⟩
  refine JC_astq (ci := 0) (r := (RX0, TX0, 7)) hx 1 0 3 rfl rfl rfl rfl (vp_in_iff.mpr (by decide)) dX3_init_33 ?_
  refine JC_iinc (x := 2) (lv' := [(1, .int 2), (0, .ref h0)]) hx dX3_init_34 0 rfl (by decide) (by decide) rfl ?_
  refine JC_goto hx dX3_init_37 15 (by decide) ?_
  refine JC_iload_n (x := 2) hx dX3_init_15 0 rfl ?_
  refine JC_bipush (v := 7) hx dX3_init_16 (by decide) ?_
  refine JC_ic_ge hx dX3_init_18 40 (by decide) (fun z => absurd z (by decide)) (fun _ => ?_)
  refine JC_aload_n hx dX3_init_21 1 rfl ?_
  refine JC_get (k := 0) hx 0 rfl rfl kinX3 (by decide) wf_RX3_11 rfl dX3_init_22 ?_
  refine JC_iload_n (x := 2) hx dX3_init_25 0 rfl ?_
  refine JC_new (ci := 0) (C := RX0) (T := TX0) (N := 7) (ty := tyX0) (fs := [.int 0, .int 0, .int 0, .int 0, .int 0, .int 0, .int 0]) hx rfl kinX0 tyX0_ok wcl_RX3_9 win_RX0 wi_RX0 (fun j hj => by rcases (show j = 0 ∨ j = 1 ∨ j = 2 ∨ j = 3 ∨ j = 4 ∨ j = 5 ∨ j = 6 by omega) with rfl | rfl | rfl | rfl | rfl | rfl | rfl <;> rfl) (Nat.le_of_ble_eq_true rfl) (Nat.le_of_ble_eq_true rfl) dX3_init_26 (fun r2 => ?_)
  refine JC_dup hx dX3_init_29 rfl ?_
  refine JC_initN hx (fun U h => h.2.2.2.2.1) lkN_X0_init (c_X0 _ r2) (by decide) (Nat.le_of_ble_eq_true rfl) (Nat.le_of_ble_eq_true rfl) (Nat.le_of_ble_eq_true rfl) dX3_init_30 ?_
  rintro w1 t1 ⟨rfl, rfl⟩
  refine JC_astq (ci := 0) (r := (RX0, TX0, 7)) hx 1 0 4 rfl rfl rfl rfl (vp_in_iff.mpr (by decide)) dX3_init_33 ?_
  refine JC_iinc (x := 3) (lv' := [(1, .int 3), (0, .ref h0)]) hx dX3_init_34 0 rfl (by decide) (by decide) rfl ?_
  refine JC_goto hx dX3_init_37 15 (by decide) ?_
  refine JC_iload_n (x := 3) hx dX3_init_15 0 rfl ?_
  refine JC_bipush (v := 7) hx dX3_init_16 (by decide) ?_
  refine JC_ic_ge hx dX3_init_18 40 (by decide) (fun z => absurd z (by decide)) (fun _ => ?_)
  refine JC_aload_n hx dX3_init_21 1 rfl ?_
  refine JC_get (k := 0) hx 0 rfl rfl kinX3 (by decide) wf_RX3_11 rfl dX3_init_22 ?_
  refine JC_iload_n (x := 3) hx dX3_init_25 0 rfl ?_
  refine JC_new (ci := 0) (C := RX0) (T := TX0) (N := 7) (ty := tyX0) (fs := [.int 0, .int 0, .int 0, .int 0, .int 0, .int 0, .int 0]) hx rfl kinX0 tyX0_ok wcl_RX3_9 win_RX0 wi_RX0 (fun j hj => by rcases (show j = 0 ∨ j = 1 ∨ j = 2 ∨ j = 3 ∨ j = 4 ∨ j = 5 ∨ j = 6 by omega) with rfl | rfl | rfl | rfl | rfl | rfl | rfl <;> rfl) (Nat.le_of_ble_eq_true rfl) (Nat.le_of_ble_eq_true rfl) dX3_init_26 (fun r3 => ?_)
  refine JC_dup hx dX3_init_29 rfl ?_
  refine JC_initN hx (fun U h => h.2.2.2.2.1) lkN_X0_init (c_X0 _ r3) (by decide) (Nat.le_of_ble_eq_true rfl) (Nat.le_of_ble_eq_true rfl) (Nat.le_of_ble_eq_true rfl) dX3_init_30 ?_
  rintro w1 t1 ⟨rfl, rfl⟩
  refine JC_astq (ci := 0) (r := (RX0, TX0, 7)) hx 1 0 5 rfl rfl rfl rfl (vp_in_iff.mpr (by decide)) dX3_init_33 ?_
  refine JC_iinc (x := 4) (lv' := [(1, .int 4), (0, .ref h0)]) hx dX3_init_34 0 rfl (by decide) (by decide) rfl ?_
  refine JC_goto hx dX3_init_37 15 (by decide) ?_
  refine JC_iload_n (x := 4) hx dX3_init_15 0 rfl ?_
  refine JC_bipush (v := 7) hx dX3_init_16 (by decide) ?_
  refine JC_ic_ge hx dX3_init_18 40 (by decide) (fun z => absurd z (by decide)) (fun _ => ?_)
  refine JC_aload_n hx dX3_init_21 1 rfl ?_
  refine JC_get (k := 0) hx 0 rfl rfl kinX3 (by decide) wf_RX3_11 rfl dX3_init_22 ?_
  refine JC_iload_n (x := 4) hx dX3_init_25 0 rfl ?_
  refine JC_new (ci := 0) (C := RX0) (T := TX0) (N := 7) (ty := tyX0) (fs := [.int 0, .int 0, .int 0, .int 0, .int 0, .int 0, .int 0]) hx rfl kinX0 tyX0_ok wcl_RX3_9 win_RX0 wi_RX0 (fun j hj => by rcases (show j = 0 ∨ j = 1 ∨ j = 2 ∨ j = 3 ∨ j = 4 ∨ j = 5 ∨ j = 6 by omega) with rfl | rfl | rfl | rfl | rfl | rfl | rfl <;> rfl) (Nat.le_of_ble_eq_true rfl) (Nat.le_of_ble_eq_true rfl) dX3_init_26 (fun r4 => ?_)
  refine JC_dup hx dX3_init_29 rfl ?_
  refine JC_initN hx (fun U h => h.2.2.2.2.1) lkN_X0_init (c_X0 _ r4) (by decide) (Nat.le_of_ble_eq_true rfl) (Nat.le_of_ble_eq_true rfl) (Nat.le_of_ble_eq_true rfl) dX3_init_30 ?_
  rintro w1 t1 ⟨rfl, rfl⟩
  refine JC_astq (ci := 0) (r := (RX0, TX0, 7)) hx 1 0 6 rfl rfl rfl rfl (vp_in_iff.mpr (by decide)) dX3_init_33 ?_
  refine JC_iinc (x := 5) (lv' := [(1, .int 5), (0, .ref h0)]) hx dX3_init_34 0 rfl (by decide) (by decide) rfl ?_
  refine JC_goto hx dX3_init_37 15 (by decide) ?_
  refine JC_iload_n (x := 5) hx dX3_init_15 0 rfl ?_
  refine JC_bipush (v := 7) hx dX3_init_16 (by decide) ?_
  refine JC_ic_ge hx dX3_init_18 40 (by decide) (fun z => absurd z (by decide)) (fun _ => ?_)
  refine JC_aload_n hx dX3_init_21 1 rfl ?_
  refine JC_get (k := 0) hx 0 rfl rfl kinX3 (by decide) wf_RX3_11 rfl dX3_init_22 ?_
  refine JC_iload_n (x := 5) hx dX3_init_25 0 rfl ?_
  refine JC_new (ci := 0) (C := RX0) (T := TX0) (N := 7) (ty := tyX0) (fs := [.int 0, .int 0, .int 0, .int 0, .int 0, .int 0, .int 0]) hx rfl kinX0 tyX0_ok wcl_RX3_9 win_RX0 wi_RX0 (fun j hj => by rcases (show j = 0 ∨ j = 1 ∨ j = 2 ∨ j = 3 ∨ j = 4 ∨ j = 5 ∨ j = 6 by omega) with rfl | rfl | rfl | rfl | rfl | rfl | rfl <;> rfl) (Nat.le_of_ble_eq_true rfl) (Nat.le_of_ble_eq_true rfl) dX3_init_26 (fun r5 => ?_)
  refine JC_dup hx dX3_init_29 rfl ?_
  refine JC_initN hx (fun U h => h.2.2.2.2.1) lkN_X0_init (c_X0 _ r5) (by decide) (Nat.le_of_ble_eq_true rfl) (Nat.le_of_ble_eq_true rfl) (Nat.le_of_ble_eq_true rfl) dX3_init_30 ?_
  rintro w1 t1 ⟨rfl, rfl⟩
  refine JC_astq (ci := 0) (r := (RX0, TX0, 7)) hx 1 0 7 rfl rfl rfl rfl (vp_in_iff.mpr (by decide)) dX3_init_33 ?_
  refine JC_iinc (x := 6) (lv' := [(1, .int 6), (0, .ref h0)]) hx dX3_init_34 0 rfl (by decide) (by decide) rfl ?_
  refine JC_goto hx dX3_init_37 15 (by decide) ?_
  refine JC_iload_n (x := 6) hx dX3_init_15 0 rfl ?_
  refine JC_bipush (v := 7) hx dX3_init_16 (by decide) ?_
  refine JC_ic_ge hx dX3_init_18 40 (by decide) (fun z => absurd z (by decide)) (fun _ => ?_)
  refine JC_aload_n hx dX3_init_21 1 rfl ?_
  refine JC_get (k := 0) hx 0 rfl rfl kinX3 (by decide) wf_RX3_11 rfl dX3_init_22 ?_
  refine JC_iload_n (x := 6) hx dX3_init_25 0 rfl ?_
  refine JC_new (ci := 0) (C := RX0) (T := TX0) (N := 7) (ty := tyX0) (fs := [.int 0, .int 0, .int 0, .int 0, .int 0, .int 0, .int 0]) hx rfl kinX0 tyX0_ok wcl_RX3_9 win_RX0 wi_RX0 (fun j hj => by rcases (show j = 0 ∨ j = 1 ∨ j = 2 ∨ j = 3 ∨ j = 4 ∨ j = 5 ∨ j = 6 by omega) with rfl | rfl | rfl | rfl | rfl | rfl | rfl <;> rfl) (Nat.le_of_ble_eq_true rfl) (Nat.le_of_ble_eq_true rfl) dX3_init_26 (fun r6 => ?_)
  refine JC_dup hx dX3_init_29 rfl ?_
  refine JC_initN hx (fun U h => h.2.2.2.2.1) lkN_X0_init (c_X0 _ r6) (by decide) (Nat.le_of_ble_eq_true rfl) (Nat.le_of_ble_eq_true rfl) (Nat.le_of_ble_eq_true rfl) dX3_init_30 ?_
  rintro w1 t1 ⟨rfl, rfl⟩
  refine JC_astq (ci := 0) (r := (RX0, TX0, 7)) hx 1 0 8 rfl rfl rfl rfl (vp_in_iff.mpr (by decide)) dX3_init_33 ?_
  refine JC_iinc (x := 7) (lv' := [(1, .int 7), (0, .ref h0)]) hx dX3_init_34 0 rfl (by decide) (by decide) rfl ?_
  refine JC_goto hx dX3_init_37 15 (by decide) ?_
  refine JC_iload_n (x := 7) hx dX3_init_15 0 rfl ?_
  refine JC_bipush (v := 7) hx dX3_init_16 (by decide) ?_
  refine JC_ic_ge hx dX3_init_18 40 (by decide) (fun _ => ?_) (fun z => absurd (by decide) z)
  exact JC_vret hx hQ dX3_init_40 ⟨qa, ca, r0, r1, r2, r3, r4, r5, r6, rfl, rfl⟩
