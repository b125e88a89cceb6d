abbrev kr_X5_answer (P : Option Value → StI → StL → Prop) (L : StL) : Int32 × StI → Prop := fun t => P (some (.int t.1)) t.2 L
def f_X5_answer (v1 : Int32) (v2 : Int32) (I : StI) : Option (Int32 × StI) :=
  k_let (k_up I 63 14 v2) (fun I1 => some (v1, I1))
set_option maxRecDepth 100000 in
set_option maxHeartbeats 4000000 in
theorem s_X5_answer {l : Launch} {ad : Nat → Nat} {P : Option Value → StI → StL → Prop} {I : StI} {L : StL} {v1 : Int32} {v2 : Int32}  (h : Ho (f_X5_answer v1 v2 I) (kr_X5_answer P L)) : k_Met l ad 1 yX5_answer cX5_answer 3 (some .int) [.ref (ad 63), .int v1, .int v2] I L P := by
  refine k_enter (by decide +kernel) (Nat.le_of_ble_eq_true rfl) (fun X hl hx hQ => ?_)
  clear hl
  have hx : Ok X cX5_answer RX5 3 (some .int) 1 := hx
  show J X ad 3 I L 0 [(0, .ref (ad 63)), (1, .int v1), (2, .int v2)] []
  unfold f_X5_answer at h
  refine J_aload_n hx dX5_answer_0 0 rfl ?_
  refine J_iload_n hx dX5_answer_1 2 rfl ?_
  obtain ⟨I1, hI1, h⟩ := Ho_let h
  refine J_putI hx flW_RX5_70 (rfl : k_sh 63 = (5, k_N 5)) rfl dX5_answer_2 hI1 ?_
  refine J_iload_n hx dX5_answer_5 1 rfl ?_
  have h := Ho_some h
  exact J_iret hx hQ dX5_answer_6 h
abbrev kr_X5_copies (P : Option Value → StI → StL → Prop) (L : StL) : StI → Prop := fun t => P none t L
abbrev g_X5_copies_L3 (X : k_C) (ad : Nat → Nat) (L : StL) (v0 : Nat) (v1 : Int32) (v2 : Nat) (v3 : Int32) (v4 : Int32) : (Int32 × StI) → Prop := fun s => J X ad 6 s.2 L 3 [(0, .ref (ad v0)), (1, .int v1), (2, .ref (ad v2)), (3, .int v3), (4, .int v4), (5, .int s.1)] []
def f_X5_copies_L3_b (v0 : Nat) (v1 : Int32) (v2 : Nat) (v3 : Int32) (v4 : Int32) (v5 : Int32) (I : StI) : Option ((Int32 × StI) ⊕ (StI)) :=
  (if v4 ≤ v5 then some (.inr (I)) else k_gd (v1 + v5) (k_sh v0).2 (k_gd (v3 + v5) (k_sh v2).2 (k_let (k_up I v2 (v3 + v5).toNatClampNeg (I v0 (v1 + v5).toNatClampNeg)) (fun I4 => k_let (v5 + (1 : Int32)) (fun x5 => some (.inl (x5, I4)))))))
def f_X5_copies_L3 (v0 : Nat) (v1 : Int32) (v2 : Nat) (v3 : Int32) (v4 : Int32) (n : Nat) (v5 : Int32) (I : StI) : Option (StI) :=
  k_loop (fun s => f_X5_copies_L3_b v0 v1 v2 v3 v4 s.1 s.2) n (v5, I)
set_option maxRecDepth 100000 in
set_option maxHeartbeats 4000000 in
theorem s_X5_copies_L3_b {X : k_C} {ad : Nat → Nat} {P : Option Value → StI → StL → Prop} {I : StI} {L : StL} (hx : Ok X cX5_copies RX5 6 none 1) (hQ : OkQ X ad P)  {v0 : Nat} {v1 : Int32} {v2 : Nat} {v3 : Int32} {v4 : Int32} {v5 : Int32} (hv0 : (k_sh v0).1 = 10) (hv2 : (k_sh v2).1 = 10) (h : Ho (f_X5_copies_L3_b v0 v1 v2 v3 v4 v5 I) (Sum.elim (g_X5_copies_L3 X ad L v0 v1 v2 v3 v4) (kr_X5_copies P L))) : J X ad 6 I L 3 [(0, .ref (ad v0)), (1, .int v1), (2, .ref (ad v2)), (3, .int v3), (4, .int v4), (5, .int v5)] [] := by
  unfold f_X5_copies_L3_b at h
  refine J_iload hx dX5_copies_3 5 rfl ?_
  refine J_iload hx dX5_copies_5 4 rfl ?_
  refine J_ic_ge hx dX5_copies_7 28 (by decide) (fun c1 => ?_) (fun c1 => ?_)
  · have h := Ho_t c1 h
    have h := Ho_some h
    exact J_vret hx hQ dX5_copies_28 h
  · have h := Ho_f c1 h
    refine J_aload_n hx dX5_copies_10 2 rfl ?_
    refine J_iload_n hx dX5_copies_11 3 rfl ?_
    refine J_iload hx dX5_copies_12 5 rfl ?_
    refine J_iadd hx dX5_copies_14 ?_
    refine J_aload_n hx dX5_copies_15 0 rfl ?_
    refine J_iload_n hx dX5_copies_16 1 rfl ?_
    refine J_iload hx dX5_copies_17 5 rfl ?_
    refine J_iadd hx dX5_copies_19 ?_
    obtain ⟨b2, h⟩ := Ho_gd h
    refine J_iald hx (k_shA hv0) b2 dX5_copies_20 ?_
    obtain ⟨b3, h⟩ := Ho_gd h
    obtain ⟨I4, hI4, h⟩ := Ho_let h
    refine J_iast hx (k_shA hv2) b3 dX5_copies_21 hI4 ?_
    obtain ⟨x5, hx5, h⟩ := Ho_let h
    refine J_iinc (x := x5) (lv' := [(5, .int x5), (0, .ref (ad v0)), (1, .int v1), (2, .ref (ad v2)), (3, .int v3), (4, .int v4)]) hx dX5_copies_22 5 rfl (by rw [hx5]; rfl) (by decide) rfl ?_
    refine J_goto hx dX5_copies_25 3 (by decide) ?_
    refine J_sub (lv' := [(0, .ref (ad v0)), (1, .int v1), (2, .ref (ad v2)), (3, .int v3), (4, .int v4), (5, .int x5)]) hx [1, 2, 3, 4, 5, 0] rfl ?_
    have h := Ho_some h
    exact h
set_option maxRecDepth 100000 in
set_option maxHeartbeats 4000000 in
theorem s_X5_copies_L3 {X : k_C} {ad : Nat → Nat} {P : Option Value → StI → StL → Prop} {I : StI} {L : StL} (hx : Ok X cX5_copies RX5 6 none 1) (hQ : OkQ X ad P)  {v0 : Nat} {v1 : Int32} {v2 : Nat} {v3 : Int32} {v4 : Int32} {v5 : Int32} (hv0 : (k_sh v0).1 = 10) (hv2 : (k_sh v2).1 = 10) (n : Nat) (h : Ho (f_X5_copies_L3 v0 v1 v2 v3 v4 n v5 I) (kr_X5_copies P L)) : J X ad 6 I L 3 [(0, .ref (ad v0)), (1, .int v1), (2, .ref (ad v2)), (3, .int v3), (4, .int v4), (5, .int v5)] [] := by
  exact k_loop_ho (G := g_X5_copies_L3 X ad L v0 v1 v2 v3 v4) (fun s hs => s_X5_copies_L3_b hx hQ hv0 hv2 hs) n (v5, I) h
def f_X5_copies (v0 : Nat) (v1 : Int32) (v2 : Nat) (v3 : Int32) (v4 : Int32) (I : StI) : Option (StI) :=
  f_X5_copies_L3 v0 v1 v2 v3 v4 k_fu (0 : Int32) I
set_option maxRecDepth 100000 in
set_option maxHeartbeats 4000000 in
theorem s_X5_copies {l : Launch} {ad : Nat → Nat} {P : Option Value → StI → StL → Prop} {I : StI} {L : StL} {v0 : Nat} {v1 : Int32} {v2 : Nat} {v3 : Int32} {v4 : Int32} (hv0 : (k_sh v0).1 = 10) (hv2 : (k_sh v2).1 = 10) (h : Ho (f_X5_copies v0 v1 v2 v3 v4 I) (kr_X5_copies P L)) : k_Met l ad 1 yX5_copies cX5_copies 6 none [.ref (ad v0), .int v1, .ref (ad v2), .int v3, .int v4] I L P := by
  refine k_enter (by decide +kernel) (Nat.le_of_ble_eq_true rfl) (fun X hl hx hQ => ?_)
  clear hl
  have hx : Ok X cX5_copies RX5 6 none 1 := hx
  show J X ad 6 I L 0 [(0, .ref (ad v0)), (1, .int v1), (2, .ref (ad v2)), (3, .int v3), (4, .int v4)] []
  unfold f_X5_copies at h
  refine J_iconst (v := (0 : Int32)) hx dX5_copies_0 (by decide) ?_
  refine J_istore (x := (0 : Int32)) (lv' := [(5, .int (0 : Int32)), (0, .ref (ad v0)), (1, .int v1), (2, .ref (ad v2)), (3, .int v3), (4, .int v4)]) hx dX5_copies_1 rfl (by decide) rfl ?_
  refine J_sub (lv' := [(0, .ref (ad v0)), (1, .int v1), (2, .ref (ad v2)), (3, .int v3), (4, .int v4), (5, .int (0 : Int32))]) hx [1, 2, 3, 4, 5, 0] rfl ?_
  exact s_X5_copies_L3 hx hQ (congrArg Prod.fst (k_shA hv0)) (congrArg Prod.fst (k_shA hv2)) k_fu h
abbrev kr_X5_asKinds (P : Option Value → StI → StL → Prop) (L : StL) : StI → Prop := fun t => P none t L
def f_X5_asKinds (I : StI) : Option (StI) :=
  Option.bind (f_X5_copies 68 (0 : Int32) 72 (0 : Int32) (7 : Int32) I) (fun t1 => some (t1))
set_option maxRecDepth 100000 in
set_option maxHeartbeats 4000000 in
theorem s_X5_asKinds {l : Launch} {ad : Nat → Nat} {P : Option Value → StI → StL → Prop} {I : StI} {L : StL}   (h : Ho (f_X5_asKinds I) (kr_X5_asKinds P L)) : k_Met l ad 2 yX5_asKinds cX5_asKinds 1 none [.ref (ad 63)] I L P := by
  refine k_enter (by decide +kernel) (Nat.le_of_ble_eq_true rfl) (fun X hl hx hQ => ?_)
  clear hl
  have hx : Ok X cX5_asKinds RX5 1 none 2 := hx
  show J X ad 1 I L 0 [(0, .ref (ad 63))] []
  unfold f_X5_asKinds at h
  refine J_aload_n hx dX5_asKinds_0 0 rfl ?_
  refine J_getR (q := 68) hx fl_RX5_22 (rfl : k_sh 63 = (5, k_N 5)) rfl rfl dX5_asKinds_1 ?_
  refine J_iconst (v := (0 : Int32)) hx dX5_asKinds_4 (by decide) ?_
  refine J_aload_n hx dX5_asKinds_5 0 rfl ?_
  refine J_getR (q := 72) hx fl_RX5_34 (rfl : k_sh 63 = (5, k_N 5)) rfl rfl dX5_asKinds_6 ?_
  refine J_iconst (v := (0 : Int32)) hx dX5_asKinds_9 (by decide) ?_
  refine J_bipush (v := (7 : Int32)) hx dX5_asKinds_10 (by decide) ?_
  obtain ⟨t1, e2, h⟩ := Ho_bind h
  refine J_callSv hx lkS_RX5_118 [.ref (ad 68), .int (0 : Int32), .ref (ad 72), .int (0 : Int32), .int (7 : Int32)] [] rfl rfl (Nat.le_of_ble_eq_true rfl) (Nat.le_of_ble_eq_true rfl) (s_X5_copies (congrArg Prod.fst (rfl : k_sh 68 = (10, 7))) (congrArg Prod.fst (rfl : k_sh 72 = (10, 7))) ⟨t1, e2, ⟨rfl, rfl, rfl⟩⟩) dX5_asKinds_12 ?_
  have h := Ho_some h
  exact J_vret hx hQ dX5_asKinds_15 h
abbrev kr_X5_asked (P : Option Value → StI → StL → Prop) (I : StI) (L : StL) : Int32 → Prop := fun t => P (some (.int t)) I L
def f_X5_asked (I : StI) : Option (Int32) :=
  some ((I 63 14))
set_option maxRecDepth 100000 in
set_option maxHeartbeats 4000000 in
theorem s_X5_asked {l : Launch} {ad : Nat → Nat} {P : Option Value → StI → StL → Prop} {I : StI} {L : StL}   (h : Ho (f_X5_asked I) (kr_X5_asked P I L)) : k_Met l ad 1 yX5_asked cX5_asked 1 (some .int) [.ref (ad 63)] I L P := by
  refine k_enter (by decide +kernel) (Nat.le_of_ble_eq_true rfl) (fun X hl hx hQ => ?_)
  clear hl
  have hx : Ok X cX5_asked RX5 1 (some .int) 1 := hx
  show J X ad 1 I L 0 [(0, .ref (ad 63))] []
  unfold f_X5_asked at h
  refine J_aload_n hx dX5_asked_0 0 rfl ?_
  refine J_getI hx fl_RX5_70 (rfl : k_sh 63 = (5, k_N 5)) rfl dX5_asked_1 ?_
  have h := Ho_some h
  exact J_iret hx hQ dX5_asked_4 h
abbrev kr_X5_in (P : Option Value → StI → StL → Prop) (I : StI) (L : StL) : Int32 → Prop := fun t => P (some (.int t)) I L
def f_X5_in (v0 : Int64) (v2 : Int64) (v4 : Int64) : Option (Int32) :=
  (if (lg_cmp v0 v2) < 0 then some ((0 : Int32)) else (if 0 < (lg_cmp v0 v4) then some ((0 : Int32)) else some ((1 : Int32))))
set_option maxRecDepth 100000 in
set_option maxHeartbeats 4000000 in
theorem s_X5_in {l : Launch} {ad : Nat → Nat} {P : Option Value → StI → StL → Prop} {I : StI} {L : StL} {v0 : Int64} {v2 : Int64} {v4 : Int64}  (h : Ho (f_X5_in v0 v2 v4) (kr_X5_in P I L)) : k_Met l ad 1 yX5_in cX5_in 6 (some .boolean) [.long v0, .long v2, .long v4] I L P := by
  refine k_enter (by decide +kernel) (Nat.le_of_ble_eq_true rfl) (fun X hl hx hQ => ?_)
  clear hl
  have hx : Ok X cX5_in RX5 6 (some .boolean) 1 := hx
  show J X ad 6 I L 0 [(0, .long v0), (2, .long v2), (4, .long v4)] []
  unfold f_X5_in at h
  refine J_lload_n hx dX5_in_0 0 rfl ?_
  refine J_lload_n hx dX5_in_1 1 rfl ?_
  refine J_lcmp hx dX5_in_2 ?_
  refine J_if_lt hx dX5_in_3 17 (by decide) (fun c1 => ?_) (fun c1 => ?_)
  · have h := Ho_t c1 h
    refine J_iconst (v := (0 : Int32)) hx dX5_in_17 (by decide) ?_
    have h := Ho_some h
    exact J_zret hx hQ dX5_in_18 rfl h
  · have h := Ho_f c1 h
    refine J_lload_n hx dX5_in_6 0 rfl ?_
    refine J_lload hx dX5_in_7 2 rfl ?_
    refine J_lcmp hx dX5_in_9 ?_
    refine J_if_gt hx dX5_in_10 17 (by decide) (fun c2 => ?_) (fun c2 => ?_)
    · have h := Ho_t c2 h
      refine J_iconst (v := (0 : Int32)) hx dX5_in_17 (by decide) ?_
      have h := Ho_some h
      exact J_zret hx hQ dX5_in_18 rfl h
    · have h := Ho_f c2 h
      refine J_iconst (v := (1 : Int32)) hx dX5_in_13 (by decide) ?_
      refine J_goto hx dX5_in_14 18 (by decide) ?_
      have h := Ho_some h
      exact J_zret hx hQ dX5_in_18 rfl h
abbrev kr_X5_isRow (P : Option Value → StI → StL → Prop) (I : StI) (L : StL) : Int32 → Prop := fun t => P (some (.int t)) I L
def f_X5_isRow (v0 : Int32) : Option (Int32) :=
  Option.bind (f_X5_in (v0).toInt64 (0 : Int64) (5 : Int64)) (fun t1 => k_bo t1 (some (t1)))
set_option maxRecDepth 100000 in
set_option maxHeartbeats 4000000 in
theorem s_X5_isRow {l : Launch} {ad : Nat → Nat} {P : Option Value → StI → StL → Prop} {I : StI} {L : StL} {v0 : Int32}  (h : Ho (f_X5_isRow v0) (kr_X5_isRow P I L)) : k_Met l ad 2 yX5_isRow cX5_isRow 1 (some .boolean) [.int v0] I L P := by
  refine k_enter (by decide +kernel) (Nat.le_of_ble_eq_true rfl) (fun X hl hx hQ => ?_)
  clear hl
  have hx : Ok X cX5_isRow RX5 1 (some .boolean) 2 := hx
  show J X ad 1 I L 0 [(0, .int v0)] []
  unfold f_X5_isRow at h
  refine J_iload_n hx dX5_isRow_0 0 rfl ?_
  refine J_i2l hx dX5_isRow_1 ?_
  refine J_lconst (v := (0 : Int64)) hx dX5_isRow_2 (by decide) ?_
  refine J_ldc2 hx cn_RX5_73 dX5_isRow_3 ?_
  obtain ⟨t1, e2, h⟩ := Ho_bind h
  refine J_callSi hx lkS_RX5_75 [.long (v0).toInt64, .long (0 : Int64), .long (5 : Int64)] [] rfl rfl (Nat.le_of_ble_eq_true rfl) (Nat.le_of_ble_eq_true rfl) (s_X5_in  ⟨t1, e2, ⟨rfl, rfl, rfl⟩⟩) dX5_isRow_6 ?_
  obtain ⟨z3, h⟩ := Ho_bo h
  have h := Ho_some h
  exact J_zret hx hQ dX5_isRow_9 z3 h
abbrev kr_X5_found (P : Option Value → StI → StL → Prop) (L : StL) : Int32 × StI → Prop := fun t => P (some (.int t.1)) t.2 L
def f_X5_found (v1 : Int32) (I : StI) : Option (Int32 × StI) :=
  k_let (k_up I 63 17 v1) (fun I1 => k_gd v1 6 (k_gd v1 6 (k_let (k_up I1 76 v1.toNatClampNeg ((I1 76 v1.toNatClampNeg) + (1 : Int32))) (fun I4 => some ((-3 : Int32), I4)))))
set_option maxRecDepth 100000 in
set_option maxHeartbeats 4000000 in
theorem s_X5_found {l : Launch} {ad : Nat → Nat} {P : Option Value → StI → StL → Prop} {I : StI} {L : StL} {v1 : Int32}  (h : Ho (f_X5_found v1 I) (kr_X5_found P L)) : k_Met l ad 1 yX5_found cX5_found 2 (some .int) [.ref (ad 63), .int v1] I L P := by
  refine k_enter (by decide +kernel) (Nat.le_of_ble_eq_true rfl) (fun X hl hx hQ => ?_)
  clear hl
  have hx : Ok X cX5_found RX5 2 (some .int) 1 := hx
  show J X ad 2 I L 0 [(0, .ref (ad 63)), (1, .int v1)] []
  unfold f_X5_found at h
  refine J_aload_n hx dX5_found_0 0 rfl ?_
  refine J_iload_n hx dX5_found_1 1 rfl ?_
  obtain ⟨I1, hI1, h⟩ := Ho_let h
  refine J_putI hx flW_RX5_66 (rfl : k_sh 63 = (5, k_N 5)) rfl dX5_found_2 hI1 ?_
  refine J_aload_n hx dX5_found_5 0 rfl ?_
  refine J_getR (q := 76) hx fl_RX5_51 (rfl : k_sh 63 = (5, k_N 5)) rfl rfl dX5_found_6 ?_
  refine J_iload_n hx dX5_found_9 1 rfl ?_
  refine J_dup2 hx dX5_found_10 rfl rfl ?_
  obtain ⟨b2, h⟩ := Ho_gd h
  refine J_iald hx (rfl : k_sh 76 = (10, 6)) b2 dX5_found_11 ?_
  refine J_iconst (v := (1 : Int32)) hx dX5_found_12 (by decide) ?_
  refine J_iadd hx dX5_found_13 ?_
  obtain ⟨b3, h⟩ := Ho_gd h
  obtain ⟨I4, hI4, h⟩ := Ho_let h
  refine J_iast hx (rfl : k_sh 76 = (10, 6)) b3 dX5_found_14 hI4 ?_
  refine J_bipush (v := (-3 : Int32)) hx dX5_found_15 (by decide) ?_
  have h := Ho_some h
  exact J_iret hx hQ dX5_found_17 h
abbrev kr_X5_tell (P : Option Value → StI → StL → Prop) (L : StL) : Int32 × StI → Prop := fun t => P (some (.int t.1)) t.2 L
def f_X5_tell (v1 : Int32) (I : StI) : Option (Int32 × StI) :=
  k_let (k_up I 63 14 v1) (fun I1 => some ((1 : Int32), I1))
set_option maxRecDepth 100000 in
set_option maxHeartbeats 4000000 in
theorem s_X5_tell {l : Launch} {ad : Nat → Nat} {P : Option Value → StI → StL → Prop} {I : StI} {L : StL} {v1 : Int32}  (h : Ho (f_X5_tell v1 I) (kr_X5_tell P L)) : k_Met l ad 1 yX5_tell cX5_tell 2 (some .int) [.ref (ad 63), .int v1] I L P := by
  refine k_enter (by decide +kernel) (Nat.le_of_ble_eq_true rfl) (fun X hl hx hQ => ?_)
  clear hl
  have hx : Ok X cX5_tell RX5 2 (some .int) 1 := hx
  show J X ad 2 I L 0 [(0, .ref (ad 63)), (1, .int v1)] []
  unfold f_X5_tell at h
  refine J_aload_n hx dX5_tell_0 0 rfl ?_
  refine J_iload_n hx dX5_tell_1 1 rfl ?_
  obtain ⟨I1, hI1, h⟩ := Ho_let h
  refine J_putI hx flW_RX5_70 (rfl : k_sh 63 = (5, k_N 5)) rfl dX5_tell_2 hI1 ?_
  refine J_iconst (v := (1 : Int32)) hx dX5_tell_5 (by decide) ?_
  have h := Ho_some h
  exact J_iret hx hQ dX5_tell_6 h
abbrev kr_X5_at (P : Option Value → StI → StL → Prop) (L : StL) : Int32 × StI → Prop := fun t => P (some (.int t.1)) t.2 L
def f_X5_at (v1 : Int32) (v2 : Int32) (I : StI) : Option (Int32 × StI) :=
  Option.bind (f_X5_isRow v1) (fun t1 => (if t1 = 0 then some ((-1 : Int32), I) else k_gd v1 6 ((if 0 ≤ (I 64 v1.toNatClampNeg) then k_gd v1 6 (Option.bind (f_X5_in (v2).toInt64 (0 : Int64) (((I 64 v1.toNatClampNeg) - (1 : Int32))).toInt64) (fun t7 => (if t7 = 0 then Option.bind (f_X5_found (2 : Int32) I) (fun t10 => some (t10.1, t10.2)) else k_gd (((40 : Int32) * v1) + v2) 240 (Option.bind (f_X5_tell (I 65 (((40 : Int32) * v1) + v2).toNatClampNeg) I) (fun t13 => some (t13.1, t13.2)))))) else Option.bind (f_X5_found (1 : Int32) I) (fun t15 => some (t15.1, t15.2))))))
set_option maxRecDepth 100000 in
set_option maxHeartbeats 4000000 in
theorem s_X5_at {l : Launch} {ad : Nat → Nat} {P : Option Value → StI → StL → Prop} {I : StI} {L : StL} {v1 : Int32} {v2 : Int32}  (h : Ho (f_X5_at v1 v2 I) (kr_X5_at P L)) : k_Met l ad 3 yX5_at cX5_at 3 (some .int) [.ref (ad 63), .int v1, .int v2] I L P := by
  refine k_enter (by decide +kernel) (Nat.le_of_ble_eq_true rfl) (fun X hl hx hQ => ?_)
  clear hl
  have hx : Ok X cX5_at RX5 3 (some .int) 3 := hx
  show J X ad 3 I L 0 [(0, .ref (ad 63)), (1, .int v1), (2, .int v2)] []
  unfold f_X5_at at h
  refine J_iload_n hx dX5_at_0 1 rfl ?_
  obtain ⟨t1, e2, h⟩ := Ho_bind h
  refine J_callSi hx lkS_RX5_81 [.int v1] [] rfl rfl (Nat.le_of_ble_eq_true rfl) (Nat.le_of_ble_eq_true rfl) (s_X5_isRow  ⟨t1, e2, ⟨rfl, rfl, rfl⟩⟩) dX5_at_1 ?_
  refine J_if_ne hx dX5_at_4 9 (by decide) (fun c3 => ?_) (fun c3 => ?_)
  · have h := Ho_f c3 h
    refine J_aload_n hx dX5_at_9 0 rfl ?_
    refine J_getR (q := 64) hx fl_RX5_7 (rfl : k_sh 63 = (5, k_N 5)) rfl rfl dX5_at_10 ?_
    refine J_iload_n hx dX5_at_13 1 rfl ?_
    obtain ⟨b4, h⟩ := Ho_gd h
    refine J_iald hx (rfl : k_sh 64 = (10, 6)) b4 dX5_at_14 ?_
    refine J_if_ge hx dX5_at_15 24 (by decide) (fun c5 => ?_) (fun c5 => ?_)
    · have h := Ho_t c5 h
      refine J_iload_n hx dX5_at_24 2 rfl ?_
      refine J_i2l hx dX5_at_25 ?_
      refine J_lconst (v := (0 : Int64)) hx dX5_at_26 (by decide) ?_
      refine J_aload_n hx dX5_at_27 0 rfl ?_
      refine J_getR (q := 64) hx fl_RX5_7 (rfl : k_sh 63 = (5, k_N 5)) rfl rfl dX5_at_28 ?_
      refine J_iload_n hx dX5_at_31 1 rfl ?_
      obtain ⟨b6, h⟩ := Ho_gd h
      refine J_iald hx (rfl : k_sh 64 = (10, 6)) b6 dX5_at_32 ?_
      refine J_iconst (v := (1 : Int32)) hx dX5_at_33 (by decide) ?_
      refine J_isub hx dX5_at_34 ?_
      refine J_i2l hx dX5_at_35 ?_
      obtain ⟨t7, e8, h⟩ := Ho_bind h
      refine J_callSi hx lkS_RX5_75 [.long (v2).toInt64, .long (0 : Int64), .long (((I 64 v1.toNatClampNeg) - (1 : Int32))).toInt64] [] rfl rfl (Nat.le_of_ble_eq_true rfl) (Nat.le_of_ble_eq_true rfl) (s_X5_in  ⟨t7, e8, ⟨rfl, rfl, rfl⟩⟩) dX5_at_36 ?_
      refine J_if_eq hx dX5_at_39 60 (by decide) (fun c9 => ?_) (fun c9 => ?_)
      · have h := Ho_t c9 h
        refine J_aload_n hx dX5_at_60 0 rfl ?_
        refine J_iconst (v := (2 : Int32)) hx dX5_at_61 (by decide) ?_
        obtain ⟨t10, e11, h⟩ := Ho_bind h
        refine J_callVi hx lkV_RX5_85 (rfl : k_sh 63 = (5, k_N 5)) [.int (2 : Int32)] [] rfl rfl (Nat.le_of_ble_eq_true rfl) (Nat.le_of_ble_eq_true rfl) (s_X5_found  ⟨t10, e11, ⟨rfl, rfl, rfl⟩⟩) dX5_at_62 ?_
        have h := Ho_some h
        exact J_iret hx hQ dX5_at_65 h
      · have h := Ho_f c9 h
        refine J_aload_n hx dX5_at_42 0 rfl ?_
        refine J_aload_n hx dX5_at_43 0 rfl ?_
        refine J_getR (q := 65) hx fl_RX5_13 (rfl : k_sh 63 = (5, k_N 5)) rfl rfl dX5_at_44 ?_
        refine J_bipush (v := (40 : Int32)) hx dX5_at_47 (by decide) ?_
        refine J_iload_n hx dX5_at_49 1 rfl ?_
        refine J_imul hx dX5_at_50 ?_
        refine J_iload_n hx dX5_at_51 2 rfl ?_
        refine J_iadd hx dX5_at_52 ?_
        obtain ⟨b12, h⟩ := Ho_gd h
        refine J_iald hx (rfl : k_sh 65 = (10, 240)) b12 dX5_at_53 ?_
        obtain ⟨t13, e14, h⟩ := Ho_bind h
        refine J_callVi hx lkV_RX5_89 (rfl : k_sh 63 = (5, k_N 5)) [.int (I 65 (((40 : Int32) * v1) + v2).toNatClampNeg)] [] rfl rfl (Nat.le_of_ble_eq_true rfl) (Nat.le_of_ble_eq_true rfl) (s_X5_tell  ⟨t13, e14, ⟨rfl, rfl, rfl⟩⟩) dX5_at_54 ?_
        refine J_goto hx dX5_at_57 65 (by decide) ?_
        have h := Ho_some h
        exact J_iret hx hQ dX5_at_65 h
    · have h := Ho_f c5 h
      refine J_aload_n hx dX5_at_18 0 rfl ?_
      refine J_iconst (v := (1 : Int32)) hx dX5_at_19 (by decide) ?_
      obtain ⟨t15, e16, h⟩ := Ho_bind h
      refine J_callVi hx lkV_RX5_85 (rfl : k_sh 63 = (5, k_N 5)) [.int (1 : Int32)] [] rfl rfl (Nat.le_of_ble_eq_true rfl) (Nat.le_of_ble_eq_true rfl) (s_X5_found  ⟨t15, e16, ⟨rfl, rfl, rfl⟩⟩) dX5_at_20 ?_
      have h := Ho_some h
      exact J_iret hx hQ dX5_at_23 h
  · have h := Ho_t c3 h
    refine J_iconst (v := (-1 : Int32)) hx dX5_at_7 (by decide) ?_
    have h := Ho_some h
    exact J_iret hx hQ dX5_at_8 h
abbrev kr_X5_laysAside (P : Option Value → StI → StL → Prop) (L : StL) : StI → Prop := fun t => P none t L
def f_X5_laysAside (I : StI) : Option (StI) :=
  Option.bind (f_X5_copies 70 (0 : Int32) 71 (0 : Int32) (40 : Int32) I) (fun t1 => some (t1))
set_option maxRecDepth 100000 in
set_option maxHeartbeats 4000000 in
theorem s_X5_laysAside {l : Launch} {ad : Nat → Nat} {P : Option Value → StI → StL → Prop} {I : StI} {L : StL}   (h : Ho (f_X5_laysAside I) (kr_X5_laysAside P L)) : k_Met l ad 2 yX5_laysAside cX5_laysAside 1 none [.ref (ad 63)] I L P := by
  refine k_enter (by decide +kernel) (Nat.le_of_ble_eq_true rfl) (fun X hl hx hQ => ?_)
  clear hl
  have hx : Ok X cX5_laysAside RX5 1 none 2 := hx
  show J X ad 1 I L 0 [(0, .ref (ad 63))] []
  unfold f_X5_laysAside at h
  refine J_aload_n hx dX5_laysAside_0 0 rfl ?_
  refine J_getR (q := 70) hx fl_RX5_28 (rfl : k_sh 63 = (5, k_N 5)) rfl rfl dX5_laysAside_1 ?_
  refine J_iconst (v := (0 : Int32)) hx dX5_laysAside_4 (by decide) ?_
  refine J_aload_n hx dX5_laysAside_5 0 rfl ?_
  refine J_getR (q := 71) hx fl_RX5_31 (rfl : k_sh 63 = (5, k_N 5)) rfl rfl dX5_laysAside_6 ?_
  refine J_iconst (v := (0 : Int32)) hx dX5_laysAside_9 (by decide) ?_
  refine J_bipush (v := (40 : Int32)) hx dX5_laysAside_10 (by decide) ?_
  obtain ⟨t1, e2, h⟩ := Ho_bind h
  refine J_callSv hx lkS_RX5_118 [.ref (ad 70), .int (0 : Int32), .ref (ad 71), .int (0 : Int32), .int (40 : Int32)] [] rfl rfl (Nat.le_of_ble_eq_true rfl) (Nat.le_of_ble_eq_true rfl) (s_X5_copies (congrArg Prod.fst (rfl : k_sh 70 = (10, 40))) (congrArg Prod.fst (rfl : k_sh 71 = (10, 40))) ⟨t1, e2, ⟨rfl, rfl, rfl⟩⟩) dX5_laysAside_12 ?_
  have h := Ho_some h
  exact J_vret hx hQ dX5_laysAside_15 h
abbrev kr_X5_has (P : Option Value → StI → StL → Prop) (I : StI) (L : StL) : Int32 → Prop := fun t => P (some (.int t)) I L
def f_X5_has (v0 : Int32) (v1 : Int32) : Option (Int32) :=
  (if ((v0 >>> (v1 &&& 31)) &&& (1 : Int32)) = (1 : Int32) then some ((1 : Int32)) else some ((0 : Int32)))
set_option maxRecDepth 100000 in
set_option maxHeartbeats 4000000 in
theorem s_X5_has {l : Launch} {ad : Nat → Nat} {P : Option Value → StI → StL → Prop} {I : StI} {L : StL} {v0 : Int32} {v1 : Int32}  (h : Ho (f_X5_has v0 v1) (kr_X5_has P I L)) : k_Met l ad 1 yX5_has cX5_has 2 (some .boolean) [.int v0, .int v1] I L P := by
  refine k_enter (by decide +kernel) (Nat.le_of_ble_eq_true rfl) (fun X hl hx hQ => ?_)
  clear hl
  have hx : Ok X cX5_has RX5 2 (some .boolean) 1 := hx
  show J X ad 2 I L 0 [(0, .int v0), (1, .int v1)] []
  unfold f_X5_has at h
  refine J_iload_n hx dX5_has_0 0 rfl ?_
  refine J_iload_n hx dX5_has_1 1 rfl ?_
  refine J_ishr hx dX5_has_2 ?_
  refine J_iconst (v := (1 : Int32)) hx dX5_has_3 (by decide) ?_
  refine J_iand hx dX5_has_4 ?_
  refine J_iconst (v := (1 : Int32)) hx dX5_has_5 (by decide) ?_
  refine J_ic_ne hx dX5_has_6 13 (by decide) (fun c1 => ?_) (fun c1 => ?_)
  · have h := Ho_f c1 h
    refine J_iconst (v := (0 : Int32)) hx dX5_has_13 (by decide) ?_
    have h := Ho_some h
    exact J_zret hx hQ dX5_has_14 rfl h
  · have h := Ho_t c1 h
    refine J_iconst (v := (1 : Int32)) hx dX5_has_9 (by decide) ?_
    refine J_goto hx dX5_has_10 14 (by decide) ?_
    have h := Ho_some h
    exact J_zret hx hQ dX5_has_14 rfl h
abbrev kr_X5_isUp (P : Option Value → StI → StL → Prop) (I : StI) (L : StL) : Int32 → Prop := fun t => P (some (.int t)) I L
def f_X5_isUp (v1 : Nat) (I : StI) : Option (Int32) :=
  k_gd (3 : Int32) (k_sh v1).2 (k_gd (0 : Int32) (k_sh v1).2 (Option.bind (f_X5_has (I v1 (3 : Int32).toNatClampNeg) ((I v1 (0 : Int32).toNatClampNeg) - (I v1 (0 : Int32).toNatClampNeg) / (8 : Int32) * (8 : Int32))) (fun t3 => k_bo t3 (some (t3)))))
set_option maxRecDepth 100000 in
set_option maxHeartbeats 4000000 in
theorem s_X5_isUp {l : Launch} {ad : Nat → Nat} {P : Option Value → StI → StL → Prop} {I : StI} {L : StL} {v1 : Nat} (hv1 : (k_sh v1).1 = 10) (h : Ho (f_X5_isUp v1 I) (kr_X5_isUp P I L)) : k_Met l ad 2 yX5_isUp cX5_isUp 2 (some .boolean) [.ref (ad 63), .ref (ad v1)] I L P := by
  refine k_enter (by decide +kernel) (Nat.le_of_ble_eq_true rfl) (fun X hl hx hQ => ?_)
  clear hl
  have hx : Ok X cX5_isUp RX5 2 (some .boolean) 2 := hx
  show J X ad 2 I L 0 [(0, .ref (ad 63)), (1, .ref (ad v1))] []
  unfold f_X5_isUp at h
  refine J_aload_n hx dX5_isUp_0 1 rfl ?_
  refine J_iconst (v := (3 : Int32)) hx dX5_isUp_1 (by decide) ?_
  obtain ⟨b1, h⟩ := Ho_gd h
  refine J_iald hx (k_shA hv1) b1 dX5_isUp_2 ?_
  refine J_aload_n hx dX5_isUp_3 1 rfl ?_
  refine J_iconst (v := (0 : Int32)) hx dX5_isUp_4 (by decide) ?_
  obtain ⟨b2, h⟩ := Ho_gd h
  refine J_iald hx (k_shA hv1) b2 dX5_isUp_5 ?_
  refine J_bipush (v := (8 : Int32)) hx dX5_isUp_6 (by decide) ?_
  refine J_irem hx (by decide) dX5_isUp_8 ?_
  obtain ⟨t3, e4, h⟩ := Ho_bind h
  refine J_callSi hx lkS_RX5_139 [.int (I v1 (3 : Int32).toNatClampNeg), .int ((I v1 (0 : Int32).toNatClampNeg) - (I v1 (0 : Int32).toNatClampNeg) / (8 : Int32) * (8 : Int32))] [] rfl rfl (Nat.le_of_ble_eq_true rfl) (Nat.le_of_ble_eq_true rfl) (s_X5_has  ⟨t3, e4, ⟨rfl, rfl, rfl⟩⟩) dX5_isUp_9 ?_
  obtain ⟨z5, h⟩ := Ho_bo h
  have h := Ho_some h
  exact J_zret hx hQ dX5_isUp_12 z5 h
abbrev kr_X5_whoCalls (P : Option Value → StI → StL → Prop) (I : StI) (L : StL) : Int32 → Prop := fun t => P (some (.int t)) I L
abbrev g_X5_whoCalls_L5 (X : k_C) (ad : Nat → Nat) (I : StI) (L : StL) (v1 : Nat) (v2 : Int32) : (Int32 × Int32) → Prop := fun s => J X ad 6 I L 5 [(0, .ref (ad 63)), (1, .ref (ad v1)), (2, .int v2), (3, .int s.1), (4, .int s.2)] []
def f_X5_whoCalls_j74 (v1 : Nat) (v2 : Int32) (v4 : Int32) (s0 : Int32) (s1 : Int32) (I : StI) : Option ((Int32 × Int32) ⊕ (Int32)) :=
  k_let (s0 ||| s1) (fun x5 => k_let (v4 + (1 : Int32)) (fun x6 => some (.inl (x5, x6))))
set_option maxRecDepth 100000 in
set_option maxHeartbeats 4000000 in
theorem s_X5_whoCalls_j74 {X : k_C} {ad : Nat → Nat} {P : Option Value → StI → StL → Prop} {I : StI} {L : StL} (hx : Ok X cX5_whoCalls RX5 6 (some .int) 2) (hQ : OkQ X ad P)  {v1 : Nat} {v2 : Int32} {v4 : Int32} {s0 : Int32} {s1 : Int32} (hv1 : (k_sh v1).1 = 10) (h : Ho (f_X5_whoCalls_j74 v1 v2 v4 s0 s1 I) (Sum.elim (g_X5_whoCalls_L5 X ad I L v1 v2) (kr_X5_whoCalls P I L))) : J X ad 6 I L 74 [(0, .ref (ad 63)), (1, .ref (ad v1)), (2, .int v2), (4, .int v4)] [.int s1, .int s0] := by
  unfold f_X5_whoCalls_j74 at h
  refine J_ior hx dX5_whoCalls_74 ?_
  obtain ⟨x5, hx5, h⟩ := Ho_let h
  refine J_istore_n (x := x5) (lv' := [(3, .int x5), (0, .ref (ad 63)), (1, .ref (ad v1)), (2, .int v2), (4, .int v4)]) hx dX5_whoCalls_75 hx5 (by decide) rfl ?_
  obtain ⟨x6, hx6, h⟩ := Ho_let h
  refine J_iinc (x := x6) (lv' := [(4, .int x6), (3, .int x5), (0, .ref (ad 63)), (1, .ref (ad v1)), (2, .int v2)]) hx dX5_whoCalls_76 4 rfl (by rw [hx6]; rfl) (by decide) rfl ?_
  refine J_goto hx dX5_whoCalls_79 5 (by decide) ?_
  refine J_sub (lv' := [(0, .ref (ad 63)), (1, .ref (ad v1)), (2, .int v2), (3, .int x5), (4, .int x6)]) hx [2, 3, 4, 1, 0] rfl ?_
  have h := Ho_some h
  exact h
def f_X5_whoCalls_j73 (v1 : Nat) (v2 : Int32) (v4 : Int32) (s0 : Int32) (I : StI) : Option ((Int32 × Int32) ⊕ (Int32)) :=
  f_X5_whoCalls_j74 v1 v2 v4 s0 (0 : Int32) I
set_option maxRecDepth 100000 in
set_option maxHeartbeats 4000000 in
theorem s_X5_whoCalls_j73 {X : k_C} {ad : Nat → Nat} {P : Option Value → StI → StL → Prop} {I : StI} {L : StL} (hx : Ok X cX5_whoCalls RX5 6 (some .int) 2) (hQ : OkQ X ad P)  {v1 : Nat} {v2 : Int32} {v4 : Int32} {s0 : Int32} (hv1 : (k_sh v1).1 = 10) (h : Ho (f_X5_whoCalls_j73 v1 v2 v4 s0 I) (Sum.elim (g_X5_whoCalls_L5 X ad I L v1 v2) (kr_X5_whoCalls P I L))) : J X ad 6 I L 73 [(0, .ref (ad 63)), (1, .ref (ad v1)), (2, .int v2), (4, .int v4)] [.int s0] := by
  unfold f_X5_whoCalls_j73 at h
  refine J_iconst (v := (0 : Int32)) hx dX5_whoCalls_73 (by decide) ?_
  refine J_sub (lv' := [(0, .ref (ad 63)), (1, .ref (ad v1)), (2, .int v2), (4, .int v4)]) hx [0, 1, 2, 3] rfl ?_
  exact s_X5_whoCalls_j74 hx hQ (congrArg Prod.fst (k_shA hv1)) h
def f_X5_whoCalls_j49 (v1 : Nat) (v2 : Int32) (v3 : Int32) (v4 : Int32) (s0 : Int32) (I : StI) : Option ((Int32 × Int32) ⊕ (Int32)) :=
  (if s0 = 0 then f_X5_whoCalls_j73 v1 v2 v4 v3 I else Option.bind (f_X5_has v2 v4) (fun t7 => (if t7 = 0 then f_X5_whoCalls_j74 v1 v2 v4 v3 ((1 : Int32) <<< (v4 &&& 31)) I else f_X5_whoCalls_j73 v1 v2 v4 v3 I)))
set_option maxRecDepth 100000 in
set_option maxHeartbeats 4000000 in
theorem s_X5_whoCalls_j49 {X : k_C} {ad : Nat → Nat} {P : Option Value → StI → StL → Prop} {I : StI} {L : StL} (hx : Ok X cX5_whoCalls RX5 6 (some .int) 2) (hQ : OkQ X ad P)  {v1 : Nat} {v2 : Int32} {v3 : Int32} {v4 : Int32} {s0 : Int32} (hv1 : (k_sh v1).1 = 10) (h : Ho (f_X5_whoCalls_j49 v1 v2 v3 v4 s0 I) (Sum.elim (g_X5_whoCalls_L5 X ad I L v1 v2) (kr_X5_whoCalls P I L))) : J X ad 6 I L 49 [(0, .ref (ad 63)), (1, .ref (ad v1)), (2, .int v2), (3, .int v3), (4, .int v4)] [.int s0] := by
  unfold f_X5_whoCalls_j49 at h
  refine J_istore (x := s0) (lv' := [(5, .int s0), (0, .ref (ad 63)), (1, .ref (ad v1)), (2, .int v2), (3, .int v3), (4, .int v4)]) hx dX5_whoCalls_49 rfl (by decide) rfl ?_
  refine J_iload_n hx dX5_whoCalls_51 4 rfl ?_
  refine J_iload hx dX5_whoCalls_52 0 rfl ?_
  refine J_if_eq hx dX5_whoCalls_54 73 (by decide) (fun c4 => ?_) (fun c4 => ?_)
  · have h := Ho_t c4 h
    refine J_sub (lv' := [(0, .ref (ad 63)), (1, .ref (ad v1)), (2, .int v2), (4, .int v4)]) hx [1, 2, 3, 5] rfl ?_
    exact s_X5_whoCalls_j73 hx hQ (congrArg Prod.fst (k_shA hv1)) h
  · have h := Ho_f c4 h
    refine J_iload_n hx dX5_whoCalls_57 3 rfl ?_
    refine J_iload hx dX5_whoCalls_58 5 rfl ?_
    obtain ⟨t7, e8, h⟩ := Ho_bind h
    refine J_callSi hx lkS_RX5_139 [.int v2, .int v4] [.int v3] rfl rfl (Nat.le_of_ble_eq_true rfl) (Nat.le_of_ble_eq_true rfl) (s_X5_has  ⟨t7, e8, ⟨rfl, rfl, rfl⟩⟩) dX5_whoCalls_60 ?_
    refine J_if_ne hx dX5_whoCalls_63 73 (by decide) (fun c9 => ?_) (fun c9 => ?_)
    · have h := Ho_f c9 h
      refine J_sub (lv' := [(0, .ref (ad 63)), (1, .ref (ad v1)), (2, .int v2), (4, .int v4)]) hx [1, 2, 3, 5] rfl ?_
      exact s_X5_whoCalls_j73 hx hQ (congrArg Prod.fst (k_shA hv1)) h
    · have h := Ho_t c9 h
      refine J_iconst (v := (1 : Int32)) hx dX5_whoCalls_66 (by decide) ?_
      refine J_iload hx dX5_whoCalls_67 5 rfl ?_
      refine J_ishl hx dX5_whoCalls_69 ?_
      refine J_goto hx dX5_whoCalls_70 74 (by decide) ?_
      refine J_sub (lv' := [(0, .ref (ad 63)), (1, .ref (ad v1)), (2, .int v2), (4, .int v4)]) hx [1, 2, 3, 5] rfl ?_
      exact s_X5_whoCalls_j74 hx hQ (congrArg Prod.fst (k_shA hv1)) h
def f_X5_whoCalls_j48 (v1 : Nat) (v2 : Int32) (v3 : Int32) (v4 : Int32) (I : StI) : Option ((Int32 × Int32) ⊕ (Int32)) :=
  f_X5_whoCalls_j49 v1 v2 v3 v4 (0 : Int32) I
set_option maxRecDepth 100000 in
set_option maxHeartbeats 4000000 in
theorem s_X5_whoCalls_j48 {X : k_C} {ad : Nat → Nat} {P : Option Value → StI → StL → Prop} {I : StI} {L : StL} (hx : Ok X cX5_whoCalls RX5 6 (some .int) 2) (hQ : OkQ X ad P)  {v1 : Nat} {v2 : Int32} {v3 : Int32} {v4 : Int32} (hv1 : (k_sh v1).1 = 10) (h : Ho (f_X5_whoCalls_j48 v1 v2 v3 v4 I) (Sum.elim (g_X5_whoCalls_L5 X ad I L v1 v2) (kr_X5_whoCalls P I L))) : J X ad 6 I L 48 [(0, .ref (ad 63)), (1, .ref (ad v1)), (2, .int v2), (3, .int v3), (4, .int v4)] [] := by
  unfold f_X5_whoCalls_j48 at h
  refine J_iconst (v := (0 : Int32)) hx dX5_whoCalls_48 (by decide) ?_
  refine J_sub (lv' := [(0, .ref (ad 63)), (1, .ref (ad v1)), (2, .int v2), (3, .int v3), (4, .int v4)]) hx [0, 1, 2, 3, 4] rfl ?_
  exact s_X5_whoCalls_j49 hx hQ (congrArg Prod.fst (k_shA hv1)) h
def f_X5_whoCalls_j44 (v1 : Nat) (v2 : Int32) (v3 : Int32) (v4 : Int32) (I : StI) : Option ((Int32 × Int32) ⊕ (Int32)) :=
  f_X5_whoCalls_j49 v1 v2 v3 v4 (1 : Int32) I
set_option maxRecDepth 100000 in
set_option maxHeartbeats 4000000 in
theorem s_X5_whoCalls_j44 {X : k_C} {ad : Nat → Nat} {P : Option Value → StI → StL → Prop} {I : StI} {L : StL} (hx : Ok X cX5_whoCalls RX5 6 (some .int) 2) (hQ : OkQ X ad P)  {v1 : Nat} {v2 : Int32} {v3 : Int32} {v4 : Int32} (hv1 : (k_sh v1).1 = 10) (h : Ho (f_X5_whoCalls_j44 v1 v2 v3 v4 I) (Sum.elim (g_X5_whoCalls_L5 X ad I L v1 v2) (kr_X5_whoCalls P I L))) : J X ad 6 I L 44 [(0, .ref (ad 63)), (1, .ref (ad v1)), (2, .int v2), (3, .int v3), (4, .int v4)] [] := by
  unfold f_X5_whoCalls_j44 at h
  refine J_iconst (v := (1 : Int32)) hx dX5_whoCalls_44 (by decide) ?_
  refine J_goto hx dX5_whoCalls_45 49 (by decide) ?_
  refine J_sub (lv' := [(0, .ref (ad 63)), (1, .ref (ad v1)), (2, .int v2), (3, .int v3), (4, .int v4)]) hx [0, 1, 2, 3, 4] rfl ?_
  exact s_X5_whoCalls_j49 hx hQ (congrArg Prod.fst (k_shA hv1)) h
def f_X5_whoCalls_L5_b (v1 : Nat) (v2 : Int32) (v3 : Int32) (v4 : Int32) (I : StI) : Option ((Int32 × Int32) ⊕ (Int32)) :=
  (if (I 63 4) ≤ v4 then some (.inr (v3)) else k_gd ((12 : Int32) + v4) (k_sh v1).2 ((if (I v1 ((12 : Int32) + v4).toNatClampNeg) = (1 : Int32) then f_X5_whoCalls_j48 v1 v2 v3 v4 I else k_gd v4 7 ((if (I 72 v4.toNatClampNeg) = (4 : Int32) then k_gd (0 : Int32) (k_sh v1).2 ((if ((I v1 (0 : Int32).toNatClampNeg) - (I v1 (0 : Int32).toNatClampNeg) / (2 : Int32) * (2 : Int32)) = 0 then f_X5_whoCalls_j44 v1 v2 v3 v4 I else f_X5_whoCalls_j48 v1 v2 v3 v4 I)) else f_X5_whoCalls_j44 v1 v2 v3 v4 I)))))
def f_X5_whoCalls_L5 (v1 : Nat) (v2 : Int32) (I : StI) (n : Nat) (v3 : Int32) (v4 : Int32) : Option (Int32) :=
  k_loop (fun s => f_X5_whoCalls_L5_b v1 v2 s.1 s.2 I) n (v3, v4)
set_option maxRecDepth 100000 in
set_option maxHeartbeats 4000000 in
theorem s_X5_whoCalls_L5_b {X : k_C} {ad : Nat → Nat} {P : Option Value → StI → StL → Prop} {I : StI} {L : StL} (hx : Ok X cX5_whoCalls RX5 6 (some .int) 2) (hQ : OkQ X ad P)  {v1 : Nat} {v2 : Int32} {v3 : Int32} {v4 : Int32} (hv1 : (k_sh v1).1 = 10) (h : Ho (f_X5_whoCalls_L5_b v1 v2 v3 v4 I) (Sum.elim (g_X5_whoCalls_L5 X ad I L v1 v2) (kr_X5_whoCalls P I L))) : J X ad 6 I L 5 [(0, .ref (ad 63)), (1, .ref (ad v1)), (2, .int v2), (3, .int v3), (4, .int v4)] [] := by
  unfold f_X5_whoCalls_L5_b at h
  refine J_iload hx dX5_whoCalls_5 4 rfl ?_
  refine J_aload_n hx dX5_whoCalls_7 0 rfl ?_
  refine J_getI hx fl_RX5_115 (rfl : k_sh 63 = (5, k_N 5)) rfl dX5_whoCalls_8 ?_
  refine J_ic_ge hx dX5_whoCalls_11 82 (by decide) (fun c1 => ?_) (fun c1 => ?_)
  · have h := Ho_t c1 h
    refine J_iload_n hx dX5_whoCalls_82 3 rfl ?_
    have h := Ho_some h
    exact J_iret hx hQ dX5_whoCalls_83 h
  · have h := Ho_f c1 h
    refine J_aload_n hx dX5_whoCalls_14 1 rfl ?_
    refine J_bipush (v := (12 : Int32)) hx dX5_whoCalls_15 (by decide) ?_
    refine J_iload hx dX5_whoCalls_17 4 rfl ?_
    refine J_iadd hx dX5_whoCalls_19 ?_
    obtain ⟨b2, h⟩ := Ho_gd h
    refine J_iald hx (k_shA hv1) b2 dX5_whoCalls_20 ?_
    refine J_iconst (v := (1 : Int32)) hx dX5_whoCalls_21 (by decide) ?_
    refine J_ic_eq hx dX5_whoCalls_22 48 (by decide) (fun c3 => ?_) (fun c3 => ?_)
    · have h := Ho_t c3 h
      refine J_sub (lv' := [(0, .ref (ad 63)), (1, .ref (ad v1)), (2, .int v2), (3, .int v3), (4, .int v4)]) hx [0, 1, 2, 3, 4] rfl ?_
      exact s_X5_whoCalls_j48 hx hQ (congrArg Prod.fst (k_shA hv1)) h
    · have h := Ho_f c3 h
      refine J_aload_n hx dX5_whoCalls_25 0 rfl ?_
      refine J_getR (q := 72) hx fl_RX5_34 (rfl : k_sh 63 = (5, k_N 5)) rfl rfl dX5_whoCalls_26 ?_
      refine J_iload hx dX5_whoCalls_29 4 rfl ?_
      obtain ⟨b10, h⟩ := Ho_gd h
      refine J_iald hx (rfl : k_sh 72 = (10, 7)) b10 dX5_whoCalls_31 ?_
      refine J_iconst (v := (4 : Int32)) hx dX5_whoCalls_32 (by decide) ?_
      refine J_ic_ne hx dX5_whoCalls_33 44 (by decide) (fun c11 => ?_) (fun c11 => ?_)
      · have h := Ho_f c11 h
        refine J_sub (lv' := [(0, .ref (ad 63)), (1, .ref (ad v1)), (2, .int v2), (3, .int v3), (4, .int v4)]) hx [0, 1, 2, 3, 4] rfl ?_
        exact s_X5_whoCalls_j44 hx hQ (congrArg Prod.fst (k_shA hv1)) h
      · have h := Ho_t c11 h
        refine J_aload_n hx dX5_whoCalls_36 1 rfl ?_
        refine J_iconst (v := (0 : Int32)) hx dX5_whoCalls_37 (by decide) ?_
        obtain ⟨b12, h⟩ := Ho_gd h
        refine J_iald hx (k_shA hv1) b12 dX5_whoCalls_38 ?_
        refine J_iconst (v := (2 : Int32)) hx dX5_whoCalls_39 (by decide) ?_
        refine J_irem hx (by decide) dX5_whoCalls_40 ?_
        refine J_if_ne hx dX5_whoCalls_41 48 (by decide) (fun c13 => ?_) (fun c13 => ?_)
        · have h := Ho_f c13 h
          refine J_sub (lv' := [(0, .ref (ad 63)), (1, .ref (ad v1)), (2, .int v2), (3, .int v3), (4, .int v4)]) hx [0, 1, 2, 3, 4] rfl ?_
          exact s_X5_whoCalls_j48 hx hQ (congrArg Prod.fst (k_shA hv1)) h
        · have h := Ho_t c13 h
          refine J_sub (lv' := [(0, .ref (ad 63)), (1, .ref (ad v1)), (2, .int v2), (3, .int v3), (4, .int v4)]) hx [0, 1, 2, 3, 4] rfl ?_
          exact s_X5_whoCalls_j44 hx hQ (congrArg Prod.fst (k_shA hv1)) h
set_option maxRecDepth 100000 in
set_option maxHeartbeats 4000000 in
theorem s_X5_whoCalls_L5 {X : k_C} {ad : Nat → Nat} {P : Option Value → StI → StL → Prop} {I : StI} {L : StL} (hx : Ok X cX5_whoCalls RX5 6 (some .int) 2) (hQ : OkQ X ad P)  {v1 : Nat} {v2 : Int32} {v3 : Int32} {v4 : Int32} (hv1 : (k_sh v1).1 = 10) (n : Nat) (h : Ho (f_X5_whoCalls_L5 v1 v2 I n v3 v4) (kr_X5_whoCalls P I L)) : J X ad 6 I L 5 [(0, .ref (ad 63)), (1, .ref (ad v1)), (2, .int v2), (3, .int v3), (4, .int v4)] [] := by
  exact k_loop_ho (G := g_X5_whoCalls_L5 X ad I L v1 v2) (fun s hs => s_X5_whoCalls_L5_b hx hQ hv1 hs) n (v3, v4) h
def f_X5_whoCalls (v1 : Nat) (v2 : Int32) (I : StI) : Option (Int32) :=
  f_X5_whoCalls_L5 v1 v2 I k_fu (0 : Int32) (0 : Int32)
set_option maxRecDepth 100000 in
set_option maxHeartbeats 4000000 in
theorem s_X5_whoCalls {l : Launch} {ad : Nat → Nat} {P : Option Value → StI → StL → Prop} {I : StI} {L : StL} {v1 : Nat} {v2 : Int32} (hv1 : (k_sh v1).1 = 10) (h : Ho (f_X5_whoCalls v1 v2 I) (kr_X5_whoCalls P I L)) : k_Met l ad 2 yX5_whoCalls cX5_whoCalls 6 (some .int) [.ref (ad 63), .ref (ad v1), .int v2] I L P := by
  refine k_enter (by decide +kernel) (Nat.le_of_ble_eq_true rfl) (fun X hl hx hQ => ?_)
  clear hl
  have hx : Ok X cX5_whoCalls RX5 6 (some .int) 2 := hx
  show J X ad 6 I L 0 [(0, .ref (ad 63)), (1, .ref (ad v1)), (2, .int v2)] []
  unfold f_X5_whoCalls at h
  refine J_iconst (v := (0 : Int32)) hx dX5_whoCalls_0 (by decide) ?_
  refine J_istore_n (x := (0 : Int32)) (lv' := [(3, .int (0 : Int32)), (0, .ref (ad 63)), (1, .ref (ad v1)), (2, .int v2)]) hx dX5_whoCalls_1 rfl (by decide) rfl ?_
  refine J_iconst (v := (0 : Int32)) hx dX5_whoCalls_2 (by decide) ?_
  refine J_istore (x := (0 : Int32)) (lv' := [(4, .int (0 : Int32)), (3, .int (0 : Int32)), (0, .ref (ad 63)), (1, .ref (ad v1)), (2, .int v2)]) hx dX5_whoCalls_3 rfl (by decide) rfl ?_
  refine J_sub (lv' := [(0, .ref (ad 63)), (1, .ref (ad v1)), (2, .int v2), (3, .int (0 : Int32)), (4, .int (0 : Int32))]) hx [2, 3, 4, 1, 0] rfl ?_
  exact s_X5_whoCalls_L5 hx hQ (congrArg Prod.fst (k_shA hv1)) k_fu h
abbrev kr_X5_bits (P : Option Value → StI → StL → Prop) (I : StI) (L : StL) : Int32 → Prop := fun t => P (some (.int t)) I L
abbrev g_X5_bits_L4 (X : k_C) (ad : Nat → Nat) (I : StI) (L : StL) : (Int32 × Int32) → Prop := fun s => J X ad 3 I L 4 [(1, .int s.1), (2, .int s.2)] []
def f_X5_bits_L4_b (v1 : Int32) (v2 : Int32) : Option ((Int32 × Int32) ⊕ (Int32)) :=
  (if v2 = 0 then some (.inr (v1)) else k_let (v1 + (1 : Int32)) (fun x2 => k_let (v2 &&& (v2 - (1 : Int32))) (fun x3 => some (.inl (x2, x3)))))
def f_X5_bits_L4  (n : Nat) (v1 : Int32) (v2 : Int32) : Option (Int32) :=
  k_loop (fun s => f_X5_bits_L4_b s.1 s.2) n (v1, v2)
set_option maxRecDepth 100000 in
set_option maxHeartbeats 4000000 in
theorem s_X5_bits_L4_b {X : k_C} {ad : Nat → Nat} {P : Option Value → StI → StL → Prop} {I : StI} {L : StL} (hx : Ok X cX5_bits RX5 3 (some .int) 1) (hQ : OkQ X ad P)  {v1 : Int32} {v2 : Int32}  (h : Ho (f_X5_bits_L4_b v1 v2) (Sum.elim (g_X5_bits_L4 X ad I L) (kr_X5_bits P I L))) : J X ad 3 I L 4 [(1, .int v1), (2, .int v2)] [] := by
  unfold f_X5_bits_L4_b at h
  refine J_iload_n hx dX5_bits_4 1 rfl ?_
  refine J_if_eq hx dX5_bits_5 20 (by decide) (fun c1 => ?_) (fun c1 => ?_)
  · have h := Ho_t c1 h
    refine J_iload_n hx dX5_bits_20 0 rfl ?_
    have h := Ho_some h
    exact J_iret hx hQ dX5_bits_21 h
  · have h := Ho_f c1 h
    obtain ⟨x2, hx2, h⟩ := Ho_let h
    refine J_iinc (x := x2) (lv' := [(1, .int x2), (2, .int v2)]) hx dX5_bits_8 0 rfl (by rw [hx2]; rfl) (by decide) rfl ?_
    refine J_iload_n hx dX5_bits_11 1 rfl ?_
    refine J_iload_n hx dX5_bits_12 1 rfl ?_
    refine J_iconst (v := (1 : Int32)) hx dX5_bits_13 (by decide) ?_
    refine J_isub hx dX5_bits_14 ?_
    refine J_iand hx dX5_bits_15 ?_
    obtain ⟨x3, hx3, h⟩ := Ho_let h
    refine J_istore_n (x := x3) (lv' := [(2, .int x3), (1, .int x2)]) hx dX5_bits_16 hx3 (by decide) rfl ?_
    refine J_goto hx dX5_bits_17 4 (by decide) ?_
    refine J_sub (lv' := [(1, .int x2), (2, .int x3)]) hx [1, 0] rfl ?_
    have h := Ho_some h
    exact h
set_option maxRecDepth 100000 in
set_option maxHeartbeats 4000000 in
theorem s_X5_bits_L4 {X : k_C} {ad : Nat → Nat} {P : Option Value → StI → StL → Prop} {I : StI} {L : StL} (hx : Ok X cX5_bits RX5 3 (some .int) 1) (hQ : OkQ X ad P)  {v1 : Int32} {v2 : Int32}  (n : Nat) (h : Ho (f_X5_bits_L4  n v1 v2) (kr_X5_bits P I L)) : J X ad 3 I L 4 [(1, .int v1), (2, .int v2)] [] := by
  exact k_loop_ho (G := g_X5_bits_L4 X ad I L) (fun s hs => s_X5_bits_L4_b hx hQ  hs) n (v1, v2) h
def f_X5_bits (v0 : Int32) : Option (Int32) :=
  f_X5_bits_L4  k_fu (0 : Int32) v0
set_option maxRecDepth 100000 in
set_option maxHeartbeats 4000000 in
theorem s_X5_bits {l : Launch} {ad : Nat → Nat} {P : Option Value → StI → StL → Prop} {I : StI} {L : StL} {v0 : Int32}  (h : Ho (f_X5_bits v0) (kr_X5_bits P I L)) : k_Met l ad 1 yX5_bits cX5_bits 3 (some .int) [.int v0] I L P := by
  refine k_enter (by decide +kernel) (Nat.le_of_ble_eq_true rfl) (fun X hl hx hQ => ?_)
  clear hl
  have hx : Ok X cX5_bits RX5 3 (some .int) 1 := hx
  show J X ad 3 I L 0 [(0, .int v0)] []
  unfold f_X5_bits at h
  refine J_iconst (v := (0 : Int32)) hx dX5_bits_0 (by decide) ?_
  refine J_istore_n (x := (0 : Int32)) (lv' := [(1, .int (0 : Int32)), (0, .int v0)]) hx dX5_bits_1 rfl (by decide) rfl ?_
  refine J_iload_n hx dX5_bits_2 1 rfl ?_
  refine J_istore_n (x := v0) (lv' := [(2, .int v0), (1, .int (0 : Int32)), (0, .int v0)]) hx dX5_bits_3 rfl (by decide) rfl ?_
  refine J_sub (lv' := [(1, .int (0 : Int32)), (2, .int v0)]) hx [1, 0] rfl ?_
  exact s_X5_bits_L4 hx hQ  k_fu h
abbrev kr_X5_isAnswered (P : Option Value → StI → StL → Prop) (L : StL) : StI → Prop := fun t => P none t L
def f_X5_isAnswered_j64 (v1 : Nat) (v2 : Int32) (I : StI) : Option (StI) :=
  k_gd ((12 : Int32) + v2) (k_sh v1).2 (k_let (k_up I v1 ((12 : Int32) + v2).toNatClampNeg (0 : Int32)) (fun I8 => k_gd ((19 : Int32) + v2) (k_sh v1).2 (k_let (k_up I8 v1 ((19 : Int32) + v2).toNatClampNeg (0 : Int32)) (fun I10 => some (I10)))))
set_option maxRecDepth 100000 in
set_option maxHeartbeats 4000000 in
theorem s_X5_isAnswered_j64 {X : k_C} {ad : Nat → Nat} {P : Option Value → StI → StL → Prop} {I : StI} {L : StL} (hx : Ok X cX5_isAnswered RX5 4 none 1) (hQ : OkQ X ad P)  {v1 : Nat} {v2 : Int32} (hv1 : (k_sh v1).1 = 10) (h : Ho (f_X5_isAnswered_j64 v1 v2 I) (kr_X5_isAnswered P L)) : J X ad 4 I L 64 [(1, .ref (ad v1)), (2, .int v2)] [] := by
  unfold f_X5_isAnswered_j64 at h
  refine J_aload_n hx dX5_isAnswered_64 0 rfl ?_
  refine J_bipush (v := (12 : Int32)) hx dX5_isAnswered_65 (by decide) ?_
  refine J_iload_n hx dX5_isAnswered_67 1 rfl ?_
  refine J_iadd hx dX5_isAnswered_68 ?_
  refine J_iconst (v := (0 : Int32)) hx dX5_isAnswered_69 (by decide) ?_
  obtain ⟨b7, h⟩ := Ho_gd h
  obtain ⟨I8, hI8, h⟩ := Ho_let h
  refine J_iast hx (k_shA hv1) b7 dX5_isAnswered_70 hI8 ?_
  refine J_aload_n hx dX5_isAnswered_71 0 rfl ?_
  refine J_bipush (v := (19 : Int32)) hx dX5_isAnswered_72 (by decide) ?_
  refine J_iload_n hx dX5_isAnswered_74 1 rfl ?_
  refine J_iadd hx dX5_isAnswered_75 ?_
  refine J_iconst (v := (0 : Int32)) hx dX5_isAnswered_76 (by decide) ?_
  obtain ⟨b9, h⟩ := Ho_gd h
  obtain ⟨I10, hI10, h⟩ := Ho_let h
  refine J_iast hx (k_shA hv1) b9 dX5_isAnswered_77 hI10 ?_
  have h := Ho_some h
  exact J_vret hx hQ dX5_isAnswered_78 h
def f_X5_isAnswered_j29 (v1 : Nat) (v2 : Int32) (I : StI) : Option (StI) :=
  k_gd ((12 : Int32) + v2) (k_sh v1).2 ((if (I v1 ((12 : Int32) + v2).toNatClampNeg) = 0 then k_gd ((19 : Int32) + v2) (k_sh v1).2 (k_gd ((19 : Int32) + v2) (k_sh v1).2 ((if (I v1 ((19 : Int32) + v2).toNatClampNeg) ≤ 0 then k_gd ((19 : Int32) + v2) (k_sh v1).2 (k_let (k_up I v1 ((19 : Int32) + v2).toNatClampNeg ((I v1 ((19 : Int32) + v2).toNatClampNeg) - (0 : Int32))) (fun I15 => some (I15))) else k_gd ((19 : Int32) + v2) (k_sh v1).2 (k_let (k_up I v1 ((19 : Int32) + v2).toNatClampNeg ((I v1 ((19 : Int32) + v2).toNatClampNeg) - (1 : Int32))) (fun I17 => some (I17)))))) else f_X5_isAnswered_j64 v1 v2 I))
set_option maxRecDepth 100000 in
set_option maxHeartbeats 4000000 in
theorem s_X5_isAnswered_j29 {X : k_C} {ad : Nat → Nat} {P : Option Value → StI → StL → Prop} {I : StI} {L : StL} (hx : Ok X cX5_isAnswered RX5 4 none 1) (hQ : OkQ X ad P)  {v1 : Nat} {v2 : Int32} (hv1 : (k_sh v1).1 = 10) (h : Ho (f_X5_isAnswered_j29 v1 v2 I) (kr_X5_isAnswered P L)) : J X ad 4 I L 29 [(1, .ref (ad v1)), (2, .int v2)] [] := by
  unfold f_X5_isAnswered_j29 at h
  refine J_aload_n hx dX5_isAnswered_29 0 rfl ?_
  refine J_bipush (v := (12 : Int32)) hx dX5_isAnswered_30 (by decide) ?_
  refine J_iload_n hx dX5_isAnswered_32 1 rfl ?_
  refine J_iadd hx dX5_isAnswered_33 ?_
  obtain ⟨b5, h⟩ := Ho_gd h
  refine J_iald hx (k_shA hv1) b5 dX5_isAnswered_34 ?_
  refine J_if_ne hx dX5_isAnswered_35 64 (by decide) (fun c6 => ?_) (fun c6 => ?_)
  · have h := Ho_f c6 h
    refine J_sub (lv' := [(1, .ref (ad v1)), (2, .int v2)]) hx [0, 1] rfl ?_
    exact s_X5_isAnswered_j64 hx hQ (congrArg Prod.fst (k_shA hv1)) h
  · have h := Ho_t c6 h
    refine J_aload_n hx dX5_isAnswered_38 0 rfl ?_
    refine J_bipush (v := (19 : Int32)) hx dX5_isAnswered_39 (by decide) ?_
    refine J_iload_n hx dX5_isAnswered_41 1 rfl ?_
    refine J_iadd hx dX5_isAnswered_42 ?_
    refine J_dup2 hx dX5_isAnswered_43 rfl rfl ?_
    obtain ⟨b11, h⟩ := Ho_gd h
    refine J_iald hx (k_shA hv1) b11 dX5_isAnswered_44 ?_
    refine J_aload_n hx dX5_isAnswered_45 0 rfl ?_
    refine J_bipush (v := (19 : Int32)) hx dX5_isAnswered_46 (by decide) ?_
    refine J_iload_n hx dX5_isAnswered_48 1 rfl ?_
    refine J_iadd hx dX5_isAnswered_49 ?_
    obtain ⟨b12, h⟩ := Ho_gd h
    refine J_iald hx (k_shA hv1) b12 dX5_isAnswered_50 ?_
    refine J_if_le hx dX5_isAnswered_51 58 (by decide) (fun c13 => ?_) (fun c13 => ?_)
    · have h := Ho_t c13 h
      refine J_iconst (v := (0 : Int32)) hx dX5_isAnswered_58 (by decide) ?_
      refine J_isub hx dX5_isAnswered_59 ?_
      obtain ⟨b14, h⟩ := Ho_gd h
      obtain ⟨I15, hI15, h⟩ := Ho_let h
      refine J_iast hx (k_shA hv1) b14 dX5_isAnswered_60 hI15 ?_
      refine J_goto hx dX5_isAnswered_61 78 (by decide) ?_
      have h := Ho_some h
      exact J_vret hx hQ dX5_isAnswered_78 h
    · have h := Ho_f c13 h
      refine J_iconst (v := (1 : Int32)) hx dX5_isAnswered_54 (by decide) ?_
      refine J_goto hx dX5_isAnswered_55 59 (by decide) ?_
      refine J_isub hx dX5_isAnswered_59 ?_
      obtain ⟨b16, h⟩ := Ho_gd h
      obtain ⟨I17, hI17, h⟩ := Ho_let h
      refine J_iast hx (k_shA hv1) b16 dX5_isAnswered_60 hI17 ?_
      refine J_goto hx dX5_isAnswered_61 78 (by decide) ?_
      have h := Ho_some h
      exact J_vret hx hQ dX5_isAnswered_78 h
def f_X5_isAnswered (v1 : Nat) (v2 : Int32) (I : StI) : Option (StI) :=
  k_gd v2 7 (k_let (I 72 v2.toNatClampNeg) (fun x2 => k_let (k_up I 63 23 ((I 63 23) ||| ((1 : Int32) <<< (v2 &&& 31)))) (fun I3 => (if x2 = (1 : Int32) then f_X5_isAnswered_j29 v1 v2 I3 else (if x2 = (4 : Int32) then f_X5_isAnswered_j29 v1 v2 I3 else f_X5_isAnswered_j64 v1 v2 I3)))))
set_option maxRecDepth 100000 in
set_option maxHeartbeats 4000000 in
theorem s_X5_isAnswered {l : Launch} {ad : Nat → Nat} {P : Option Value → StI → StL → Prop} {I : StI} {L : StL} {v1 : Nat} {v2 : Int32} (hv1 : (k_sh v1).1 = 10) (h : Ho (f_X5_isAnswered v1 v2 I) (kr_X5_isAnswered P L)) : k_Met l ad 1 yX5_isAnswered cX5_isAnswered 4 none [.ref (ad 63), .ref (ad v1), .int v2] I L P := by
  refine k_enter (by decide +kernel) (Nat.le_of_ble_eq_true rfl) (fun X hl hx hQ => ?_)
  clear hl
  have hx : Ok X cX5_isAnswered RX5 4 none 1 := hx
  show J X ad 4 I L 0 [(0, .ref (ad 63)), (1, .ref (ad v1)), (2, .int v2)] []
  unfold f_X5_isAnswered at h
  refine J_aload_n hx dX5_isAnswered_0 0 rfl ?_
  refine J_getR (q := 72) hx fl_RX5_34 (rfl : k_sh 63 = (5, k_N 5)) rfl rfl dX5_isAnswered_1 ?_
  refine J_iload_n hx dX5_isAnswered_4 2 rfl ?_
  obtain ⟨b1, h⟩ := Ho_gd h
  refine J_iald hx (rfl : k_sh 72 = (10, 7)) b1 dX5_isAnswered_5 ?_
  obtain ⟨x2, hx2, h⟩ := Ho_let h
  refine J_istore_n (x := x2) (lv' := [(3, .int x2), (0, .ref (ad 63)), (1, .ref (ad v1)), (2, .int v2)]) hx dX5_isAnswered_6 hx2 (by decide) rfl ?_
  refine J_aload_n hx dX5_isAnswered_7 1 rfl ?_
  refine J_dup hx dX5_isAnswered_8 rfl ?_
  refine J_getI hx fl_RX5_132 (rfl : k_sh 63 = (5, k_N 5)) rfl dX5_isAnswered_9 ?_
  refine J_iconst (v := (1 : Int32)) hx dX5_isAnswered_12 (by decide) ?_
  refine J_iload_n hx dX5_isAnswered_13 3 rfl ?_
  refine J_ishl hx dX5_isAnswered_14 ?_
  refine J_ior hx dX5_isAnswered_15 ?_
  obtain ⟨I3, hI3, h⟩ := Ho_let h
  refine J_putI hx flW_RX5_132 (rfl : k_sh 63 = (5, k_N 5)) rfl dX5_isAnswered_16 hI3 ?_
  refine J_iload_n hx dX5_isAnswered_19 0 rfl ?_
  refine J_iconst (v := (1 : Int32)) hx dX5_isAnswered_20 (by decide) ?_
  refine J_ic_eq hx dX5_isAnswered_21 29 (by decide) (fun c4 => ?_) (fun c4 => ?_)
  · have h := Ho_t c4 h
    refine J_sub (lv' := [(1, .ref (ad v1)), (2, .int v2)]) hx [2, 3] rfl ?_
    exact s_X5_isAnswered_j29 hx hQ (congrArg Prod.fst (k_shA hv1)) h
  · have h := Ho_f c4 h
    refine J_iload_n hx dX5_isAnswered_24 0 rfl ?_
    refine J_iconst (v := (4 : Int32)) hx dX5_isAnswered_25 (by decide) ?_
    refine J_ic_ne hx dX5_isAnswered_26 64 (by decide) (fun c18 => ?_) (fun c18 => ?_)
    · have h := Ho_f c18 h
      refine J_sub (lv' := [(1, .ref (ad v1)), (2, .int v2)]) hx [2, 3] rfl ?_
      exact s_X5_isAnswered_j64 hx hQ (congrArg Prod.fst (k_shA hv1)) h
    · have h := Ho_t c18 h
      refine J_sub (lv' := [(1, .ref (ad v1)), (2, .int v2)]) hx [2, 3] rfl ?_
      exact s_X5_isAnswered_j29 hx hQ (congrArg Prod.fst (k_shA hv1)) h
abbrev kr_X5_tripsOn (P : Option Value → StI → StL → Prop) (L : StL) : StI → Prop := fun t => P none t L
def f_X5_tripsOn_j82 (v1 : Nat) (v2 : Int32) (I : StI) : Option (StI) :=
  k_gd ((33 : Int32) + v2) (k_sh v1).2 ((if (I v1 ((33 : Int32) + v2).toNatClampNeg) ≤ (20 : Int32) then k_gd ((33 : Int32) + v2) (k_sh v1).2 (k_gd ((33 : Int32) + v2) (k_sh v1).2 (k_let (k_up I v1 ((33 : Int32) + v2).toNatClampNeg ((2 : Int32) * (I v1 ((33 : Int32) + v2).toNatClampNeg))) (fun I17 => some (I17)))) else k_gd ((33 : Int32) + v2) (k_sh v1).2 (k_let (k_up I v1 ((33 : Int32) + v2).toNatClampNeg (40 : Int32)) (fun I19 => some (I19)))))
set_option maxRecDepth 100000 in
set_option maxHeartbeats 4000000 in
theorem s_X5_tripsOn_j82 {X : k_C} {ad : Nat → Nat} {P : Option Value → StI → StL → Prop} {I : StI} {L : StL} (hx : Ok X cX5_tripsOn RX5 4 none 1) (hQ : OkQ X ad P)  {v1 : Nat} {v2 : Int32} (hv1 : (k_sh v1).1 = 10) (h : Ho (f_X5_tripsOn_j82 v1 v2 I) (kr_X5_tripsOn P L)) : J X ad 4 I L 82 [(1, .ref (ad v1)), (2, .int v2)] [] := by
  unfold f_X5_tripsOn_j82 at h
  refine J_aload_n hx dX5_tripsOn_82 0 rfl ?_
  refine J_bipush (v := (33 : Int32)) hx dX5_tripsOn_83 (by decide) ?_
  refine J_iload_n hx dX5_tripsOn_85 1 rfl ?_
  refine J_iadd hx dX5_tripsOn_86 ?_
  refine J_aload_n hx dX5_tripsOn_87 0 rfl ?_
  refine J_bipush (v := (33 : Int32)) hx dX5_tripsOn_88 (by decide) ?_
  refine J_iload_n hx dX5_tripsOn_90 1 rfl ?_
  refine J_iadd hx dX5_tripsOn_91 ?_
  obtain ⟨b13, h⟩ := Ho_gd h
  refine J_iald hx (k_shA hv1) b13 dX5_tripsOn_92 ?_
  refine J_bipush (v := (20 : Int32)) hx dX5_tripsOn_93 (by decide) ?_
  refine J_ic_le hx dX5_tripsOn_95 103 (by decide) (fun c14 => ?_) (fun c14 => ?_)
  · have h := Ho_t c14 h
    refine J_iconst (v := (2 : Int32)) hx dX5_tripsOn_103 (by decide) ?_
    refine J_aload_n hx dX5_tripsOn_104 0 rfl ?_
    refine J_bipush (v := (33 : Int32)) hx dX5_tripsOn_105 (by decide) ?_
    refine J_iload_n hx dX5_tripsOn_107 1 rfl ?_
    refine J_iadd hx dX5_tripsOn_108 ?_
    obtain ⟨b15, h⟩ := Ho_gd h
    refine J_iald hx (k_shA hv1) b15 dX5_tripsOn_109 ?_
    refine J_imul hx dX5_tripsOn_110 ?_
    obtain ⟨b16, h⟩ := Ho_gd h
    obtain ⟨I17, hI17, h⟩ := Ho_let h
    refine J_iast hx (k_shA hv1) b16 dX5_tripsOn_111 hI17 ?_
    have h := Ho_some h
    exact J_vret hx hQ dX5_tripsOn_112 h
  · have h := Ho_f c14 h
    refine J_bipush (v := (40 : Int32)) hx dX5_tripsOn_98 (by decide) ?_
    refine J_goto hx dX5_tripsOn_100 111 (by decide) ?_
    obtain ⟨b18, h⟩ := Ho_gd h
    obtain ⟨I19, hI19, h⟩ := Ho_let h
    refine J_iast hx (k_shA hv1) b18 dX5_tripsOn_111 hI19 ?_
    have h := Ho_some h
    exact J_vret hx hQ dX5_tripsOn_112 h
def f_X5_tripsOn_j34 (v1 : Nat) (v2 : Int32) (v3 : Int32) (I : StI) : Option (StI) :=
  k_gd ((12 : Int32) + v2) (k_sh v1).2 (k_let (k_up I v1 ((12 : Int32) + v2).toNatClampNeg (1 : Int32)) (fun I5 => k_gd ((33 : Int32) + v2) (k_sh v1).2 (k_gd ((26 : Int32) + v2) (k_sh v1).2 (k_let (k_up I5 v1 ((26 : Int32) + v2).toNatClampNeg (I5 v1 ((33 : Int32) + v2).toNatClampNeg)) (fun I8 => k_gd ((19 : Int32) + v2) (k_sh v1).2 (k_let (k_up I8 v1 ((19 : Int32) + v2).toNatClampNeg (0 : Int32)) (fun I10 => k_let (k_up I10 63 24 ((I10 63 24) ||| ((1 : Int32) <<< (v2 &&& 31)))) (fun I11 => (if v3 = (2 : Int32) then f_X5_tripsOn_j82 v1 v2 I11 else (if v3 = (5 : Int32) then f_X5_tripsOn_j82 v1 v2 I11 else some (I11)))))))))))
set_option maxRecDepth 100000 in
set_option maxHeartbeats 4000000 in
theorem s_X5_tripsOn_j34 {X : k_C} {ad : Nat → Nat} {P : Option Value → StI → StL → Prop} {I : StI} {L : StL} (hx : Ok X cX5_tripsOn RX5 4 none 1) (hQ : OkQ X ad P)  {v1 : Nat} {v2 : Int32} {v3 : Int32} (hv1 : (k_sh v1).1 = 10) (h : Ho (f_X5_tripsOn_j34 v1 v2 v3 I) (kr_X5_tripsOn P L)) : J X ad 4 I L 34 [(0, .ref (ad 63)), (1, .ref (ad v1)), (2, .int v2), (3, .int v3)] [] := by
  unfold f_X5_tripsOn_j34 at h
  refine J_aload_n hx dX5_tripsOn_34 1 rfl ?_
  refine J_bipush (v := (12 : Int32)) hx dX5_tripsOn_35 (by decide) ?_
  refine J_iload_n hx dX5_tripsOn_37 2 rfl ?_
  refine J_iadd hx dX5_tripsOn_38 ?_
  refine J_iconst (v := (1 : Int32)) hx dX5_tripsOn_39 (by decide) ?_
  obtain ⟨b4, h⟩ := Ho_gd h
  obtain ⟨I5, hI5, h⟩ := Ho_let h
  refine J_iast hx (k_shA hv1) b4 dX5_tripsOn_40 hI5 ?_
  refine J_aload_n hx dX5_tripsOn_41 1 rfl ?_
  refine J_bipush (v := (26 : Int32)) hx dX5_tripsOn_42 (by decide) ?_
  refine J_iload_n hx dX5_tripsOn_44 2 rfl ?_
  refine J_iadd hx dX5_tripsOn_45 ?_
  refine J_aload_n hx dX5_tripsOn_46 1 rfl ?_
  refine J_bipush (v := (33 : Int32)) hx dX5_tripsOn_47 (by decide) ?_
  refine J_iload_n hx dX5_tripsOn_49 2 rfl ?_
  refine J_iadd hx dX5_tripsOn_50 ?_
  obtain ⟨b6, h⟩ := Ho_gd h
  refine J_iald hx (k_shA hv1) b6 dX5_tripsOn_51 ?_
  obtain ⟨b7, h⟩ := Ho_gd h
  obtain ⟨I8, hI8, h⟩ := Ho_let h
  refine J_iast hx (k_shA hv1) b7 dX5_tripsOn_52 hI8 ?_
  refine J_aload_n hx dX5_tripsOn_53 1 rfl ?_
  refine J_bipush (v := (19 : Int32)) hx dX5_tripsOn_54 (by decide) ?_
  refine J_iload_n hx dX5_tripsOn_56 2 rfl ?_
  refine J_iadd hx dX5_tripsOn_57 ?_
  refine J_iconst (v := (0 : Int32)) hx dX5_tripsOn_58 (by decide) ?_
  obtain ⟨b9, h⟩ := Ho_gd h
  obtain ⟨I10, hI10, h⟩ := Ho_let h
  refine J_iast hx (k_shA hv1) b9 dX5_tripsOn_59 hI10 ?_
  refine J_aload_n hx dX5_tripsOn_60 0 rfl ?_
  refine J_dup hx dX5_tripsOn_61 rfl ?_
  refine J_getI hx fl_RX5_129 (rfl : k_sh 63 = (5, k_N 5)) rfl dX5_tripsOn_62 ?_
  refine J_iconst (v := (1 : Int32)) hx dX5_tripsOn_65 (by decide) ?_
  refine J_iload_n hx dX5_tripsOn_66 2 rfl ?_
  refine J_ishl hx dX5_tripsOn_67 ?_
  refine J_ior hx dX5_tripsOn_68 ?_
  obtain ⟨I11, hI11, h⟩ := Ho_let h
  refine J_putI hx flW_RX5_129 (rfl : k_sh 63 = (5, k_N 5)) rfl dX5_tripsOn_69 hI11 ?_
  refine J_iload_n hx dX5_tripsOn_72 3 rfl ?_
  refine J_iconst (v := (2 : Int32)) hx dX5_tripsOn_73 (by decide) ?_
  refine J_ic_eq hx dX5_tripsOn_74 82 (by decide) (fun c12 => ?_) (fun c12 => ?_)
  · have h := Ho_t c12 h
    refine J_sub (lv' := [(1, .ref (ad v1)), (2, .int v2)]) hx [1, 2] rfl ?_
    exact s_X5_tripsOn_j82 hx hQ (congrArg Prod.fst (k_shA hv1)) h
  · have h := Ho_f c12 h
    refine J_iload_n hx dX5_tripsOn_77 3 rfl ?_
    refine J_iconst (v := (5 : Int32)) hx dX5_tripsOn_78 (by decide) ?_
    refine J_ic_ne hx dX5_tripsOn_79 112 (by decide) (fun c20 => ?_) (fun c20 => ?_)
    · have h := Ho_f c20 h
      have h := Ho_some h
      exact J_vret hx hQ dX5_tripsOn_112 h
    · have h := Ho_t c20 h
      refine J_sub (lv' := [(1, .ref (ad v1)), (2, .int v2)]) hx [1, 2] rfl ?_
      exact s_X5_tripsOn_j82 hx hQ (congrArg Prod.fst (k_shA hv1)) h
def f_X5_tripsOn (v1 : Nat) (v2 : Int32) (I : StI) : Option (StI) :=
  k_gd v2 7 (k_let (I 72 v2.toNatClampNeg) (fun x2 => (if x2 = (5 : Int32) then k_gd (0 : Int32) (k_sh v1).2 ((if ((I v1 (0 : Int32).toNatClampNeg) - (I v1 (0 : Int32).toNatClampNeg) / (4 : Int32) * (4 : Int32)) = 0 then k_gd ((5 : Int32) + v2) (k_sh v1).2 (k_gd ((19 : Int32) + v2) (k_sh v1).2 (k_let (k_up I v1 ((19 : Int32) + v2).toNatClampNeg ((I v1 ((5 : Int32) + v2).toNatClampNeg) - (1 : Int32))) (fun I25 => some (I25)))) else f_X5_tripsOn_j34 v1 v2 x2 I)) else f_X5_tripsOn_j34 v1 v2 x2 I)))
set_option maxRecDepth 100000 in
set_option maxHeartbeats 4000000 in
theorem s_X5_tripsOn {l : Launch} {ad : Nat → Nat} {P : Option Value → StI → StL → Prop} {I : StI} {L : StL} {v1 : Nat} {v2 : Int32} (hv1 : (k_sh v1).1 = 10) (h : Ho (f_X5_tripsOn v1 v2 I) (kr_X5_tripsOn P L)) : k_Met l ad 1 yX5_tripsOn cX5_tripsOn 4 none [.ref (ad 63), .ref (ad v1), .int v2] I L P := by
  refine k_enter (by decide +kernel) (Nat.le_of_ble_eq_true rfl) (fun X hl hx hQ => ?_)
  clear hl
  have hx : Ok X cX5_tripsOn RX5 4 none 1 := hx
  show J X ad 4 I L 0 [(0, .ref (ad 63)), (1, .ref (ad v1)), (2, .int v2)] []
  unfold f_X5_tripsOn at h
  refine J_aload_n hx dX5_tripsOn_0 0 rfl ?_
  refine J_getR (q := 72) hx fl_RX5_34 (rfl : k_sh 63 = (5, k_N 5)) rfl rfl dX5_tripsOn_1 ?_
  refine J_iload_n hx dX5_tripsOn_4 2 rfl ?_
  obtain ⟨b1, h⟩ := Ho_gd h
  refine J_iald hx (rfl : k_sh 72 = (10, 7)) b1 dX5_tripsOn_5 ?_
  obtain ⟨x2, hx2, h⟩ := Ho_let h
  refine J_istore_n (x := x2) (lv' := [(3, .int x2), (0, .ref (ad 63)), (1, .ref (ad v1)), (2, .int v2)]) hx dX5_tripsOn_6 hx2 (by decide) rfl ?_
  refine J_iload_n hx dX5_tripsOn_7 0 rfl ?_
  refine J_iconst (v := (5 : Int32)) hx dX5_tripsOn_8 (by decide) ?_
  refine J_ic_ne hx dX5_tripsOn_9 34 (by decide) (fun c3 => ?_) (fun c3 => ?_)
  · have h := Ho_f c3 h
    refine J_sub (lv' := [(0, .ref (ad 63)), (1, .ref (ad v1)), (2, .int v2), (3, .int x2)]) hx [1, 2, 3, 0] rfl ?_
    exact s_X5_tripsOn_j34 hx hQ (congrArg Prod.fst (k_shA hv1)) h
  · have h := Ho_t c3 h
    refine J_aload_n hx dX5_tripsOn_12 2 rfl ?_
    refine J_iconst (v := (0 : Int32)) hx dX5_tripsOn_13 (by decide) ?_
    obtain ⟨b21, h⟩ := Ho_gd h
    refine J_iald hx (k_shA hv1) b21 dX5_tripsOn_14 ?_
    refine J_iconst (v := (4 : Int32)) hx dX5_tripsOn_15 (by decide) ?_
    refine J_irem hx (by decide) dX5_tripsOn_16 ?_
    refine J_if_ne hx dX5_tripsOn_17 34 (by decide) (fun c22 => ?_) (fun c22 => ?_)
    · have h := Ho_f c22 h
      refine J_sub (lv' := [(0, .ref (ad 63)), (1, .ref (ad v1)), (2, .int v2), (3, .int x2)]) hx [1, 2, 3, 0] rfl ?_
      exact s_X5_tripsOn_j34 hx hQ (congrArg Prod.fst (k_shA hv1)) h
    · have h := Ho_t c22 h
      refine J_aload_n hx dX5_tripsOn_20 2 rfl ?_
      refine J_bipush (v := (19 : Int32)) hx dX5_tripsOn_21 (by decide) ?_
      refine J_iload_n hx dX5_tripsOn_23 3 rfl ?_
      refine J_iadd hx dX5_tripsOn_24 ?_
      refine J_aload_n hx dX5_tripsOn_25 2 rfl ?_
      refine J_iconst (v := (5 : Int32)) hx dX5_tripsOn_26 (by decide) ?_
      refine J_iload_n hx dX5_tripsOn_27 3 rfl ?_
      refine J_iadd hx dX5_tripsOn_28 ?_
      obtain ⟨b23, h⟩ := Ho_gd h
      refine J_iald hx (k_shA hv1) b23 dX5_tripsOn_29 ?_
      refine J_iconst (v := (1 : Int32)) hx dX5_tripsOn_30 (by decide) ?_
      refine J_isub hx dX5_tripsOn_31 ?_
      obtain ⟨b24, h⟩ := Ho_gd h
      obtain ⟨I25, hI25, h⟩ := Ho_let h
      refine J_iast hx (k_shA hv1) b24 dX5_tripsOn_32 hI25 ?_
      have h := Ho_some h
      exact J_vret hx hQ dX5_tripsOn_33 h
abbrev kr_X5_hasFault (P : Option Value → StI → StL → Prop) (L : StL) : StI → Prop := fun t => P none t L
def f_X5_hasFault (v1 : Nat) (v2 : Int32) (I : StI) : Option (StI) :=
  k_gd ((12 : Int32) + v2) (k_sh v1).2 ((if (I v1 ((12 : Int32) + v2).toNatClampNeg) = (2 : Int32) then Option.bind (f_X5_tripsOn v1 v2 I) (fun t11 => some (t11)) else k_gd ((19 : Int32) + v2) (k_sh v1).2 (k_gd ((19 : Int32) + v2) (k_sh v1).2 (k_let (k_up I v1 ((19 : Int32) + v2).toNatClampNeg ((I v1 ((19 : Int32) + v2).toNatClampNeg) + (1 : Int32))) (fun I5 => k_gd ((19 : Int32) + v2) (k_sh v1).2 (k_gd ((5 : Int32) + v2) (k_sh v1).2 ((if (I5 v1 ((19 : Int32) + v2).toNatClampNeg) < (I5 v1 ((5 : Int32) + v2).toNatClampNeg) then some (I5) else Option.bind (f_X5_tripsOn v1 v2 I5) (fun t9 => some (t9))))))))))
set_option maxRecDepth 100000 in
set_option maxHeartbeats 4000000 in
theorem s_X5_hasFault {l : Launch} {ad : Nat → Nat} {P : Option Value → StI → StL → Prop} {I : StI} {L : StL} {v1 : Nat} {v2 : Int32} (hv1 : (k_sh v1).1 = 10) (h : Ho (f_X5_hasFault v1 v2 I) (kr_X5_hasFault P L)) : k_Met l ad 2 yX5_hasFault cX5_hasFault 3 none [.ref (ad 63), .ref (ad v1), .int v2] I L P := by
  refine k_enter (by decide +kernel) (Nat.le_of_ble_eq_true rfl) (fun X hl hx hQ => ?_)
  clear hl
  have hx : Ok X cX5_hasFault RX5 3 none 2 := hx
  show J X ad 3 I L 0 [(0, .ref (ad 63)), (1, .ref (ad v1)), (2, .int v2)] []
  unfold f_X5_hasFault at h
  refine J_aload_n hx dX5_hasFault_0 1 rfl ?_
  refine J_bipush (v := (12 : Int32)) hx dX5_hasFault_1 (by decide) ?_
  refine J_iload_n hx dX5_hasFault_3 2 rfl ?_
  refine J_iadd hx dX5_hasFault_4 ?_
  obtain ⟨b1, h⟩ := Ho_gd h
  refine J_iald hx (k_shA hv1) b1 dX5_hasFault_5 ?_
  refine J_iconst (v := (2 : Int32)) hx dX5_hasFault_6 (by decide) ?_
  refine J_ic_ne hx dX5_hasFault_7 19 (by decide) (fun c2 => ?_) (fun c2 => ?_)
  · have h := Ho_f c2 h
    refine J_aload_n hx dX5_hasFault_19 1 rfl ?_
    refine J_bipush (v := (19 : Int32)) hx dX5_hasFault_20 (by decide) ?_
    refine J_iload_n hx dX5_hasFault_22 2 rfl ?_
    refine J_iadd hx dX5_hasFault_23 ?_
    refine J_dup2 hx dX5_hasFault_24 rfl rfl ?_
    obtain ⟨b3, h⟩ := Ho_gd h
    refine J_iald hx (k_shA hv1) b3 dX5_hasFault_25 ?_
    refine J_iconst (v := (1 : Int32)) hx dX5_hasFault_26 (by decide) ?_
    refine J_iadd hx dX5_hasFault_27 ?_
    obtain ⟨b4, h⟩ := Ho_gd h
    obtain ⟨I5, hI5, h⟩ := Ho_let h
    refine J_iast hx (k_shA hv1) b4 dX5_hasFault_28 hI5 ?_
    refine J_aload_n hx dX5_hasFault_29 1 rfl ?_
    refine J_bipush (v := (19 : Int32)) hx dX5_hasFault_30 (by decide) ?_
    refine J_iload_n hx dX5_hasFault_32 2 rfl ?_
    refine J_iadd hx dX5_hasFault_33 ?_
    obtain ⟨b6, h⟩ := Ho_gd h
    refine J_iald hx (k_shA hv1) b6 dX5_hasFault_34 ?_
    refine J_aload_n hx dX5_hasFault_35 1 rfl ?_
    refine J_iconst (v := (5 : Int32)) hx dX5_hasFault_36 (by decide) ?_
    refine J_iload_n hx dX5_hasFault_37 2 rfl ?_
    refine J_iadd hx dX5_hasFault_38 ?_
    obtain ⟨b7, h⟩ := Ho_gd h
    refine J_iald hx (k_shA hv1) b7 dX5_hasFault_39 ?_
    refine J_ic_lt hx dX5_hasFault_40 49 (by decide) (fun c8 => ?_) (fun c8 => ?_)
    · have h := Ho_t c8 h
      have h := Ho_some h
      exact J_vret hx hQ dX5_hasFault_49 h
    · have h := Ho_f c8 h
      refine J_aload_n hx dX5_hasFault_43 0 rfl ?_
      refine J_aload_n hx dX5_hasFault_44 1 rfl ?_
      refine J_iload_n hx dX5_hasFault_45 2 rfl ?_
      obtain ⟨t9, e10, h⟩ := Ho_bind h
      refine J_callVv hx lkV_RX5_135 (rfl : k_sh 63 = (5, k_N 5)) [.ref (ad v1), .int v2] [] rfl rfl (Nat.le_of_ble_eq_true rfl) (Nat.le_of_ble_eq_true rfl) (s_X5_tripsOn (congrArg Prod.fst (k_shA hv1)) ⟨t9, e10, ⟨rfl, rfl, rfl⟩⟩) dX5_hasFault_46 ?_
      have h := Ho_some h
      exact J_vret hx hQ dX5_hasFault_49 h
  · have h := Ho_t c2 h
    refine J_aload_n hx dX5_hasFault_10 0 rfl ?_
    refine J_aload_n hx dX5_hasFault_11 1 rfl ?_
    refine J_iload_n hx dX5_hasFault_12 2 rfl ?_
    obtain ⟨t11, e12, h⟩ := Ho_bind h
    refine J_callVv hx lkV_RX5_135 (rfl : k_sh 63 = (5, k_N 5)) [.ref (ad v1), .int v2] [] rfl rfl (Nat.le_of_ble_eq_true rfl) (Nat.le_of_ble_eq_true rfl) (s_X5_tripsOn (congrArg Prod.fst (k_shA hv1)) ⟨t11, e12, ⟨rfl, rfl, rfl⟩⟩) dX5_hasFault_13 ?_
    refine J_goto hx dX5_hasFault_16 49 (by decide) ?_
    have h := Ho_some h
    exact J_vret hx hQ dX5_hasFault_49 h
abbrev kr_X5_isAtRest (P : Option Value → StI → StL → Prop) (L : StL) : StI → Prop := fun t => P none t L
def f_X5_isAtRest_j49 (v1 : Nat) (v2 : Int32) (v3 : Int32) (s0 : Nat) (s1 : Int32) (s2 : Int32) (I : StI) : Option (StI) :=
  k_gd s1 (k_sh s0).2 (k_let (k_up I s0 s1.toNatClampNeg s2) (fun I10 => (if v3 = 0 then k_gd ((19 : Int32) + v2) (k_sh v1).2 (k_let (k_up I10 v1 ((19 : Int32) + v2).toNatClampNeg (0 : Int32)) (fun I13 => some (I13))) else k_gd ((5 : Int32) + v2) (k_sh v1).2 (k_gd ((19 : Int32) + v2) (k_sh v1).2 (k_let (k_up I10 v1 ((19 : Int32) + v2).toNatClampNeg ((I10 v1 ((5 : Int32) + v2).toNatClampNeg) - (1 : Int32))) (fun I16 => some (I16)))))))
set_option maxRecDepth 100000 in
set_option maxHeartbeats 4000000 in
theorem s_X5_isAtRest_j49 {X : k_C} {ad : Nat → Nat} {P : Option Value → StI → StL → Prop} {I : StI} {L : StL} (hx : Ok X cX5_isAtRest RX5 4 none 1) (hQ : OkQ X ad P)  {v1 : Nat} {v2 : Int32} {v3 : Int32} {s0 : Nat} {s1 : Int32} {s2 : Int32} (hv1 : (k_sh v1).1 = 10) (hs0 : (k_sh s0).1 = 10) (h : Ho (f_X5_isAtRest_j49 v1 v2 v3 s0 s1 s2 I) (kr_X5_isAtRest P L)) : J X ad 4 I L 49 [(1, .ref (ad v1)), (2, .int v2), (3, .int v3)] [.int s2, .int s1, .ref (ad s0)] := by
  unfold f_X5_isAtRest_j49 at h
  obtain ⟨b9, h⟩ := Ho_gd h
  obtain ⟨I10, hI10, h⟩ := Ho_let h
  refine J_iast hx (k_shA hs0) b9 dX5_isAtRest_49 hI10 ?_
  refine J_aload_n hx dX5_isAtRest_50 0 rfl ?_
  refine J_bipush (v := (19 : Int32)) hx dX5_isAtRest_51 (by decide) ?_
  refine J_iload_n hx dX5_isAtRest_53 1 rfl ?_
  refine J_iadd hx dX5_isAtRest_54 ?_
  refine J_iload_n hx dX5_isAtRest_55 2 rfl ?_
  refine J_if_eq hx dX5_isAtRest_56 69 (by decide) (fun c11 => ?_) (fun c11 => ?_)
  · have h := Ho_t c11 h
    refine J_iconst (v := (0 : Int32)) hx dX5_isAtRest_69 (by decide) ?_
    obtain ⟨b12, h⟩ := Ho_gd h
    obtain ⟨I13, hI13, h⟩ := Ho_let h
    refine J_iast hx (k_shA hv1) b12 dX5_isAtRest_70 hI13 ?_
    have h := Ho_some h
    exact J_vret hx hQ dX5_isAtRest_71 h
  · have h := Ho_f c11 h
    refine J_aload_n hx dX5_isAtRest_59 0 rfl ?_
    refine J_iconst (v := (5 : Int32)) hx dX5_isAtRest_60 (by decide) ?_
    refine J_iload_n hx dX5_isAtRest_61 1 rfl ?_
    refine J_iadd hx dX5_isAtRest_62 ?_
    obtain ⟨b14, h⟩ := Ho_gd h
    refine J_iald hx (k_shA hv1) b14 dX5_isAtRest_63 ?_
    refine J_iconst (v := (1 : Int32)) hx dX5_isAtRest_64 (by decide) ?_
    refine J_isub hx dX5_isAtRest_65 ?_
    refine J_goto hx dX5_isAtRest_66 70 (by decide) ?_
    obtain ⟨b15, h⟩ := Ho_gd h
    obtain ⟨I16, hI16, h⟩ := Ho_let h
    refine J_iast hx (k_shA hv1) b15 dX5_isAtRest_70 hI16 ?_
    have h := Ho_some h
    exact J_vret hx hQ dX5_isAtRest_71 h
def f_X5_isAtRest_j34 (v1 : Nat) (v2 : Int32) (s0 : Int32) (I : StI) : Option (StI) :=
  (if s0 = 0 then f_X5_isAtRest_j49 v1 v2 s0 v1 ((12 : Int32) + v2) (2 : Int32) I else f_X5_isAtRest_j49 v1 v2 s0 v1 ((12 : Int32) + v2) (0 : Int32) I)
set_option maxRecDepth 100000 in
set_option maxHeartbeats 4000000 in
theorem s_X5_isAtRest_j34 {X : k_C} {ad : Nat → Nat} {P : Option Value → StI → StL → Prop} {I : StI} {L : StL} (hx : Ok X cX5_isAtRest RX5 4 none 1) (hQ : OkQ X ad P)  {v1 : Nat} {v2 : Int32} {s0 : Int32} (hv1 : (k_sh v1).1 = 10) (h : Ho (f_X5_isAtRest_j34 v1 v2 s0 I) (kr_X5_isAtRest P L)) : J X ad 4 I L 34 [(1, .ref (ad v1)), (2, .int v2)] [.int s0] := by
  unfold f_X5_isAtRest_j34 at h
  refine J_istore_n (x := s0) (lv' := [(3, .int s0), (1, .ref (ad v1)), (2, .int v2)]) hx dX5_isAtRest_34 rfl (by decide) rfl ?_
  refine J_aload_n hx dX5_isAtRest_35 1 rfl ?_
  refine J_bipush (v := (12 : Int32)) hx dX5_isAtRest_36 (by decide) ?_
  refine J_iload_n hx dX5_isAtRest_38 2 rfl ?_
  refine J_iadd hx dX5_isAtRest_39 ?_
  refine J_iload_n hx dX5_isAtRest_40 0 rfl ?_
  refine J_if_eq hx dX5_isAtRest_41 48 (by decide) (fun c8 => ?_) (fun c8 => ?_)
  · have h := Ho_t c8 h
    refine J_iconst (v := (2 : Int32)) hx dX5_isAtRest_48 (by decide) ?_
    refine J_sub (lv' := [(1, .ref (ad v1)), (2, .int v2), (3, .int s0)]) hx [1, 2, 0] rfl ?_
    exact s_X5_isAtRest_j49 hx hQ (congrArg Prod.fst (k_shA hv1)) (congrArg Prod.fst (k_shA hv1)) h
  · have h := Ho_f c8 h
    refine J_iconst (v := (0 : Int32)) hx dX5_isAtRest_44 (by decide) ?_
    refine J_goto hx dX5_isAtRest_45 49 (by decide) ?_
    refine J_sub (lv' := [(1, .ref (ad v1)), (2, .int v2), (3, .int s0)]) hx [1, 2, 0] rfl ?_
    exact s_X5_isAtRest_j49 hx hQ (congrArg Prod.fst (k_shA hv1)) (congrArg Prod.fst (k_shA hv1)) h
def f_X5_isAtRest (v1 : Nat) (v2 : Int32) (I : StI) : Option (StI) :=
  k_gd ((26 : Int32) + v2) (k_sh v1).2 (k_gd ((26 : Int32) + v2) (k_sh v1).2 (k_let (k_up I v1 ((26 : Int32) + v2).toNatClampNeg ((I v1 ((26 : Int32) + v2).toNatClampNeg) - (1 : Int32))) (fun I3 => k_gd ((26 : Int32) + v2) (k_sh v1).2 ((if (I3 v1 ((26 : Int32) + v2).toNatClampNeg) = 0 then k_gd v2 7 ((if (I3 72 v2.toNatClampNeg) = (3 : Int32) then f_X5_isAtRest_j34 v1 v2 (1 : Int32) I3 else f_X5_isAtRest_j34 v1 v2 (0 : Int32) I3)) else some (I3))))))
set_option maxRecDepth 100000 in
set_option maxHeartbeats 4000000 in
theorem s_X5_isAtRest {l : Launch} {ad : Nat → Nat} {P : Option Value → StI → StL → Prop} {I : StI} {L : StL} {v1 : Nat} {v2 : Int32} (hv1 : (k_sh v1).1 = 10) (h : Ho (f_X5_isAtRest v1 v2 I) (kr_X5_isAtRest P L)) : k_Met l ad 1 yX5_isAtRest cX5_isAtRest 4 none [.ref (ad 63), .ref (ad v1), .int v2] I L P := by
  refine k_enter (by decide +kernel) (Nat.le_of_ble_eq_true rfl) (fun X hl hx hQ => ?_)
  clear hl
  have hx : Ok X cX5_isAtRest RX5 4 none 1 := hx
  show J X ad 4 I L 0 [(0, .ref (ad 63)), (1, .ref (ad v1)), (2, .int v2)] []
  unfold f_X5_isAtRest at h
  refine J_aload_n hx dX5_isAtRest_0 1 rfl ?_
  refine J_bipush (v := (26 : Int32)) hx dX5_isAtRest_1 (by decide) ?_
  refine J_iload_n hx dX5_isAtRest_3 2 rfl ?_
  refine J_iadd hx dX5_isAtRest_4 ?_
  refine J_dup2 hx dX5_isAtRest_5 rfl rfl ?_
  obtain ⟨b1, h⟩ := Ho_gd h
  refine J_iald hx (k_shA hv1) b1 dX5_isAtRest_6 ?_
  refine J_iconst (v := (1 : Int32)) hx dX5_isAtRest_7 (by decide) ?_
  refine J_isub hx dX5_isAtRest_8 ?_
  obtain ⟨b2, h⟩ := Ho_gd h
  obtain ⟨I3, hI3, h⟩ := Ho_let h
  refine J_iast hx (k_shA hv1) b2 dX5_isAtRest_9 hI3 ?_
  refine J_aload_n hx dX5_isAtRest_10 1 rfl ?_
  refine J_bipush (v := (26 : Int32)) hx dX5_isAtRest_11 (by decide) ?_
  refine J_iload_n hx dX5_isAtRest_13 2 rfl ?_
  refine J_iadd hx dX5_isAtRest_14 ?_
  obtain ⟨b4, h⟩ := Ho_gd h
  refine J_iald hx (k_shA hv1) b4 dX5_isAtRest_15 ?_
  refine J_if_ne hx dX5_isAtRest_16 71 (by decide) (fun c5 => ?_) (fun c5 => ?_)
  · have h := Ho_f c5 h
    have h := Ho_some h
    exact J_vret hx hQ dX5_isAtRest_71 h
  · have h := Ho_t c5 h
    refine J_aload_n hx dX5_isAtRest_19 0 rfl ?_
    refine J_getR (q := 72) hx fl_RX5_34 (rfl : k_sh 63 = (5, k_N 5)) rfl rfl dX5_isAtRest_20 ?_
    refine J_iload_n hx dX5_isAtRest_23 2 rfl ?_
    obtain ⟨b6, h⟩ := Ho_gd h
    refine J_iald hx (rfl : k_sh 72 = (10, 7)) b6 dX5_isAtRest_24 ?_
    refine J_iconst (v := (3 : Int32)) hx dX5_isAtRest_25 (by decide) ?_
    refine J_ic_ne hx dX5_isAtRest_26 33 (by decide) (fun c7 => ?_) (fun c7 => ?_)
    · have h := Ho_f c7 h
      refine J_iconst (v := (0 : Int32)) hx dX5_isAtRest_33 (by decide) ?_
      refine J_sub (lv' := [(1, .ref (ad v1)), (2, .int v2)]) hx [1, 2] rfl ?_
      exact s_X5_isAtRest_j34 hx hQ (congrArg Prod.fst (k_shA hv1)) h
    · have h := Ho_t c7 h
      refine J_iconst (v := (1 : Int32)) hx dX5_isAtRest_29 (by decide) ?_
      refine J_goto hx dX5_isAtRest_30 34 (by decide) ?_
      refine J_sub (lv' := [(1, .ref (ad v1)), (2, .int v2)]) hx [1, 2] rfl ?_
      exact s_X5_isAtRest_j34 hx hQ (congrArg Prod.fst (k_shA hv1)) h
abbrev kr_X5_goes (P : Option Value → StI → StL → Prop) (L : StL) : Int32 × StI → Prop := fun t => P (some (.int t.1)) t.2 L
abbrev g_X5_goes_L43 (X : k_C) (ad : Nat → Nat) (L : StL) (v1 : Nat) (v2 : Int32) (v4 : Int32) (v5 : Int32) : (Int32 × StI) → Prop := fun s => J X ad 7 s.2 L 43 [(0, .ref (ad 63)), (1, .ref (ad v1)), (2, .int v2), (4, .int v4), (5, .int v5), (6, .int s.1)] []
def f_X5_goes_j141 (v1 : Nat) (v4 : Int32) (s0 : Nat) (s1 : Int32) (I : StI) : Option (Int32 × StI) :=
  k_gd s1 (k_sh s0).2 (Option.bind (f_X5_bits v4) (fun t9 => k_gd s1 (k_sh s0).2 (k_let (k_up I s0 s1.toNatClampNeg ((I s0 s1.toNatClampNeg) + t9)) (fun I12 => k_gd (0 : Int32) (k_sh v1).2 (k_gd (0 : Int32) (k_sh v1).2 (k_let (k_up I12 v1 (0 : Int32).toNatClampNeg ((I12 v1 (0 : Int32).toNatClampNeg) + (1 : Int32))) (fun I15 => Option.bind (f_X5_bits (I15 63 23)) (fun t16 => some (t16, I15)))))))))
set_option maxRecDepth 100000 in
set_option maxHeartbeats 4000000 in
theorem s_X5_goes_j141 {X : k_C} {ad : Nat → Nat} {P : Option Value → StI → StL → Prop} {I : StI} {L : StL} (hx : Ok X cX5_goes RX5 7 (some .int) 3) (hQ : OkQ X ad P)  {v1 : Nat} {v4 : Int32} {s0 : Nat} {s1 : Int32} (hv1 : (k_sh v1).1 = 10) (hs0 : (k_sh s0).1 = 10) (h : Ho (f_X5_goes_j141 v1 v4 s0 s1 I) (kr_X5_goes P L)) : J X ad 7 I L 141 [(0, .ref (ad 63)), (1, .ref (ad v1)), (4, .int v4)] [.int s1, .ref (ad s0)] := by
  unfold f_X5_goes_j141 at h
  refine J_dup2 hx dX5_goes_141 rfl rfl ?_
  obtain ⟨b8, h⟩ := Ho_gd h
  refine J_iald hx (k_shA hs0) b8 dX5_goes_142 ?_
  refine J_iload hx dX5_goes_143 2 rfl ?_
  obtain ⟨t9, e10, h⟩ := Ho_bind h
  refine J_callSi hx lkS_RX5_146 [.int v4] [.int (I s0 s1.toNatClampNeg), .int s1, .ref (ad s0)] rfl rfl (Nat.le_of_ble_eq_true rfl) (Nat.le_of_ble_eq_true rfl) (s_X5_bits  ⟨t9, e10, ⟨rfl, rfl, rfl⟩⟩) dX5_goes_145 ?_
  refine J_iadd hx dX5_goes_148 ?_
  obtain ⟨b11, h⟩ := Ho_gd h
  obtain ⟨I12, hI12, h⟩ := Ho_let h
  refine J_iast hx (k_shA hs0) b11 dX5_goes_149 hI12 ?_
  refine J_aload_n hx dX5_goes_150 1 rfl ?_
  refine J_iconst (v := (0 : Int32)) hx dX5_goes_151 (by decide) ?_
  refine J_dup2 hx dX5_goes_152 rfl rfl ?_
  obtain ⟨b13, h⟩ := Ho_gd h
  refine J_iald hx (k_shA hv1) b13 dX5_goes_153 ?_
  refine J_iconst (v := (1 : Int32)) hx dX5_goes_154 (by decide) ?_
  refine J_iadd hx dX5_goes_155 ?_
  obtain ⟨b14, h⟩ := Ho_gd h
  obtain ⟨I15, hI15, h⟩ := Ho_let h
  refine J_iast hx (k_shA hv1) b14 dX5_goes_156 hI15 ?_
  refine J_aload_n hx dX5_goes_157 0 rfl ?_
  refine J_getI hx fl_RX5_132 (rfl : k_sh 63 = (5, k_N 5)) rfl dX5_goes_158 ?_
  obtain ⟨t16, e17, h⟩ := Ho_bind h
  refine J_callSi hx lkS_RX5_146 [.int (I15 63 23)] [] rfl rfl (Nat.le_of_ble_eq_true rfl) (Nat.le_of_ble_eq_true rfl) (s_X5_bits  ⟨t16, e17, ⟨rfl, rfl, rfl⟩⟩) dX5_goes_161 ?_
  have h := Ho_some h
  exact J_iret hx hQ dX5_goes_164 h
def f_X5_goes_j77 (v1 : Nat) (v2 : Int32) (v4 : Int32) (v5 : Int32) (v6 : Int32) (I : StI) : Option ((Int32 × StI) ⊕ (Int32 × StI)) :=
  Option.bind (f_X5_has v4 v6) (fun t21 => (if t21 = 0 then k_gd ((12 : Int32) + v6) (k_sh v1).2 ((if (I v1 ((12 : Int32) + v6).toNatClampNeg) = (1 : Int32) then Option.bind (f_X5_has v2 v6) (fun t27 => (if t27 = 0 then Option.bind (f_X5_isAtRest v1 v6 I) (fun t31 => k_let (v6 + (1 : Int32)) (fun x33 => some (.inl (x33, t31)))) else k_let (v6 + (1 : Int32)) (fun x30 => some (.inl (x30, I))))) else k_let (v6 + (1 : Int32)) (fun x26 => some (.inl (x26, I))))) else Option.bind (f_X5_hasFault v1 v6 I) (fun t34 => k_let (v6 + (1 : Int32)) (fun x36 => some (.inl (x36, t34))))))
set_option maxRecDepth 100000 in
set_option maxHeartbeats 4000000 in
theorem s_X5_goes_j77 {X : k_C} {ad : Nat → Nat} {P : Option Value → StI → StL → Prop} {I : StI} {L : StL} (hx : Ok X cX5_goes RX5 7 (some .int) 3) (hQ : OkQ X ad P)  {v1 : Nat} {v2 : Int32} {v4 : Int32} {v5 : Int32} {v6 : Int32} (hv1 : (k_sh v1).1 = 10) (h : Ho (f_X5_goes_j77 v1 v2 v4 v5 v6 I) (Sum.elim (g_X5_goes_L43 X ad L v1 v2 v4 v5) (kr_X5_goes P L))) : J X ad 7 I L 77 [(0, .ref (ad 63)), (1, .ref (ad v1)), (2, .int v2), (4, .int v4), (5, .int v5), (6, .int v6)] [] := by
  unfold f_X5_goes_j77 at h
  refine J_iload hx dX5_goes_77 3 rfl ?_
  refine J_iload hx dX5_goes_79 5 rfl ?_
  obtain ⟨t21, e22, h⟩ := Ho_bind h
  refine J_callSi hx lkS_RX5_139 [.int v4, .int v6] [] rfl rfl (Nat.le_of_ble_eq_true rfl) (Nat.le_of_ble_eq_true rfl) (s_X5_has  ⟨t21, e22, ⟨rfl, rfl, rfl⟩⟩) dX5_goes_81 ?_
  refine J_if_eq hx dX5_goes_84 97 (by decide) (fun c23 => ?_) (fun c23 => ?_)
  · have h := Ho_t c23 h
    refine J_aload_n hx dX5_goes_97 1 rfl ?_
    refine J_bipush (v := (12 : Int32)) hx dX5_goes_98 (by decide) ?_
    refine J_iload hx dX5_goes_100 5 rfl ?_
    refine J_iadd hx dX5_goes_102 ?_
    obtain ⟨b24, h⟩ := Ho_gd h
    refine J_iald hx (k_shA hv1) b24 dX5_goes_103 ?_
    refine J_iconst (v := (1 : Int32)) hx dX5_goes_104 (by decide) ?_
    refine J_ic_ne hx dX5_goes_105 124 (by decide) (fun c25 => ?_) (fun c25 => ?_)
    · have h := Ho_f c25 h
      obtain ⟨x26, hx26, h⟩ := Ho_let h
      refine J_iinc (x := x26) (lv' := [(6, .int x26), (0, .ref (ad 63)), (1, .ref (ad v1)), (2, .int v2), (4, .int v4), (5, .int v5)]) hx dX5_goes_124 5 rfl (by rw [hx26]; rfl) (by decide) rfl ?_
      refine J_goto hx dX5_goes_127 43 (by decide) ?_
      refine J_sub (lv' := [(0, .ref (ad 63)), (1, .ref (ad v1)), (2, .int v2), (4, .int v4), (5, .int v5), (6, .int x26)]) hx [1, 2, 3, 4, 5, 0] rfl ?_
      have h := Ho_some h
      exact h
    · have h := Ho_t c25 h
      refine J_iload_n hx dX5_goes_108 2 rfl ?_
      refine J_iload hx dX5_goes_109 5 rfl ?_
      obtain ⟨t27, e28, h⟩ := Ho_bind h
      refine J_callSi hx lkS_RX5_139 [.int v2, .int v6] [] rfl rfl (Nat.le_of_ble_eq_true rfl) (Nat.le_of_ble_eq_true rfl) (s_X5_has  ⟨t27, e28, ⟨rfl, rfl, rfl⟩⟩) dX5_goes_111 ?_
      refine J_if_ne hx dX5_goes_114 124 (by decide) (fun c29 => ?_) (fun c29 => ?_)
      · have h := Ho_f c29 h
        obtain ⟨x30, hx30, h⟩ := Ho_let h
        refine J_iinc (x := x30) (lv' := [(6, .int x30), (0, .ref (ad 63)), (1, .ref (ad v1)), (2, .int v2), (4, .int v4), (5, .int v5)]) hx dX5_goes_124 5 rfl (by rw [hx30]; rfl) (by decide) rfl ?_
        refine J_goto hx dX5_goes_127 43 (by decide) ?_
        refine J_sub (lv' := [(0, .ref (ad 63)), (1, .ref (ad v1)), (2, .int v2), (4, .int v4), (5, .int v5), (6, .int x30)]) hx [1, 2, 3, 4, 5, 0] rfl ?_
        have h := Ho_some h
        exact h
      · have h := Ho_t c29 h
        refine J_aload_n hx dX5_goes_117 0 rfl ?_
        refine J_aload_n hx dX5_goes_118 1 rfl ?_
        refine J_iload hx dX5_goes_119 5 rfl ?_
        obtain ⟨t31, e32, h⟩ := Ho_bind h
        refine J_callVv hx lkV_RX5_155 (rfl : k_sh 63 = (5, k_N 5)) [.ref (ad v1), .int v6] [] rfl rfl (Nat.le_of_ble_eq_true rfl) (Nat.le_of_ble_eq_true rfl) (s_X5_isAtRest (congrArg Prod.fst (k_shA hv1)) ⟨t31, e32, ⟨rfl, rfl, rfl⟩⟩) dX5_goes_121 ?_
        obtain ⟨x33, hx33, h⟩ := Ho_let h
        refine J_iinc (x := x33) (lv' := [(6, .int x33), (0, .ref (ad 63)), (1, .ref (ad v1)), (2, .int v2), (4, .int v4), (5, .int v5)]) hx dX5_goes_124 5 rfl (by rw [hx33]; rfl) (by decide) rfl ?_
        refine J_goto hx dX5_goes_127 43 (by decide) ?_
        refine J_sub (lv' := [(0, .ref (ad 63)), (1, .ref (ad v1)), (2, .int v2), (4, .int v4), (5, .int v5), (6, .int x33)]) hx [1, 2, 3, 4, 5, 0] rfl ?_
        have h := Ho_some h
        exact h
  · have h := Ho_f c23 h
    refine J_aload_n hx dX5_goes_87 0 rfl ?_
    refine J_aload_n hx dX5_goes_88 1 rfl ?_
    refine J_iload hx dX5_goes_89 5 rfl ?_
    obtain ⟨t34, e35, h⟩ := Ho_bind h
    refine J_callVv hx lkV_RX5_152 (rfl : k_sh 63 = (5, k_N 5)) [.ref (ad v1), .int v6] [] rfl rfl (Nat.le_of_ble_eq_true rfl) (Nat.le_of_ble_eq_true rfl) (s_X5_hasFault (congrArg Prod.fst (k_shA hv1)) ⟨t34, e35, ⟨rfl, rfl, rfl⟩⟩) dX5_goes_91 ?_
    refine J_goto hx dX5_goes_94 124 (by decide) ?_
    obtain ⟨x36, hx36, h⟩ := Ho_let h
    refine J_iinc (x := x36) (lv' := [(6, .int x36), (0, .ref (ad 63)), (1, .ref (ad v1)), (2, .int v2), (4, .int v4), (5, .int v5)]) hx dX5_goes_124 5 rfl (by rw [hx36]; rfl) (by decide) rfl ?_
    refine J_goto hx dX5_goes_127 43 (by decide) ?_
    refine J_sub (lv' := [(0, .ref (ad 63)), (1, .ref (ad v1)), (2, .int v2), (4, .int v4), (5, .int v5), (6, .int x36)]) hx [1, 2, 3, 4, 5, 0] rfl ?_
    have h := Ho_some h
    exact h
def f_X5_goes_L43_b (v1 : Nat) (v2 : Int32) (v4 : Int32) (v5 : Int32) (v6 : Int32) (I : StI) : Option ((Int32 × StI) ⊕ (Int32 × StI)) :=
  (if (I 63 4) ≤ v6 then (if v5 = 0 then Option.map Sum.inr (f_X5_goes_j141 v1 v4 v1 (2 : Int32) I) else Option.map Sum.inr (f_X5_goes_j141 v1 v4 v1 (1 : Int32) I)) else Option.bind (f_X5_has v4 v6) (fun t18 => (if t18 = 0 then f_X5_goes_j77 v1 v2 v4 v5 v6 I else (if v5 = 0 then f_X5_goes_j77 v1 v2 v4 v5 v6 I else Option.bind (f_X5_isAnswered v1 v6 I) (fun t38 => k_let (v6 + (1 : Int32)) (fun x40 => some (.inl (x40, t38))))))))
def f_X5_goes_L43 (v1 : Nat) (v2 : Int32) (v4 : Int32) (v5 : Int32) (n : Nat) (v6 : Int32) (I : StI) : Option (Int32 × StI) :=
  k_loop (fun s => f_X5_goes_L43_b v1 v2 v4 v5 s.1 s.2) n (v6, I)
set_option maxRecDepth 100000 in
set_option maxHeartbeats 4000000 in
theorem s_X5_goes_L43_b {X : k_C} {ad : Nat → Nat} {P : Option Value → StI → StL → Prop} {I : StI} {L : StL} (hx : Ok X cX5_goes RX5 7 (some .int) 3) (hQ : OkQ X ad P)  {v1 : Nat} {v2 : Int32} {v4 : Int32} {v5 : Int32} {v6 : Int32} (hv1 : (k_sh v1).1 = 10) (h : Ho (f_X5_goes_L43_b v1 v2 v4 v5 v6 I) (Sum.elim (g_X5_goes_L43 X ad L v1 v2 v4 v5) (kr_X5_goes P L))) : J X ad 7 I L 43 [(0, .ref (ad 63)), (1, .ref (ad v1)), (2, .int v2), (4, .int v4), (5, .int v5), (6, .int v6)] [] := by
  unfold f_X5_goes_L43_b at h
  refine J_iload hx dX5_goes_43 5 rfl ?_
  refine J_aload_n hx dX5_goes_45 0 rfl ?_
  refine J_getI hx fl_RX5_115 (rfl : k_sh 63 = (5, k_N 5)) rfl dX5_goes_46 ?_
  refine J_ic_ge hx dX5_goes_49 130 (by decide) (fun c6 => ?_) (fun c6 => ?_)
  · have h := Ho_t c6 h
    refine J_aload_n hx dX5_goes_130 1 rfl ?_
    refine J_iload hx dX5_goes_131 4 rfl ?_
    refine J_if_eq hx dX5_goes_133 140 (by decide) (fun c7 => ?_) (fun c7 => ?_)
    · have h := Ho_t c7 h
      refine J_iconst (v := (2 : Int32)) hx dX5_goes_140 (by decide) ?_
      refine J_sub (lv' := [(0, .ref (ad 63)), (1, .ref (ad v1)), (4, .int v4)]) hx [0, 1, 3] rfl ?_
      have h := Ho_map h
      exact s_X5_goes_j141 hx hQ (congrArg Prod.fst (k_shA hv1)) (congrArg Prod.fst (k_shA hv1)) h
    · have h := Ho_f c7 h
      refine J_iconst (v := (1 : Int32)) hx dX5_goes_136 (by decide) ?_
      refine J_goto hx dX5_goes_137 141 (by decide) ?_
      refine J_sub (lv' := [(0, .ref (ad 63)), (1, .ref (ad v1)), (4, .int v4)]) hx [0, 1, 3] rfl ?_
      have h := Ho_map h
      exact s_X5_goes_j141 hx hQ (congrArg Prod.fst (k_shA hv1)) (congrArg Prod.fst (k_shA hv1)) h
  · have h := Ho_f c6 h
    refine J_iload hx dX5_goes_52 3 rfl ?_
    refine J_iload hx dX5_goes_54 5 rfl ?_
    obtain ⟨t18, e19, h⟩ := Ho_bind h
    refine J_callSi hx lkS_RX5_139 [.int v4, .int v6] [] rfl rfl (Nat.le_of_ble_eq_true rfl) (Nat.le_of_ble_eq_true rfl) (s_X5_has  ⟨t18, e19, ⟨rfl, rfl, rfl⟩⟩) dX5_goes_56 ?_
    refine J_if_eq hx dX5_goes_59 77 (by decide) (fun c20 => ?_) (fun c20 => ?_)
    · have h := Ho_t c20 h
      refine J_sub (lv' := [(0, .ref (ad 63)), (1, .ref (ad v1)), (2, .int v2), (4, .int v4), (5, .int v5), (6, .int v6)]) hx [0, 1, 2, 3, 4, 5] rfl ?_
      exact s_X5_goes_j77 hx hQ (congrArg Prod.fst (k_shA hv1)) h
    · have h := Ho_f c20 h
      refine J_iload hx dX5_goes_62 4 rfl ?_
      refine J_if_eq hx dX5_goes_64 77 (by decide) (fun c37 => ?_) (fun c37 => ?_)
      · have h := Ho_t c37 h
        refine J_sub (lv' := [(0, .ref (ad 63)), (1, .ref (ad v1)), (2, .int v2), (4, .int v4), (5, .int v5), (6, .int v6)]) hx [0, 1, 2, 3, 4, 5] rfl ?_
        exact s_X5_goes_j77 hx hQ (congrArg Prod.fst (k_shA hv1)) h
      · have h := Ho_f c37 h
        refine J_aload_n hx dX5_goes_67 0 rfl ?_
        refine J_aload_n hx dX5_goes_68 1 rfl ?_
        refine J_iload hx dX5_goes_69 5 rfl ?_
        obtain ⟨t38, e39, h⟩ := Ho_bind h
        refine J_callVv hx lkV_RX5_149 (rfl : k_sh 63 = (5, k_N 5)) [.ref (ad v1), .int v6] [] rfl rfl (Nat.le_of_ble_eq_true rfl) (Nat.le_of_ble_eq_true rfl) (s_X5_isAnswered (congrArg Prod.fst (k_shA hv1)) ⟨t38, e39, ⟨rfl, rfl, rfl⟩⟩) dX5_goes_71 ?_
        refine J_goto hx dX5_goes_74 124 (by decide) ?_
        obtain ⟨x40, hx40, h⟩ := Ho_let h
        refine J_iinc (x := x40) (lv' := [(6, .int x40), (0, .ref (ad 63)), (1, .ref (ad v1)), (2, .int v2), (4, .int v4), (5, .int v5)]) hx dX5_goes_124 5 rfl (by rw [hx40]; rfl) (by decide) rfl ?_
        refine J_goto hx dX5_goes_127 43 (by decide) ?_
        refine J_sub (lv' := [(0, .ref (ad 63)), (1, .ref (ad v1)), (2, .int v2), (4, .int v4), (5, .int v5), (6, .int x40)]) hx [1, 2, 3, 4, 5, 0] rfl ?_
        have h := Ho_some h
        exact h
set_option maxRecDepth 100000 in
set_option maxHeartbeats 4000000 in
theorem s_X5_goes_L43 {X : k_C} {ad : Nat → Nat} {P : Option Value → StI → StL → Prop} {I : StI} {L : StL} (hx : Ok X cX5_goes RX5 7 (some .int) 3) (hQ : OkQ X ad P)  {v1 : Nat} {v2 : Int32} {v4 : Int32} {v5 : Int32} {v6 : Int32} (hv1 : (k_sh v1).1 = 10) (n : Nat) (h : Ho (f_X5_goes_L43 v1 v2 v4 v5 n v6 I) (kr_X5_goes P L)) : J X ad 7 I L 43 [(0, .ref (ad 63)), (1, .ref (ad v1)), (2, .int v2), (4, .int v4), (5, .int v5), (6, .int v6)] [] := by
  exact k_loop_ho (G := g_X5_goes_L43 X ad L v1 v2 v4 v5) (fun s hs => s_X5_goes_L43_b hx hQ hv1 hs) n (v6, I) h
def f_X5_goes_j28 (v1 : Nat) (v2 : Int32) (v4 : Int32) (s0 : Int32) (I : StI) : Option (Int32 × StI) :=
  k_let (k_up I 63 23 (0 : Int32)) (fun I4 => k_let (k_up I4 63 24 (0 : Int32)) (fun I5 => f_X5_goes_L43 v1 v2 v4 s0 k_fu (0 : Int32) I5))
set_option maxRecDepth 100000 in
set_option maxHeartbeats 4000000 in
theorem s_X5_goes_j28 {X : k_C} {ad : Nat → Nat} {P : Option Value → StI → StL → Prop} {I : StI} {L : StL} (hx : Ok X cX5_goes RX5 7 (some .int) 3) (hQ : OkQ X ad P)  {v1 : Nat} {v2 : Int32} {v4 : Int32} {s0 : Int32} (hv1 : (k_sh v1).1 = 10) (h : Ho (f_X5_goes_j28 v1 v2 v4 s0 I) (kr_X5_goes P L)) : J X ad 7 I L 28 [(0, .ref (ad 63)), (1, .ref (ad v1)), (2, .int v2), (4, .int v4)] [.int s0] := by
  unfold f_X5_goes_j28 at h
  refine J_istore (x := s0) (lv' := [(5, .int s0), (0, .ref (ad 63)), (1, .ref (ad v1)), (2, .int v2), (4, .int v4)]) hx dX5_goes_28 rfl (by decide) rfl ?_
  refine J_aload_n hx dX5_goes_30 1 rfl ?_
  refine J_iconst (v := (0 : Int32)) hx dX5_goes_31 (by decide) ?_
  obtain ⟨I4, hI4, h⟩ := Ho_let h
  refine J_putI hx flW_RX5_132 (rfl : k_sh 63 = (5, k_N 5)) rfl dX5_goes_32 hI4 ?_
  refine J_aload_n hx dX5_goes_35 1 rfl ?_
  refine J_iconst (v := (0 : Int32)) hx dX5_goes_36 (by decide) ?_
  obtain ⟨I5, hI5, h⟩ := Ho_let h
  refine J_putI hx flW_RX5_129 (rfl : k_sh 63 = (5, k_N 5)) rfl dX5_goes_37 hI5 ?_
  refine J_iconst (v := (0 : Int32)) hx dX5_goes_40 (by decide) ?_
  refine J_istore (x := (0 : Int32)) (lv' := [(6, .int (0 : Int32)), (5, .int s0), (0, .ref (ad 63)), (1, .ref (ad v1)), (2, .int v2), (4, .int v4)]) hx dX5_goes_41 rfl (by decide) rfl ?_
  refine J_sub (lv' := [(0, .ref (ad 63)), (1, .ref (ad v1)), (2, .int v2), (4, .int v4), (5, .int s0), (6, .int (0 : Int32))]) hx [2, 3, 4, 5, 1, 0] rfl ?_
  exact s_X5_goes_L43 hx hQ (congrArg Prod.fst (k_shA hv1)) k_fu h
def f_X5_goes_j27 (v1 : Nat) (v2 : Int32) (v4 : Int32) (I : StI) : Option (Int32 × StI) :=
  f_X5_goes_j28 v1 v2 v4 (0 : Int32) I
set_option maxRecDepth 100000 in
set_option maxHeartbeats 4000000 in
theorem s_X5_goes_j27 {X : k_C} {ad : Nat → Nat} {P : Option Value → StI → StL → Prop} {I : StI} {L : StL} (hx : Ok X cX5_goes RX5 7 (some .int) 3) (hQ : OkQ X ad P)  {v1 : Nat} {v2 : Int32} {v4 : Int32} (hv1 : (k_sh v1).1 = 10) (h : Ho (f_X5_goes_j27 v1 v2 v4 I) (kr_X5_goes P L)) : J X ad 7 I L 27 [(0, .ref (ad 63)), (1, .ref (ad v1)), (2, .int v2), (4, .int v4)] [] := by
  unfold f_X5_goes_j27 at h
  refine J_iconst (v := (0 : Int32)) hx dX5_goes_27 (by decide) ?_
  refine J_sub (lv' := [(0, .ref (ad 63)), (1, .ref (ad v1)), (2, .int v2), (4, .int v4)]) hx [0, 1, 2, 3] rfl ?_
  exact s_X5_goes_j28 hx hQ (congrArg Prod.fst (k_shA hv1)) h
def f_X5_goes (v1 : Nat) (v2 : Int32) (v3 : Int32) (I : StI) : Option (Int32 × StI) :=
  Option.bind (f_X5_whoCalls v1 v2 I) (fun t1 => (if v3 = 0 then f_X5_goes_j27 v1 v2 t1 I else Option.bind (f_X5_bits t1) (fun t41 => k_gd (4 : Int32) (k_sh v1).2 ((if (I v1 (4 : Int32).toNatClampNeg) < t41 then f_X5_goes_j27 v1 v2 t1 I else f_X5_goes_j28 v1 v2 t1 (1 : Int32) I)))))
set_option maxRecDepth 100000 in
set_option maxHeartbeats 4000000 in
theorem s_X5_goes {l : Launch} {ad : Nat → Nat} {P : Option Value → StI → StL → Prop} {I : StI} {L : StL} {v1 : Nat} {v2 : Int32} {v3 : Int32} (hv1 : (k_sh v1).1 = 10) (h : Ho (f_X5_goes v1 v2 v3 I) (kr_X5_goes P L)) : k_Met l ad 3 yX5_goes cX5_goes 7 (some .int) [.ref (ad 63), .ref (ad v1), .int v2, .int v3] I L P := by
  refine k_enter (by decide +kernel) (Nat.le_of_ble_eq_true rfl) (fun X hl hx hQ => ?_)
  clear hl
  have hx : Ok X cX5_goes RX5 7 (some .int) 3 := hx
  show J X ad 7 I L 0 [(0, .ref (ad 63)), (1, .ref (ad v1)), (2, .int v2), (3, .int v3)] []
  unfold f_X5_goes at h
  refine J_aload_n hx dX5_goes_0 0 rfl ?_
  refine J_aload_n hx dX5_goes_1 1 rfl ?_
  refine J_iload_n hx dX5_goes_2 2 rfl ?_
  obtain ⟨t1, e2, h⟩ := Ho_bind h
  refine J_callVi hx lkV_RX5_142 (rfl : k_sh 63 = (5, k_N 5)) [.ref (ad v1), .int v2] [] rfl rfl (Nat.le_of_ble_eq_true rfl) (Nat.le_of_ble_eq_true rfl) (s_X5_whoCalls (congrArg Prod.fst (k_shA hv1)) ⟨t1, e2, ⟨rfl, rfl, rfl⟩⟩) dX5_goes_3 ?_
  refine J_istore (x := t1) (lv' := [(4, .int t1), (0, .ref (ad 63)), (1, .ref (ad v1)), (2, .int v2), (3, .int v3)]) hx dX5_goes_6 rfl (by decide) rfl ?_
  refine J_iload_n hx dX5_goes_8 4 rfl ?_
  refine J_if_eq hx dX5_goes_9 27 (by decide) (fun c3 => ?_) (fun c3 => ?_)
  · have h := Ho_t c3 h
    refine J_sub (lv' := [(0, .ref (ad 63)), (1, .ref (ad v1)), (2, .int v2), (4, .int t1)]) hx [1, 2, 3, 0] rfl ?_
    exact s_X5_goes_j27 hx hQ (congrArg Prod.fst (k_shA hv1)) h
  · have h := Ho_f c3 h
    refine J_iload hx dX5_goes_12 0 rfl ?_
    obtain ⟨t41, e42, h⟩ := Ho_bind h
    refine J_callSi hx lkS_RX5_146 [.int t1] [] rfl rfl (Nat.le_of_ble_eq_true rfl) (Nat.le_of_ble_eq_true rfl) (s_X5_bits  ⟨t41, e42, ⟨rfl, rfl, rfl⟩⟩) dX5_goes_14 ?_
    refine J_aload_n hx dX5_goes_17 2 rfl ?_
    refine J_iconst (v := (4 : Int32)) hx dX5_goes_18 (by decide) ?_
    obtain ⟨b43, h⟩ := Ho_gd h
    refine J_iald hx (k_shA hv1) b43 dX5_goes_19 ?_
    refine J_ic_gt hx dX5_goes_20 27 (by decide) (fun c44 => ?_) (fun c44 => ?_)
    · have h := Ho_t c44 h
      refine J_sub (lv' := [(0, .ref (ad 63)), (1, .ref (ad v1)), (2, .int v2), (4, .int t1)]) hx [1, 2, 3, 0] rfl ?_
      exact s_X5_goes_j27 hx hQ (congrArg Prod.fst (k_shA hv1)) h
    · have h := Ho_f c44 h
      refine J_iconst (v := (1 : Int32)) hx dX5_goes_23 (by decide) ?_
      refine J_goto hx dX5_goes_24 28 (by decide) ?_
      refine J_sub (lv' := [(0, .ref (ad 63)), (1, .ref (ad v1)), (2, .int v2), (4, .int t1)]) hx [1, 2, 3, 0] rfl ?_
      exact s_X5_goes_j28 hx hQ (congrArg Prod.fst (k_shA hv1)) h
abbrev kr_X5_goesOn (P : Option Value → StI → StL → Prop) (L : StL) : Int32 × StI → Prop := fun t => P (some (.int t.1)) t.2 L
abbrev g_X5_goesOn_L5 (X : k_C) (ad : Nat → Nat) (L : StL) (v1 : Int32) (v2 : Int32) : (Int32 × Int32 × StI) → Prop := fun s => J X ad 5 s.2.2 L 5 [(0, .ref (ad 63)), (1, .int v1), (2, .int v2), (3, .int s.1), (4, .int s.2.1)] []
def f_X5_goesOn_L5_b (v1 : Int32) (v2 : Int32) (v3 : Int32) (v4 : Int32) (I : StI) : Option ((Int32 × Int32 × StI) ⊕ (Int32 × StI)) :=
  (if v1 ≤ v4 then some (.inr (v3, I)) else Option.bind (f_X5_isUp 71 I) (fun t2 => Option.bind (f_X5_goes 71 v2 t2 I) (fun t4 => k_let (v3 + t4.1) (fun x6 => k_let (v4 + (1 : Int32)) (fun x7 => some (.inl (x6, x7, t4.2)))))))
def f_X5_goesOn_L5 (v1 : Int32) (v2 : Int32) (n : Nat) (v3 : Int32) (v4 : Int32) (I : StI) : Option (Int32 × StI) :=
  k_loop (fun s => f_X5_goesOn_L5_b v1 v2 s.1 s.2.1 s.2.2) n (v3, v4, I)
set_option maxRecDepth 100000 in
set_option maxHeartbeats 4000000 in
theorem s_X5_goesOn_L5_b {X : k_C} {ad : Nat → Nat} {P : Option Value → StI → StL → Prop} {I : StI} {L : StL} (hx : Ok X cX5_goesOn RX5 5 (some .int) 4) (hQ : OkQ X ad P)  {v1 : Int32} {v2 : Int32} {v3 : Int32} {v4 : Int32}  (h : Ho (f_X5_goesOn_L5_b v1 v2 v3 v4 I) (Sum.elim (g_X5_goesOn_L5 X ad L v1 v2) (kr_X5_goesOn P L))) : J X ad 5 I L 5 [(0, .ref (ad 63)), (1, .int v1), (2, .int v2), (3, .int v3), (4, .int v4)] [] := by
  unfold f_X5_goesOn_L5_b at h
  refine J_iload hx dX5_goesOn_5 4 rfl ?_
  refine J_iload_n hx dX5_goesOn_7 1 rfl ?_
  refine J_ic_ge hx dX5_goesOn_8 37 (by decide) (fun c1 => ?_) (fun c1 => ?_)
  · have h := Ho_t c1 h
    refine J_iload_n hx dX5_goesOn_37 3 rfl ?_
    have h := Ho_some h
    exact J_iret hx hQ dX5_goesOn_38 h
  · have h := Ho_f c1 h
    refine J_iload_n hx dX5_goesOn_11 3 rfl ?_
    refine J_aload_n hx dX5_goesOn_12 0 rfl ?_
    refine J_aload_n hx dX5_goesOn_13 0 rfl ?_
    refine J_getR (q := 71) hx fl_RX5_31 (rfl : k_sh 63 = (5, k_N 5)) rfl rfl dX5_goesOn_14 ?_
    refine J_iload_n hx dX5_goesOn_17 2 rfl ?_
    refine J_aload_n hx dX5_goesOn_18 0 rfl ?_
    refine J_aload_n hx dX5_goesOn_19 0 rfl ?_
    refine J_getR (q := 71) hx fl_RX5_31 (rfl : k_sh 63 = (5, k_N 5)) rfl rfl dX5_goesOn_20 ?_
    obtain ⟨t2, e3, h⟩ := Ho_bind h
    refine J_callVi hx lkV_RX5_158 (rfl : k_sh 63 = (5, k_N 5)) [.ref (ad 71)] [.int v2, .ref (ad 71), .ref (ad 63), .int v3] rfl rfl (Nat.le_of_ble_eq_true rfl) (Nat.le_of_ble_eq_true rfl) (s_X5_isUp (congrArg Prod.fst (rfl : k_sh 71 = (10, 40))) ⟨t2, e3, ⟨rfl, rfl, rfl⟩⟩) dX5_goesOn_23 ?_
    obtain ⟨t4, e5, h⟩ := Ho_bind h
    refine J_callVi hx lkV_RX5_162 (rfl : k_sh 63 = (5, k_N 5)) [.ref (ad 71), .int v2, .int t2] [.int v3] rfl rfl (Nat.le_of_ble_eq_true rfl) (Nat.le_of_ble_eq_true rfl) (s_X5_goes (congrArg Prod.fst (rfl : k_sh 71 = (10, 40))) ⟨t4, e5, ⟨rfl, rfl, rfl⟩⟩) dX5_goesOn_26 ?_
    refine J_iadd hx dX5_goesOn_29 ?_
    obtain ⟨x6, hx6, h⟩ := Ho_let h
    refine J_istore_n (x := x6) (lv' := [(3, .int x6), (0, .ref (ad 63)), (1, .int v1), (2, .int v2), (4, .int v4)]) hx dX5_goesOn_30 hx6 (by decide) rfl ?_
    obtain ⟨x7, hx7, h⟩ := Ho_let h
    refine J_iinc (x := x7) (lv' := [(4, .int x7), (3, .int x6), (0, .ref (ad 63)), (1, .int v1), (2, .int v2)]) hx dX5_goesOn_31 4 rfl (by rw [hx7]; rfl) (by decide) rfl ?_
    refine J_goto hx dX5_goesOn_34 5 (by decide) ?_
    refine J_sub (lv' := [(0, .ref (ad 63)), (1, .int v1), (2, .int v2), (3, .int x6), (4, .int x7)]) hx [2, 3, 4, 1, 0] rfl ?_
    have h := Ho_some h
    exact h
set_option maxRecDepth 100000 in
set_option maxHeartbeats 4000000 in
theorem s_X5_goesOn_L5 {X : k_C} {ad : Nat → Nat} {P : Option Value → StI → StL → Prop} {I : StI} {L : StL} (hx : Ok X cX5_goesOn RX5 5 (some .int) 4) (hQ : OkQ X ad P)  {v1 : Int32} {v2 : Int32} {v3 : Int32} {v4 : Int32}  (n : Nat) (h : Ho (f_X5_goesOn_L5 v1 v2 n v3 v4 I) (kr_X5_goesOn P L)) : J X ad 5 I L 5 [(0, .ref (ad 63)), (1, .int v1), (2, .int v2), (3, .int v3), (4, .int v4)] [] := by
  exact k_loop_ho (G := g_X5_goesOn_L5 X ad L v1 v2) (fun s hs => s_X5_goesOn_L5_b hx hQ  hs) n (v3, v4, I) h
def f_X5_goesOn (v1 : Int32) (v2 : Int32) (I : StI) : Option (Int32 × StI) :=
  f_X5_goesOn_L5 v1 v2 k_fu (0 : Int32) (0 : Int32) I
set_option maxRecDepth 100000 in
set_option maxHeartbeats 4000000 in
theorem s_X5_goesOn {l : Launch} {ad : Nat → Nat} {P : Option Value → StI → StL → Prop} {I : StI} {L : StL} {v1 : Int32} {v2 : Int32}  (h : Ho (f_X5_goesOn v1 v2 I) (kr_X5_goesOn P L)) : k_Met l ad 4 yX5_goesOn cX5_goesOn 5 (some .int) [.ref (ad 63), .int v1, .int v2] I L P := by
  refine k_enter (by decide +kernel) (Nat.le_of_ble_eq_true rfl) (fun X hl hx hQ => ?_)
  clear hl
  have hx : Ok X cX5_goesOn RX5 5 (some .int) 4 := hx
  show J X ad 5 I L 0 [(0, .ref (ad 63)), (1, .int v1), (2, .int v2)] []
  unfold f_X5_goesOn at h
  refine J_iconst (v := (0 : Int32)) hx dX5_goesOn_0 (by decide) ?_
  refine J_istore_n (x := (0 : Int32)) (lv' := [(3, .int (0 : Int32)), (0, .ref (ad 63)), (1, .int v1), (2, .int v2)]) hx dX5_goesOn_1 rfl (by decide) rfl ?_
  refine J_iconst (v := (0 : Int32)) hx dX5_goesOn_2 (by decide) ?_
  refine J_istore (x := (0 : Int32)) (lv' := [(4, .int (0 : Int32)), (3, .int (0 : Int32)), (0, .ref (ad 63)), (1, .int v1), (2, .int v2)]) hx dX5_goesOn_3 rfl (by decide) rfl ?_
  refine J_sub (lv' := [(0, .ref (ad 63)), (1, .int v1), (2, .int v2), (3, .int (0 : Int32)), (4, .int (0 : Int32))]) hx [2, 3, 4, 1, 0] rfl ?_
  exact s_X5_goesOn_L5 hx hQ  k_fu h
abbrev kr_X5_bestOf (P : Option Value → StI → StL → Prop) (L : StL) : Int32 × StI → Prop := fun t => P (some (.int t.1)) t.2 L
abbrev g_X5_bestOf_L12 (X : k_C) (ad : Nat → Nat) (L : StL) (v1 : Int32) (v2 : Int32) : (Int32 × Int32 × Int32 × StI) → Prop := fun s => J X ad 7 s.2.2.2 L 12 [(0, .ref (ad 63)), (1, .int v1), (2, .int v2), (3, .int s.1), (4, .int s.2.1), (5, .int s.2.2.1)] []
def f_X5_bestOf_j52 (v1 : Int32) (v2 : Int32) (v4 : Int32) (v5 : Int32) (v6 : Int32) (s0 : Int32) (I : StI) : Option ((Int32 × Int32 × Int32 × StI) ⊕ (Int32 × StI)) :=
  (if v6 ≤ v4 then k_let (v5 + (1 : Int32)) (fun x14 => some (.inl (s0, v4, x14, I))) else k_let (v5 + (1 : Int32)) (fun x15 => some (.inl (s0, v6, x15, I))))
set_option maxRecDepth 100000 in
set_option maxHeartbeats 4000000 in
theorem s_X5_bestOf_j52 {X : k_C} {ad : Nat → Nat} {P : Option Value → StI → StL → Prop} {I : StI} {L : StL} (hx : Ok X cX5_bestOf RX5 7 (some .int) 5) (hQ : OkQ X ad P)  {v1 : Int32} {v2 : Int32} {v4 : Int32} {v5 : Int32} {v6 : Int32} {s0 : Int32}  (h : Ho (f_X5_bestOf_j52 v1 v2 v4 v5 v6 s0 I) (Sum.elim (g_X5_bestOf_L12 X ad L v1 v2) (kr_X5_bestOf P L))) : J X ad 7 I L 52 [(0, .ref (ad 63)), (1, .int v1), (2, .int v2), (4, .int v4), (5, .int v5), (6, .int v6)] [.int s0] := by
  unfold f_X5_bestOf_j52 at h
  refine J_istore_n (x := s0) (lv' := [(3, .int s0), (0, .ref (ad 63)), (1, .int v1), (2, .int v2), (4, .int v4), (5, .int v5), (6, .int v6)]) hx dX5_bestOf_52 rfl (by decide) rfl ?_
  refine J_iload hx dX5_bestOf_53 6 rfl ?_
  refine J_iload hx dX5_bestOf_55 4 rfl ?_
  refine J_ic_le hx dX5_bestOf_57 65 (by decide) (fun c13 => ?_) (fun c13 => ?_)
  · have h := Ho_t c13 h
    refine J_iload hx dX5_bestOf_65 4 rfl ?_
    refine J_istore (x := v4) (lv' := [(4, .int v4), (3, .int s0), (0, .ref (ad 63)), (1, .int v1), (2, .int v2), (5, .int v5), (6, .int v6)]) hx dX5_bestOf_67 rfl (by decide) rfl ?_
    obtain ⟨x14, hx14, h⟩ := Ho_let h
    refine J_iinc (x := x14) (lv' := [(5, .int x14), (4, .int v4), (3, .int s0), (0, .ref (ad 63)), (1, .int v1), (2, .int v2), (6, .int v6)]) hx dX5_bestOf_69 5 rfl (by rw [hx14]; rfl) (by decide) rfl ?_
    refine J_goto hx dX5_bestOf_72 12 (by decide) ?_
    refine J_sub (lv' := [(0, .ref (ad 63)), (1, .int v1), (2, .int v2), (3, .int s0), (4, .int v4), (5, .int x14)]) hx [3, 4, 5, 2, 1, 0] rfl ?_
    have h := Ho_some h
    exact h
  · have h := Ho_f c13 h
    refine J_iload hx dX5_bestOf_60 6 rfl ?_
    refine J_goto hx dX5_bestOf_62 67 (by decide) ?_
    refine J_istore (x := v6) (lv' := [(4, .int v6), (3, .int s0), (0, .ref (ad 63)), (1, .int v1), (2, .int v2), (5, .int v5), (6, .int v6)]) hx dX5_bestOf_67 rfl (by decide) rfl ?_
    obtain ⟨x15, hx15, h⟩ := Ho_let h
    refine J_iinc (x := x15) (lv' := [(5, .int x15), (4, .int v6), (3, .int s0), (0, .ref (ad 63)), (1, .int v1), (2, .int v2), (6, .int v6)]) hx dX5_bestOf_69 5 rfl (by rw [hx15]; rfl) (by decide) rfl ?_
    refine J_goto hx dX5_bestOf_72 12 (by decide) ?_
    refine J_sub (lv' := [(0, .ref (ad 63)), (1, .int v1), (2, .int v2), (3, .int s0), (4, .int v6), (5, .int x15)]) hx [3, 4, 5, 2, 1, 0] rfl ?_
    have h := Ho_some h
    exact h
def f_X5_bestOf_L12_b (v1 : Int32) (v2 : Int32) (v3 : Int32) (v4 : Int32) (v5 : Int32) (I : StI) : Option ((Int32 × Int32 × Int32 × StI) ⊕ (Int32 × StI)) :=
  (if (10 : Int32) ≤ v5 then Option.bind (f_X5_answer v3 v4 I) (fun t4 => some (.inr (t4.1, t4.2))) else Option.bind (f_X5_laysAside I) (fun t6 => k_gd v1 40 (k_let (k_up t6 71 v1.toNatClampNeg v5) (fun I9 => Option.bind (f_X5_goesOn v2 (0 : Int32) I9) (fun t10 => (if t10.1 ≤ v4 then f_X5_bestOf_j52 v1 v2 v4 v5 t10.1 v3 t10.2 else f_X5_bestOf_j52 v1 v2 v4 v5 t10.1 v5 t10.2))))))
def f_X5_bestOf_L12 (v1 : Int32) (v2 : Int32) (n : Nat) (v3 : Int32) (v4 : Int32) (v5 : Int32) (I : StI) : Option (Int32 × StI) :=
  k_loop (fun s => f_X5_bestOf_L12_b v1 v2 s.1 s.2.1 s.2.2.1 s.2.2.2) n (v3, v4, v5, I)
set_option maxRecDepth 100000 in
set_option maxHeartbeats 4000000 in
theorem s_X5_bestOf_L12_b {X : k_C} {ad : Nat → Nat} {P : Option Value → StI → StL → Prop} {I : StI} {L : StL} (hx : Ok X cX5_bestOf RX5 7 (some .int) 5) (hQ : OkQ X ad P)  {v1 : Int32} {v2 : Int32} {v3 : Int32} {v4 : Int32} {v5 : Int32}  (h : Ho (f_X5_bestOf_L12_b v1 v2 v3 v4 v5 I) (Sum.elim (g_X5_bestOf_L12 X ad L v1 v2) (kr_X5_bestOf P L))) : J X ad 7 I L 12 [(0, .ref (ad 63)), (1, .int v1), (2, .int v2), (3, .int v3), (4, .int v4), (5, .int v5)] [] := by
  unfold f_X5_bestOf_L12_b at h
  refine J_iload hx dX5_bestOf_12 5 rfl ?_
  refine J_bipush (v := (10 : Int32)) hx dX5_bestOf_14 (by decide) ?_
  refine J_ic_ge hx dX5_bestOf_16 75 (by decide) (fun c3 => ?_) (fun c3 => ?_)
  · have h := Ho_t c3 h
    refine J_aload_n hx dX5_bestOf_75 0 rfl ?_
    refine J_iload_n hx dX5_bestOf_76 3 rfl ?_
    refine J_iload hx dX5_bestOf_77 4 rfl ?_
    obtain ⟨t4, e5, h⟩ := Ho_bind h
    refine J_callVi hx lkV_RX5_189 (rfl : k_sh 63 = (5, k_N 5)) [.int v3, .int v4] [] rfl rfl (Nat.le_of_ble_eq_true rfl) (Nat.le_of_ble_eq_true rfl) (s_X5_answer  ⟨t4, e5, ⟨rfl, rfl, rfl⟩⟩) dX5_bestOf_79 ?_
    have h := Ho_some h
    exact J_iret hx hQ dX5_bestOf_82 h
  · have h := Ho_f c3 h
    refine J_aload_n hx dX5_bestOf_19 0 rfl ?_
    obtain ⟨t6, e7, h⟩ := Ho_bind h
    refine J_callVv hx lkV_RX5_195 (rfl : k_sh 63 = (5, k_N 5)) [] [] rfl rfl (Nat.le_of_ble_eq_true rfl) (Nat.le_of_ble_eq_true rfl) (s_X5_laysAside  ⟨t6, e7, ⟨rfl, rfl, rfl⟩⟩) dX5_bestOf_20 ?_
    refine J_aload_n hx dX5_bestOf_23 0 rfl ?_
    refine J_getR (q := 71) hx fl_RX5_31 (rfl : k_sh 63 = (5, k_N 5)) rfl rfl dX5_bestOf_24 ?_
    refine J_iload_n hx dX5_bestOf_27 1 rfl ?_
    refine J_iload hx dX5_bestOf_28 5 rfl ?_
    obtain ⟨b8, h⟩ := Ho_gd h
    obtain ⟨I9, hI9, h⟩ := Ho_let h
    refine J_iast hx (rfl : k_sh 71 = (10, 40)) b8 dX5_bestOf_30 hI9 ?_
    refine J_aload_n hx dX5_bestOf_31 0 rfl ?_
    refine J_iload_n hx dX5_bestOf_32 2 rfl ?_
    refine J_iconst (v := (0 : Int32)) hx dX5_bestOf_33 (by decide) ?_
    obtain ⟨t10, e11, h⟩ := Ho_bind h
    refine J_callVi hx lkV_RX5_198 (rfl : k_sh 63 = (5, k_N 5)) [.int v2, .int (0 : Int32)] [] rfl rfl (Nat.le_of_ble_eq_true rfl) (Nat.le_of_ble_eq_true rfl) (s_X5_goesOn  ⟨t10, e11, ⟨rfl, rfl, rfl⟩⟩) dX5_bestOf_34 ?_
    refine J_istore (x := t10.1) (lv' := [(6, .int t10.1), (0, .ref (ad 63)), (1, .int v1), (2, .int v2), (3, .int v3), (4, .int v4), (5, .int v5)]) hx dX5_bestOf_37 rfl (by decide) rfl ?_
    refine J_iload hx dX5_bestOf_39 0 rfl ?_
    refine J_iload hx dX5_bestOf_41 5 rfl ?_
    refine J_ic_le hx dX5_bestOf_43 51 (by decide) (fun c12 => ?_) (fun c12 => ?_)
    · have h := Ho_t c12 h
      refine J_iload_n hx dX5_bestOf_51 4 rfl ?_
      refine J_sub (lv' := [(0, .ref (ad 63)), (1, .int v1), (2, .int v2), (4, .int v4), (5, .int v5), (6, .int t10.1)]) hx [1, 2, 3, 5, 6, 0] rfl ?_
      exact s_X5_bestOf_j52 hx hQ  h
    · have h := Ho_f c12 h
      refine J_iload hx dX5_bestOf_46 6 rfl ?_
      refine J_goto hx dX5_bestOf_48 52 (by decide) ?_
      refine J_sub (lv' := [(0, .ref (ad 63)), (1, .int v1), (2, .int v2), (4, .int v4), (5, .int v5), (6, .int t10.1)]) hx [1, 2, 3, 5, 6, 0] rfl ?_
      exact s_X5_bestOf_j52 hx hQ  h
set_option maxRecDepth 100000 in
set_option maxHeartbeats 4000000 in
theorem s_X5_bestOf_L12 {X : k_C} {ad : Nat → Nat} {P : Option Value → StI → StL → Prop} {I : StI} {L : StL} (hx : Ok X cX5_bestOf RX5 7 (some .int) 5) (hQ : OkQ X ad P)  {v1 : Int32} {v2 : Int32} {v3 : Int32} {v4 : Int32} {v5 : Int32}  (n : Nat) (h : Ho (f_X5_bestOf_L12 v1 v2 n v3 v4 v5 I) (kr_X5_bestOf P L)) : J X ad 7 I L 12 [(0, .ref (ad 63)), (1, .int v1), (2, .int v2), (3, .int v3), (4, .int v4), (5, .int v5)] [] := by
  exact k_loop_ho (G := g_X5_bestOf_L12 X ad L v1 v2) (fun s hs => s_X5_bestOf_L12_b hx hQ  hs) n (v3, v4, v5, I) h
def f_X5_bestOf (v1 : Int32) (v2 : Int32) (I : StI) : Option (Int32 × StI) :=
  Option.bind (f_X5_asKinds I) (fun t1 => f_X5_bestOf_L12 v1 v2 k_fu (0 : Int32) (-1 : Int32) (1 : Int32) t1)
set_option maxRecDepth 100000 in
set_option maxHeartbeats 4000000 in
theorem s_X5_bestOf {l : Launch} {ad : Nat → Nat} {P : Option Value → StI → StL → Prop} {I : StI} {L : StL} {v1 : Int32} {v2 : Int32}  (h : Ho (f_X5_bestOf v1 v2 I) (kr_X5_bestOf P L)) : k_Met l ad 5 yX5_bestOf cX5_bestOf 7 (some .int) [.ref (ad 63), .int v1, .int v2] I L P := by
  refine k_enter (by decide +kernel) (Nat.le_of_ble_eq_true rfl) (fun X hl hx hQ => ?_)
  clear hl
  have hx : Ok X cX5_bestOf RX5 7 (some .int) 5 := hx
  show J X ad 7 I L 0 [(0, .ref (ad 63)), (1, .int v1), (2, .int v2)] []
  unfold f_X5_bestOf at h
  refine J_aload_n hx dX5_bestOf_0 0 rfl ?_
  obtain ⟨t1, e2, h⟩ := Ho_bind h
  refine J_callVv hx lkV_RX5_174 (rfl : k_sh 63 = (5, k_N 5)) [] [] rfl rfl (Nat.le_of_ble_eq_true rfl) (Nat.le_of_ble_eq_true rfl) (s_X5_asKinds  ⟨t1, e2, ⟨rfl, rfl, rfl⟩⟩) dX5_bestOf_1 ?_
  refine J_iconst (v := (0 : Int32)) hx dX5_bestOf_4 (by decide) ?_
  refine J_istore_n (x := (0 : Int32)) (lv' := [(3, .int (0 : Int32)), (0, .ref (ad 63)), (1, .int v1), (2, .int v2)]) hx dX5_bestOf_5 rfl (by decide) rfl ?_
  refine J_iconst (v := (-1 : Int32)) hx dX5_bestOf_6 (by decide) ?_
  refine J_istore (x := (-1 : Int32)) (lv' := [(4, .int (-1 : Int32)), (3, .int (0 : Int32)), (0, .ref (ad 63)), (1, .int v1), (2, .int v2)]) hx dX5_bestOf_7 rfl (by decide) rfl ?_
  refine J_iconst (v := (1 : Int32)) hx dX5_bestOf_9 (by decide) ?_
  refine J_istore (x := (1 : Int32)) (lv' := [(5, .int (1 : Int32)), (4, .int (-1 : Int32)), (3, .int (0 : Int32)), (0, .ref (ad 63)), (1, .int v1), (2, .int v2)]) hx dX5_bestOf_10 rfl (by decide) rfl ?_
  refine J_sub (lv' := [(0, .ref (ad 63)), (1, .int v1), (2, .int v2), (3, .int (0 : Int32)), (4, .int (-1 : Int32)), (5, .int (1 : Int32))]) hx [3, 4, 5, 2, 1, 0] rfl ?_
  exact s_X5_bestOf_L12 hx hQ  k_fu h
abbrev kr_X5_best (P : Option Value → StI → StL → Prop) (L : StL) : Int32 × StI → Prop := fun t => P (some (.int t.1)) t.2 L
def f_X5_best (v1 : Int32) (I : StI) : Option (Int32 × StI) :=
  Option.bind (f_X5_in (v1).toInt64 (1 : Int64) (40 : Int64)) (fun t1 => (if t1 = 0 then some ((-1 : Int32), I) else (if (I 63 4) = 0 then some ((-4 : Int32), I) else Option.bind (f_X5_bestOf (4 : Int32) v1 I) (fun t5 => some (t5.1, t5.2)))))
set_option maxRecDepth 100000 in
set_option maxHeartbeats 4000000 in
theorem s_X5_best {l : Launch} {ad : Nat → Nat} {P : Option Value → StI → StL → Prop} {I : StI} {L : StL} {v1 : Int32}  (h : Ho (f_X5_best v1 I) (kr_X5_best P L)) : k_Met l ad 6 yX5_best cX5_best 2 (some .int) [.ref (ad 63), .int v1] I L P := by
  refine k_enter (by decide +kernel) (Nat.le_of_ble_eq_true rfl) (fun X hl hx hQ => ?_)
  clear hl
  have hx : Ok X cX5_best RX5 2 (some .int) 6 := hx
  show J X ad 2 I L 0 [(0, .ref (ad 63)), (1, .int v1)] []
  unfold f_X5_best at h
  refine J_iload_n hx dX5_best_0 1 rfl ?_
  refine J_i2l hx dX5_best_1 ?_
  refine J_lconst (v := (1 : Int64)) hx dX5_best_2 (by decide) ?_
  refine J_ldc2 hx cn_RX5_201 dX5_best_3 ?_
  obtain ⟨t1, e2, h⟩ := Ho_bind h
  refine J_callSi hx lkS_RX5_75 [.long (v1).toInt64, .long (1 : Int64), .long (40 : Int64)] [] rfl rfl (Nat.le_of_ble_eq_true rfl) (Nat.le_of_ble_eq_true rfl) (s_X5_in  ⟨t1, e2, ⟨rfl, rfl, rfl⟩⟩) dX5_best_6 ?_
  refine J_if_ne hx dX5_best_9 14 (by decide) (fun c3 => ?_) (fun c3 => ?_)
  · have h := Ho_f c3 h
    refine J_aload_n hx dX5_best_14 0 rfl ?_
    refine J_getI hx fl_RX5_115 (rfl : k_sh 63 = (5, k_N 5)) rfl dX5_best_15 ?_
    refine J_if_ne hx dX5_best_18 26 (by decide) (fun c4 => ?_) (fun c4 => ?_)
    · have h := Ho_f c4 h
      refine J_aload_n hx dX5_best_26 0 rfl ?_
      refine J_iconst (v := (4 : Int32)) hx dX5_best_27 (by decide) ?_
      refine J_iload_n hx dX5_best_28 1 rfl ?_
      obtain ⟨t5, e6, h⟩ := Ho_bind h
      refine J_callVi hx lkV_RX5_203 (rfl : k_sh 63 = (5, k_N 5)) [.int (4 : Int32), .int v1] [] rfl rfl (Nat.le_of_ble_eq_true rfl) (Nat.le_of_ble_eq_true rfl) (s_X5_bestOf  ⟨t5, e6, ⟨rfl, rfl, rfl⟩⟩) dX5_best_29 ?_
      have h := Ho_some h
      exact J_iret hx hQ dX5_best_32 h
    · have h := Ho_t c4 h
      refine J_bipush (v := (-4 : Int32)) hx dX5_best_21 (by decide) ?_
      refine J_goto hx dX5_best_23 32 (by decide) ?_
      have h := Ho_some h
      exact J_iret hx hQ dX5_best_32 h
  · have h := Ho_t c3 h
    refine J_iconst (v := (-1 : Int32)) hx dX5_best_12 (by decide) ?_
    have h := Ho_some h
    exact J_iret hx hQ dX5_best_13 h
abbrev kr_X5_isCaller (P : Option Value → StI → StL → Prop) (I : StI) (L : StL) : Int32 → Prop := fun t => P (some (.int t)) I L
def f_X5_isCaller (v1 : Int32) (I : StI) : Option (Int32) :=
  Option.bind (f_X5_in (v1).toInt64 (0 : Int64) (((I 63 4) - (1 : Int32))).toInt64) (fun t1 => k_bo t1 (some (t1)))
set_option maxRecDepth 100000 in
set_option maxHeartbeats 4000000 in
theorem s_X5_isCaller {l : Launch} {ad : Nat → Nat} {P : Option Value → StI → StL → Prop} {I : StI} {L : StL} {v1 : Int32}  (h : Ho (f_X5_isCaller v1 I) (kr_X5_isCaller P I L)) : k_Met l ad 2 yX5_isCaller cX5_isCaller 2 (some .boolean) [.ref (ad 63), .int v1] I L P := by
  refine k_enter (by decide +kernel) (Nat.le_of_ble_eq_true rfl) (fun X hl hx hQ => ?_)
  clear hl
  have hx : Ok X cX5_isCaller RX5 2 (some .boolean) 2 := hx
  show J X ad 2 I L 0 [(0, .ref (ad 63)), (1, .int v1)] []
  unfold f_X5_isCaller at h
  refine J_iload_n hx dX5_isCaller_0 1 rfl ?_
  refine J_i2l hx dX5_isCaller_1 ?_
  refine J_lconst (v := (0 : Int64)) hx dX5_isCaller_2 (by decide) ?_
  refine J_aload_n hx dX5_isCaller_3 0 rfl ?_
  refine J_getI hx fl_RX5_115 (rfl : k_sh 63 = (5, k_N 5)) rfl dX5_isCaller_4 ?_
  refine J_iconst (v := (1 : Int32)) hx dX5_isCaller_7 (by decide) ?_
  refine J_isub hx dX5_isCaller_8 ?_
  refine J_i2l hx dX5_isCaller_9 ?_
  obtain ⟨t1, e2, h⟩ := Ho_bind h
  refine J_callSi hx lkS_RX5_75 [.long (v1).toInt64, .long (0 : Int64), .long (((I 63 4) - (1 : Int32))).toInt64] [] rfl rfl (Nat.le_of_ble_eq_true rfl) (Nat.le_of_ble_eq_true rfl) (s_X5_in  ⟨t1, e2, ⟨rfl, rfl, rfl⟩⟩) dX5_isCaller_10 ?_
  obtain ⟨z3, h⟩ := Ho_bo h
  have h := Ho_some h
  exact J_zret hx hQ dX5_isCaller_13 z3 h
abbrev kr_X5_caller (P : Option Value → StI → StL → Prop) (L : StL) : Int32 × StI → Prop := fun t => P (some (.int t.1)) t.2 L
def f_X5_caller (v1 : Int32) (v2 : Int32) (I : StI) : Option (Int32 × StI) :=
  Option.bind (f_X5_isCaller v1 I) (fun t1 => (if t1 = 0 then some ((-1 : Int32), I) else (if v2 = (0 : Int32) then k_gd v1 7 (Option.bind (f_X5_tell (I 68 v1.toNatClampNeg) I) (fun t6 => some (t6.1, t6.2))) else (if v2 = (1 : Int32) then k_gd ((5 : Int32) + v1) 40 (Option.bind (f_X5_tell (I 70 ((5 : Int32) + v1).toNatClampNeg) I) (fun t10 => some (t10.1, t10.2))) else (if v2 = (2 : Int32) then k_gd v1 7 (Option.bind (f_X5_tell (I 69 v1.toNatClampNeg) I) (fun t14 => some (t14.1, t14.2))) else (if v2 = (3 : Int32) then k_gd ((12 : Int32) + v1) 40 (Option.bind (f_X5_tell (I 70 ((12 : Int32) + v1).toNatClampNeg) I) (fun t18 => some (t18.1, t18.2))) else (if v2 = (4 : Int32) then k_gd ((19 : Int32) + v1) 40 (Option.bind (f_X5_tell (I 70 ((19 : Int32) + v1).toNatClampNeg) I) (fun t22 => some (t22.1, t22.2))) else (if v2 = (5 : Int32) then k_gd ((26 : Int32) + v1) 40 (Option.bind (f_X5_tell (I 70 ((26 : Int32) + v1).toNatClampNeg) I) (fun t26 => some (t26.1, t26.2))) else (if v2 = (6 : Int32) then k_gd ((33 : Int32) + v1) 40 (Option.bind (f_X5_tell (I 70 ((33 : Int32) + v1).toNatClampNeg) I) (fun t30 => some (t30.1, t30.2))) else some ((-1 : Int32), I))))))))))
set_option maxRecDepth 100000 in
set_option maxHeartbeats 4000000 in
theorem s_X5_caller {l : Launch} {ad : Nat → Nat} {P : Option Value → StI → StL → Prop} {I : StI} {L : StL} {v1 : Int32} {v2 : Int32}  (h : Ho (f_X5_caller v1 v2 I) (kr_X5_caller P L)) : k_Met l ad 3 yX5_caller cX5_caller 3 (some .int) [.ref (ad 63), .int v1, .int v2] I L P := by
  refine k_enter (by decide +kernel) (Nat.le_of_ble_eq_true rfl) (fun X hl hx hQ => ?_)
  clear hl
  have hx : Ok X cX5_caller RX5 3 (some .int) 3 := hx
  show J X ad 3 I L 0 [(0, .ref (ad 63)), (1, .int v1), (2, .int v2)] []
  unfold f_X5_caller at h
  refine J_aload_n hx dX5_caller_0 0 rfl ?_
  refine J_iload_n hx dX5_caller_1 1 rfl ?_
  obtain ⟨t1, e2, h⟩ := Ho_bind h
  refine J_callVi hx lkV_RX5_166 (rfl : k_sh 63 = (5, k_N 5)) [.int v1] [] rfl rfl (Nat.le_of_ble_eq_true rfl) (Nat.le_of_ble_eq_true rfl) (s_X5_isCaller  ⟨t1, e2, ⟨rfl, rfl, rfl⟩⟩) dX5_caller_2 ?_
  refine J_if_ne hx dX5_caller_5 10 (by decide) (fun c3 => ?_) (fun c3 => ?_)
  · have h := Ho_f c3 h
    refine J_iload_n hx dX5_caller_10 2 rfl ?_
    by_cases c4 : v2 = (0 : Int32)
    · have h := Ho_t c4 h
      refine J_tIn (x' := (0 : Int32)) (off := 41) hx dX5_caller_11 c4 (by decide) (by decide) (by decide) 52 (by decide) ?_
      refine J_aload_n hx dX5_caller_52 0 rfl ?_
      refine J_aload_n hx dX5_caller_53 0 rfl ?_
      refine J_getR (q := 68) hx fl_RX5_22 (rfl : k_sh 63 = (5, k_N 5)) rfl rfl dX5_caller_54 ?_
      refine J_iload_n hx dX5_caller_57 1 rfl ?_
      obtain ⟨b5, h⟩ := Ho_gd h
      refine J_iald hx (rfl : k_sh 68 = (10, 7)) b5 dX5_caller_58 ?_
      obtain ⟨t6, e7, h⟩ := Ho_bind h
      refine J_callVi hx lkV_RX5_89 (rfl : k_sh 63 = (5, k_N 5)) [.int (I 68 v1.toNatClampNeg)] [] rfl rfl (Nat.le_of_ble_eq_true rfl) (Nat.le_of_ble_eq_true rfl) (s_X5_tell  ⟨t6, e7, ⟨rfl, rfl, rfl⟩⟩) dX5_caller_59 ?_
      have h := Ho_some h
      exact J_iret hx hQ dX5_caller_62 h
    have h := Ho_f c4 h
    by_cases c8 : v2 = (1 : Int32)
    · have h := Ho_t c8 h
      refine J_tIn (x' := (1 : Int32)) (off := 52) hx dX5_caller_11 c8 (by decide) (by decide) (by decide) 63 (by decide) ?_
      refine J_aload_n hx dX5_caller_63 0 rfl ?_
      refine J_aload_n hx dX5_caller_64 0 rfl ?_
      refine J_getR (q := 70) hx fl_RX5_28 (rfl : k_sh 63 = (5, k_N 5)) rfl rfl dX5_caller_65 ?_
      refine J_iconst (v := (5 : Int32)) hx dX5_caller_68 (by decide) ?_
      refine J_iload_n hx dX5_caller_69 1 rfl ?_
      refine J_iadd hx dX5_caller_70 ?_
      obtain ⟨b9, h⟩ := Ho_gd h
      refine J_iald hx (rfl : k_sh 70 = (10, 40)) b9 dX5_caller_71 ?_
      obtain ⟨t10, e11, h⟩ := Ho_bind h
      refine J_callVi hx lkV_RX5_89 (rfl : k_sh 63 = (5, k_N 5)) [.int (I 70 ((5 : Int32) + v1).toNatClampNeg)] [] rfl rfl (Nat.le_of_ble_eq_true rfl) (Nat.le_of_ble_eq_true rfl) (s_X5_tell  ⟨t10, e11, ⟨rfl, rfl, rfl⟩⟩) dX5_caller_72 ?_
      have h := Ho_some h
      exact J_iret hx hQ dX5_caller_75 h
    have h := Ho_f c8 h
    by_cases c12 : v2 = (2 : Int32)
    · have h := Ho_t c12 h
      refine J_tIn (x' := (2 : Int32)) (off := 65) hx dX5_caller_11 c12 (by decide) (by decide) (by decide) 76 (by decide) ?_
      refine J_aload_n hx dX5_caller_76 0 rfl ?_
      refine J_aload_n hx dX5_caller_77 0 rfl ?_
      refine J_getR (q := 69) hx fl_RX5_25 (rfl : k_sh 63 = (5, k_N 5)) rfl rfl dX5_caller_78 ?_
      refine J_iload_n hx dX5_caller_81 1 rfl ?_
      obtain ⟨b13, h⟩ := Ho_gd h
      refine J_iald hx (rfl : k_sh 69 = (10, 7)) b13 dX5_caller_82 ?_
      obtain ⟨t14, e15, h⟩ := Ho_bind h
      refine J_callVi hx lkV_RX5_89 (rfl : k_sh 63 = (5, k_N 5)) [.int (I 69 v1.toNatClampNeg)] [] rfl rfl (Nat.le_of_ble_eq_true rfl) (Nat.le_of_ble_eq_true rfl) (s_X5_tell  ⟨t14, e15, ⟨rfl, rfl, rfl⟩⟩) dX5_caller_83 ?_
      have h := Ho_some h
      exact J_iret hx hQ dX5_caller_86 h
    have h := Ho_f c12 h
    by_cases c16 : v2 = (3 : Int32)
    · have h := Ho_t c16 h
      refine J_tIn (x' := (3 : Int32)) (off := 76) hx dX5_caller_11 c16 (by decide) (by decide) (by decide) 87 (by decide) ?_
      refine J_aload_n hx dX5_caller_87 0 rfl ?_
      refine J_aload_n hx dX5_caller_88 0 rfl ?_
      refine J_getR (q := 70) hx fl_RX5_28 (rfl : k_sh 63 = (5, k_N 5)) rfl rfl dX5_caller_89 ?_
      refine J_bipush (v := (12 : Int32)) hx dX5_caller_92 (by decide) ?_
      refine J_iload_n hx dX5_caller_94 1 rfl ?_
      refine J_iadd hx dX5_caller_95 ?_
      obtain ⟨b17, h⟩ := Ho_gd h
      refine J_iald hx (rfl : k_sh 70 = (10, 40)) b17 dX5_caller_96 ?_
      obtain ⟨t18, e19, h⟩ := Ho_bind h
      refine J_callVi hx lkV_RX5_89 (rfl : k_sh 63 = (5, k_N 5)) [.int (I 70 ((12 : Int32) + v1).toNatClampNeg)] [] rfl rfl (Nat.le_of_ble_eq_true rfl) (Nat.le_of_ble_eq_true rfl) (s_X5_tell  ⟨t18, e19, ⟨rfl, rfl, rfl⟩⟩) dX5_caller_97 ?_
      have h := Ho_some h
      exact J_iret hx hQ dX5_caller_100 h
    have h := Ho_f c16 h
    by_cases c20 : v2 = (4 : Int32)
    · have h := Ho_t c20 h
      refine J_tIn (x' := (4 : Int32)) (off := 90) hx dX5_caller_11 c20 (by decide) (by decide) (by decide) 101 (by decide) ?_
      refine J_aload_n hx dX5_caller_101 0 rfl ?_
      refine J_aload_n hx dX5_caller_102 0 rfl ?_
      refine J_getR (q := 70) hx fl_RX5_28 (rfl : k_sh 63 = (5, k_N 5)) rfl rfl dX5_caller_103 ?_
      refine J_bipush (v := (19 : Int32)) hx dX5_caller_106 (by decide) ?_
      refine J_iload_n hx dX5_caller_108 1 rfl ?_
      refine J_iadd hx dX5_caller_109 ?_
      obtain ⟨b21, h⟩ := Ho_gd h
      refine J_iald hx (rfl : k_sh 70 = (10, 40)) b21 dX5_caller_110 ?_
      obtain ⟨t22, e23, h⟩ := Ho_bind h
      refine J_callVi hx lkV_RX5_89 (rfl : k_sh 63 = (5, k_N 5)) [.int (I 70 ((19 : Int32) + v1).toNatClampNeg)] [] rfl rfl (Nat.le_of_ble_eq_true rfl) (Nat.le_of_ble_eq_true rfl) (s_X5_tell  ⟨t22, e23, ⟨rfl, rfl, rfl⟩⟩) dX5_caller_111 ?_
      have h := Ho_some h
      exact J_iret hx hQ dX5_caller_114 h
    have h := Ho_f c20 h
    by_cases c24 : v2 = (5 : Int32)
    · have h := Ho_t c24 h
      refine J_tIn (x' := (5 : Int32)) (off := 104) hx dX5_caller_11 c24 (by decide) (by decide) (by decide) 115 (by decide) ?_
      refine J_aload_n hx dX5_caller_115 0 rfl ?_
      refine J_aload_n hx dX5_caller_116 0 rfl ?_
      refine J_getR (q := 70) hx fl_RX5_28 (rfl : k_sh 63 = (5, k_N 5)) rfl rfl dX5_caller_117 ?_
      refine J_bipush (v := (26 : Int32)) hx dX5_caller_120 (by decide) ?_
      refine J_iload_n hx dX5_caller_122 1 rfl ?_
      refine J_iadd hx dX5_caller_123 ?_
      obtain ⟨b25, h⟩ := Ho_gd h
      refine J_iald hx (rfl : k_sh 70 = (10, 40)) b25 dX5_caller_124 ?_
      obtain ⟨t26, e27, h⟩ := Ho_bind h
      refine J_callVi hx lkV_RX5_89 (rfl : k_sh 63 = (5, k_N 5)) [.int (I 70 ((26 : Int32) + v1).toNatClampNeg)] [] rfl rfl (Nat.le_of_ble_eq_true rfl) (Nat.le_of_ble_eq_true rfl) (s_X5_tell  ⟨t26, e27, ⟨rfl, rfl, rfl⟩⟩) dX5_caller_125 ?_
      have h := Ho_some h
      exact J_iret hx hQ dX5_caller_128 h
    have h := Ho_f c24 h
    by_cases c28 : v2 = (6 : Int32)
    · have h := Ho_t c28 h
      refine J_tIn (x' := (6 : Int32)) (off := 118) hx dX5_caller_11 c28 (by decide) (by decide) (by decide) 129 (by decide) ?_
      refine J_aload_n hx dX5_caller_129 0 rfl ?_
      refine J_aload_n hx dX5_caller_130 0 rfl ?_
      refine J_getR (q := 70) hx fl_RX5_28 (rfl : k_sh 63 = (5, k_N 5)) rfl rfl dX5_caller_131 ?_
      refine J_bipush (v := (33 : Int32)) hx dX5_caller_134 (by decide) ?_
      refine J_iload_n hx dX5_caller_136 1 rfl ?_
      refine J_iadd hx dX5_caller_137 ?_
      obtain ⟨b29, h⟩ := Ho_gd h
      refine J_iald hx (rfl : k_sh 70 = (10, 40)) b29 dX5_caller_138 ?_
      obtain ⟨t30, e31, h⟩ := Ho_bind h
      refine J_callVi hx lkV_RX5_89 (rfl : k_sh 63 = (5, k_N 5)) [.int (I 70 ((33 : Int32) + v1).toNatClampNeg)] [] rfl rfl (Nat.le_of_ble_eq_true rfl) (Nat.le_of_ble_eq_true rfl) (s_X5_tell  ⟨t30, e31, ⟨rfl, rfl, rfl⟩⟩) dX5_caller_139 ?_
      have h := Ho_some h
      exact J_iret hx hQ dX5_caller_142 h
    have h := Ho_f c28 h
    refine J_tDef hx dX5_caller_11 [(0 : Int32), (1 : Int32), (2 : Int32), (3 : Int32), (4 : Int32), (5 : Int32), (6 : Int32)] (List.forall_mem_cons.mpr ⟨c4, List.forall_mem_cons.mpr ⟨c8, List.forall_mem_cons.mpr ⟨c12, List.forall_mem_cons.mpr ⟨c16, List.forall_mem_cons.mpr ⟨c20, List.forall_mem_cons.mpr ⟨c24, List.forall_mem_cons.mpr ⟨c28, fun _ z => absurd z List.not_mem_nil⟩⟩⟩⟩⟩⟩⟩) (by decide) (by decide) 143 (by decide) ?_
    refine J_iconst (v := (-1 : Int32)) hx dX5_caller_143 (by decide) ?_
    have h := Ho_some h
    exact J_iret hx hQ dX5_caller_144 h
  · have h := Ho_t c3 h
    refine J_iconst (v := (-1 : Int32)) hx dX5_caller_8 (by decide) ?_
    have h := Ho_some h
    exact J_iret hx hQ dX5_caller_9 h
abbrev kr_X5_calls (P : Option Value → StI → StL → Prop) (L : StL) : Int32 × StI → Prop := fun t => P (some (.int t.1)) t.2 L
def f_X5_calls_j45 (s1 : Int32) (s2 : Int32) (I : StI) : Option (Int32 × StI) :=
  Option.bind (f_X5_answer s1 s2 I) (fun t8 => some (t8.1, t8.2))
set_option maxRecDepth 100000 in
set_option maxHeartbeats 4000000 in
theorem s_X5_calls_j45 {X : k_C} {ad : Nat → Nat} {P : Option Value → StI → StL → Prop} {I : StI} {L : StL} (hx : Ok X cX5_calls RX5 2 (some .int) 3) (hQ : OkQ X ad P)  {s1 : Int32} {s2 : Int32}  (h : Ho (f_X5_calls_j45 s1 s2 I) (kr_X5_calls P L)) : J X ad 2 I L 45 [] [.int s2, .int s1, .ref (ad 63)] := by
  unfold f_X5_calls_j45 at h
  obtain ⟨t8, e9, h⟩ := Ho_bind h
  refine J_callVi hx lkV_RX5_189 (rfl : k_sh 63 = (5, k_N 5)) [.int s1, .int s2] [] rfl rfl (Nat.le_of_ble_eq_true rfl) (Nat.le_of_ble_eq_true rfl) (s_X5_answer  ⟨t8, e9, ⟨rfl, rfl, rfl⟩⟩) dX5_calls_45 ?_
  have h := Ho_some h
  exact J_iret hx hQ dX5_calls_48 h
def f_X5_calls_j44 (s1 : Int32) (I : StI) : Option (Int32 × StI) :=
  f_X5_calls_j45 s1 (0 : Int32) I
set_option maxRecDepth 100000 in
set_option maxHeartbeats 4000000 in
theorem s_X5_calls_j44 {X : k_C} {ad : Nat → Nat} {P : Option Value → StI → StL → Prop} {I : StI} {L : StL} (hx : Ok X cX5_calls RX5 2 (some .int) 3) (hQ : OkQ X ad P)  {s1 : Int32}  (h : Ho (f_X5_calls_j44 s1 I) (kr_X5_calls P L)) : J X ad 2 I L 44 [] [.int s1, .ref (ad 63)] := by
  unfold f_X5_calls_j44 at h
  refine J_iconst (v := (0 : Int32)) hx dX5_calls_44 (by decide) ?_
  refine J_sub (lv' := []) hx [] rfl ?_
  exact s_X5_calls_j45 hx hQ  h
def f_X5_calls (I : StI) : Option (Int32 × StI) :=
  Option.bind (f_X5_asKinds I) (fun t1 => Option.bind (f_X5_whoCalls 70 (0 : Int32) t1) (fun t3 => Option.bind (f_X5_isUp 70 t1) (fun t5 => (if t5 = 0 then f_X5_calls_j44 t3 t1 else Option.bind (f_X5_bits t3) (fun t10 => k_gd (4 : Int32) 40 ((if (t1 70 (4 : Int32).toNatClampNeg) < t10 then f_X5_calls_j44 t3 t1 else f_X5_calls_j45 t3 (1 : Int32) t1)))))))
set_option maxRecDepth 100000 in
set_option maxHeartbeats 4000000 in
theorem s_X5_calls {l : Launch} {ad : Nat → Nat} {P : Option Value → StI → StL → Prop} {I : StI} {L : StL}   (h : Ho (f_X5_calls I) (kr_X5_calls P L)) : k_Met l ad 3 yX5_calls cX5_calls 2 (some .int) [.ref (ad 63)] I L P := by
  refine k_enter (by decide +kernel) (Nat.le_of_ble_eq_true rfl) (fun X hl hx hQ => ?_)
  clear hl
  have hx : Ok X cX5_calls RX5 2 (some .int) 3 := hx
  show J X ad 2 I L 0 [(0, .ref (ad 63))] []
  unfold f_X5_calls at h
  refine J_aload_n hx dX5_calls_0 0 rfl ?_
  obtain ⟨t1, e2, h⟩ := Ho_bind h
  refine J_callVv hx lkV_RX5_174 (rfl : k_sh 63 = (5, k_N 5)) [] [] rfl rfl (Nat.le_of_ble_eq_true rfl) (Nat.le_of_ble_eq_true rfl) (s_X5_asKinds  ⟨t1, e2, ⟨rfl, rfl, rfl⟩⟩) dX5_calls_1 ?_
  refine J_aload_n hx dX5_calls_4 0 rfl ?_
  refine J_aload_n hx dX5_calls_5 0 rfl ?_
  refine J_getR (q := 70) hx fl_RX5_28 (rfl : k_sh 63 = (5, k_N 5)) rfl rfl dX5_calls_6 ?_
  refine J_iconst (v := (0 : Int32)) hx dX5_calls_9 (by decide) ?_
  obtain ⟨t3, e4, h⟩ := Ho_bind h
  refine J_callVi hx lkV_RX5_142 (rfl : k_sh 63 = (5, k_N 5)) [.ref (ad 70), .int (0 : Int32)] [] rfl rfl (Nat.le_of_ble_eq_true rfl) (Nat.le_of_ble_eq_true rfl) (s_X5_whoCalls (congrArg Prod.fst (rfl : k_sh 70 = (10, 40))) ⟨t3, e4, ⟨rfl, rfl, rfl⟩⟩) dX5_calls_10 ?_
  refine J_istore_n (x := t3) (lv' := [(1, .int t3), (0, .ref (ad 63))]) hx dX5_calls_13 rfl (by decide) rfl ?_
  refine J_aload_n hx dX5_calls_14 1 rfl ?_
  refine J_iload_n hx dX5_calls_15 0 rfl ?_
  refine J_aload_n hx dX5_calls_16 1 rfl ?_
  refine J_aload_n hx dX5_calls_17 1 rfl ?_
  refine J_getR (q := 70) hx fl_RX5_28 (rfl : k_sh 63 = (5, k_N 5)) rfl rfl dX5_calls_18 ?_
  obtain ⟨t5, e6, h⟩ := Ho_bind h
  refine J_callVi hx lkV_RX5_158 (rfl : k_sh 63 = (5, k_N 5)) [.ref (ad 70)] [.int t3, .ref (ad 63)] rfl rfl (Nat.le_of_ble_eq_true rfl) (Nat.le_of_ble_eq_true rfl) (s_X5_isUp (congrArg Prod.fst (rfl : k_sh 70 = (10, 40))) ⟨t5, e6, ⟨rfl, rfl, rfl⟩⟩) dX5_calls_21 ?_
  refine J_if_eq hx dX5_calls_24 44 (by decide) (fun c7 => ?_) (fun c7 => ?_)
  · have h := Ho_t c7 h
    refine J_sub (lv' := []) hx [] rfl ?_
    exact s_X5_calls_j44 hx hQ  h
  · have h := Ho_f c7 h
    refine J_iload_n hx dX5_calls_27 0 rfl ?_
    obtain ⟨t10, e11, h⟩ := Ho_bind h
    refine J_callSi hx lkS_RX5_146 [.int t3] [.int t3, .ref (ad 63)] rfl rfl (Nat.le_of_ble_eq_true rfl) (Nat.le_of_ble_eq_true rfl) (s_X5_bits  ⟨t10, e11, ⟨rfl, rfl, rfl⟩⟩) dX5_calls_28 ?_
    refine J_aload_n hx dX5_calls_31 1 rfl ?_
    refine J_getR (q := 70) hx fl_RX5_28 (rfl : k_sh 63 = (5, k_N 5)) rfl rfl dX5_calls_32 ?_
    refine J_iconst (v := (4 : Int32)) hx dX5_calls_35 (by decide) ?_
    obtain ⟨b12, h⟩ := Ho_gd h
    refine J_iald hx (rfl : k_sh 70 = (10, 40)) b12 dX5_calls_36 ?_
    refine J_ic_gt hx dX5_calls_37 44 (by decide) (fun c13 => ?_) (fun c13 => ?_)
    · have h := Ho_t c13 h
      refine J_sub (lv' := []) hx [] rfl ?_
      exact s_X5_calls_j44 hx hQ  h
    · have h := Ho_f c13 h
      refine J_iconst (v := (1 : Int32)) hx dX5_calls_40 (by decide) ?_
      refine J_goto hx dX5_calls_41 45 (by decide) ?_
      refine J_sub (lv' := []) hx [] rfl ?_
      exact s_X5_calls_j45 hx hQ  h
abbrev kr_X5_sixBy (P : Option Value → StI → StL → Prop) (L : StL) : Int32 × StI → Prop := fun t => P (some (.int t.1)) t.2 L
abbrev g_X5_sixBy_L8 (X : k_C) (ad : Nat → Nat) (L : StL) (v1 : Int32) : (Int32 × Int32 × StI) → Prop := fun s => J X ad 4 s.2.2 L 8 [(0, .ref (ad 63)), (1, .int v1), (2, .int s.1), (3, .int s.2.1)] []
def f_X5_sixBy_j45 (v1 : Int32) (v3 : Int32) (s0 : Int32) (s3 : Int32) (s4 : Int32) (I : StI) : Option ((Int32 × Int32 × StI) ⊕ (Int32 × StI)) :=
  Option.bind (f_X5_goes 71 s3 s4 I) (fun t7 => k_let (s0 + t7.1) (fun x9 => k_let (v3 + (1 : Int32)) (fun x10 => some (.inl (x9, x10, t7.2)))))
set_option maxRecDepth 100000 in
set_option maxHeartbeats 4000000 in
theorem s_X5_sixBy_j45 {X : k_C} {ad : Nat → Nat} {P : Option Value → StI → StL → Prop} {I : StI} {L : StL} (hx : Ok X cX5_sixBy RX5 4 (some .int) 4) (hQ : OkQ X ad P)  {v1 : Int32} {v3 : Int32} {s0 : Int32} {s3 : Int32} {s4 : Int32}  (h : Ho (f_X5_sixBy_j45 v1 v3 s0 s3 s4 I) (Sum.elim (g_X5_sixBy_L8 X ad L v1) (kr_X5_sixBy P L))) : J X ad 4 I L 45 [(0, .ref (ad 63)), (1, .int v1), (3, .int v3)] [.int s4, .int s3, .ref (ad 71), .ref (ad 63), .int s0] := by
  unfold f_X5_sixBy_j45 at h
  obtain ⟨t7, e8, h⟩ := Ho_bind h
  refine J_callVi hx lkV_RX5_162 (rfl : k_sh 63 = (5, k_N 5)) [.ref (ad 71), .int s3, .int s4] [.int s0] rfl rfl (Nat.le_of_ble_eq_true rfl) (Nat.le_of_ble_eq_true rfl) (s_X5_goes (congrArg Prod.fst (rfl : k_sh 71 = (10, 40))) ⟨t7, e8, ⟨rfl, rfl, rfl⟩⟩) dX5_sixBy_45 ?_
  refine J_iadd hx dX5_sixBy_48 ?_
  obtain ⟨x9, hx9, h⟩ := Ho_let h
  refine J_istore_n (x := x9) (lv' := [(2, .int x9), (0, .ref (ad 63)), (1, .int v1), (3, .int v3)]) hx dX5_sixBy_49 hx9 (by decide) rfl ?_
  obtain ⟨x10, hx10, h⟩ := Ho_let h
  refine J_iinc (x := x10) (lv' := [(3, .int x10), (2, .int x9), (0, .ref (ad 63)), (1, .int v1)]) hx dX5_sixBy_50 3 rfl (by rw [hx10]; rfl) (by decide) rfl ?_
  refine J_goto hx dX5_sixBy_53 8 (by decide) ?_
  refine J_sub (lv' := [(0, .ref (ad 63)), (1, .int v1), (2, .int x9), (3, .int x10)]) hx [2, 3, 1, 0] rfl ?_
  have h := Ho_some h
  exact h
def f_X5_sixBy_j44 (v1 : Int32) (v3 : Int32) (s0 : Int32) (s3 : Int32) (I : StI) : Option ((Int32 × Int32 × StI) ⊕ (Int32 × StI)) :=
  f_X5_sixBy_j45 v1 v3 s0 s3 (0 : Int32) I
set_option maxRecDepth 100000 in
set_option maxHeartbeats 4000000 in
theorem s_X5_sixBy_j44 {X : k_C} {ad : Nat → Nat} {P : Option Value → StI → StL → Prop} {I : StI} {L : StL} (hx : Ok X cX5_sixBy RX5 4 (some .int) 4) (hQ : OkQ X ad P)  {v1 : Int32} {v3 : Int32} {s0 : Int32} {s3 : Int32}  (h : Ho (f_X5_sixBy_j44 v1 v3 s0 s3 I) (Sum.elim (g_X5_sixBy_L8 X ad L v1) (kr_X5_sixBy P L))) : J X ad 4 I L 44 [(0, .ref (ad 63)), (1, .int v1), (3, .int v3)] [.int s3, .ref (ad 71), .ref (ad 63), .int s0] := by
  unfold f_X5_sixBy_j44 at h
  refine J_iconst (v := (0 : Int32)) hx dX5_sixBy_44 (by decide) ?_
  refine J_sub (lv' := [(0, .ref (ad 63)), (1, .int v1), (3, .int v3)]) hx [0, 1, 2] rfl ?_
  exact s_X5_sixBy_j45 hx hQ  h
def f_X5_sixBy_L8_b (v1 : Int32) (v2 : Int32) (v3 : Int32) (I : StI) : Option ((Int32 × Int32 × StI) ⊕ (Int32 × StI)) :=
  (if (6 : Int32) ≤ v3 then some (.inr (v2, I)) else Option.bind (f_X5_isUp 71 I) (fun t4 => (if t4 = 0 then f_X5_sixBy_j44 v1 v3 v2 (0 : Int32) I else Option.bind (f_X5_has v1 v3) (fun t11 => (if t11 = 0 then f_X5_sixBy_j45 v1 v3 v2 (0 : Int32) (1 : Int32) I else f_X5_sixBy_j44 v1 v3 v2 (0 : Int32) I)))))
def f_X5_sixBy_L8 (v1 : Int32) (n : Nat) (v2 : Int32) (v3 : Int32) (I : StI) : Option (Int32 × StI) :=
  k_loop (fun s => f_X5_sixBy_L8_b v1 s.1 s.2.1 s.2.2) n (v2, v3, I)
set_option maxRecDepth 100000 in
set_option maxHeartbeats 4000000 in
theorem s_X5_sixBy_L8_b {X : k_C} {ad : Nat → Nat} {P : Option Value → StI → StL → Prop} {I : StI} {L : StL} (hx : Ok X cX5_sixBy RX5 4 (some .int) 4) (hQ : OkQ X ad P)  {v1 : Int32} {v2 : Int32} {v3 : Int32}  (h : Ho (f_X5_sixBy_L8_b v1 v2 v3 I) (Sum.elim (g_X5_sixBy_L8 X ad L v1) (kr_X5_sixBy P L))) : J X ad 4 I L 8 [(0, .ref (ad 63)), (1, .int v1), (2, .int v2), (3, .int v3)] [] := by
  unfold f_X5_sixBy_L8_b at h
  refine J_iload_n hx dX5_sixBy_8 3 rfl ?_
  refine J_bipush (v := (6 : Int32)) hx dX5_sixBy_9 (by decide) ?_
  refine J_ic_ge hx dX5_sixBy_11 56 (by decide) (fun c3 => ?_) (fun c3 => ?_)
  · have h := Ho_t c3 h
    refine J_iload_n hx dX5_sixBy_56 2 rfl ?_
    have h := Ho_some h
    exact J_iret hx hQ dX5_sixBy_57 h
  · have h := Ho_f c3 h
    refine J_iload_n hx dX5_sixBy_14 2 rfl ?_
    refine J_aload_n hx dX5_sixBy_15 0 rfl ?_
    refine J_aload_n hx dX5_sixBy_16 0 rfl ?_
    refine J_getR (q := 71) hx fl_RX5_31 (rfl : k_sh 63 = (5, k_N 5)) rfl rfl dX5_sixBy_17 ?_
    refine J_iconst (v := (0 : Int32)) hx dX5_sixBy_20 (by decide) ?_
    refine J_aload_n hx dX5_sixBy_21 0 rfl ?_
    refine J_aload_n hx dX5_sixBy_22 0 rfl ?_
    refine J_getR (q := 71) hx fl_RX5_31 (rfl : k_sh 63 = (5, k_N 5)) rfl rfl dX5_sixBy_23 ?_
    obtain ⟨t4, e5, h⟩ := Ho_bind h
    refine J_callVi hx lkV_RX5_158 (rfl : k_sh 63 = (5, k_N 5)) [.ref (ad 71)] [.int (0 : Int32), .ref (ad 71), .ref (ad 63), .int v2] rfl rfl (Nat.le_of_ble_eq_true rfl) (Nat.le_of_ble_eq_true rfl) (s_X5_isUp (congrArg Prod.fst (rfl : k_sh 71 = (10, 40))) ⟨t4, e5, ⟨rfl, rfl, rfl⟩⟩) dX5_sixBy_26 ?_
    refine J_if_eq hx dX5_sixBy_29 44 (by decide) (fun c6 => ?_) (fun c6 => ?_)
    · have h := Ho_t c6 h
      refine J_sub (lv' := [(0, .ref (ad 63)), (1, .int v1), (3, .int v3)]) hx [0, 1, 3] rfl ?_
      exact s_X5_sixBy_j44 hx hQ  h
    · have h := Ho_f c6 h
      refine J_iload_n hx dX5_sixBy_32 1 rfl ?_
      refine J_iload_n hx dX5_sixBy_33 3 rfl ?_
      obtain ⟨t11, e12, h⟩ := Ho_bind h
      refine J_callSi hx lkS_RX5_139 [.int v1, .int v3] [.int (0 : Int32), .ref (ad 71), .ref (ad 63), .int v2] rfl rfl (Nat.le_of_ble_eq_true rfl) (Nat.le_of_ble_eq_true rfl) (s_X5_has  ⟨t11, e12, ⟨rfl, rfl, rfl⟩⟩) dX5_sixBy_34 ?_
      refine J_if_ne hx dX5_sixBy_37 44 (by decide) (fun c13 => ?_) (fun c13 => ?_)
      · have h := Ho_f c13 h
        refine J_sub (lv' := [(0, .ref (ad 63)), (1, .int v1), (3, .int v3)]) hx [0, 1, 3] rfl ?_
        exact s_X5_sixBy_j44 hx hQ  h
      · have h := Ho_t c13 h
        refine J_iconst (v := (1 : Int32)) hx dX5_sixBy_40 (by decide) ?_
        refine J_goto hx dX5_sixBy_41 45 (by decide) ?_
        refine J_sub (lv' := [(0, .ref (ad 63)), (1, .int v1), (3, .int v3)]) hx [0, 1, 3] rfl ?_
        exact s_X5_sixBy_j45 hx hQ  h
set_option maxRecDepth 100000 in
set_option maxHeartbeats 4000000 in
theorem s_X5_sixBy_L8 {X : k_C} {ad : Nat → Nat} {P : Option Value → StI → StL → Prop} {I : StI} {L : StL} (hx : Ok X cX5_sixBy RX5 4 (some .int) 4) (hQ : OkQ X ad P)  {v1 : Int32} {v2 : Int32} {v3 : Int32}  (n : Nat) (h : Ho (f_X5_sixBy_L8 v1 n v2 v3 I) (kr_X5_sixBy P L)) : J X ad 4 I L 8 [(0, .ref (ad 63)), (1, .int v1), (2, .int v2), (3, .int v3)] [] := by
  exact k_loop_ho (G := g_X5_sixBy_L8 X ad L v1) (fun s hs => s_X5_sixBy_L8_b hx hQ  hs) n (v2, v3, I) h
def f_X5_sixBy (v1 : Int32) (I : StI) : Option (Int32 × StI) :=
  Option.bind (f_X5_laysAside I) (fun t1 => f_X5_sixBy_L8 v1 k_fu (0 : Int32) (0 : Int32) t1)
set_option maxRecDepth 100000 in
set_option maxHeartbeats 4000000 in
theorem s_X5_sixBy {l : Launch} {ad : Nat → Nat} {P : Option Value → StI → StL → Prop} {I : StI} {L : StL} {v1 : Int32}  (h : Ho (f_X5_sixBy v1 I) (kr_X5_sixBy P L)) : k_Met l ad 4 yX5_sixBy cX5_sixBy 4 (some .int) [.ref (ad 63), .int v1] I L P := by
  refine k_enter (by decide +kernel) (Nat.le_of_ble_eq_true rfl) (fun X hl hx hQ => ?_)
  clear hl
  have hx : Ok X cX5_sixBy RX5 4 (some .int) 4 := hx
  show J X ad 4 I L 0 [(0, .ref (ad 63)), (1, .int v1)] []
  unfold f_X5_sixBy at h
  refine J_aload_n hx dX5_sixBy_0 0 rfl ?_
  obtain ⟨t1, e2, h⟩ := Ho_bind h
  refine J_callVv hx lkV_RX5_195 (rfl : k_sh 63 = (5, k_N 5)) [] [] rfl rfl (Nat.le_of_ble_eq_true rfl) (Nat.le_of_ble_eq_true rfl) (s_X5_laysAside  ⟨t1, e2, ⟨rfl, rfl, rfl⟩⟩) dX5_sixBy_1 ?_
  refine J_iconst (v := (0 : Int32)) hx dX5_sixBy_4 (by decide) ?_
  refine J_istore_n (x := (0 : Int32)) (lv' := [(2, .int (0 : Int32)), (0, .ref (ad 63)), (1, .int v1)]) hx dX5_sixBy_5 rfl (by decide) rfl ?_
  refine J_iconst (v := (0 : Int32)) hx dX5_sixBy_6 (by decide) ?_
  refine J_istore_n (x := (0 : Int32)) (lv' := [(3, .int (0 : Int32)), (2, .int (0 : Int32)), (0, .ref (ad 63)), (1, .int v1)]) hx dX5_sixBy_7 rfl (by decide) rfl ?_
  refine J_sub (lv' := [(0, .ref (ad 63)), (1, .int v1), (2, .int (0 : Int32)), (3, .int (0 : Int32))]) hx [2, 3, 1, 0] rfl ?_
  exact s_X5_sixBy_L8 hx hQ  k_fu h
abbrev kr_X5_weigh (P : Option Value → StI → StL → Prop) (I : StI) (L : StL) : Int64 → Prop := fun t => P (some (.long t)) I L
abbrev g_X5_weigh_L5 (X : k_C) (ad : Nat → Nat) (I : StI) (L : StL) (v0 : Int32) (v1 : Int32) : (Int64 × Int32) → Prop := fun s => J X ad 5 I L 5 [(0, .int v0), (1, .int v1), (2, .long s.1), (4, .int s.2)] []
def f_X5_weigh_j32 (v0 : Int32) (v1 : Int32) (v4 : Int32) (s0 : Int64) (s1 : Int64) : Option ((Int64 × Int32) ⊕ (Int64)) :=
  k_let (s0 * s1) (fun x5 => k_let (v4 + (1 : Int32)) (fun x6 => some (.inl (x5, x6))))
set_option maxRecDepth 100000 in
set_option maxHeartbeats 4000000 in
theorem s_X5_weigh_j32 {X : k_C} {ad : Nat → Nat} {P : Option Value → StI → StL → Prop} {I : StI} {L : StL} (hx : Ok X cX5_weigh RX5 5 (some .long) 2) (hQ : OkQ X ad P)  {v0 : Int32} {v1 : Int32} {v4 : Int32} {s0 : Int64} {s1 : Int64}  (h : Ho (f_X5_weigh_j32 v0 v1 v4 s0 s1) (Sum.elim (g_X5_weigh_L5 X ad I L v0 v1) (kr_X5_weigh P I L))) : J X ad 5 I L 32 [(0, .int v0), (1, .int v1), (4, .int v4)] [.long s1, .long s0] := by
  unfold f_X5_weigh_j32 at h
  refine J_lmul hx dX5_weigh_32 ?_
  obtain ⟨x5, hx5, h⟩ := Ho_let h
  refine J_lstore_n (x := x5) (lv' := [(2, .long x5), (0, .int v0), (1, .int v1), (4, .int v4)]) hx dX5_weigh_33 hx5 (by decide) rfl ?_
  obtain ⟨x6, hx6, h⟩ := Ho_let h
  refine J_iinc (x := x6) (lv' := [(4, .int x6), (2, .long x5), (0, .int v0), (1, .int v1)]) hx dX5_weigh_34 3 rfl (by rw [hx6]; rfl) (by decide) rfl ?_
  refine J_goto hx dX5_weigh_37 5 (by decide) ?_
  refine J_sub (lv' := [(0, .int v0), (1, .int v1), (2, .long x5), (4, .int x6)]) hx [2, 3, 1, 0] rfl ?_
  have h := Ho_some h
  exact h
def f_X5_weigh_L5_b (v0 : Int32) (v1 : Int32) (v2 : Int64) (v4 : Int32) : Option ((Int64 × Int32) ⊕ (Int64)) :=
  (if (6 : Int32) ≤ v4 then some (.inr (v2)) else Option.bind (f_X5_has v0 v4) (fun t2 => (if t2 = 0 then f_X5_weigh_j32 v0 v1 v4 v2 (((12 : Int32) - v1)).toInt64 else f_X5_weigh_j32 v0 v1 v4 v2 (v1).toInt64)))
def f_X5_weigh_L5 (v0 : Int32) (v1 : Int32) (n : Nat) (v2 : Int64) (v4 : Int32) : Option (Int64) :=
  k_loop (fun s => f_X5_weigh_L5_b v0 v1 s.1 s.2) n (v2, v4)
set_option maxRecDepth 100000 in
set_option maxHeartbeats 4000000 in
theorem s_X5_weigh_L5_b {X : k_C} {ad : Nat → Nat} {P : Option Value → StI → StL → Prop} {I : StI} {L : StL} (hx : Ok X cX5_weigh RX5 5 (some .long) 2) (hQ : OkQ X ad P)  {v0 : Int32} {v1 : Int32} {v2 : Int64} {v4 : Int32}  (h : Ho (f_X5_weigh_L5_b v0 v1 v2 v4) (Sum.elim (g_X5_weigh_L5 X ad I L v0 v1) (kr_X5_weigh P I L))) : J X ad 5 I L 5 [(0, .int v0), (1, .int v1), (2, .long v2), (4, .int v4)] [] := by
  unfold f_X5_weigh_L5_b at h
  refine J_iload hx dX5_weigh_5 3 rfl ?_
  refine J_bipush (v := (6 : Int32)) hx dX5_weigh_7 (by decide) ?_
  refine J_ic_ge hx dX5_weigh_9 40 (by decide) (fun c1 => ?_) (fun c1 => ?_)
  · have h := Ho_t c1 h
    refine J_lload_n hx dX5_weigh_40 2 rfl ?_
    have h := Ho_some h
    exact J_lret hx hQ dX5_weigh_41 h
  · have h := Ho_f c1 h
    refine J_lload_n hx dX5_weigh_12 2 rfl ?_
    refine J_iload_n hx dX5_weigh_13 0 rfl ?_
    refine J_iload hx dX5_weigh_14 3 rfl ?_
    obtain ⟨t2, e3, h⟩ := Ho_bind h
    refine J_callSi hx lkS_RX5_139 [.int v0, .int v4] [.long v2] rfl rfl (Nat.le_of_ble_eq_true rfl) (Nat.le_of_ble_eq_true rfl) (s_X5_has  ⟨t2, e3, ⟨rfl, rfl, rfl⟩⟩) dX5_weigh_16 ?_
    refine J_if_eq hx dX5_weigh_19 27 (by decide) (fun c4 => ?_) (fun c4 => ?_)
    · have h := Ho_t c4 h
      refine J_bipush (v := (12 : Int32)) hx dX5_weigh_27 (by decide) ?_
      refine J_iload_n hx dX5_weigh_29 1 rfl ?_
      refine J_isub hx dX5_weigh_30 ?_
      refine J_i2l hx dX5_weigh_31 ?_
      refine J_sub (lv' := [(0, .int v0), (1, .int v1), (4, .int v4)]) hx [0, 1, 3] rfl ?_
      exact s_X5_weigh_j32 hx hQ  h
    · have h := Ho_f c4 h
      refine J_iload_n hx dX5_weigh_22 1 rfl ?_
      refine J_i2l hx dX5_weigh_23 ?_
      refine J_goto hx dX5_weigh_24 32 (by decide) ?_
      refine J_sub (lv' := [(0, .int v0), (1, .int v1), (4, .int v4)]) hx [0, 1, 3] rfl ?_
      exact s_X5_weigh_j32 hx hQ  h
set_option maxRecDepth 100000 in
set_option maxHeartbeats 4000000 in
theorem s_X5_weigh_L5 {X : k_C} {ad : Nat → Nat} {P : Option Value → StI → StL → Prop} {I : StI} {L : StL} (hx : Ok X cX5_weigh RX5 5 (some .long) 2) (hQ : OkQ X ad P)  {v0 : Int32} {v1 : Int32} {v2 : Int64} {v4 : Int32}  (n : Nat) (h : Ho (f_X5_weigh_L5 v0 v1 n v2 v4) (kr_X5_weigh P I L)) : J X ad 5 I L 5 [(0, .int v0), (1, .int v1), (2, .long v2), (4, .int v4)] [] := by
  exact k_loop_ho (G := g_X5_weigh_L5 X ad I L v0 v1) (fun s hs => s_X5_weigh_L5_b hx hQ  hs) n (v2, v4) h
def f_X5_weigh (v0 : Int32) (v1 : Int32) : Option (Int64) :=
  f_X5_weigh_L5 v0 v1 k_fu (1 : Int64) (0 : Int32)
set_option maxRecDepth 100000 in
set_option maxHeartbeats 4000000 in
theorem s_X5_weigh {l : Launch} {ad : Nat → Nat} {P : Option Value → StI → StL → Prop} {I : StI} {L : StL} {v0 : Int32} {v1 : Int32}  (h : Ho (f_X5_weigh v0 v1) (kr_X5_weigh P I L)) : k_Met l ad 2 yX5_weigh cX5_weigh 5 (some .long) [.int v0, .int v1] I L P := by
  refine k_enter (by decide +kernel) (Nat.le_of_ble_eq_true rfl) (fun X hl hx hQ => ?_)
  clear hl
  have hx : Ok X cX5_weigh RX5 5 (some .long) 2 := hx
  show J X ad 5 I L 0 [(0, .int v0), (1, .int v1)] []
  unfold f_X5_weigh at h
  refine J_lconst (v := (1 : Int64)) hx dX5_weigh_0 (by decide) ?_
  refine J_lstore_n (x := (1 : Int64)) (lv' := [(2, .long (1 : Int64)), (0, .int v0), (1, .int v1)]) hx dX5_weigh_1 rfl (by decide) rfl ?_
  refine J_iconst (v := (0 : Int32)) hx dX5_weigh_2 (by decide) ?_
  refine J_istore (x := (0 : Int32)) (lv' := [(4, .int (0 : Int32)), (2, .long (1 : Int64)), (0, .int v0), (1, .int v1)]) hx dX5_weigh_3 rfl (by decide) rfl ?_
  refine J_sub (lv' := [(0, .int v0), (1, .int v1), (2, .long (1 : Int64)), (4, .int (0 : Int32))]) hx [2, 3, 1, 0] rfl ?_
  exact s_X5_weigh_L5 hx hQ  k_fu h
abbrev kr_X5_tellsPart (P : Option Value → StI → StL → Prop) (I : StI) : StL → Prop := fun t => P none I t
abbrev g_X5_tellsPart_L6 (X : k_C) (ad : Nat → Nat) (I : StI) (L : StL) (v1 : Int64) (v3 : Int64) : (Int64 × Int64) → Prop := fun s => J X ad 11 I L 6 [(0, .ref (ad 63)), (1, .long v1), (3, .long v3), (5, .long s.1), (7, .long s.2)] []
def f_X5_tellsPart_L6_b (v1 : Int64) (v3 : Int64) (v5 : Int64) (v7 : Int64) (L : StL) : Option ((Int64 × Int64) ⊕ (StL)) :=
  (if (lg_cmp v7 (0 : Int64)) = 0 then k_nzL v5 (k_let (k_upL L 63 15 (v1 / v5)) (fun L3 => k_nzL v5 (k_let (k_upL L3 63 16 (v3 / v5)) (fun L5 => some (.inr (L5)))))) else k_nzL v7 (k_let (v5 - v5 / v7 * v7) (fun x7 => some (.inl (v7, x7)))))
def f_X5_tellsPart_L6 (v1 : Int64) (v3 : Int64) (L : StL) (n : Nat) (v5 : Int64) (v7 : Int64) : Option (StL) :=
  k_loop (fun s => f_X5_tellsPart_L6_b v1 v3 s.1 s.2 L) n (v5, v7)
set_option maxRecDepth 100000 in
set_option maxHeartbeats 4000000 in
theorem s_X5_tellsPart_L6_b {X : k_C} {ad : Nat → Nat} {P : Option Value → StI → StL → Prop} {I : StI} {L : StL} (hx : Ok X cX5_tellsPart RX5 11 none 1) (hQ : OkQ X ad P)  {v1 : Int64} {v3 : Int64} {v5 : Int64} {v7 : Int64}  (h : Ho (f_X5_tellsPart_L6_b v1 v3 v5 v7 L) (Sum.elim (g_X5_tellsPart_L6 X ad I L v1 v3) (kr_X5_tellsPart P I))) : J X ad 11 I L 6 [(0, .ref (ad 63)), (1, .long v1), (3, .long v3), (5, .long v5), (7, .long v7)] [] := by
  unfold f_X5_tellsPart_L6_b at h
  refine J_lload hx dX5_tellsPart_6 4 rfl ?_
  refine J_lconst (v := (0 : Int64)) hx dX5_tellsPart_8 (by decide) ?_
  refine J_lcmp hx dX5_tellsPart_9 ?_
  refine J_if_eq hx dX5_tellsPart_10 31 (by decide) (fun c1 => ?_) (fun c1 => ?_)
  · have h := Ho_t c1 h
    refine J_aload_n hx dX5_tellsPart_31 0 rfl ?_
    refine J_lload_n hx dX5_tellsPart_32 1 rfl ?_
    refine J_lload hx dX5_tellsPart_33 3 rfl ?_
    obtain ⟨hz2, h⟩ := Ho_nzL h
    refine J_ldiv hx hz2 dX5_tellsPart_35 ?_
    obtain ⟨L3, hL3, h⟩ := Ho_let h
    refine J_putL hx flW_RX5_222 (rfl : k_sh 63 = (5, k_N 5)) rfl dX5_tellsPart_36 hL3 ?_
    refine J_aload_n hx dX5_tellsPart_39 0 rfl ?_
    refine J_lload_n hx dX5_tellsPart_40 2 rfl ?_
    refine J_lload hx dX5_tellsPart_41 3 rfl ?_
    obtain ⟨hz4, h⟩ := Ho_nzL h
    refine J_ldiv hx hz4 dX5_tellsPart_43 ?_
    obtain ⟨L5, hL5, h⟩ := Ho_let h
    refine J_putL hx flW_RX5_47 (rfl : k_sh 63 = (5, k_N 5)) rfl dX5_tellsPart_44 hL5 ?_
    have h := Ho_some h
    exact J_vret hx hQ dX5_tellsPart_47 h
  · have h := Ho_f c1 h
    refine J_lload hx dX5_tellsPart_13 3 rfl ?_
    refine J_lload hx dX5_tellsPart_15 4 rfl ?_
    obtain ⟨hz6, h⟩ := Ho_nzL h
    refine J_lrem hx hz6 dX5_tellsPart_17 ?_
    obtain ⟨x7, hx7, h⟩ := Ho_let h
    refine J_lstore (x := x7) (lv' := [(9, .long x7), (0, .ref (ad 63)), (1, .long v1), (3, .long v3), (5, .long v5), (7, .long v7)]) hx dX5_tellsPart_18 hx7 (by decide) rfl ?_
    refine J_lload hx dX5_tellsPart_20 5 rfl ?_
    refine J_lstore (x := v7) (lv' := [(5, .long v7), (9, .long x7), (0, .ref (ad 63)), (1, .long v1), (3, .long v3), (7, .long v7)]) hx dX5_tellsPart_22 rfl (by decide) rfl ?_
    refine J_lload hx dX5_tellsPart_24 1 rfl ?_
    refine J_lstore (x := x7) (lv' := [(7, .long x7), (5, .long v7), (9, .long x7), (0, .ref (ad 63)), (1, .long v1), (3, .long v3)]) hx dX5_tellsPart_26 rfl (by decide) rfl ?_
    refine J_goto hx dX5_tellsPart_28 6 (by decide) ?_
    refine J_sub (lv' := [(0, .ref (ad 63)), (1, .long v1), (3, .long v3), (5, .long v7), (7, .long x7)]) hx [3, 4, 5, 1, 0] rfl ?_
    have h := Ho_some h
    exact h
set_option maxRecDepth 100000 in
set_option maxHeartbeats 4000000 in
theorem s_X5_tellsPart_L6 {X : k_C} {ad : Nat → Nat} {P : Option Value → StI → StL → Prop} {I : StI} {L : StL} (hx : Ok X cX5_tellsPart RX5 11 none 1) (hQ : OkQ X ad P)  {v1 : Int64} {v3 : Int64} {v5 : Int64} {v7 : Int64}  (n : Nat) (h : Ho (f_X5_tellsPart_L6 v1 v3 L n v5 v7) (kr_X5_tellsPart P I)) : J X ad 11 I L 6 [(0, .ref (ad 63)), (1, .long v1), (3, .long v3), (5, .long v5), (7, .long v7)] [] := by
  exact k_loop_ho (G := g_X5_tellsPart_L6 X ad I L v1 v3) (fun s hs => s_X5_tellsPart_L6_b hx hQ  hs) n (v5, v7) h
def f_X5_tellsPart (v1 : Int64) (v3 : Int64) (L : StL) : Option (StL) :=
  f_X5_tellsPart_L6 v1 v3 L k_fu v1 v3
set_option maxRecDepth 100000 in
set_option maxHeartbeats 4000000 in
theorem s_X5_tellsPart {l : Launch} {ad : Nat → Nat} {P : Option Value → StI → StL → Prop} {I : StI} {L : StL} {v1 : Int64} {v3 : Int64}  (h : Ho (f_X5_tellsPart v1 v3 L) (kr_X5_tellsPart P I)) : k_Met l ad 1 yX5_tellsPart cX5_tellsPart 11 none [.ref (ad 63), .long v1, .long v3] I L P := by
  refine k_enter (by decide +kernel) (Nat.le_of_ble_eq_true rfl) (fun X hl hx hQ => ?_)
  clear hl
  have hx : Ok X cX5_tellsPart RX5 11 none 1 := hx
  show J X ad 11 I L 0 [(0, .ref (ad 63)), (1, .long v1), (3, .long v3)] []
  unfold f_X5_tellsPart at h
  refine J_lload_n hx dX5_tellsPart_0 1 rfl ?_
  refine J_lstore (x := v1) (lv' := [(5, .long v1), (0, .ref (ad 63)), (1, .long v1), (3, .long v3)]) hx dX5_tellsPart_1 rfl (by decide) rfl ?_
  refine J_lload_n hx dX5_tellsPart_3 3 rfl ?_
  refine J_lstore (x := v3) (lv' := [(7, .long v3), (5, .long v1), (0, .ref (ad 63)), (1, .long v1), (3, .long v3)]) hx dX5_tellsPart_4 rfl (by decide) rfl ?_
  refine J_sub (lv' := [(0, .ref (ad 63)), (1, .long v1), (3, .long v3), (5, .long v1), (7, .long v3)]) hx [2, 3, 4, 1, 0] rfl ?_
  exact s_X5_tellsPart_L6 hx hQ  k_fu h
abbrev kr_X5_chance (P : Option Value → StI → StL → Prop) : Int32 × StI × StL → Prop := fun t => P (some (.int t.1)) t.2.1 t.2.2
abbrev g_X5_chance_L50 (X : k_C) (ad : Nat → Nat) (L : StL) (v1 : Int32) (v2 : Int32) (v3 : Int32) : (Int64 × Int32 × StI) → Prop := fun s => J X ad 8 s.2.2 L 50 [(0, .ref (ad 63)), (1, .int v1), (2, .int v2), (3, .int v3), (4, .long s.1), (6, .int s.2.1)] []
def f_X5_chance_j93 (v1 : Int32) (v2 : Int32) (v3 : Int32) (v6 : Int32) (s0 : Int64) (s1 : Int64) (s2 : Int32) (I : StI) (L : StL) : Option ((Int64 × Int32 × StI) ⊕ (Int32 × StI × StL)) :=
  k_let (s0 + (s1 * (s2).toInt64)) (fun x17 => k_let (v6 + (1 : Int32)) (fun x18 => some (.inl (x17, x18, I))))
set_option maxRecDepth 100000 in
set_option maxHeartbeats 4000000 in
theorem s_X5_chance_j93 {X : k_C} {ad : Nat → Nat} {P : Option Value → StI → StL → Prop} {I : StI} {L : StL} (hx : Ok X cX5_chance RX5 8 (some .int) 5) (hQ : OkQ X ad P)  {v1 : Int32} {v2 : Int32} {v3 : Int32} {v6 : Int32} {s0 : Int64} {s1 : Int64} {s2 : Int32}  (h : Ho (f_X5_chance_j93 v1 v2 v3 v6 s0 s1 s2 I L) (Sum.elim (g_X5_chance_L50 X ad L v1 v2 v3) (kr_X5_chance P))) : J X ad 8 I L 93 [(0, .ref (ad 63)), (1, .int v1), (2, .int v2), (3, .int v3), (6, .int v6)] [.int s2, .long s1, .long s0] := by
  unfold f_X5_chance_j93 at h
  refine J_i2l hx dX5_chance_93 ?_
  refine J_lmul hx dX5_chance_94 ?_
  refine J_ladd hx dX5_chance_95 ?_
  obtain ⟨x17, hx17, h⟩ := Ho_let h
  refine J_lstore (x := x17) (lv' := [(4, .long x17), (0, .ref (ad 63)), (1, .int v1), (2, .int v2), (3, .int v3), (6, .int v6)]) hx dX5_chance_96 hx17 (by decide) rfl ?_
  obtain ⟨x18, hx18, h⟩ := Ho_let h
  refine J_iinc (x := x18) (lv' := [(6, .int x18), (4, .long x17), (0, .ref (ad 63)), (1, .int v1), (2, .int v2), (3, .int v3)]) hx dX5_chance_98 5 rfl (by rw [hx18]; rfl) (by decide) rfl ?_
  refine J_goto hx dX5_chance_101 50 (by decide) ?_
  refine J_sub (lv' := [(0, .ref (ad 63)), (1, .int v1), (2, .int v2), (3, .int v3), (4, .long x17), (6, .int x18)]) hx [2, 3, 4, 5, 1, 0] rfl ?_
  have h := Ho_some h
  exact h
def f_X5_chance_L50_b (v1 : Int32) (v2 : Int32) (v3 : Int32) (v4 : Int64) (v6 : Int32) (I : StI) (L : StL) : Option ((Int64 × Int32 × StI) ⊕ (Int32 × StI × StL)) :=
  (if (64 : Int32) ≤ v6 then Option.bind (f_X5_tellsPart v4 (2985984 : Int64) L) (fun t9 => some (.inr ((1 : Int32), I, t9))) else Option.bind (f_X5_sixBy v6 I) (fun t11 => Option.bind (f_X5_weigh v6 v2) (fun t13 => (if v3 = 0 then (if t11.1 < v1 then f_X5_chance_j93 v1 v2 v3 v6 v4 t13 (0 : Int32) t11.2 L else f_X5_chance_j93 v1 v2 v3 v6 v4 t13 (1 : Int32) t11.2 L) else f_X5_chance_j93 v1 v2 v3 v6 v4 t13 t11.1 t11.2 L))))
def f_X5_chance_L50 (v1 : Int32) (v2 : Int32) (v3 : Int32) (L : StL) (n : Nat) (v4 : Int64) (v6 : Int32) (I : StI) : Option (Int32 × StI × StL) :=
  k_loop (fun s => f_X5_chance_L50_b v1 v2 v3 s.1 s.2.1 s.2.2 L) n (v4, v6, I)
set_option maxRecDepth 100000 in
set_option maxHeartbeats 4000000 in
theorem s_X5_chance_L50_b {X : k_C} {ad : Nat → Nat} {P : Option Value → StI → StL → Prop} {I : StI} {L : StL} (hx : Ok X cX5_chance RX5 8 (some .int) 5) (hQ : OkQ X ad P)  {v1 : Int32} {v2 : Int32} {v3 : Int32} {v4 : Int64} {v6 : Int32}  (h : Ho (f_X5_chance_L50_b v1 v2 v3 v4 v6 I L) (Sum.elim (g_X5_chance_L50 X ad L v1 v2 v3) (kr_X5_chance P))) : J X ad 8 I L 50 [(0, .ref (ad 63)), (1, .int v1), (2, .int v2), (3, .int v3), (4, .long v4), (6, .int v6)] [] := by
  unfold f_X5_chance_L50_b at h
  refine J_iload hx dX5_chance_50 5 rfl ?_
  refine J_bipush (v := (64 : Int32)) hx dX5_chance_52 (by decide) ?_
  refine J_ic_ge hx dX5_chance_54 104 (by decide) (fun c8 => ?_) (fun c8 => ?_)
  · have h := Ho_t c8 h
    refine J_aload_n hx dX5_chance_104 0 rfl ?_
    refine J_lload hx dX5_chance_105 4 rfl ?_
    refine J_ldc2 hx cn_RX5_236 dX5_chance_107 ?_
    obtain ⟨t9, e10, h⟩ := Ho_bind h
    refine J_callVv hx lkV_RX5_238 (rfl : k_sh 63 = (5, k_N 5)) [.long v4, .long (2985984 : Int64)] [] rfl rfl (Nat.le_of_ble_eq_true rfl) (Nat.le_of_ble_eq_true rfl) (s_X5_tellsPart  ⟨t9, e10, ⟨rfl, rfl, rfl⟩⟩) dX5_chance_110 ?_
    refine J_iconst (v := (1 : Int32)) hx dX5_chance_113 (by decide) ?_
    have h := Ho_some h
    exact J_iret hx hQ dX5_chance_114 h
  · have h := Ho_f c8 h
    refine J_aload_n hx dX5_chance_57 0 rfl ?_
    refine J_iload hx dX5_chance_58 5 rfl ?_
    obtain ⟨t11, e12, h⟩ := Ho_bind h
    refine J_callVi hx lkV_RX5_229 (rfl : k_sh 63 = (5, k_N 5)) [.int v6] [] rfl rfl (Nat.le_of_ble_eq_true rfl) (Nat.le_of_ble_eq_true rfl) (s_X5_sixBy  ⟨t11, e12, ⟨rfl, rfl, rfl⟩⟩) dX5_chance_60 ?_
    refine J_istore (x := t11.1) (lv' := [(7, .int t11.1), (0, .ref (ad 63)), (1, .int v1), (2, .int v2), (3, .int v3), (4, .long v4), (6, .int v6)]) hx dX5_chance_63 rfl (by decide) rfl ?_
    refine J_lload hx dX5_chance_65 5 rfl ?_
    refine J_iload hx dX5_chance_67 6 rfl ?_
    refine J_iload_n hx dX5_chance_69 3 rfl ?_
    obtain ⟨t13, e14, h⟩ := Ho_bind h
    refine J_callSl hx lkS_RX5_232 [.int v6, .int v2] [.long v4] rfl rfl (Nat.le_of_ble_eq_true rfl) (Nat.le_of_ble_eq_true rfl) (s_X5_weigh  ⟨t13, e14, ⟨rfl, rfl, rfl⟩⟩) dX5_chance_70 ?_
    refine J_iload_n hx dX5_chance_73 4 rfl ?_
    refine J_if_eq hx dX5_chance_74 82 (by decide) (fun c15 => ?_) (fun c15 => ?_)
    · have h := Ho_t c15 h
      refine J_iload hx dX5_chance_82 0 rfl ?_
      refine J_iload_n hx dX5_chance_84 2 rfl ?_
      refine J_ic_lt hx dX5_chance_85 92 (by decide) (fun c16 => ?_) (fun c16 => ?_)
      · have h := Ho_t c16 h
        refine J_iconst (v := (0 : Int32)) hx dX5_chance_92 (by decide) ?_
        refine J_sub (lv' := [(0, .ref (ad 63)), (1, .int v1), (2, .int v2), (3, .int v3), (6, .int v6)]) hx [1, 2, 3, 4, 6] rfl ?_
        exact s_X5_chance_j93 hx hQ  h
      · have h := Ho_f c16 h
        refine J_iconst (v := (1 : Int32)) hx dX5_chance_88 (by decide) ?_
        refine J_goto hx dX5_chance_89 93 (by decide) ?_
        refine J_sub (lv' := [(0, .ref (ad 63)), (1, .int v1), (2, .int v2), (3, .int v3), (6, .int v6)]) hx [1, 2, 3, 4, 6] rfl ?_
        exact s_X5_chance_j93 hx hQ  h
    · have h := Ho_f c15 h
      refine J_iload hx dX5_chance_77 0 rfl ?_
      refine J_goto hx dX5_chance_79 93 (by decide) ?_
      refine J_sub (lv' := [(0, .ref (ad 63)), (1, .int v1), (2, .int v2), (3, .int v3), (6, .int v6)]) hx [1, 2, 3, 4, 6] rfl ?_
      exact s_X5_chance_j93 hx hQ  h
set_option maxRecDepth 100000 in
set_option maxHeartbeats 4000000 in
theorem s_X5_chance_L50 {X : k_C} {ad : Nat → Nat} {P : Option Value → StI → StL → Prop} {I : StI} {L : StL} (hx : Ok X cX5_chance RX5 8 (some .int) 5) (hQ : OkQ X ad P)  {v1 : Int32} {v2 : Int32} {v3 : Int32} {v4 : Int64} {v6 : Int32}  (n : Nat) (h : Ho (f_X5_chance_L50 v1 v2 v3 L n v4 v6 I) (kr_X5_chance P)) : J X ad 8 I L 50 [(0, .ref (ad 63)), (1, .int v1), (2, .int v2), (3, .int v3), (4, .long v4), (6, .int v6)] [] := by
  exact k_loop_ho (G := g_X5_chance_L50 X ad L v1 v2 v3) (fun s hs => s_X5_chance_L50_b hx hQ  hs) n (v4, v6, I) h
def f_X5_chance_j30 (v1 : Int32) (v2 : Int32) (v3 : Int32) (I : StI) (L : StL) : Option (Int32 × StI × StL) :=
  (if (I 63 4) = 0 then some ((-4 : Int32), I, L) else Option.bind (f_X5_asKinds I) (fun t6 => f_X5_chance_L50 v1 v2 v3 L k_fu (0 : Int64) (0 : Int32) t6))
set_option maxRecDepth 100000 in
set_option maxHeartbeats 4000000 in
theorem s_X5_chance_j30 {X : k_C} {ad : Nat → Nat} {P : Option Value → StI → StL → Prop} {I : StI} {L : StL} (hx : Ok X cX5_chance RX5 8 (some .int) 5) (hQ : OkQ X ad P)  {v1 : Int32} {v2 : Int32} {v3 : Int32}  (h : Ho (f_X5_chance_j30 v1 v2 v3 I L) (kr_X5_chance P)) : J X ad 8 I L 30 [(0, .ref (ad 63)), (1, .int v1), (2, .int v2), (3, .int v3)] [] := by
  unfold f_X5_chance_j30 at h
  refine J_aload_n hx dX5_chance_30 0 rfl ?_
  refine J_getI hx fl_RX5_115 (rfl : k_sh 63 = (5, k_N 5)) rfl dX5_chance_31 ?_
  refine J_if_ne hx dX5_chance_34 40 (by decide) (fun c5 => ?_) (fun c5 => ?_)
  · have h := Ho_f c5 h
    refine J_aload_n hx dX5_chance_40 0 rfl ?_
    obtain ⟨t6, e7, h⟩ := Ho_bind h
    refine J_callVv hx lkV_RX5_174 (rfl : k_sh 63 = (5, k_N 5)) [] [] rfl rfl (Nat.le_of_ble_eq_true rfl) (Nat.le_of_ble_eq_true rfl) (s_X5_asKinds  ⟨t6, e7, ⟨rfl, rfl, rfl⟩⟩) dX5_chance_41 ?_
    refine J_lconst (v := (0 : Int64)) hx dX5_chance_44 (by decide) ?_
    refine J_lstore (x := (0 : Int64)) (lv' := [(4, .long (0 : Int64)), (0, .ref (ad 63)), (1, .int v1), (2, .int v2), (3, .int v3)]) hx dX5_chance_45 rfl (by decide) rfl ?_
    refine J_iconst (v := (0 : Int32)) hx dX5_chance_47 (by decide) ?_
    refine J_istore (x := (0 : Int32)) (lv' := [(6, .int (0 : Int32)), (4, .long (0 : Int64)), (0, .ref (ad 63)), (1, .int v1), (2, .int v2), (3, .int v3)]) hx dX5_chance_48 rfl (by decide) rfl ?_
    refine J_sub (lv' := [(0, .ref (ad 63)), (1, .int v1), (2, .int v2), (3, .int v3), (4, .long (0 : Int64)), (6, .int (0 : Int32))]) hx [2, 3, 4, 5, 1, 0] rfl ?_
    exact s_X5_chance_L50 hx hQ  k_fu h
  · have h := Ho_t c5 h
    refine J_bipush (v := (-4 : Int32)) hx dX5_chance_37 (by decide) ?_
    have h := Ho_some h
    exact J_iret hx hQ dX5_chance_39 h
def f_X5_chance (v1 : Int32) (v2 : Int32) (v3 : Int32) (I : StI) (L : StL) : Option (Int32 × StI × StL) :=
  Option.bind (f_X5_in (v2).toInt64 (0 : Int64) (12 : Int64)) (fun t1 => (if t1 = 0 then some ((-1 : Int32), I, L) else (if v3 = 0 then Option.bind (f_X5_in (v1).toInt64 (0 : Int64) (42 : Int64)) (fun t19 => (if t19 = 0 then some ((-1 : Int32), I, L) else f_X5_chance_j30 v1 v2 v3 I L)) else f_X5_chance_j30 v1 v2 v3 I L)))
set_option maxRecDepth 100000 in
set_option maxHeartbeats 4000000 in
theorem s_X5_chance {l : Launch} {ad : Nat → Nat} {P : Option Value → StI → StL → Prop} {I : StI} {L : StL} {v1 : Int32} {v2 : Int32} {v3 : Int32}  (h : Ho (f_X5_chance v1 v2 v3 I L) (kr_X5_chance P)) : k_Met l ad 5 yX5_chance cX5_chance 8 (some .int) [.ref (ad 63), .int v1, .int v2, .int v3] I L P := by
  refine k_enter (by decide +kernel) (Nat.le_of_ble_eq_true rfl) (fun X hl hx hQ => ?_)
  clear hl
  have hx : Ok X cX5_chance RX5 8 (some .int) 5 := hx
  show J X ad 8 I L 0 [(0, .ref (ad 63)), (1, .int v1), (2, .int v2), (3, .int v3)] []
  unfold f_X5_chance at h
  refine J_iload_n hx dX5_chance_0 2 rfl ?_
  refine J_i2l hx dX5_chance_1 ?_
  refine J_lconst (v := (0 : Int64)) hx dX5_chance_2 (by decide) ?_
  refine J_ldc2 hx cn_RX5_225 dX5_chance_3 ?_
  obtain ⟨t1, e2, h⟩ := Ho_bind h
  refine J_callSi hx lkS_RX5_75 [.long (v2).toInt64, .long (0 : Int64), .long (12 : Int64)] [] rfl rfl (Nat.le_of_ble_eq_true rfl) (Nat.le_of_ble_eq_true rfl) (s_X5_in  ⟨t1, e2, ⟨rfl, rfl, rfl⟩⟩) dX5_chance_6 ?_
  refine J_if_eq hx dX5_chance_9 28 (by decide) (fun c3 => ?_) (fun c3 => ?_)
  · have h := Ho_t c3 h
    refine J_iconst (v := (-1 : Int32)) hx dX5_chance_28 (by decide) ?_
    have h := Ho_some h
    exact J_iret hx hQ dX5_chance_29 h
  · have h := Ho_f c3 h
    refine J_iload_n hx dX5_chance_12 3 rfl ?_
    refine J_if_ne hx dX5_chance_13 30 (by decide) (fun c4 => ?_) (fun c4 => ?_)
    · have h := Ho_f c4 h
      refine J_sub (lv' := [(0, .ref (ad 63)), (1, .int v1), (2, .int v2), (3, .int v3)]) hx [0, 1, 2, 3] rfl ?_
      exact s_X5_chance_j30 hx hQ  h
    · have h := Ho_t c4 h
      refine J_iload_n hx dX5_chance_16 1 rfl ?_
      refine J_i2l hx dX5_chance_17 ?_
      refine J_lconst (v := (0 : Int64)) hx dX5_chance_18 (by decide) ?_
      refine J_ldc2 hx cn_RX5_227 dX5_chance_19 ?_
      obtain ⟨t19, e20, h⟩ := Ho_bind h
      refine J_callSi hx lkS_RX5_75 [.long (v1).toInt64, .long (0 : Int64), .long (42 : Int64)] [] rfl rfl (Nat.le_of_ble_eq_true rfl) (Nat.le_of_ble_eq_true rfl) (s_X5_in  ⟨t19, e20, ⟨rfl, rfl, rfl⟩⟩) dX5_chance_22 ?_
      refine J_if_ne hx dX5_chance_25 30 (by decide) (fun c21 => ?_) (fun c21 => ?_)
      · have h := Ho_f c21 h
        refine J_sub (lv' := [(0, .ref (ad 63)), (1, .int v1), (2, .int v2), (3, .int v3)]) hx [0, 1, 2, 3] rfl ?_
        exact s_X5_chance_j30 hx hQ  h
      · have h := Ho_t c21 h
        refine J_iconst (v := (-1 : Int32)) hx dX5_chance_28 (by decide) ?_
        have h := Ho_some h
        exact J_iret hx hQ dX5_chance_29 h
abbrev kr_X5_comesSo (P : Option Value → StI → StL → Prop) (L : StL) : Int32 × StI → Prop := fun t => P (some (.int t.1)) t.2 L
abbrev g_X5_comesSo_L2 (X : k_C) (ad : Nat → Nat) (L : StL) (v1 : Int32) : (Int32 × StI) → Prop := fun s => J X ad 3 s.2 L 2 [(0, .ref (ad 63)), (1, .int v1), (2, .int s.1)] []
def f_X5_comesSo_L2_b (v1 : Int32) (v2 : Int32) (I : StI) : Option ((Int32 × StI) ⊕ (Int32 × StI)) :=
  k_gd v1 6 ((if (I 64 v1.toNatClampNeg) ≤ v2 then some (.inr ((1 : Int32), I)) else Option.bind (f_X5_goesOn (1 : Int32) (0 : Int32) I) (fun t3 => k_gd (((40 : Int32) * v1) + v2) 240 ((if t3.1 = (t3.2 65 (((40 : Int32) * v1) + v2).toNatClampNeg) then k_let (v2 + (1 : Int32)) (fun x7 => some (.inl (x7, t3.2))) else some (.inr ((0 : Int32), t3.2)))))))
def f_X5_comesSo_L2 (v1 : Int32) (n : Nat) (v2 : Int32) (I : StI) : Option (Int32 × StI) :=
  k_loop (fun s => f_X5_comesSo_L2_b v1 s.1 s.2) n (v2, I)
set_option maxRecDepth 100000 in
set_option maxHeartbeats 4000000 in
theorem s_X5_comesSo_L2_b {X : k_C} {ad : Nat → Nat} {P : Option Value → StI → StL → Prop} {I : StI} {L : StL} (hx : Ok X cX5_comesSo RX5 3 (some .boolean) 5) (hQ : OkQ X ad P)  {v1 : Int32} {v2 : Int32}  (h : Ho (f_X5_comesSo_L2_b v1 v2 I) (Sum.elim (g_X5_comesSo_L2 X ad L v1) (kr_X5_comesSo P L))) : J X ad 3 I L 2 [(0, .ref (ad 63)), (1, .int v1), (2, .int v2)] [] := by
  unfold f_X5_comesSo_L2_b at h
  refine J_iload_n hx dX5_comesSo_2 2 rfl ?_
  refine J_aload_n hx dX5_comesSo_3 0 rfl ?_
  refine J_getR (q := 64) hx fl_RX5_7 (rfl : k_sh 63 = (5, k_N 5)) rfl rfl dX5_comesSo_4 ?_
  refine J_iload_n hx dX5_comesSo_7 1 rfl ?_
  obtain ⟨b1, h⟩ := Ho_gd h
  refine J_iald hx (rfl : k_sh 64 = (10, 6)) b1 dX5_comesSo_8 ?_
  refine J_ic_ge hx dX5_comesSo_9 40 (by decide) (fun c2 => ?_) (fun c2 => ?_)
  · have h := Ho_t c2 h
    refine J_iconst (v := (1 : Int32)) hx dX5_comesSo_40 (by decide) ?_
    have h := Ho_some h
    exact J_zret hx hQ dX5_comesSo_41 rfl h
  · have h := Ho_f c2 h
    refine J_aload_n hx dX5_comesSo_12 0 rfl ?_
    refine J_iconst (v := (1 : Int32)) hx dX5_comesSo_13 (by decide) ?_
    refine J_iconst (v := (0 : Int32)) hx dX5_comesSo_14 (by decide) ?_
    obtain ⟨t3, e4, h⟩ := Ho_bind h
    refine J_callVi hx lkV_RX5_198 (rfl : k_sh 63 = (5, k_N 5)) [.int (1 : Int32), .int (0 : Int32)] [] rfl rfl (Nat.le_of_ble_eq_true rfl) (Nat.le_of_ble_eq_true rfl) (s_X5_goesOn  ⟨t3, e4, ⟨rfl, rfl, rfl⟩⟩) dX5_comesSo_15 ?_
    refine J_aload_n hx dX5_comesSo_18 0 rfl ?_
    refine J_getR (q := 65) hx fl_RX5_13 (rfl : k_sh 63 = (5, k_N 5)) rfl rfl dX5_comesSo_19 ?_
    refine J_bipush (v := (40 : Int32)) hx dX5_comesSo_22 (by decide) ?_
    refine J_iload_n hx dX5_comesSo_24 1 rfl ?_
    refine J_imul hx dX5_comesSo_25 ?_
    refine J_iload_n hx dX5_comesSo_26 2 rfl ?_
    refine J_iadd hx dX5_comesSo_27 ?_
    obtain ⟨b5, h⟩ := Ho_gd h
    refine J_iald hx (rfl : k_sh 65 = (10, 240)) b5 dX5_comesSo_28 ?_
    refine J_ic_eq hx dX5_comesSo_29 34 (by decide) (fun c6 => ?_) (fun c6 => ?_)
    · have h := Ho_t c6 h
      obtain ⟨x7, hx7, h⟩ := Ho_let h
      refine J_iinc (x := x7) (lv' := [(2, .int x7), (0, .ref (ad 63)), (1, .int v1)]) hx dX5_comesSo_34 2 rfl (by rw [hx7]; rfl) (by decide) rfl ?_
      refine J_goto hx dX5_comesSo_37 2 (by decide) ?_
      refine J_sub (lv' := [(0, .ref (ad 63)), (1, .int v1), (2, .int x7)]) hx [1, 2, 0] rfl ?_
      have h := Ho_some h
      exact h
    · have h := Ho_f c6 h
      refine J_iconst (v := (0 : Int32)) hx dX5_comesSo_32 (by decide) ?_
      have h := Ho_some h
      exact J_zret hx hQ dX5_comesSo_33 rfl h
set_option maxRecDepth 100000 in
set_option maxHeartbeats 4000000 in
theorem s_X5_comesSo_L2 {X : k_C} {ad : Nat → Nat} {P : Option Value → StI → StL → Prop} {I : StI} {L : StL} (hx : Ok X cX5_comesSo RX5 3 (some .boolean) 5) (hQ : OkQ X ad P)  {v1 : Int32} {v2 : Int32}  (n : Nat) (h : Ho (f_X5_comesSo_L2 v1 n v2 I) (kr_X5_comesSo P L)) : J X ad 3 I L 2 [(0, .ref (ad 63)), (1, .int v1), (2, .int v2)] [] := by
  exact k_loop_ho (G := g_X5_comesSo_L2 X ad L v1) (fun s hs => s_X5_comesSo_L2_b hx hQ  hs) n (v2, I) h
def f_X5_comesSo (v1 : Int32) (I : StI) : Option (Int32 × StI) :=
  f_X5_comesSo_L2 v1 k_fu (0 : Int32) I
set_option maxRecDepth 100000 in
set_option maxHeartbeats 4000000 in
theorem s_X5_comesSo {l : Launch} {ad : Nat → Nat} {P : Option Value → StI → StL → Prop} {I : StI} {L : StL} {v1 : Int32}  (h : Ho (f_X5_comesSo v1 I) (kr_X5_comesSo P L)) : k_Met l ad 5 yX5_comesSo cX5_comesSo 3 (some .boolean) [.ref (ad 63), .int v1] I L P := by
  refine k_enter (by decide +kernel) (Nat.le_of_ble_eq_true rfl) (fun X hl hx hQ => ?_)
  clear hl
  have hx : Ok X cX5_comesSo RX5 3 (some .boolean) 5 := hx
  show J X ad 3 I L 0 [(0, .ref (ad 63)), (1, .int v1)] []
  unfold f_X5_comesSo at h
  refine J_iconst (v := (0 : Int32)) hx dX5_comesSo_0 (by decide) ?_
  refine J_istore_n (x := (0 : Int32)) (lv' := [(2, .int (0 : Int32)), (0, .ref (ad 63)), (1, .int v1)]) hx dX5_comesSo_1 rfl (by decide) rfl ?_
  refine J_sub (lv' := [(0, .ref (ad 63)), (1, .int v1), (2, .int (0 : Int32))]) hx [1, 2, 0] rfl ?_
  exact s_X5_comesSo_L2 hx hQ  k_fu h
abbrev kr_X5_copy (P : Option Value → StI → StL → Prop) (L : StL) : Int32 × StI → Prop := fun t => P (some (.int t.1)) t.2 L
abbrev g_X5_copy_L104 (X : k_C) (ad : Nat → Nat) (L : StL) (v1 : Int32) (v2 : Int32) (v3 : Int32) (v4 : Int32) (v5 : Int32) : (Int32 × StI) → Prop := fun s => J X ad 8 s.2 L 104 [(0, .ref (ad 63)), (1, .int v1), (2, .int v2), (3, .int v3), (4, .int v4), (5, .int v5), (6, .int s.1)] []
def f_X5_copy_j129 (v1 : Int32) (v2 : Int32) (v3 : Int32) (v4 : Int32) (v5 : Int32) (v6 : Int32) (s0 : Int32) (I : StI) : Option ((Int32 × StI) ⊕ (Int32 × StI)) :=
  k_gd ((((40 : Int32) * v1) + v2) + s0) 240 (k_gd ((((40 : Int32) * v3) + v4) + s0) 240 (k_let (k_up I 65 ((((40 : Int32) * v3) + v4) + s0).toNatClampNeg (I 65 ((((40 : Int32) * v1) + v2) + s0).toNatClampNeg)) (fun I26 => k_let (v6 + (1 : Int32)) (fun x27 => some (.inl (x27, I26))))))
set_option maxRecDepth 100000 in
set_option maxHeartbeats 4000000 in
theorem s_X5_copy_j129 {X : k_C} {ad : Nat → Nat} {P : Option Value → StI → StL → Prop} {I : StI} {L : StL} (hx : Ok X cX5_copy RX5 8 (some .int) 3) (hQ : OkQ X ad P)  {v1 : Int32} {v2 : Int32} {v3 : Int32} {v4 : Int32} {v5 : Int32} {v6 : Int32} {s0 : Int32}  (h : Ho (f_X5_copy_j129 v1 v2 v3 v4 v5 v6 s0 I) (Sum.elim (g_X5_copy_L104 X ad L v1 v2 v3 v4 v5) (kr_X5_copy P L))) : J X ad 8 I L 129 [(0, .ref (ad 63)), (1, .int v1), (2, .int v2), (3, .int v3), (4, .int v4), (5, .int v5), (6, .int v6)] [.int s0] := by
  unfold f_X5_copy_j129 at h
  refine J_istore (x := s0) (lv' := [(7, .int s0), (0, .ref (ad 63)), (1, .int v1), (2, .int v2), (3, .int v3), (4, .int v4), (5, .int v5), (6, .int v6)]) hx dX5_copy_129 rfl (by decide) rfl ?_
  refine J_aload_n hx dX5_copy_131 1 rfl ?_
  refine J_getR (q := 65) hx fl_RX5_13 (rfl : k_sh 63 = (5, k_N 5)) rfl rfl dX5_copy_132 ?_
  refine J_bipush (v := (40 : Int32)) hx dX5_copy_135 (by decide) ?_
  refine J_iload_n hx dX5_copy_137 4 rfl ?_
  refine J_imul hx dX5_copy_138 ?_
  refine J_iload hx dX5_copy_139 5 rfl ?_
  refine J_iadd hx dX5_copy_141 ?_
  refine J_iload hx dX5_copy_142 0 rfl ?_
  refine J_iadd hx dX5_copy_144 ?_
  refine J_aload_n hx dX5_copy_145 1 rfl ?_
  refine J_getR (q := 65) hx fl_RX5_13 (rfl : k_sh 63 = (5, k_N 5)) rfl rfl dX5_copy_146 ?_
  refine J_bipush (v := (40 : Int32)) hx dX5_copy_149 (by decide) ?_
  refine J_iload_n hx dX5_copy_151 2 rfl ?_
  refine J_imul hx dX5_copy_152 ?_
  refine J_iload_n hx dX5_copy_153 3 rfl ?_
  refine J_iadd hx dX5_copy_154 ?_
  refine J_iload hx dX5_copy_155 0 rfl ?_
  refine J_iadd hx dX5_copy_157 ?_
  obtain ⟨b24, h⟩ := Ho_gd h
  refine J_iald hx (rfl : k_sh 65 = (10, 240)) b24 dX5_copy_158 ?_
  obtain ⟨b25, h⟩ := Ho_gd h
  obtain ⟨I26, hI26, h⟩ := Ho_let h
  refine J_iast hx (rfl : k_sh 65 = (10, 240)) b25 dX5_copy_159 hI26 ?_
  obtain ⟨x27, hx27, h⟩ := Ho_let h
  refine J_iinc (x := x27) (lv' := [(6, .int x27), (7, .int s0), (0, .ref (ad 63)), (1, .int v1), (2, .int v2), (3, .int v3), (4, .int v4), (5, .int v5)]) hx dX5_copy_160 7 rfl (by rw [hx27]; rfl) (by decide) rfl ?_
  refine J_goto hx dX5_copy_163 104 (by decide) ?_
  refine J_sub (lv' := [(0, .ref (ad 63)), (1, .int v1), (2, .int v2), (3, .int v3), (4, .int v4), (5, .int v5), (6, .int x27)]) hx [2, 3, 4, 5, 6, 7, 0] rfl ?_
  have h := Ho_some h
  exact h
def f_X5_copy_L104_b (v1 : Int32) (v2 : Int32) (v3 : Int32) (v4 : Int32) (v5 : Int32) (v6 : Int32) (I : StI) : Option ((Int32 × StI) ⊕ (Int32 × StI)) :=
  (if v5 ≤ v6 then some (.inr ((1 : Int32), I)) else (if v4 ≤ v2 then f_X5_copy_j129 v1 v2 v3 v4 v5 v6 v6 I else f_X5_copy_j129 v1 v2 v3 v4 v5 v6 ((v5 - (1 : Int32)) - v6) I))
def f_X5_copy_L104 (v1 : Int32) (v2 : Int32) (v3 : Int32) (v4 : Int32) (v5 : Int32) (n : Nat) (v6 : Int32) (I : StI) : Option (Int32 × StI) :=
  k_loop (fun s => f_X5_copy_L104_b v1 v2 v3 v4 v5 s.1 s.2) n (v6, I)
set_option maxRecDepth 100000 in
set_option maxHeartbeats 4000000 in
theorem s_X5_copy_L104_b {X : k_C} {ad : Nat → Nat} {P : Option Value → StI → StL → Prop} {I : StI} {L : StL} (hx : Ok X cX5_copy RX5 8 (some .int) 3) (hQ : OkQ X ad P)  {v1 : Int32} {v2 : Int32} {v3 : Int32} {v4 : Int32} {v5 : Int32} {v6 : Int32}  (h : Ho (f_X5_copy_L104_b v1 v2 v3 v4 v5 v6 I) (Sum.elim (g_X5_copy_L104 X ad L v1 v2 v3 v4 v5) (kr_X5_copy P L))) : J X ad 8 I L 104 [(0, .ref (ad 63)), (1, .int v1), (2, .int v2), (3, .int v3), (4, .int v4), (5, .int v5), (6, .int v6)] [] := by
  unfold f_X5_copy_L104_b at h
  refine J_iload hx dX5_copy_104 6 rfl ?_
  refine J_iload hx dX5_copy_106 5 rfl ?_
  refine J_ic_ge hx dX5_copy_108 166 (by decide) (fun c22 => ?_) (fun c22 => ?_)
  · have h := Ho_t c22 h
    refine J_iconst (v := (1 : Int32)) hx dX5_copy_166 (by decide) ?_
    have h := Ho_some h
    exact J_iret hx hQ dX5_copy_167 h
  · have h := Ho_f c22 h
    refine J_iload hx dX5_copy_111 4 rfl ?_
    refine J_iload_n hx dX5_copy_113 2 rfl ?_
    refine J_ic_le hx dX5_copy_114 127 (by decide) (fun c23 => ?_) (fun c23 => ?_)
    · have h := Ho_t c23 h
      refine J_iload hx dX5_copy_127 6 rfl ?_
      refine J_sub (lv' := [(0, .ref (ad 63)), (1, .int v1), (2, .int v2), (3, .int v3), (4, .int v4), (5, .int v5), (6, .int v6)]) hx [0, 1, 2, 3, 4, 5, 6] rfl ?_
      exact s_X5_copy_j129 hx hQ  h
    · have h := Ho_f c23 h
      refine J_iload hx dX5_copy_117 5 rfl ?_
      refine J_iconst (v := (1 : Int32)) hx dX5_copy_119 (by decide) ?_
      refine J_isub hx dX5_copy_120 ?_
      refine J_iload hx dX5_copy_121 6 rfl ?_
      refine J_isub hx dX5_copy_123 ?_
      refine J_goto hx dX5_copy_124 129 (by decide) ?_
      refine J_sub (lv' := [(0, .ref (ad 63)), (1, .int v1), (2, .int v2), (3, .int v3), (4, .int v4), (5, .int v5), (6, .int v6)]) hx [0, 1, 2, 3, 4, 5, 6] rfl ?_
      exact s_X5_copy_j129 hx hQ  h
set_option maxRecDepth 100000 in
set_option maxHeartbeats 4000000 in
theorem s_X5_copy_L104 {X : k_C} {ad : Nat → Nat} {P : Option Value → StI → StL → Prop} {I : StI} {L : StL} (hx : Ok X cX5_copy RX5 8 (some .int) 3) (hQ : OkQ X ad P)  {v1 : Int32} {v2 : Int32} {v3 : Int32} {v4 : Int32} {v5 : Int32} {v6 : Int32}  (n : Nat) (h : Ho (f_X5_copy_L104 v1 v2 v3 v4 v5 n v6 I) (kr_X5_copy P L)) : J X ad 8 I L 104 [(0, .ref (ad 63)), (1, .int v1), (2, .int v2), (3, .int v3), (4, .int v4), (5, .int v5), (6, .int v6)] [] := by
  exact k_loop_ho (G := g_X5_copy_L104 X ad L v1 v2 v3 v4 v5) (fun s hs => s_X5_copy_L104_b hx hQ  hs) n (v6, I) h
def f_X5_copy_j95 (I : StI) : Option (Int32 × StI) :=
  Option.bind (f_X5_found (2 : Int32) I) (fun t15 => some (t15.1, t15.2))
set_option maxRecDepth 100000 in
set_option maxHeartbeats 4000000 in
theorem s_X5_copy_j95 {X : k_C} {ad : Nat → Nat} {P : Option Value → StI → StL → Prop} {I : StI} {L : StL} (hx : Ok X cX5_copy RX5 8 (some .int) 3) (hQ : OkQ X ad P)    (h : Ho (f_X5_copy_j95 I) (kr_X5_copy P L)) : J X ad 8 I L 95 [(0, .ref (ad 63))] [] := by
  unfold f_X5_copy_j95 at h
  refine J_aload_n hx dX5_copy_95 0 rfl ?_
  refine J_iconst (v := (2 : Int32)) hx dX5_copy_96 (by decide) ?_
  obtain ⟨t15, e16, h⟩ := Ho_bind h
  refine J_callVi hx lkV_RX5_85 (rfl : k_sh 63 = (5, k_N 5)) [.int (2 : Int32)] [] rfl rfl (Nat.le_of_ble_eq_true rfl) (Nat.le_of_ble_eq_true rfl) (s_X5_found  ⟨t15, e16, ⟨rfl, rfl, rfl⟩⟩) dX5_copy_97 ?_
  have h := Ho_some h
  exact J_iret hx hQ dX5_copy_100 h
def f_X5_copy_j45 (I : StI) : Option (Int32 × StI) :=
  Option.bind (f_X5_found (1 : Int32) I) (fun t10 => some (t10.1, t10.2))
set_option maxRecDepth 100000 in
set_option maxHeartbeats 4000000 in
theorem s_X5_copy_j45 {X : k_C} {ad : Nat → Nat} {P : Option Value → StI → StL → Prop} {I : StI} {L : StL} (hx : Ok X cX5_copy RX5 8 (some .int) 3) (hQ : OkQ X ad P)    (h : Ho (f_X5_copy_j45 I) (kr_X5_copy P L)) : J X ad 8 I L 45 [(0, .ref (ad 63))] [] := by
  unfold f_X5_copy_j45 at h
  refine J_aload_n hx dX5_copy_45 0 rfl ?_
  refine J_iconst (v := (1 : Int32)) hx dX5_copy_46 (by decide) ?_
  obtain ⟨t10, e11, h⟩ := Ho_bind h
  refine J_callVi hx lkV_RX5_85 (rfl : k_sh 63 = (5, k_N 5)) [.int (1 : Int32)] [] rfl rfl (Nat.le_of_ble_eq_true rfl) (Nat.le_of_ble_eq_true rfl) (s_X5_found  ⟨t10, e11, ⟨rfl, rfl, rfl⟩⟩) dX5_copy_47 ?_
  have h := Ho_some h
  exact J_iret hx hQ dX5_copy_50 h
def f_X5_copy (v1 : Int32) (v2 : Int32) (v3 : Int32) (v4 : Int32) (v5 : Int32) (I : StI) : Option (Int32 × StI) :=
  Option.bind (f_X5_isRow v1) (fun t1 => (if t1 = 0 then some ((-1 : Int32), I) else Option.bind (f_X5_isRow v3) (fun t4 => (if t4 = 0 then some ((-1 : Int32), I) else (if 0 ≤ v5 then k_gd v1 6 ((if (I 64 v1.toNatClampNeg) < 0 then f_X5_copy_j45 I else k_gd v3 6 ((if 0 ≤ (I 64 v3.toNatClampNeg) then (if v2 < 0 then f_X5_copy_j95 I else (if v4 < 0 then f_X5_copy_j95 I else k_gd v1 6 ((if 0 < (lg_cmp ((v2).toInt64 + (v5).toInt64) ((I 64 v1.toNatClampNeg)).toInt64) then f_X5_copy_j95 I else k_gd v3 6 ((if (lg_cmp ((v4).toInt64 + (v5).toInt64) ((I 64 v3.toNatClampNeg)).toInt64) ≤ 0 then f_X5_copy_L104 v1 v2 v3 v4 v5 k_fu (0 : Int32) I else f_X5_copy_j95 I)))))) else f_X5_copy_j45 I)))) else Option.bind (f_X5_found (5 : Int32) I) (fun t28 => some (t28.1, t28.2)))))))
set_option maxRecDepth 100000 in
set_option maxHeartbeats 4000000 in
theorem s_X5_copy {l : Launch} {ad : Nat → Nat} {P : Option Value → StI → StL → Prop} {I : StI} {L : StL} {v1 : Int32} {v2 : Int32} {v3 : Int32} {v4 : Int32} {v5 : Int32}  (h : Ho (f_X5_copy v1 v2 v3 v4 v5 I) (kr_X5_copy P L)) : k_Met l ad 3 yX5_copy cX5_copy 8 (some .int) [.ref (ad 63), .int v1, .int v2, .int v3, .int v4, .int v5] I L P := by
  refine k_enter (by decide +kernel) (Nat.le_of_ble_eq_true rfl) (fun X hl hx hQ => ?_)
  clear hl
  have hx : Ok X cX5_copy RX5 8 (some .int) 3 := hx
  show J X ad 8 I L 0 [(0, .ref (ad 63)), (1, .int v1), (2, .int v2), (3, .int v3), (4, .int v4), (5, .int v5)] []
  unfold f_X5_copy at h
  refine J_iload_n hx dX5_copy_0 1 rfl ?_
  obtain ⟨t1, e2, h⟩ := Ho_bind h
  refine J_callSi hx lkS_RX5_81 [.int v1] [] rfl rfl (Nat.le_of_ble_eq_true rfl) (Nat.le_of_ble_eq_true rfl) (s_X5_isRow  ⟨t1, e2, ⟨rfl, rfl, rfl⟩⟩) dX5_copy_1 ?_
  refine J_if_eq hx dX5_copy_4 14 (by decide) (fun c3 => ?_) (fun c3 => ?_)
  · have h := Ho_t c3 h
    refine J_iconst (v := (-1 : Int32)) hx dX5_copy_14 (by decide) ?_
    have h := Ho_some h
    exact J_iret hx hQ dX5_copy_15 h
  · have h := Ho_f c3 h
    refine J_iload_n hx dX5_copy_7 3 rfl ?_
    obtain ⟨t4, e5, h⟩ := Ho_bind h
    refine J_callSi hx lkS_RX5_81 [.int v3] [] rfl rfl (Nat.le_of_ble_eq_true rfl) (Nat.le_of_ble_eq_true rfl) (s_X5_isRow  ⟨t4, e5, ⟨rfl, rfl, rfl⟩⟩) dX5_copy_8 ?_
    refine J_if_ne hx dX5_copy_11 16 (by decide) (fun c6 => ?_) (fun c6 => ?_)
    · have h := Ho_f c6 h
      refine J_iload hx dX5_copy_16 5 rfl ?_
      refine J_if_ge hx dX5_copy_18 27 (by decide) (fun c7 => ?_) (fun c7 => ?_)
      · have h := Ho_t c7 h
        refine J_aload_n hx dX5_copy_27 0 rfl ?_
        refine J_getR (q := 64) hx fl_RX5_7 (rfl : k_sh 63 = (5, k_N 5)) rfl rfl dX5_copy_28 ?_
        refine J_iload_n hx dX5_copy_31 1 rfl ?_
        obtain ⟨b8, h⟩ := Ho_gd h
        refine J_iald hx (rfl : k_sh 64 = (10, 6)) b8 dX5_copy_32 ?_
        refine J_if_lt hx dX5_copy_33 45 (by decide) (fun c9 => ?_) (fun c9 => ?_)
        · have h := Ho_t c9 h
          refine J_sub (lv' := [(0, .ref (ad 63))]) hx [0] rfl ?_
          exact s_X5_copy_j45 hx hQ  h
        · have h := Ho_f c9 h
          refine J_aload_n hx dX5_copy_36 0 rfl ?_
          refine J_getR (q := 64) hx fl_RX5_7 (rfl : k_sh 63 = (5, k_N 5)) rfl rfl dX5_copy_37 ?_
          refine J_iload_n hx dX5_copy_40 3 rfl ?_
          obtain ⟨b12, h⟩ := Ho_gd h
          refine J_iald hx (rfl : k_sh 64 = (10, 6)) b12 dX5_copy_41 ?_
          refine J_if_ge hx dX5_copy_42 51 (by decide) (fun c13 => ?_) (fun c13 => ?_)
          · have h := Ho_t c13 h
            refine J_iload_n hx dX5_copy_51 2 rfl ?_
            refine J_if_lt hx dX5_copy_52 95 (by decide) (fun c14 => ?_) (fun c14 => ?_)
            · have h := Ho_t c14 h
              refine J_sub (lv' := [(0, .ref (ad 63))]) hx [0] rfl ?_
              exact s_X5_copy_j95 hx hQ  h
            · have h := Ho_f c14 h
              refine J_iload hx dX5_copy_55 4 rfl ?_
              refine J_if_lt hx dX5_copy_57 95 (by decide) (fun c17 => ?_) (fun c17 => ?_)
              · have h := Ho_t c17 h
                refine J_sub (lv' := [(0, .ref (ad 63))]) hx [0] rfl ?_
                exact s_X5_copy_j95 hx hQ  h
              · have h := Ho_f c17 h
                refine J_iload_n hx dX5_copy_60 2 rfl ?_
                refine J_i2l hx dX5_copy_61 ?_
                refine J_iload hx dX5_copy_62 5 rfl ?_
                refine J_i2l hx dX5_copy_64 ?_
                refine J_ladd hx dX5_copy_65 ?_
                refine J_aload_n hx dX5_copy_66 0 rfl ?_
                refine J_getR (q := 64) hx fl_RX5_7 (rfl : k_sh 63 = (5, k_N 5)) rfl rfl dX5_copy_67 ?_
                refine J_iload_n hx dX5_copy_70 1 rfl ?_
                obtain ⟨b18, h⟩ := Ho_gd h
                refine J_iald hx (rfl : k_sh 64 = (10, 6)) b18 dX5_copy_71 ?_
                refine J_i2l hx dX5_copy_72 ?_
                refine J_lcmp hx dX5_copy_73 ?_
                refine J_if_gt hx dX5_copy_74 95 (by decide) (fun c19 => ?_) (fun c19 => ?_)
                · have h := Ho_t c19 h
                  refine J_sub (lv' := [(0, .ref (ad 63))]) hx [0] rfl ?_
                  exact s_X5_copy_j95 hx hQ  h
                · have h := Ho_f c19 h
                  refine J_iload hx dX5_copy_77 4 rfl ?_
                  refine J_i2l hx dX5_copy_79 ?_
                  refine J_iload hx dX5_copy_80 5 rfl ?_
                  refine J_i2l hx dX5_copy_82 ?_
                  refine J_ladd hx dX5_copy_83 ?_
                  refine J_aload_n hx dX5_copy_84 0 rfl ?_
                  refine J_getR (q := 64) hx fl_RX5_7 (rfl : k_sh 63 = (5, k_N 5)) rfl rfl dX5_copy_85 ?_
                  refine J_iload_n hx dX5_copy_88 3 rfl ?_
                  obtain ⟨b20, h⟩ := Ho_gd h
                  refine J_iald hx (rfl : k_sh 64 = (10, 6)) b20 dX5_copy_89 ?_
                  refine J_i2l hx dX5_copy_90 ?_
                  refine J_lcmp hx dX5_copy_91 ?_
                  refine J_if_le hx dX5_copy_92 101 (by decide) (fun c21 => ?_) (fun c21 => ?_)
                  · have h := Ho_t c21 h
                    refine J_iconst (v := (0 : Int32)) hx dX5_copy_101 (by decide) ?_
                    refine J_istore (x := (0 : Int32)) (lv' := [(6, .int (0 : Int32)), (0, .ref (ad 63)), (1, .int v1), (2, .int v2), (3, .int v3), (4, .int v4), (5, .int v5)]) hx dX5_copy_102 rfl (by decide) rfl ?_
                    refine J_sub (lv' := [(0, .ref (ad 63)), (1, .int v1), (2, .int v2), (3, .int v3), (4, .int v4), (5, .int v5), (6, .int (0 : Int32))]) hx [1, 2, 3, 4, 5, 6, 0] rfl ?_
                    exact s_X5_copy_L104 hx hQ  k_fu h
                  · have h := Ho_f c21 h
                    refine J_sub (lv' := [(0, .ref (ad 63))]) hx [0] rfl ?_
                    exact s_X5_copy_j95 hx hQ  h
          · have h := Ho_f c13 h
            refine J_sub (lv' := [(0, .ref (ad 63))]) hx [0] rfl ?_
            exact s_X5_copy_j45 hx hQ  h
      · have h := Ho_f c7 h
        refine J_aload_n hx dX5_copy_21 0 rfl ?_
        refine J_iconst (v := (5 : Int32)) hx dX5_copy_22 (by decide) ?_
        obtain ⟨t28, e29, h⟩ := Ho_bind h
        refine J_callVi hx lkV_RX5_85 (rfl : k_sh 63 = (5, k_N 5)) [.int (5 : Int32)] [] rfl rfl (Nat.le_of_ble_eq_true rfl) (Nat.le_of_ble_eq_true rfl) (s_X5_found  ⟨t28, e29, ⟨rfl, rfl, rfl⟩⟩) dX5_copy_23 ?_
        have h := Ho_some h
        exact J_iret hx hQ dX5_copy_26 h
    · have h := Ho_t c6 h
      refine J_iconst (v := (-1 : Int32)) hx dX5_copy_14 (by decide) ?_
      have h := Ho_some h
      exact J_iret hx hQ dX5_copy_15 h
abbrev kr_X5_opens (P : Option Value → StI → StL → Prop) (I : StI) (L : StL) : Int32 → Prop := fun t => P (some (.int t)) I L
abbrev g_X5_opens_L4 (X : k_C) (ad : Nat → Nat) (I : StI) (L : StL) : (Int32 × Int32) → Prop := fun s => J X ad 3 I L 4 [(0, .ref (ad 63)), (1, .int s.1), (2, .int s.2)] []
def f_X5_opens_j33 (v2 : Int32) (s0 : Int32) (s1 : Int32) (I : StI) : Option ((Int32 × Int32) ⊕ (Int32)) :=
  k_let (s0 ||| s1) (fun x4 => k_let (v2 + (1 : Int32)) (fun x5 => some (.inl (x4, x5))))
set_option maxRecDepth 100000 in
set_option maxHeartbeats 4000000 in
theorem s_X5_opens_j33 {X : k_C} {ad : Nat → Nat} {P : Option Value → StI → StL → Prop} {I : StI} {L : StL} (hx : Ok X cX5_opens RX5 3 (some .int) 1) (hQ : OkQ X ad P)  {v2 : Int32} {s0 : Int32} {s1 : Int32}  (h : Ho (f_X5_opens_j33 v2 s0 s1 I) (Sum.elim (g_X5_opens_L4 X ad I L) (kr_X5_opens P I L))) : J X ad 3 I L 33 [(0, .ref (ad 63)), (2, .int v2)] [.int s1, .int s0] := by
  unfold f_X5_opens_j33 at h
  refine J_ior hx dX5_opens_33 ?_
  obtain ⟨x4, hx4, h⟩ := Ho_let h
  refine J_istore_n (x := x4) (lv' := [(1, .int x4), (0, .ref (ad 63)), (2, .int v2)]) hx dX5_opens_34 hx4 (by decide) rfl ?_
  obtain ⟨x5, hx5, h⟩ := Ho_let h
  refine J_iinc (x := x5) (lv' := [(2, .int x5), (1, .int x4), (0, .ref (ad 63))]) hx dX5_opens_35 2 rfl (by rw [hx5]; rfl) (by decide) rfl ?_
  refine J_goto hx dX5_opens_38 4 (by decide) ?_
  refine J_sub (lv' := [(0, .ref (ad 63)), (1, .int x4), (2, .int x5)]) hx [2, 1, 0] rfl ?_
  have h := Ho_some h
  exact h
def f_X5_opens_L4_b (v1 : Int32) (v2 : Int32) (I : StI) : Option ((Int32 × Int32) ⊕ (Int32)) :=
  (if (I 63 4) ≤ v2 then some (.inr (v1)) else k_gd ((12 : Int32) + v2) 40 ((if (I 70 ((12 : Int32) + v2).toNatClampNeg) = (1 : Int32) then f_X5_opens_j33 v2 v1 ((1 : Int32) <<< (v2 &&& 31)) I else f_X5_opens_j33 v2 v1 (0 : Int32) I)))
def f_X5_opens_L4 (I : StI) (n : Nat) (v1 : Int32) (v2 : Int32) : Option (Int32) :=
  k_loop (fun s => f_X5_opens_L4_b s.1 s.2 I) n (v1, v2)
set_option maxRecDepth 100000 in
set_option maxHeartbeats 4000000 in
theorem s_X5_opens_L4_b {X : k_C} {ad : Nat → Nat} {P : Option Value → StI → StL → Prop} {I : StI} {L : StL} (hx : Ok X cX5_opens RX5 3 (some .int) 1) (hQ : OkQ X ad P)  {v1 : Int32} {v2 : Int32}  (h : Ho (f_X5_opens_L4_b v1 v2 I) (Sum.elim (g_X5_opens_L4 X ad I L) (kr_X5_opens P I L))) : J X ad 3 I L 4 [(0, .ref (ad 63)), (1, .int v1), (2, .int v2)] [] := by
  unfold f_X5_opens_L4_b at h
  refine J_iload_n hx dX5_opens_4 2 rfl ?_
  refine J_aload_n hx dX5_opens_5 0 rfl ?_
  refine J_getI hx fl_RX5_115 (rfl : k_sh 63 = (5, k_N 5)) rfl dX5_opens_6 ?_
  refine J_ic_ge hx dX5_opens_9 41 (by decide) (fun c1 => ?_) (fun c1 => ?_)
  · have h := Ho_t c1 h
    refine J_iload_n hx dX5_opens_41 1 rfl ?_
    have h := Ho_some h
    exact J_iret hx hQ dX5_opens_42 h
  · have h := Ho_f c1 h
    refine J_iload_n hx dX5_opens_12 1 rfl ?_
    refine J_aload_n hx dX5_opens_13 0 rfl ?_
    refine J_getR (q := 70) hx fl_RX5_28 (rfl : k_sh 63 = (5, k_N 5)) rfl rfl dX5_opens_14 ?_
    refine J_bipush (v := (12 : Int32)) hx dX5_opens_17 (by decide) ?_
    refine J_iload_n hx dX5_opens_19 2 rfl ?_
    refine J_iadd hx dX5_opens_20 ?_
    obtain ⟨b2, h⟩ := Ho_gd h
    refine J_iald hx (rfl : k_sh 70 = (10, 40)) b2 dX5_opens_21 ?_
    refine J_iconst (v := (1 : Int32)) hx dX5_opens_22 (by decide) ?_
    refine J_ic_ne hx dX5_opens_23 32 (by decide) (fun c3 => ?_) (fun c3 => ?_)
    · have h := Ho_f c3 h
      refine J_iconst (v := (0 : Int32)) hx dX5_opens_32 (by decide) ?_
      refine J_sub (lv' := [(0, .ref (ad 63)), (2, .int v2)]) hx [0, 2] rfl ?_
      exact s_X5_opens_j33 hx hQ  h
    · have h := Ho_t c3 h
      refine J_iconst (v := (1 : Int32)) hx dX5_opens_26 (by decide) ?_
      refine J_iload_n hx dX5_opens_27 2 rfl ?_
      refine J_ishl hx dX5_opens_28 ?_
      refine J_goto hx dX5_opens_29 33 (by decide) ?_
      refine J_sub (lv' := [(0, .ref (ad 63)), (2, .int v2)]) hx [0, 2] rfl ?_
      exact s_X5_opens_j33 hx hQ  h
set_option maxRecDepth 100000 in
set_option maxHeartbeats 4000000 in
theorem s_X5_opens_L4 {X : k_C} {ad : Nat → Nat} {P : Option Value → StI → StL → Prop} {I : StI} {L : StL} (hx : Ok X cX5_opens RX5 3 (some .int) 1) (hQ : OkQ X ad P)  {v1 : Int32} {v2 : Int32}  (n : Nat) (h : Ho (f_X5_opens_L4 I n v1 v2) (kr_X5_opens P I L)) : J X ad 3 I L 4 [(0, .ref (ad 63)), (1, .int v1), (2, .int v2)] [] := by
  exact k_loop_ho (G := g_X5_opens_L4 X ad I L) (fun s hs => s_X5_opens_L4_b hx hQ  hs) n (v1, v2) h
def f_X5_opens (I : StI) : Option (Int32) :=
  f_X5_opens_L4 I k_fu (0 : Int32) (0 : Int32)
set_option maxRecDepth 100000 in
set_option maxHeartbeats 4000000 in
theorem s_X5_opens {l : Launch} {ad : Nat → Nat} {P : Option Value → StI → StL → Prop} {I : StI} {L : StL}   (h : Ho (f_X5_opens I) (kr_X5_opens P I L)) : k_Met l ad 1 yX5_opens cX5_opens 3 (some .int) [.ref (ad 63)] I L P := by
  refine k_enter (by decide +kernel) (Nat.le_of_ble_eq_true rfl) (fun X hl hx hQ => ?_)
  clear hl
  have hx : Ok X cX5_opens RX5 3 (some .int) 1 := hx
  show J X ad 3 I L 0 [(0, .ref (ad 63))] []
  unfold f_X5_opens at h
  refine J_iconst (v := (0 : Int32)) hx dX5_opens_0 (by decide) ?_
  refine J_istore_n (x := (0 : Int32)) (lv' := [(1, .int (0 : Int32)), (0, .ref (ad 63))]) hx dX5_opens_1 rfl (by decide) rfl ?_
  refine J_iconst (v := (0 : Int32)) hx dX5_opens_2 (by decide) ?_
  refine J_istore_n (x := (0 : Int32)) (lv' := [(2, .int (0 : Int32)), (1, .int (0 : Int32)), (0, .ref (ad 63))]) hx dX5_opens_3 rfl (by decide) rfl ?_
  refine J_sub (lv' := [(0, .ref (ad 63)), (1, .int (0 : Int32)), (2, .int (0 : Int32))]) hx [2, 1, 0] rfl ?_
  exact s_X5_opens_L4 hx hQ  k_fu h
abbrev kr_X5_there (P : Option Value → StI → StL → Prop) (I : StI) (L : StL) : Int32 → Prop := fun t => P (some (.int t)) I L
abbrev g_X5_there_L4 (X : k_C) (ad : Nat → Nat) (I : StI) (L : StL) (v0 : Nat) (v1 : Int32) : (Int32 × Int32) → Prop := fun s => J X ad 4 I L 4 [(0, .ref (ad v0)), (1, .int v1), (2, .int s.1), (3, .int s.2)] []
def f_X5_there_j21 (v0 : Nat) (v1 : Int32) (v3 : Int32) (s0 : Int32) (s1 : Int32) (I : StI) : Option ((Int32 × Int32) ⊕ (Int32)) :=
  k_let (s0 + s1) (fun x4 => k_let (v3 + (1 : Int32)) (fun x5 => some (.inl (x4, x5))))
set_option maxRecDepth 100000 in
set_option maxHeartbeats 4000000 in
theorem s_X5_there_j21 {X : k_C} {ad : Nat → Nat} {P : Option Value → StI → StL → Prop} {I : StI} {L : StL} (hx : Ok X cX5_there RX5 4 (some .int) 1) (hQ : OkQ X ad P)  {v0 : Nat} {v1 : Int32} {v3 : Int32} {s0 : Int32} {s1 : Int32} (hv0 : (k_sh v0).1 = 10) (h : Ho (f_X5_there_j21 v0 v1 v3 s0 s1 I) (Sum.elim (g_X5_there_L4 X ad I L v0 v1) (kr_X5_there P I L))) : J X ad 4 I L 21 [(0, .ref (ad v0)), (1, .int v1), (3, .int v3)] [.int s1, .int s0] := by
  unfold f_X5_there_j21 at h
  refine J_iadd hx dX5_there_21 ?_
  obtain ⟨x4, hx4, h⟩ := Ho_let h
  refine J_istore_n (x := x4) (lv' := [(2, .int x4), (0, .ref (ad v0)), (1, .int v1), (3, .int v3)]) hx dX5_there_22 hx4 (by decide) rfl ?_
  obtain ⟨x5, hx5, h⟩ := Ho_let h
  refine J_iinc (x := x5) (lv' := [(3, .int x5), (2, .int x4), (0, .ref (ad v0)), (1, .int v1)]) hx dX5_there_23 3 rfl (by rw [hx5]; rfl) (by decide) rfl ?_
  refine J_goto hx dX5_there_26 4 (by decide) ?_
  refine J_sub (lv' := [(0, .ref (ad v0)), (1, .int v1), (2, .int x4), (3, .int x5)]) hx [2, 3, 1, 0] rfl ?_
  have h := Ho_some h
  exact h
def f_X5_there_L4_b (v0 : Nat) (v1 : Int32) (v2 : Int32) (v3 : Int32) (I : StI) : Option ((Int32 × Int32) ⊕ (Int32)) :=
  (if v1 ≤ v3 then some (.inr (v2)) else k_gd v3 (k_sh v0).2 ((if 0 ≤ (I v0 v3.toNatClampNeg) then f_X5_there_j21 v0 v1 v3 v2 (1 : Int32) I else f_X5_there_j21 v0 v1 v3 v2 (0 : Int32) I)))
def f_X5_there_L4 (v0 : Nat) (v1 : Int32) (I : StI) (n : Nat) (v2 : Int32) (v3 : Int32) : Option (Int32) :=
  k_loop (fun s => f_X5_there_L4_b v0 v1 s.1 s.2 I) n (v2, v3)
set_option maxRecDepth 100000 in
set_option maxHeartbeats 4000000 in
theorem s_X5_there_L4_b {X : k_C} {ad : Nat → Nat} {P : Option Value → StI → StL → Prop} {I : StI} {L : StL} (hx : Ok X cX5_there RX5 4 (some .int) 1) (hQ : OkQ X ad P)  {v0 : Nat} {v1 : Int32} {v2 : Int32} {v3 : Int32} (hv0 : (k_sh v0).1 = 10) (h : Ho (f_X5_there_L4_b v0 v1 v2 v3 I) (Sum.elim (g_X5_there_L4 X ad I L v0 v1) (kr_X5_there P I L))) : J X ad 4 I L 4 [(0, .ref (ad v0)), (1, .int v1), (2, .int v2), (3, .int v3)] [] := by
  unfold f_X5_there_L4_b at h
  refine J_iload_n hx dX5_there_4 3 rfl ?_
  refine J_iload_n hx dX5_there_5 1 rfl ?_
  refine J_ic_ge hx dX5_there_6 29 (by decide) (fun c1 => ?_) (fun c1 => ?_)
  · have h := Ho_t c1 h
    refine J_iload_n hx dX5_there_29 2 rfl ?_
    have h := Ho_some h
    exact J_iret hx hQ dX5_there_30 h
  · have h := Ho_f c1 h
    refine J_iload_n hx dX5_there_9 2 rfl ?_
    refine J_aload_n hx dX5_there_10 0 rfl ?_
    refine J_iload_n hx dX5_there_11 3 rfl ?_
    obtain ⟨b2, h⟩ := Ho_gd h
    refine J_iald hx (k_shA hv0) b2 dX5_there_12 ?_
    refine J_if_ge hx dX5_there_13 20 (by decide) (fun c3 => ?_) (fun c3 => ?_)
    · have h := Ho_t c3 h
      refine J_iconst (v := (1 : Int32)) hx dX5_there_20 (by decide) ?_
      refine J_sub (lv' := [(0, .ref (ad v0)), (1, .int v1), (3, .int v3)]) hx [0, 1, 3] rfl ?_
      exact s_X5_there_j21 hx hQ (congrArg Prod.fst (k_shA hv0)) h
    · have h := Ho_f c3 h
      refine J_iconst (v := (0 : Int32)) hx dX5_there_16 (by decide) ?_
      refine J_goto hx dX5_there_17 21 (by decide) ?_
      refine J_sub (lv' := [(0, .ref (ad v0)), (1, .int v1), (3, .int v3)]) hx [0, 1, 3] rfl ?_
      exact s_X5_there_j21 hx hQ (congrArg Prod.fst (k_shA hv0)) h
set_option maxRecDepth 100000 in
set_option maxHeartbeats 4000000 in
theorem s_X5_there_L4 {X : k_C} {ad : Nat → Nat} {P : Option Value → StI → StL → Prop} {I : StI} {L : StL} (hx : Ok X cX5_there RX5 4 (some .int) 1) (hQ : OkQ X ad P)  {v0 : Nat} {v1 : Int32} {v2 : Int32} {v3 : Int32} (hv0 : (k_sh v0).1 = 10) (n : Nat) (h : Ho (f_X5_there_L4 v0 v1 I n v2 v3) (kr_X5_there P I L)) : J X ad 4 I L 4 [(0, .ref (ad v0)), (1, .int v1), (2, .int v2), (3, .int v3)] [] := by
  exact k_loop_ho (G := g_X5_there_L4 X ad I L v0 v1) (fun s hs => s_X5_there_L4_b hx hQ hv0 hs) n (v2, v3) h
def f_X5_there (v0 : Nat) (v1 : Int32) (I : StI) : Option (Int32) :=
  f_X5_there_L4 v0 v1 I k_fu (0 : Int32) (0 : Int32)
set_option maxRecDepth 100000 in
set_option maxHeartbeats 4000000 in
theorem s_X5_there {l : Launch} {ad : Nat → Nat} {P : Option Value → StI → StL → Prop} {I : StI} {L : StL} {v0 : Nat} {v1 : Int32} (hv0 : (k_sh v0).1 = 10) (h : Ho (f_X5_there v0 v1 I) (kr_X5_there P I L)) : k_Met l ad 1 yX5_there cX5_there 4 (some .int) [.ref (ad v0), .int v1] I L P := by
  refine k_enter (by decide +kernel) (Nat.le_of_ble_eq_true rfl) (fun X hl hx hQ => ?_)
  clear hl
  have hx : Ok X cX5_there RX5 4 (some .int) 1 := hx
  show J X ad 4 I L 0 [(0, .ref (ad v0)), (1, .int v1)] []
  unfold f_X5_there at h
  refine J_iconst (v := (0 : Int32)) hx dX5_there_0 (by decide) ?_
  refine J_istore_n (x := (0 : Int32)) (lv' := [(2, .int (0 : Int32)), (0, .ref (ad v0)), (1, .int v1)]) hx dX5_there_1 rfl (by decide) rfl ?_
  refine J_iconst (v := (0 : Int32)) hx dX5_there_2 (by decide) ?_
  refine J_istore_n (x := (0 : Int32)) (lv' := [(3, .int (0 : Int32)), (2, .int (0 : Int32)), (0, .ref (ad v0)), (1, .int v1)]) hx dX5_there_3 rfl (by decide) rfl ?_
  refine J_sub (lv' := [(0, .ref (ad v0)), (1, .int v1), (2, .int (0 : Int32)), (3, .int (0 : Int32))]) hx [2, 3, 1, 0] rfl ?_
  exact s_X5_there_L4 hx hQ (congrArg Prod.fst (k_shA hv0)) k_fu h
abbrev kr_X5_of (P : Option Value → StI → StL → Prop) (I : StI) (L : StL) : Int32 → Prop := fun t => P (some (.int t)) I L
abbrev g_X5_of_L5 (X : k_C) (ad : Nat → Nat) (I : StI) (L : StL) (v1 : Int32) (v2 : Int32) : (Int32 × Int32) → Prop := fun s => J X ad 5 I L 5 [(0, .ref (ad 63)), (1, .int v1), (2, .int v2), (3, .int s.1), (4, .int s.2)] []
def f_X5_of_j42 (v1 : Int32) (v2 : Int32) (v4 : Int32) (s0 : Int32) (s1 : Int32) (I : StI) : Option ((Int32 × Int32) ⊕ (Int32)) :=
  k_let (s0 + s1) (fun x4 => k_let (v4 + (1 : Int32)) (fun x5 => some (.inl (x4, x5))))
set_option maxRecDepth 100000 in
set_option maxHeartbeats 4000000 in
theorem s_X5_of_j42 {X : k_C} {ad : Nat → Nat} {P : Option Value → StI → StL → Prop} {I : StI} {L : StL} (hx : Ok X cX5_of RX5 5 (some .int) 1) (hQ : OkQ X ad P)  {v1 : Int32} {v2 : Int32} {v4 : Int32} {s0 : Int32} {s1 : Int32}  (h : Ho (f_X5_of_j42 v1 v2 v4 s0 s1 I) (Sum.elim (g_X5_of_L5 X ad I L v1 v2) (kr_X5_of P I L))) : J X ad 5 I L 42 [(0, .ref (ad 63)), (1, .int v1), (2, .int v2), (4, .int v4)] [.int s1, .int s0] := by
  unfold f_X5_of_j42 at h
  refine J_iadd hx dX5_of_42 ?_
  obtain ⟨x4, hx4, h⟩ := Ho_let h
  refine J_istore_n (x := x4) (lv' := [(3, .int x4), (0, .ref (ad 63)), (1, .int v1), (2, .int v2), (4, .int v4)]) hx dX5_of_43 hx4 (by decide) rfl ?_
  obtain ⟨x5, hx5, h⟩ := Ho_let h
  refine J_iinc (x := x5) (lv' := [(4, .int x5), (3, .int x4), (0, .ref (ad 63)), (1, .int v1), (2, .int v2)]) hx dX5_of_44 4 rfl (by rw [hx5]; rfl) (by decide) rfl ?_
  refine J_goto hx dX5_of_47 5 (by decide) ?_
  refine J_sub (lv' := [(0, .ref (ad 63)), (1, .int v1), (2, .int v2), (3, .int x4), (4, .int x5)]) hx [2, 3, 4, 1, 0] rfl ?_
  have h := Ho_some h
  exact h
def f_X5_of_j37 (v1 : Int32) (v2 : Int32) (v4 : Int32) (s0 : Int32) (I : StI) : Option ((Int32 × Int32) ⊕ (Int32)) :=
  f_X5_of_j42 v1 v2 v4 s0 (1 : Int32) I
set_option maxRecDepth 100000 in
set_option maxHeartbeats 4000000 in
theorem s_X5_of_j37 {X : k_C} {ad : Nat → Nat} {P : Option Value → StI → StL → Prop} {I : StI} {L : StL} (hx : Ok X cX5_of RX5 5 (some .int) 1) (hQ : OkQ X ad P)  {v1 : Int32} {v2 : Int32} {v4 : Int32} {s0 : Int32}  (h : Ho (f_X5_of_j37 v1 v2 v4 s0 I) (Sum.elim (g_X5_of_L5 X ad I L v1 v2) (kr_X5_of P I L))) : J X ad 5 I L 37 [(0, .ref (ad 63)), (1, .int v1), (2, .int v2), (4, .int v4)] [.int s0] := by
  unfold f_X5_of_j37 at h
  refine J_iconst (v := (1 : Int32)) hx dX5_of_37 (by decide) ?_
  refine J_goto hx dX5_of_38 42 (by decide) ?_
  refine J_sub (lv' := [(0, .ref (ad 63)), (1, .int v1), (2, .int v2), (4, .int v4)]) hx [0, 1, 2, 3] rfl ?_
  exact s_X5_of_j42 hx hQ  h
def f_X5_of_L5_b (v1 : Int32) (v2 : Int32) (v3 : Int32) (v4 : Int32) (I : StI) : Option ((Int32 × Int32) ⊕ (Int32)) :=
  (if (I 63 4) ≤ v4 then some (.inr (v3)) else k_gd v4 7 ((if (I 68 v4.toNatClampNeg) = v1 then f_X5_of_j37 v1 v2 v4 v3 I else k_gd v4 7 ((if (I 68 v4.toNatClampNeg) = v2 then f_X5_of_j37 v1 v2 v4 v3 I else f_X5_of_j42 v1 v2 v4 v3 (0 : Int32) I)))))
def f_X5_of_L5 (v1 : Int32) (v2 : Int32) (I : StI) (n : Nat) (v3 : Int32) (v4 : Int32) : Option (Int32) :=
  k_loop (fun s => f_X5_of_L5_b v1 v2 s.1 s.2 I) n (v3, v4)
set_option maxRecDepth 100000 in
set_option maxHeartbeats 4000000 in
theorem s_X5_of_L5_b {X : k_C} {ad : Nat → Nat} {P : Option Value → StI → StL → Prop} {I : StI} {L : StL} (hx : Ok X cX5_of RX5 5 (some .int) 1) (hQ : OkQ X ad P)  {v1 : Int32} {v2 : Int32} {v3 : Int32} {v4 : Int32}  (h : Ho (f_X5_of_L5_b v1 v2 v3 v4 I) (Sum.elim (g_X5_of_L5 X ad I L v1 v2) (kr_X5_of P I L))) : J X ad 5 I L 5 [(0, .ref (ad 63)), (1, .int v1), (2, .int v2), (3, .int v3), (4, .int v4)] [] := by
  unfold f_X5_of_L5_b at h
  refine J_iload hx dX5_of_5 4 rfl ?_
  refine J_aload_n hx dX5_of_7 0 rfl ?_
  refine J_getI hx fl_RX5_115 (rfl : k_sh 63 = (5, k_N 5)) rfl dX5_of_8 ?_
  refine J_ic_ge hx dX5_of_11 50 (by decide) (fun c1 => ?_) (fun c1 => ?_)
  · have h := Ho_t c1 h
    refine J_iload_n hx dX5_of_50 3 rfl ?_
    have h := Ho_some h
    exact J_iret hx hQ dX5_of_51 h
  · have h := Ho_f c1 h
    refine J_iload_n hx dX5_of_14 3 rfl ?_
    refine J_aload_n hx dX5_of_15 0 rfl ?_
    refine J_getR (q := 68) hx fl_RX5_22 (rfl : k_sh 63 = (5, k_N 5)) rfl rfl dX5_of_16 ?_
    refine J_iload hx dX5_of_19 4 rfl ?_
    obtain ⟨b2, h⟩ := Ho_gd h
    refine J_iald hx (rfl : k_sh 68 = (10, 7)) b2 dX5_of_21 ?_
    refine J_iload_n hx dX5_of_22 1 rfl ?_
    refine J_ic_eq hx dX5_of_23 37 (by decide) (fun c3 => ?_) (fun c3 => ?_)
    · have h := Ho_t c3 h
      refine J_sub (lv' := [(0, .ref (ad 63)), (1, .int v1), (2, .int v2), (4, .int v4)]) hx [0, 1, 2, 4] rfl ?_
      exact s_X5_of_j37 hx hQ  h
    · have h := Ho_f c3 h
      refine J_aload_n hx dX5_of_26 0 rfl ?_
      refine J_getR (q := 68) hx fl_RX5_22 (rfl : k_sh 63 = (5, k_N 5)) rfl rfl dX5_of_27 ?_
      refine J_iload hx dX5_of_30 4 rfl ?_
      obtain ⟨b6, h⟩ := Ho_gd h
      refine J_iald hx (rfl : k_sh 68 = (10, 7)) b6 dX5_of_32 ?_
      refine J_iload_n hx dX5_of_33 2 rfl ?_
      refine J_ic_ne hx dX5_of_34 41 (by decide) (fun c7 => ?_) (fun c7 => ?_)
      · have h := Ho_f c7 h
        refine J_iconst (v := (0 : Int32)) hx dX5_of_41 (by decide) ?_
        refine J_sub (lv' := [(0, .ref (ad 63)), (1, .int v1), (2, .int v2), (4, .int v4)]) hx [0, 1, 2, 4] rfl ?_
        exact s_X5_of_j42 hx hQ  h
      · have h := Ho_t c7 h
        refine J_sub (lv' := [(0, .ref (ad 63)), (1, .int v1), (2, .int v2), (4, .int v4)]) hx [0, 1, 2, 4] rfl ?_
        exact s_X5_of_j37 hx hQ  h
set_option maxRecDepth 100000 in
set_option maxHeartbeats 4000000 in
theorem s_X5_of_L5 {X : k_C} {ad : Nat → Nat} {P : Option Value → StI → StL → Prop} {I : StI} {L : StL} (hx : Ok X cX5_of RX5 5 (some .int) 1) (hQ : OkQ X ad P)  {v1 : Int32} {v2 : Int32} {v3 : Int32} {v4 : Int32}  (n : Nat) (h : Ho (f_X5_of_L5 v1 v2 I n v3 v4) (kr_X5_of P I L)) : J X ad 5 I L 5 [(0, .ref (ad 63)), (1, .int v1), (2, .int v2), (3, .int v3), (4, .int v4)] [] := by
  exact k_loop_ho (G := g_X5_of_L5 X ad I L v1 v2) (fun s hs => s_X5_of_L5_b hx hQ  hs) n (v3, v4) h
def f_X5_of (v1 : Int32) (v2 : Int32) (I : StI) : Option (Int32) :=
  f_X5_of_L5 v1 v2 I k_fu (0 : Int32) (0 : Int32)
set_option maxRecDepth 100000 in
set_option maxHeartbeats 4000000 in
theorem s_X5_of {l : Launch} {ad : Nat → Nat} {P : Option Value → StI → StL → Prop} {I : StI} {L : StL} {v1 : Int32} {v2 : Int32}  (h : Ho (f_X5_of v1 v2 I) (kr_X5_of P I L)) : k_Met l ad 1 yX5_of cX5_of 5 (some .int) [.ref (ad 63), .int v1, .int v2] I L P := by
  refine k_enter (by decide +kernel) (Nat.le_of_ble_eq_true rfl) (fun X hl hx hQ => ?_)
  clear hl
  have hx : Ok X cX5_of RX5 5 (some .int) 1 := hx
  show J X ad 5 I L 0 [(0, .ref (ad 63)), (1, .int v1), (2, .int v2)] []
  unfold f_X5_of at h
  refine J_iconst (v := (0 : Int32)) hx dX5_of_0 (by decide) ?_
  refine J_istore_n (x := (0 : Int32)) (lv' := [(3, .int (0 : Int32)), (0, .ref (ad 63)), (1, .int v1), (2, .int v2)]) hx dX5_of_1 rfl (by decide) rfl ?_
  refine J_iconst (v := (0 : Int32)) hx dX5_of_2 (by decide) ?_
  refine J_istore (x := (0 : Int32)) (lv' := [(4, .int (0 : Int32)), (3, .int (0 : Int32)), (0, .ref (ad 63)), (1, .int v1), (2, .int v2)]) hx dX5_of_3 rfl (by decide) rfl ?_
  refine J_sub (lv' := [(0, .ref (ad 63)), (1, .int v1), (2, .int v2), (3, .int (0 : Int32)), (4, .int (0 : Int32))]) hx [2, 3, 4, 1, 0] rfl ?_
  exact s_X5_of_L5 hx hQ  k_fu h
abbrev kr_X5_count (P : Option Value → StI → StL → Prop) (I : StI) (L : StL) : Int32 → Prop := fun t => P (some (.int t)) I L
def f_X5_count_j165 (s0 : Int32) (s1 : Int32) (I : StI) : Option (Int32) :=
  k_gd (2 : Int32) 3 ((if (I 75 (2 : Int32).toNatClampNeg) = 0 then some (((s0 + s1) + (0 : Int32))) else some (((s0 + s1) + (1 : Int32)))))
set_option maxRecDepth 100000 in
set_option maxHeartbeats 4000000 in
theorem s_X5_count_j165 {X : k_C} {ad : Nat → Nat} {P : Option Value → StI → StL → Prop} {I : StI} {L : StL} (hx : Ok X cX5_count RX5 2 (some .int) 2) (hQ : OkQ X ad P)  {s0 : Int32} {s1 : Int32}  (h : Ho (f_X5_count_j165 s0 s1 I) (kr_X5_count P I L)) : J X ad 2 I L 165 [(0, .ref (ad 63))] [.int s1, .int s0] := by
  unfold f_X5_count_j165 at h
  refine J_iadd hx dX5_count_165 ?_
  refine J_aload_n hx dX5_count_166 0 rfl ?_
  refine J_getR (q := 75) hx fl_RX5_43 (rfl : k_sh 63 = (5, k_N 5)) rfl rfl dX5_count_167 ?_
  refine J_iconst (v := (2 : Int32)) hx dX5_count_170 (by decide) ?_
  obtain ⟨b27, h⟩ := Ho_gd h
  refine J_zald hx (rfl : k_sh 75 = (12, 3)) b27 dX5_count_171 ?_
  refine J_if_eq hx dX5_count_172 179 (by decide) (fun c28 => ?_) (fun c28 => ?_)
  · have h := Ho_t c28 h
    refine J_iconst (v := (0 : Int32)) hx dX5_count_179 (by decide) ?_
    refine J_iadd hx dX5_count_180 ?_
    have h := Ho_some h
    exact J_iret hx hQ dX5_count_181 h
  · have h := Ho_f c28 h
    refine J_iconst (v := (1 : Int32)) hx dX5_count_175 (by decide) ?_
    refine J_goto hx dX5_count_176 180 (by decide) ?_
    refine J_iadd hx dX5_count_180 ?_
    have h := Ho_some h
    exact J_iret hx hQ dX5_count_181 h
def f_X5_count_j151 (s0 : Int32) (I : StI) : Option (Int32) :=
  k_gd (1 : Int32) 3 ((if (I 75 (1 : Int32).toNatClampNeg) = 0 then f_X5_count_j165 s0 (0 : Int32) I else f_X5_count_j165 s0 (1 : Int32) I))
set_option maxRecDepth 100000 in
set_option maxHeartbeats 4000000 in
theorem s_X5_count_j151 {X : k_C} {ad : Nat → Nat} {P : Option Value → StI → StL → Prop} {I : StI} {L : StL} (hx : Ok X cX5_count RX5 2 (some .int) 2) (hQ : OkQ X ad P)  {s0 : Int32}  (h : Ho (f_X5_count_j151 s0 I) (kr_X5_count P I L)) : J X ad 2 I L 151 [(0, .ref (ad 63))] [.int s0] := by
  unfold f_X5_count_j151 at h
  refine J_aload_n hx dX5_count_151 0 rfl ?_
  refine J_getR (q := 75) hx fl_RX5_43 (rfl : k_sh 63 = (5, k_N 5)) rfl rfl dX5_count_152 ?_
  refine J_iconst (v := (1 : Int32)) hx dX5_count_155 (by decide) ?_
  obtain ⟨b25, h⟩ := Ho_gd h
  refine J_zald hx (rfl : k_sh 75 = (12, 3)) b25 dX5_count_156 ?_
  refine J_if_eq hx dX5_count_157 164 (by decide) (fun c26 => ?_) (fun c26 => ?_)
  · have h := Ho_t c26 h
    refine J_iconst (v := (0 : Int32)) hx dX5_count_164 (by decide) ?_
    refine J_sub (lv' := [(0, .ref (ad 63))]) hx [0] rfl ?_
    exact s_X5_count_j165 hx hQ  h
  · have h := Ho_f c26 h
    refine J_iconst (v := (1 : Int32)) hx dX5_count_160 (by decide) ?_
    refine J_goto hx dX5_count_161 165 (by decide) ?_
    refine J_sub (lv' := [(0, .ref (ad 63))]) hx [0] rfl ?_
    exact s_X5_count_j165 hx hQ  h
def f_X5_count (v1 : Int32) (I : StI) : Option (Int32) :=
  (if v1 = (0 : Int32) then some ((I 63 4)) else (if v1 = (1 : Int32) then k_gd (0 : Int32) 40 (some ((I 70 (0 : Int32).toNatClampNeg))) else (if v1 = (2 : Int32) then some ((I 63 11)) else (if v1 = (3 : Int32) then k_gd (1 : Int32) 40 (some ((I 70 (1 : Int32).toNatClampNeg))) else (if v1 = (4 : Int32) then k_gd (2 : Int32) 40 (some ((I 70 (2 : Int32).toNatClampNeg))) else (if v1 = (5 : Int32) then k_gd (3 : Int32) 40 (some ((I 70 (3 : Int32).toNatClampNeg))) else (if v1 = (6 : Int32) then k_gd (4 : Int32) 40 (some ((I 70 (4 : Int32).toNatClampNeg))) else (if v1 = (7 : Int32) then Option.bind (f_X5_opens I) (fun t14 => some (t14)) else (if v1 = (8 : Int32) then Option.bind (f_X5_there 64 (6 : Int32) I) (fun t17 => some (t17)) else (if v1 = (9 : Int32) then Option.bind (f_X5_there 66 (4 : Int32) I) (fun t20 => some (t20)) else (if v1 = (10 : Int32) then k_gd (0 : Int32) 3 ((if (I 75 (0 : Int32).toNatClampNeg) = 0 then f_X5_count_j151 (0 : Int32) I else f_X5_count_j151 (1 : Int32) I)) else (if v1 = (11 : Int32) then Option.bind (f_X5_of (1 : Int32) (4 : Int32) I) (fun t30 => some (t30)) else (if v1 = (12 : Int32) then Option.bind (f_X5_of (2 : Int32) (5 : Int32) I) (fun t33 => some (t33)) else some ((-1 : Int32)))))))))))))))
set_option maxRecDepth 100000 in
set_option maxHeartbeats 4000000 in
theorem s_X5_count {l : Launch} {ad : Nat → Nat} {P : Option Value → StI → StL → Prop} {I : StI} {L : StL} {v1 : Int32}  (h : Ho (f_X5_count v1 I) (kr_X5_count P I L)) : k_Met l ad 2 yX5_count cX5_count 2 (some .int) [.ref (ad 63), .int v1] I L P := by
  refine k_enter (by decide +kernel) (Nat.le_of_ble_eq_true rfl) (fun X hl hx hQ => ?_)
  clear hl
  have hx : Ok X cX5_count RX5 2 (some .int) 2 := hx
  show J X ad 2 I L 0 [(0, .ref (ad 63)), (1, .int v1)] []
  unfold f_X5_count at h
  refine J_iload_n hx dX5_count_0 1 rfl ?_
  by_cases c1 : v1 = (0 : Int32)
  · have h := Ho_t c1 h
    refine J_tIn (x' := (0 : Int32)) (off := 67) hx dX5_count_1 c1 (by decide) (by decide) (by decide) 68 (by decide) ?_
    refine J_aload_n hx dX5_count_68 0 rfl ?_
    refine J_getI hx fl_RX5_115 (rfl : k_sh 63 = (5, k_N 5)) rfl dX5_count_69 ?_
    have h := Ho_some h
    exact J_iret hx hQ dX5_count_72 h
  have h := Ho_f c1 h
  by_cases c2 : v1 = (1 : Int32)
  · have h := Ho_t c2 h
    refine J_tIn (x' := (1 : Int32)) (off := 72) hx dX5_count_1 c2 (by decide) (by decide) (by decide) 73 (by decide) ?_
    refine J_aload_n hx dX5_count_73 0 rfl ?_
    refine J_getR (q := 70) hx fl_RX5_28 (rfl : k_sh 63 = (5, k_N 5)) rfl rfl dX5_count_74 ?_
    refine J_iconst (v := (0 : Int32)) hx dX5_count_77 (by decide) ?_
    obtain ⟨b3, h⟩ := Ho_gd h
    refine J_iald hx (rfl : k_sh 70 = (10, 40)) b3 dX5_count_78 ?_
    have h := Ho_some h
    exact J_iret hx hQ dX5_count_79 h
  have h := Ho_f c2 h
  by_cases c4 : v1 = (2 : Int32)
  · have h := Ho_t c4 h
    refine J_tIn (x' := (2 : Int32)) (off := 79) hx dX5_count_1 c4 (by decide) (by decide) (by decide) 80 (by decide) ?_
    refine J_aload_n hx dX5_count_80 0 rfl ?_
    refine J_getI hx fl_RX5_126 (rfl : k_sh 63 = (5, k_N 5)) rfl dX5_count_81 ?_
    have h := Ho_some h
    exact J_iret hx hQ dX5_count_84 h
  have h := Ho_f c4 h
  by_cases c5 : v1 = (3 : Int32)
  · have h := Ho_t c5 h
    refine J_tIn (x' := (3 : Int32)) (off := 84) hx dX5_count_1 c5 (by decide) (by decide) (by decide) 85 (by decide) ?_
    refine J_aload_n hx dX5_count_85 0 rfl ?_
    refine J_getR (q := 70) hx fl_RX5_28 (rfl : k_sh 63 = (5, k_N 5)) rfl rfl dX5_count_86 ?_
    refine J_iconst (v := (1 : Int32)) hx dX5_count_89 (by decide) ?_
    obtain ⟨b6, h⟩ := Ho_gd h
    refine J_iald hx (rfl : k_sh 70 = (10, 40)) b6 dX5_count_90 ?_
    have h := Ho_some h
    exact J_iret hx hQ dX5_count_91 h
  have h := Ho_f c5 h
  by_cases c7 : v1 = (4 : Int32)
  · have h := Ho_t c7 h
    refine J_tIn (x' := (4 : Int32)) (off := 91) hx dX5_count_1 c7 (by decide) (by decide) (by decide) 92 (by decide) ?_
    refine J_aload_n hx dX5_count_92 0 rfl ?_
    refine J_getR (q := 70) hx fl_RX5_28 (rfl : k_sh 63 = (5, k_N 5)) rfl rfl dX5_count_93 ?_
    refine J_iconst (v := (2 : Int32)) hx dX5_count_96 (by decide) ?_
    obtain ⟨b8, h⟩ := Ho_gd h
    refine J_iald hx (rfl : k_sh 70 = (10, 40)) b8 dX5_count_97 ?_
    have h := Ho_some h
    exact J_iret hx hQ dX5_count_98 h
  have h := Ho_f c7 h
  by_cases c9 : v1 = (5 : Int32)
  · have h := Ho_t c9 h
    refine J_tIn (x' := (5 : Int32)) (off := 98) hx dX5_count_1 c9 (by decide) (by decide) (by decide) 99 (by decide) ?_
    refine J_aload_n hx dX5_count_99 0 rfl ?_
    refine J_getR (q := 70) hx fl_RX5_28 (rfl : k_sh 63 = (5, k_N 5)) rfl rfl dX5_count_100 ?_
    refine J_iconst (v := (3 : Int32)) hx dX5_count_103 (by decide) ?_
    obtain ⟨b10, h⟩ := Ho_gd h
    refine J_iald hx (rfl : k_sh 70 = (10, 40)) b10 dX5_count_104 ?_
    have h := Ho_some h
    exact J_iret hx hQ dX5_count_105 h
  have h := Ho_f c9 h
  by_cases c11 : v1 = (6 : Int32)
  · have h := Ho_t c11 h
    refine J_tIn (x' := (6 : Int32)) (off := 105) hx dX5_count_1 c11 (by decide) (by decide) (by decide) 106 (by decide) ?_
    refine J_aload_n hx dX5_count_106 0 rfl ?_
    refine J_getR (q := 70) hx fl_RX5_28 (rfl : k_sh 63 = (5, k_N 5)) rfl rfl dX5_count_107 ?_
    refine J_iconst (v := (4 : Int32)) hx dX5_count_110 (by decide) ?_
    obtain ⟨b12, h⟩ := Ho_gd h
    refine J_iald hx (rfl : k_sh 70 = (10, 40)) b12 dX5_count_111 ?_
    have h := Ho_some h
    exact J_iret hx hQ dX5_count_112 h
  have h := Ho_f c11 h
  by_cases c13 : v1 = (7 : Int32)
  · have h := Ho_t c13 h
    refine J_tIn (x' := (7 : Int32)) (off := 112) hx dX5_count_1 c13 (by decide) (by decide) (by decide) 113 (by decide) ?_
    refine J_aload_n hx dX5_count_113 0 rfl ?_
    obtain ⟨t14, e15, h⟩ := Ho_bind h
    refine J_callVi hx lkV_RX5_254 (rfl : k_sh 63 = (5, k_N 5)) [] [] rfl rfl (Nat.le_of_ble_eq_true rfl) (Nat.le_of_ble_eq_true rfl) (s_X5_opens  ⟨t14, e15, ⟨rfl, rfl, rfl⟩⟩) dX5_count_114 ?_
    have h := Ho_some h
    exact J_iret hx hQ dX5_count_117 h
  have h := Ho_f c13 h
  by_cases c16 : v1 = (8 : Int32)
  · have h := Ho_t c16 h
    refine J_tIn (x' := (8 : Int32)) (off := 117) hx dX5_count_1 c16 (by decide) (by decide) (by decide) 118 (by decide) ?_
    refine J_aload_n hx dX5_count_118 0 rfl ?_
    refine J_getR (q := 64) hx fl_RX5_7 (rfl : k_sh 63 = (5, k_N 5)) rfl rfl dX5_count_119 ?_
    refine J_bipush (v := (6 : Int32)) hx dX5_count_122 (by decide) ?_
    obtain ⟨t17, e18, h⟩ := Ho_bind h
    refine J_callSi hx lkS_RX5_258 [.ref (ad 64), .int (6 : Int32)] [] rfl rfl (Nat.le_of_ble_eq_true rfl) (Nat.le_of_ble_eq_true rfl) (s_X5_there (congrArg Prod.fst (rfl : k_sh 64 = (10, 6))) ⟨t17, e18, ⟨rfl, rfl, rfl⟩⟩) dX5_count_124 ?_
    have h := Ho_some h
    exact J_iret hx hQ dX5_count_127 h
  have h := Ho_f c16 h
  by_cases c19 : v1 = (9 : Int32)
  · have h := Ho_t c19 h
    refine J_tIn (x' := (9 : Int32)) (off := 127) hx dX5_count_1 c19 (by decide) (by decide) (by decide) 128 (by decide) ?_
    refine J_aload_n hx dX5_count_128 0 rfl ?_
    refine J_getR (q := 66) hx fl_RX5_16 (rfl : k_sh 63 = (5, k_N 5)) rfl rfl dX5_count_129 ?_
    refine J_iconst (v := (4 : Int32)) hx dX5_count_132 (by decide) ?_
    obtain ⟨t20, e21, h⟩ := Ho_bind h
    refine J_callSi hx lkS_RX5_258 [.ref (ad 66), .int (4 : Int32)] [] rfl rfl (Nat.le_of_ble_eq_true rfl) (Nat.le_of_ble_eq_true rfl) (s_X5_there (congrArg Prod.fst (rfl : k_sh 66 = (10, 4))) ⟨t20, e21, ⟨rfl, rfl, rfl⟩⟩) dX5_count_133 ?_
    have h := Ho_some h
    exact J_iret hx hQ dX5_count_136 h
  have h := Ho_f c19 h
  by_cases c22 : v1 = (10 : Int32)
  · have h := Ho_t c22 h
    refine J_tIn (x' := (10 : Int32)) (off := 136) hx dX5_count_1 c22 (by decide) (by decide) (by decide) 137 (by decide) ?_
    refine J_aload_n hx dX5_count_137 0 rfl ?_
    refine J_getR (q := 75) hx fl_RX5_43 (rfl : k_sh 63 = (5, k_N 5)) rfl rfl dX5_count_138 ?_
    refine J_iconst (v := (0 : Int32)) hx dX5_count_141 (by decide) ?_
    obtain ⟨b23, h⟩ := Ho_gd h
    refine J_zald hx (rfl : k_sh 75 = (12, 3)) b23 dX5_count_142 ?_
    refine J_if_eq hx dX5_count_143 150 (by decide) (fun c24 => ?_) (fun c24 => ?_)
    · have h := Ho_t c24 h
      refine J_iconst (v := (0 : Int32)) hx dX5_count_150 (by decide) ?_
      refine J_sub (lv' := [(0, .ref (ad 63))]) hx [0] rfl ?_
      exact s_X5_count_j151 hx hQ  h
    · have h := Ho_f c24 h
      refine J_iconst (v := (1 : Int32)) hx dX5_count_146 (by decide) ?_
      refine J_goto hx dX5_count_147 151 (by decide) ?_
      refine J_sub (lv' := [(0, .ref (ad 63))]) hx [0] rfl ?_
      exact s_X5_count_j151 hx hQ  h
  have h := Ho_f c22 h
  by_cases c29 : v1 = (11 : Int32)
  · have h := Ho_t c29 h
    refine J_tIn (x' := (11 : Int32)) (off := 181) hx dX5_count_1 c29 (by decide) (by decide) (by decide) 182 (by decide) ?_
    refine J_aload_n hx dX5_count_182 0 rfl ?_
    refine J_iconst (v := (1 : Int32)) hx dX5_count_183 (by decide) ?_
    refine J_iconst (v := (4 : Int32)) hx dX5_count_184 (by decide) ?_
    obtain ⟨t30, e31, h⟩ := Ho_bind h
    refine J_callVi hx lkV_RX5_261 (rfl : k_sh 63 = (5, k_N 5)) [.int (1 : Int32), .int (4 : Int32)] [] rfl rfl (Nat.le_of_ble_eq_true rfl) (Nat.le_of_ble_eq_true rfl) (s_X5_of  ⟨t30, e31, ⟨rfl, rfl, rfl⟩⟩) dX5_count_185 ?_
    have h := Ho_some h
    exact J_iret hx hQ dX5_count_188 h
  have h := Ho_f c29 h
  by_cases c32 : v1 = (12 : Int32)
  · have h := Ho_t c32 h
    refine J_tIn (x' := (12 : Int32)) (off := 188) hx dX5_count_1 c32 (by decide) (by decide) (by decide) 189 (by decide) ?_
    refine J_aload_n hx dX5_count_189 0 rfl ?_
    refine J_iconst (v := (2 : Int32)) hx dX5_count_190 (by decide) ?_
    refine J_iconst (v := (5 : Int32)) hx dX5_count_191 (by decide) ?_
    obtain ⟨t33, e34, h⟩ := Ho_bind h
    refine J_callVi hx lkV_RX5_261 (rfl : k_sh 63 = (5, k_N 5)) [.int (2 : Int32), .int (5 : Int32)] [] rfl rfl (Nat.le_of_ble_eq_true rfl) (Nat.le_of_ble_eq_true rfl) (s_X5_of  ⟨t33, e34, ⟨rfl, rfl, rfl⟩⟩) dX5_count_192 ?_
    have h := Ho_some h
    exact J_iret hx hQ dX5_count_195 h
  have h := Ho_f c32 h
  refine J_tDef hx dX5_count_1 [(0 : Int32), (1 : Int32), (2 : Int32), (3 : Int32), (4 : Int32), (5 : Int32), (6 : Int32), (7 : Int32), (8 : Int32), (9 : Int32), (10 : Int32), (11 : Int32), (12 : Int32)] (List.forall_mem_cons.mpr ⟨c1, List.forall_mem_cons.mpr ⟨c2, List.forall_mem_cons.mpr ⟨c4, List.forall_mem_cons.mpr ⟨c5, List.forall_mem_cons.mpr ⟨c7, List.forall_mem_cons.mpr ⟨c9, List.forall_mem_cons.mpr ⟨c11, List.forall_mem_cons.mpr ⟨c13, List.forall_mem_cons.mpr ⟨c16, List.forall_mem_cons.mpr ⟨c19, List.forall_mem_cons.mpr ⟨c22, List.forall_mem_cons.mpr ⟨c29, List.forall_mem_cons.mpr ⟨c32, fun _ z => absurd z List.not_mem_nil⟩⟩⟩⟩⟩⟩⟩⟩⟩⟩⟩⟩⟩) (by decide) (by decide) 196 (by decide) ?_
  refine J_iconst (v := (-1 : Int32)) hx dX5_count_196 (by decide) ?_
  have h := Ho_some h
  exact J_iret hx hQ dX5_count_197 h
abbrev kr_X5_digest (P : Option Value → StI → StL → Prop) (I : StI) (L : StL) : Int64 → Prop := fun t => P (some (.long t)) I L
abbrev g_X5_digest_L298 (X : k_C) (ad : Nat → Nat) (I : StI) (L : StL) (v3 : Int32) : (Int64 × Int32) → Prop := fun s => J X ad 5 I L 298 [(0, .ref (ad 63)), (1, .long s.1), (3, .int v3), (4, .int s.2)] []
abbrev g_X5_digest_L276 (X : k_C) (ad : Nat → Nat) (I : StI) (L : StL) : (Int64 × Int32) → Prop := fun s => J X ad 5 I L 276 [(0, .ref (ad 63)), (1, .long s.1), (3, .int s.2)] []
abbrev g_X5_digest_L231 (X : k_C) (ad : Nat → Nat) (I : StI) (L : StL) (v3 : Int32) : (Int64 × Int32) → Prop := fun s => J X ad 5 I L 231 [(0, .ref (ad 63)), (1, .long s.1), (3, .int v3), (4, .int s.2)] []
abbrev g_X5_digest_L208 (X : k_C) (ad : Nat → Nat) (I : StI) (L : StL) : (Int64 × Int32) → Prop := fun s => J X ad 5 I L 208 [(0, .ref (ad 63)), (1, .long s.1), (3, .int s.2)] []
abbrev g_X5_digest_L161 (X : k_C) (ad : Nat → Nat) (I : StI) (L : StL) : (Int64 × Int32) → Prop := fun s => J X ad 5 I L 161 [(0, .ref (ad 63)), (1, .long s.1), (3, .int s.2)] []
abbrev g_X5_digest_L33 (X : k_C) (ad : Nat → Nat) (I : StI) (L : StL) : (Int64 × Int32) → Prop := fun s => J X ad 5 I L 33 [(0, .ref (ad 63)), (1, .long s.1), (3, .int s.2)] []
abbrev g_X5_digest_L6 (X : k_C) (ad : Nat → Nat) (I : StI) (L : StL) : (Int64 × Int32) → Prop := fun s => J X ad 5 I L 6 [(0, .ref (ad 63)), (1, .long s.1), (3, .int s.2)] []
def f_X5_digest_L298_b (v1 : Int64) (v3 : Int32) (v4 : Int32) (I : StI) : Option ((Int64 × Int32) ⊕ ((Int64 × Int32) ⊕ (Int64))) :=
  k_gd v3 4 ((if (I 66 v3.toNatClampNeg) ≤ v4 then k_let (v3 + (1 : Int32)) (fun x10 => some (.inr (.inl (v1, x10)))) else k_gd (((60 : Int32) * v3) + v4) 240 (k_let (((31 : Int64) * v1) + ((I 67 (((60 : Int32) * v3) + v4).toNatClampNeg)).toInt64) (fun x12 => k_let (v4 + (1 : Int32)) (fun x13 => some (.inl (x12, x13)))))))
def f_X5_digest_L298 (v3 : Int32) (I : StI) (n : Nat) (v1 : Int64) (v4 : Int32) : Option ((Int64 × Int32) ⊕ (Int64)) :=
  k_loop (fun s => f_X5_digest_L298_b s.1 v3 s.2 I) n (v1, v4)
set_option maxRecDepth 100000 in
set_option maxHeartbeats 4000000 in
theorem s_X5_digest_L298_b {X : k_C} {ad : Nat → Nat} {P : Option Value → StI → StL → Prop} {I : StI} {L : StL} (hx : Ok X cX5_digest RX5 5 (some .long) 3) (hQ : OkQ X ad P)  {v1 : Int64} {v3 : Int32} {v4 : Int32}  (h : Ho (f_X5_digest_L298_b v1 v3 v4 I) (Sum.elim (g_X5_digest_L298 X ad I L v3) (Sum.elim (g_X5_digest_L276 X ad I L) (kr_X5_digest P I L)))) : J X ad 5 I L 298 [(0, .ref (ad 63)), (1, .long v1), (3, .int v3), (4, .int v4)] [] := by
  unfold f_X5_digest_L298_b at h
  refine J_iload hx dX5_digest_298 3 rfl ?_
  refine J_aload_n hx dX5_digest_300 0 rfl ?_
  refine J_getR (q := 66) hx fl_RX5_16 (rfl : k_sh 63 = (5, k_N 5)) rfl rfl dX5_digest_301 ?_
  refine J_iload_n hx dX5_digest_304 2 rfl ?_
  obtain ⟨b8, h⟩ := Ho_gd h
  refine J_iald hx (rfl : k_sh 66 = (10, 4)) b8 dX5_digest_305 ?_
  refine J_ic_ge hx dX5_digest_306 335 (by decide) (fun c9 => ?_) (fun c9 => ?_)
  · have h := Ho_t c9 h
    obtain ⟨x10, hx10, h⟩ := Ho_let h
    refine J_iinc (x := x10) (lv' := [(3, .int x10), (0, .ref (ad 63)), (1, .long v1), (4, .int v4)]) hx dX5_digest_335 2 rfl (by rw [hx10]; rfl) (by decide) rfl ?_
    refine J_goto hx dX5_digest_338 276 (by decide) ?_
    refine J_sub (lv' := [(0, .ref (ad 63)), (1, .long v1), (3, .int x10)]) hx [1, 2, 0] rfl ?_
    have h := Ho_some h
    exact h
  · have h := Ho_f c9 h
    refine J_ldc2 hx cn_RX5_266 dX5_digest_309 ?_
    refine J_lload_n hx dX5_digest_312 1 rfl ?_
    refine J_lmul hx dX5_digest_313 ?_
    refine J_aload_n hx dX5_digest_314 0 rfl ?_
    refine J_getR (q := 67) hx fl_RX5_19 (rfl : k_sh 63 = (5, k_N 5)) rfl rfl dX5_digest_315 ?_
    refine J_bipush (v := (60 : Int32)) hx dX5_digest_318 (by decide) ?_
    refine J_iload_n hx dX5_digest_320 2 rfl ?_
    refine J_imul hx dX5_digest_321 ?_
    refine J_iload hx dX5_digest_322 3 rfl ?_
    refine J_iadd hx dX5_digest_324 ?_
    obtain ⟨b11, h⟩ := Ho_gd h
    refine J_iald hx (rfl : k_sh 67 = (10, 240)) b11 dX5_digest_325 ?_
    refine J_i2l hx dX5_digest_326 ?_
    refine J_ladd hx dX5_digest_327 ?_
    obtain ⟨x12, hx12, h⟩ := Ho_let h
    refine J_lstore_n (x := x12) (lv' := [(1, .long x12), (0, .ref (ad 63)), (3, .int v3), (4, .int v4)]) hx dX5_digest_328 hx12 (by decide) rfl ?_
    obtain ⟨x13, hx13, h⟩ := Ho_let h
    refine J_iinc (x := x13) (lv' := [(4, .int x13), (1, .long x12), (0, .ref (ad 63)), (3, .int v3)]) hx dX5_digest_329 3 rfl (by rw [hx13]; rfl) (by decide) rfl ?_
    refine J_goto hx dX5_digest_332 298 (by decide) ?_
    refine J_sub (lv' := [(0, .ref (ad 63)), (1, .long x12), (3, .int v3), (4, .int x13)]) hx [2, 1, 3, 0] rfl ?_
    have h := Ho_some h
    exact h
set_option maxRecDepth 100000 in
set_option maxHeartbeats 4000000 in
theorem s_X5_digest_L298 {X : k_C} {ad : Nat → Nat} {P : Option Value → StI → StL → Prop} {I : StI} {L : StL} (hx : Ok X cX5_digest RX5 5 (some .long) 3) (hQ : OkQ X ad P)  {v1 : Int64} {v3 : Int32} {v4 : Int32}  (n : Nat) (h : Ho (f_X5_digest_L298 v3 I n v1 v4) (Sum.elim (g_X5_digest_L276 X ad I L) (kr_X5_digest P I L))) : J X ad 5 I L 298 [(0, .ref (ad 63)), (1, .long v1), (3, .int v3), (4, .int v4)] [] := by
  exact k_loop_ho (G := g_X5_digest_L298 X ad I L v3) (fun s hs => s_X5_digest_L298_b hx hQ  hs) n (v1, v4) h
def f_X5_digest_L276_b (v1 : Int64) (v3 : Int32) (I : StI) : Option ((Int64 × Int32) ⊕ (Int64)) :=
  (if (4 : Int32) ≤ v3 then some (.inr (v1)) else k_gd v3 4 (k_let (((31 : Int64) * v1) + ((I 66 v3.toNatClampNeg)).toInt64) (fun x7 => f_X5_digest_L298 v3 I k_fu x7 (0 : Int32))))
def f_X5_digest_L276 (I : StI) (n : Nat) (v1 : Int64) (v3 : Int32) : Option (Int64) :=
  k_loop (fun s => f_X5_digest_L276_b s.1 s.2 I) n (v1, v3)
set_option maxRecDepth 100000 in
set_option maxHeartbeats 4000000 in
theorem s_X5_digest_L276_b {X : k_C} {ad : Nat → Nat} {P : Option Value → StI → StL → Prop} {I : StI} {L : StL} (hx : Ok X cX5_digest RX5 5 (some .long) 3) (hQ : OkQ X ad P)  {v1 : Int64} {v3 : Int32}  (h : Ho (f_X5_digest_L276_b v1 v3 I) (Sum.elim (g_X5_digest_L276 X ad I L) (kr_X5_digest P I L))) : J X ad 5 I L 276 [(0, .ref (ad 63)), (1, .long v1), (3, .int v3)] [] := by
  unfold f_X5_digest_L276_b at h
  refine J_iload_n hx dX5_digest_276 2 rfl ?_
  refine J_iconst (v := (4 : Int32)) hx dX5_digest_277 (by decide) ?_
  refine J_ic_ge hx dX5_digest_278 341 (by decide) (fun c5 => ?_) (fun c5 => ?_)
  · have h := Ho_t c5 h
    refine J_lload_n hx dX5_digest_341 1 rfl ?_
    have h := Ho_some h
    exact J_lret hx hQ dX5_digest_342 h
  · have h := Ho_f c5 h
    refine J_ldc2 hx cn_RX5_266 dX5_digest_281 ?_
    refine J_lload_n hx dX5_digest_284 1 rfl ?_
    refine J_lmul hx dX5_digest_285 ?_
    refine J_aload_n hx dX5_digest_286 0 rfl ?_
    refine J_getR (q := 66) hx fl_RX5_16 (rfl : k_sh 63 = (5, k_N 5)) rfl rfl dX5_digest_287 ?_
    refine J_iload_n hx dX5_digest_290 2 rfl ?_
    obtain ⟨b6, h⟩ := Ho_gd h
    refine J_iald hx (rfl : k_sh 66 = (10, 4)) b6 dX5_digest_291 ?_
    refine J_i2l hx dX5_digest_292 ?_
    refine J_ladd hx dX5_digest_293 ?_
    obtain ⟨x7, hx7, h⟩ := Ho_let h
    refine J_lstore_n (x := x7) (lv' := [(1, .long x7), (0, .ref (ad 63)), (3, .int v3)]) hx dX5_digest_294 hx7 (by decide) rfl ?_
    refine J_iconst (v := (0 : Int32)) hx dX5_digest_295 (by decide) ?_
    refine J_istore (x := (0 : Int32)) (lv' := [(4, .int (0 : Int32)), (1, .long x7), (0, .ref (ad 63)), (3, .int v3)]) hx dX5_digest_296 rfl (by decide) rfl ?_
    refine J_sub (lv' := [(0, .ref (ad 63)), (1, .long x7), (3, .int v3), (4, .int (0 : Int32))]) hx [2, 1, 3, 0] rfl ?_
    exact s_X5_digest_L298 hx hQ  k_fu h
set_option maxRecDepth 100000 in
set_option maxHeartbeats 4000000 in
theorem s_X5_digest_L276 {X : k_C} {ad : Nat → Nat} {P : Option Value → StI → StL → Prop} {I : StI} {L : StL} (hx : Ok X cX5_digest RX5 5 (some .long) 3) (hQ : OkQ X ad P)  {v1 : Int64} {v3 : Int32}  (n : Nat) (h : Ho (f_X5_digest_L276 I n v1 v3) (kr_X5_digest P I L)) : J X ad 5 I L 276 [(0, .ref (ad 63)), (1, .long v1), (3, .int v3)] [] := by
  exact k_loop_ho (G := g_X5_digest_L276 X ad I L) (fun s hs => s_X5_digest_L276_b hx hQ  hs) n (v1, v3) h
def f_X5_digest_L231_b (v1 : Int64) (v3 : Int32) (v4 : Int32) (I : StI) : Option ((Int64 × Int32) ⊕ ((Int64 × Int32) ⊕ (Int64))) :=
  k_gd v3 6 ((if (I 64 v3.toNatClampNeg) ≤ v4 then k_let (v3 + (1 : Int32)) (fun x18 => some (.inr (.inl (v1, x18)))) else k_gd (((40 : Int32) * v3) + v4) 240 (k_let (((31 : Int64) * v1) + ((I 65 (((40 : Int32) * v3) + v4).toNatClampNeg)).toInt64) (fun x20 => k_let (v4 + (1 : Int32)) (fun x21 => some (.inl (x20, x21)))))))
def f_X5_digest_L231 (v3 : Int32) (I : StI) (n : Nat) (v1 : Int64) (v4 : Int32) : Option ((Int64 × Int32) ⊕ (Int64)) :=
  k_loop (fun s => f_X5_digest_L231_b s.1 v3 s.2 I) n (v1, v4)
set_option maxRecDepth 100000 in
set_option maxHeartbeats 4000000 in
theorem s_X5_digest_L231_b {X : k_C} {ad : Nat → Nat} {P : Option Value → StI → StL → Prop} {I : StI} {L : StL} (hx : Ok X cX5_digest RX5 5 (some .long) 3) (hQ : OkQ X ad P)  {v1 : Int64} {v3 : Int32} {v4 : Int32}  (h : Ho (f_X5_digest_L231_b v1 v3 v4 I) (Sum.elim (g_X5_digest_L231 X ad I L v3) (Sum.elim (g_X5_digest_L208 X ad I L) (kr_X5_digest P I L)))) : J X ad 5 I L 231 [(0, .ref (ad 63)), (1, .long v1), (3, .int v3), (4, .int v4)] [] := by
  unfold f_X5_digest_L231_b at h
  refine J_iload hx dX5_digest_231 3 rfl ?_
  refine J_aload_n hx dX5_digest_233 0 rfl ?_
  refine J_getR (q := 64) hx fl_RX5_7 (rfl : k_sh 63 = (5, k_N 5)) rfl rfl dX5_digest_234 ?_
  refine J_iload_n hx dX5_digest_237 2 rfl ?_
  obtain ⟨b16, h⟩ := Ho_gd h
  refine J_iald hx (rfl : k_sh 64 = (10, 6)) b16 dX5_digest_238 ?_
  refine J_ic_ge hx dX5_digest_239 268 (by decide) (fun c17 => ?_) (fun c17 => ?_)
  · have h := Ho_t c17 h
    obtain ⟨x18, hx18, h⟩ := Ho_let h
    refine J_iinc (x := x18) (lv' := [(3, .int x18), (0, .ref (ad 63)), (1, .long v1), (4, .int v4)]) hx dX5_digest_268 2 rfl (by rw [hx18]; rfl) (by decide) rfl ?_
    refine J_goto hx dX5_digest_271 208 (by decide) ?_
    refine J_sub (lv' := [(0, .ref (ad 63)), (1, .long v1), (3, .int x18)]) hx [1, 2, 0] rfl ?_
    have h := Ho_some h
    exact h
  · have h := Ho_f c17 h
    refine J_ldc2 hx cn_RX5_266 dX5_digest_242 ?_
    refine J_lload_n hx dX5_digest_245 1 rfl ?_
    refine J_lmul hx dX5_digest_246 ?_
    refine J_aload_n hx dX5_digest_247 0 rfl ?_
    refine J_getR (q := 65) hx fl_RX5_13 (rfl : k_sh 63 = (5, k_N 5)) rfl rfl dX5_digest_248 ?_
    refine J_bipush (v := (40 : Int32)) hx dX5_digest_251 (by decide) ?_
    refine J_iload_n hx dX5_digest_253 2 rfl ?_
    refine J_imul hx dX5_digest_254 ?_
    refine J_iload hx dX5_digest_255 3 rfl ?_
    refine J_iadd hx dX5_digest_257 ?_
    obtain ⟨b19, h⟩ := Ho_gd h
    refine J_iald hx (rfl : k_sh 65 = (10, 240)) b19 dX5_digest_258 ?_
    refine J_i2l hx dX5_digest_259 ?_
    refine J_ladd hx dX5_digest_260 ?_
    obtain ⟨x20, hx20, h⟩ := Ho_let h
    refine J_lstore_n (x := x20) (lv' := [(1, .long x20), (0, .ref (ad 63)), (3, .int v3), (4, .int v4)]) hx dX5_digest_261 hx20 (by decide) rfl ?_
    obtain ⟨x21, hx21, h⟩ := Ho_let h
    refine J_iinc (x := x21) (lv' := [(4, .int x21), (1, .long x20), (0, .ref (ad 63)), (3, .int v3)]) hx dX5_digest_262 3 rfl (by rw [hx21]; rfl) (by decide) rfl ?_
    refine J_goto hx dX5_digest_265 231 (by decide) ?_
    refine J_sub (lv' := [(0, .ref (ad 63)), (1, .long x20), (3, .int v3), (4, .int x21)]) hx [2, 1, 3, 0] rfl ?_
    have h := Ho_some h
    exact h
set_option maxRecDepth 100000 in
set_option maxHeartbeats 4000000 in
theorem s_X5_digest_L231 {X : k_C} {ad : Nat → Nat} {P : Option Value → StI → StL → Prop} {I : StI} {L : StL} (hx : Ok X cX5_digest RX5 5 (some .long) 3) (hQ : OkQ X ad P)  {v1 : Int64} {v3 : Int32} {v4 : Int32}  (n : Nat) (h : Ho (f_X5_digest_L231 v3 I n v1 v4) (Sum.elim (g_X5_digest_L208 X ad I L) (kr_X5_digest P I L))) : J X ad 5 I L 231 [(0, .ref (ad 63)), (1, .long v1), (3, .int v3), (4, .int v4)] [] := by
  exact k_loop_ho (G := g_X5_digest_L231 X ad I L v3) (fun s hs => s_X5_digest_L231_b hx hQ  hs) n (v1, v4) h
def f_X5_digest_L208_b (v1 : Int64) (v3 : Int32) (I : StI) : Option ((Int64 × Int32) ⊕ (Int64)) :=
  (if (6 : Int32) ≤ v3 then Option.map Sum.inr (f_X5_digest_L276 I k_fu v1 (0 : Int32)) else k_gd v3 6 (k_let (((31 : Int64) * v1) + ((I 64 v3.toNatClampNeg)).toInt64) (fun x15 => f_X5_digest_L231 v3 I k_fu x15 (0 : Int32))))
def f_X5_digest_L208 (I : StI) (n : Nat) (v1 : Int64) (v3 : Int32) : Option (Int64) :=
  k_loop (fun s => f_X5_digest_L208_b s.1 s.2 I) n (v1, v3)
set_option maxRecDepth 100000 in
set_option maxHeartbeats 4000000 in
theorem s_X5_digest_L208_b {X : k_C} {ad : Nat → Nat} {P : Option Value → StI → StL → Prop} {I : StI} {L : StL} (hx : Ok X cX5_digest RX5 5 (some .long) 3) (hQ : OkQ X ad P)  {v1 : Int64} {v3 : Int32}  (h : Ho (f_X5_digest_L208_b v1 v3 I) (Sum.elim (g_X5_digest_L208 X ad I L) (kr_X5_digest P I L))) : J X ad 5 I L 208 [(0, .ref (ad 63)), (1, .long v1), (3, .int v3)] [] := by
  unfold f_X5_digest_L208_b at h
  refine J_iload_n hx dX5_digest_208 2 rfl ?_
  refine J_bipush (v := (6 : Int32)) hx dX5_digest_209 (by decide) ?_
  refine J_ic_ge hx dX5_digest_211 274 (by decide) (fun c4 => ?_) (fun c4 => ?_)
  · have h := Ho_t c4 h
    refine J_iconst (v := (0 : Int32)) hx dX5_digest_274 (by decide) ?_
    refine J_istore_n (x := (0 : Int32)) (lv' := [(3, .int (0 : Int32)), (0, .ref (ad 63)), (1, .long v1)]) hx dX5_digest_275 rfl (by decide) rfl ?_
    refine J_sub (lv' := [(0, .ref (ad 63)), (1, .long v1), (3, .int (0 : Int32))]) hx [1, 2, 0] rfl ?_
    have h := Ho_map h
    exact s_X5_digest_L276 hx hQ  k_fu h
  · have h := Ho_f c4 h
    refine J_ldc2 hx cn_RX5_266 dX5_digest_214 ?_
    refine J_lload_n hx dX5_digest_217 1 rfl ?_
    refine J_lmul hx dX5_digest_218 ?_
    refine J_aload_n hx dX5_digest_219 0 rfl ?_
    refine J_getR (q := 64) hx fl_RX5_7 (rfl : k_sh 63 = (5, k_N 5)) rfl rfl dX5_digest_220 ?_
    refine J_iload_n hx dX5_digest_223 2 rfl ?_
    obtain ⟨b14, h⟩ := Ho_gd h
    refine J_iald hx (rfl : k_sh 64 = (10, 6)) b14 dX5_digest_224 ?_
    refine J_i2l hx dX5_digest_225 ?_
    refine J_ladd hx dX5_digest_226 ?_
    obtain ⟨x15, hx15, h⟩ := Ho_let h
    refine J_lstore_n (x := x15) (lv' := [(1, .long x15), (0, .ref (ad 63)), (3, .int v3)]) hx dX5_digest_227 hx15 (by decide) rfl ?_
    refine J_iconst (v := (0 : Int32)) hx dX5_digest_228 (by decide) ?_
    refine J_istore (x := (0 : Int32)) (lv' := [(4, .int (0 : Int32)), (1, .long x15), (0, .ref (ad 63)), (3, .int v3)]) hx dX5_digest_229 rfl (by decide) rfl ?_
    refine J_sub (lv' := [(0, .ref (ad 63)), (1, .long x15), (3, .int v3), (4, .int (0 : Int32))]) hx [2, 1, 3, 0] rfl ?_
    exact s_X5_digest_L231 hx hQ  k_fu h
set_option maxRecDepth 100000 in
set_option maxHeartbeats 4000000 in
theorem s_X5_digest_L208 {X : k_C} {ad : Nat → Nat} {P : Option Value → StI → StL → Prop} {I : StI} {L : StL} (hx : Ok X cX5_digest RX5 5 (some .long) 3) (hQ : OkQ X ad P)  {v1 : Int64} {v3 : Int32}  (n : Nat) (h : Ho (f_X5_digest_L208 I n v1 v3) (kr_X5_digest P I L)) : J X ad 5 I L 208 [(0, .ref (ad 63)), (1, .long v1), (3, .int v3)] [] := by
  exact k_loop_ho (G := g_X5_digest_L208 X ad I L) (fun s hs => s_X5_digest_L208_b hx hQ  hs) n (v1, v3) h
def f_X5_digest_j197 (v3 : Int32) (s0 : Int64) (s1 : Int32) (I : StI) : Option ((Int64 × Int32) ⊕ (Int64)) :=
  k_let (s0 + (s1).toInt64) (fun x24 => k_let (v3 + (1 : Int32)) (fun x25 => some (.inl (x24, x25))))
set_option maxRecDepth 100000 in
set_option maxHeartbeats 4000000 in
theorem s_X5_digest_j197 {X : k_C} {ad : Nat → Nat} {P : Option Value → StI → StL → Prop} {I : StI} {L : StL} (hx : Ok X cX5_digest RX5 5 (some .long) 3) (hQ : OkQ X ad P)  {v3 : Int32} {s0 : Int64} {s1 : Int32}  (h : Ho (f_X5_digest_j197 v3 s0 s1 I) (Sum.elim (g_X5_digest_L161 X ad I L) (kr_X5_digest P I L))) : J X ad 5 I L 197 [(0, .ref (ad 63)), (3, .int v3)] [.int s1, .long s0] := by
  unfold f_X5_digest_j197 at h
  refine J_i2l hx dX5_digest_197 ?_
  refine J_ladd hx dX5_digest_198 ?_
  obtain ⟨x24, hx24, h⟩ := Ho_let h
  refine J_lstore_n (x := x24) (lv' := [(1, .long x24), (0, .ref (ad 63)), (3, .int v3)]) hx dX5_digest_199 hx24 (by decide) rfl ?_
  obtain ⟨x25, hx25, h⟩ := Ho_let h
  refine J_iinc (x := x25) (lv' := [(3, .int x25), (1, .long x24), (0, .ref (ad 63))]) hx dX5_digest_200 2 rfl (by rw [hx25]; rfl) (by decide) rfl ?_
  refine J_goto hx dX5_digest_203 161 (by decide) ?_
  refine J_sub (lv' := [(0, .ref (ad 63)), (1, .long x24), (3, .int x25)]) hx [2, 1, 0] rfl ?_
  have h := Ho_some h
  exact h
def f_X5_digest_L161_b (v1 : Int64) (v3 : Int32) (I : StI) : Option ((Int64 × Int32) ⊕ (Int64)) :=
  (if (3 : Int32) ≤ v3 then Option.map Sum.inr (f_X5_digest_L208 I k_fu v1 (0 : Int32)) else k_gd v3 3 ((if (I 75 v3.toNatClampNeg) = 0 then f_X5_digest_j197 v3 ((31 : Int64) * v1) (-1 : Int32) I else k_gd (((1641 : Int32) * v3) + (40 : Int32)) 4923 (f_X5_digest_j197 v3 ((31 : Int64) * v1) (I 74 (((1641 : Int32) * v3) + (40 : Int32)).toNatClampNeg) I))))
def f_X5_digest_L161 (I : StI) (n : Nat) (v1 : Int64) (v3 : Int32) : Option (Int64) :=
  k_loop (fun s => f_X5_digest_L161_b s.1 s.2 I) n (v1, v3)
set_option maxRecDepth 100000 in
set_option maxHeartbeats 4000000 in
theorem s_X5_digest_L161_b {X : k_C} {ad : Nat → Nat} {P : Option Value → StI → StL → Prop} {I : StI} {L : StL} (hx : Ok X cX5_digest RX5 5 (some .long) 3) (hQ : OkQ X ad P)  {v1 : Int64} {v3 : Int32}  (h : Ho (f_X5_digest_L161_b v1 v3 I) (Sum.elim (g_X5_digest_L161 X ad I L) (kr_X5_digest P I L))) : J X ad 5 I L 161 [(0, .ref (ad 63)), (1, .long v1), (3, .int v3)] [] := by
  unfold f_X5_digest_L161_b at h
  refine J_iload_n hx dX5_digest_161 2 rfl ?_
  refine J_iconst (v := (3 : Int32)) hx dX5_digest_162 (by decide) ?_
  refine J_ic_ge hx dX5_digest_163 206 (by decide) (fun c3 => ?_) (fun c3 => ?_)
  · have h := Ho_t c3 h
    refine J_iconst (v := (0 : Int32)) hx dX5_digest_206 (by decide) ?_
    refine J_istore_n (x := (0 : Int32)) (lv' := [(3, .int (0 : Int32)), (0, .ref (ad 63)), (1, .long v1)]) hx dX5_digest_207 rfl (by decide) rfl ?_
    refine J_sub (lv' := [(0, .ref (ad 63)), (1, .long v1), (3, .int (0 : Int32))]) hx [1, 2, 0] rfl ?_
    have h := Ho_map h
    exact s_X5_digest_L208 hx hQ  k_fu h
  · have h := Ho_f c3 h
    refine J_ldc2 hx cn_RX5_266 dX5_digest_166 ?_
    refine J_lload_n hx dX5_digest_169 1 rfl ?_
    refine J_lmul hx dX5_digest_170 ?_
    refine J_aload_n hx dX5_digest_171 0 rfl ?_
    refine J_getR (q := 75) hx fl_RX5_43 (rfl : k_sh 63 = (5, k_N 5)) rfl rfl dX5_digest_172 ?_
    refine J_iload_n hx dX5_digest_175 2 rfl ?_
    obtain ⟨b22, h⟩ := Ho_gd h
    refine J_zald hx (rfl : k_sh 75 = (12, 3)) b22 dX5_digest_176 ?_
    refine J_if_eq hx dX5_digest_177 196 (by decide) (fun c23 => ?_) (fun c23 => ?_)
    · have h := Ho_t c23 h
      refine J_iconst (v := (-1 : Int32)) hx dX5_digest_196 (by decide) ?_
      refine J_sub (lv' := [(0, .ref (ad 63)), (3, .int v3)]) hx [0, 2] rfl ?_
      exact s_X5_digest_j197 hx hQ  h
    · have h := Ho_f c23 h
      refine J_aload_n hx dX5_digest_180 0 rfl ?_
      refine J_getR (q := 74) hx fl_RX5_40 (rfl : k_sh 63 = (5, k_N 5)) rfl rfl dX5_digest_181 ?_
      refine J_sipush (v := (1641 : Int32)) hx dX5_digest_184 (by decide) ?_
      refine J_iload_n hx dX5_digest_187 2 rfl ?_
      refine J_imul hx dX5_digest_188 ?_
      refine J_bipush (v := (40 : Int32)) hx dX5_digest_189 (by decide) ?_
      refine J_iadd hx dX5_digest_191 ?_
      obtain ⟨b26, h⟩ := Ho_gd h
      refine J_iald hx (rfl : k_sh 74 = (10, 4923)) b26 dX5_digest_192 ?_
      refine J_goto hx dX5_digest_193 197 (by decide) ?_
      refine J_sub (lv' := [(0, .ref (ad 63)), (3, .int v3)]) hx [0, 2] rfl ?_
      exact s_X5_digest_j197 hx hQ  h
set_option maxRecDepth 100000 in
set_option maxHeartbeats 4000000 in
theorem s_X5_digest_L161 {X : k_C} {ad : Nat → Nat} {P : Option Value → StI → StL → Prop} {I : StI} {L : StL} (hx : Ok X cX5_digest RX5 5 (some .long) 3) (hQ : OkQ X ad P)  {v1 : Int64} {v3 : Int32}  (n : Nat) (h : Ho (f_X5_digest_L161 I n v1 v3) (kr_X5_digest P I L)) : J X ad 5 I L 161 [(0, .ref (ad 63)), (1, .long v1), (3, .int v3)] [] := by
  exact k_loop_ho (G := g_X5_digest_L161 X ad I L) (fun s hs => s_X5_digest_L161_b hx hQ  hs) n (v1, v3) h
def f_X5_digest_L33_b (v1 : Int64) (v3 : Int32) (I : StI) : Option ((Int64 × Int32) ⊕ (Int64)) :=
  (if (I 63 4) ≤ v3 then Option.map Sum.inr (f_X5_digest_L161 I k_fu v1 (0 : Int32)) else k_gd v3 7 (k_let (((31 : Int64) * v1) + ((I 68 v3.toNatClampNeg)).toInt64) (fun x28 => k_gd ((5 : Int32) + v3) 40 (k_let (((31 : Int64) * x28) + ((I 70 ((5 : Int32) + v3).toNatClampNeg)).toInt64) (fun x30 => k_gd v3 7 (k_let (((31 : Int64) * x30) + ((I 69 v3.toNatClampNeg)).toInt64) (fun x32 => k_gd ((12 : Int32) + v3) 40 (k_let (((31 : Int64) * x32) + ((I 70 ((12 : Int32) + v3).toNatClampNeg)).toInt64) (fun x34 => k_gd ((19 : Int32) + v3) 40 (k_let (((31 : Int64) * x34) + ((I 70 ((19 : Int32) + v3).toNatClampNeg)).toInt64) (fun x36 => k_gd ((26 : Int32) + v3) 40 (k_let (((31 : Int64) * x36) + ((I 70 ((26 : Int32) + v3).toNatClampNeg)).toInt64) (fun x38 => k_gd ((33 : Int32) + v3) 40 (k_let (((31 : Int64) * x38) + ((I 70 ((33 : Int32) + v3).toNatClampNeg)).toInt64) (fun x40 => k_let (v3 + (1 : Int32)) (fun x41 => some (.inl (x40, x41))))))))))))))))))
def f_X5_digest_L33 (I : StI) (n : Nat) (v1 : Int64) (v3 : Int32) : Option (Int64) :=
  k_loop (fun s => f_X5_digest_L33_b s.1 s.2 I) n (v1, v3)
set_option maxRecDepth 100000 in
set_option maxHeartbeats 4000000 in
theorem s_X5_digest_L33_b {X : k_C} {ad : Nat → Nat} {P : Option Value → StI → StL → Prop} {I : StI} {L : StL} (hx : Ok X cX5_digest RX5 5 (some .long) 3) (hQ : OkQ X ad P)  {v1 : Int64} {v3 : Int32}  (h : Ho (f_X5_digest_L33_b v1 v3 I) (Sum.elim (g_X5_digest_L33 X ad I L) (kr_X5_digest P I L))) : J X ad 5 I L 33 [(0, .ref (ad 63)), (1, .long v1), (3, .int v3)] [] := by
  unfold f_X5_digest_L33_b at h
  refine J_iload_n hx dX5_digest_33 2 rfl ?_
  refine J_aload_n hx dX5_digest_34 0 rfl ?_
  refine J_getI hx fl_RX5_115 (rfl : k_sh 63 = (5, k_N 5)) rfl dX5_digest_35 ?_
  refine J_ic_ge hx dX5_digest_38 159 (by decide) (fun c2 => ?_) (fun c2 => ?_)
  · have h := Ho_t c2 h
    refine J_iconst (v := (0 : Int32)) hx dX5_digest_159 (by decide) ?_
    refine J_istore_n (x := (0 : Int32)) (lv' := [(3, .int (0 : Int32)), (0, .ref (ad 63)), (1, .long v1)]) hx dX5_digest_160 rfl (by decide) rfl ?_
    refine J_sub (lv' := [(0, .ref (ad 63)), (1, .long v1), (3, .int (0 : Int32))]) hx [1, 2, 0] rfl ?_
    have h := Ho_map h
    exact s_X5_digest_L161 hx hQ  k_fu h
  · have h := Ho_f c2 h
    refine J_ldc2 hx cn_RX5_266 dX5_digest_41 ?_
    refine J_lload_n hx dX5_digest_44 1 rfl ?_
    refine J_lmul hx dX5_digest_45 ?_
    refine J_aload_n hx dX5_digest_46 0 rfl ?_
    refine J_getR (q := 68) hx fl_RX5_22 (rfl : k_sh 63 = (5, k_N 5)) rfl rfl dX5_digest_47 ?_
    refine J_iload_n hx dX5_digest_50 2 rfl ?_
    obtain ⟨b27, h⟩ := Ho_gd h
    refine J_iald hx (rfl : k_sh 68 = (10, 7)) b27 dX5_digest_51 ?_
    refine J_i2l hx dX5_digest_52 ?_
    refine J_ladd hx dX5_digest_53 ?_
    obtain ⟨x28, hx28, h⟩ := Ho_let h
    refine J_lstore_n (x := x28) (lv' := [(1, .long x28), (0, .ref (ad 63)), (3, .int v3)]) hx dX5_digest_54 hx28 (by decide) rfl ?_
    refine J_ldc2 hx cn_RX5_266 dX5_digest_55 ?_
    refine J_lload_n hx dX5_digest_58 0 rfl ?_
    refine J_lmul hx dX5_digest_59 ?_
    refine J_aload_n hx dX5_digest_60 1 rfl ?_
    refine J_getR (q := 70) hx fl_RX5_28 (rfl : k_sh 63 = (5, k_N 5)) rfl rfl dX5_digest_61 ?_
    refine J_iconst (v := (5 : Int32)) hx dX5_digest_64 (by decide) ?_
    refine J_iload_n hx dX5_digest_65 2 rfl ?_
    refine J_iadd hx dX5_digest_66 ?_
    obtain ⟨b29, h⟩ := Ho_gd h
    refine J_iald hx (rfl : k_sh 70 = (10, 40)) b29 dX5_digest_67 ?_
    refine J_i2l hx dX5_digest_68 ?_
    refine J_ladd hx dX5_digest_69 ?_
    obtain ⟨x30, hx30, h⟩ := Ho_let h
    refine J_lstore_n (x := x30) (lv' := [(1, .long x30), (0, .ref (ad 63)), (3, .int v3)]) hx dX5_digest_70 hx30 (by decide) rfl ?_
    refine J_ldc2 hx cn_RX5_266 dX5_digest_71 ?_
    refine J_lload_n hx dX5_digest_74 0 rfl ?_
    refine J_lmul hx dX5_digest_75 ?_
    refine J_aload_n hx dX5_digest_76 1 rfl ?_
    refine J_getR (q := 69) hx fl_RX5_25 (rfl : k_sh 63 = (5, k_N 5)) rfl rfl dX5_digest_77 ?_
    refine J_iload_n hx dX5_digest_80 2 rfl ?_
    obtain ⟨b31, h⟩ := Ho_gd h
    refine J_iald hx (rfl : k_sh 69 = (10, 7)) b31 dX5_digest_81 ?_
    refine J_i2l hx dX5_digest_82 ?_
    refine J_ladd hx dX5_digest_83 ?_
    obtain ⟨x32, hx32, h⟩ := Ho_let h
    refine J_lstore_n (x := x32) (lv' := [(1, .long x32), (0, .ref (ad 63)), (3, .int v3)]) hx dX5_digest_84 hx32 (by decide) rfl ?_
    refine J_ldc2 hx cn_RX5_266 dX5_digest_85 ?_
    refine J_lload_n hx dX5_digest_88 0 rfl ?_
    refine J_lmul hx dX5_digest_89 ?_
    refine J_aload_n hx dX5_digest_90 1 rfl ?_
    refine J_getR (q := 70) hx fl_RX5_28 (rfl : k_sh 63 = (5, k_N 5)) rfl rfl dX5_digest_91 ?_
    refine J_bipush (v := (12 : Int32)) hx dX5_digest_94 (by decide) ?_
    refine J_iload_n hx dX5_digest_96 2 rfl ?_
    refine J_iadd hx dX5_digest_97 ?_
    obtain ⟨b33, h⟩ := Ho_gd h
    refine J_iald hx (rfl : k_sh 70 = (10, 40)) b33 dX5_digest_98 ?_
    refine J_i2l hx dX5_digest_99 ?_
    refine J_ladd hx dX5_digest_100 ?_
    obtain ⟨x34, hx34, h⟩ := Ho_let h
    refine J_lstore_n (x := x34) (lv' := [(1, .long x34), (0, .ref (ad 63)), (3, .int v3)]) hx dX5_digest_101 hx34 (by decide) rfl ?_
    refine J_ldc2 hx cn_RX5_266 dX5_digest_102 ?_
    refine J_lload_n hx dX5_digest_105 0 rfl ?_
    refine J_lmul hx dX5_digest_106 ?_
    refine J_aload_n hx dX5_digest_107 1 rfl ?_
    refine J_getR (q := 70) hx fl_RX5_28 (rfl : k_sh 63 = (5, k_N 5)) rfl rfl dX5_digest_108 ?_
    refine J_bipush (v := (19 : Int32)) hx dX5_digest_111 (by decide) ?_
    refine J_iload_n hx dX5_digest_113 2 rfl ?_
    refine J_iadd hx dX5_digest_114 ?_
    obtain ⟨b35, h⟩ := Ho_gd h
    refine J_iald hx (rfl : k_sh 70 = (10, 40)) b35 dX5_digest_115 ?_
    refine J_i2l hx dX5_digest_116 ?_
    refine J_ladd hx dX5_digest_117 ?_
    obtain ⟨x36, hx36, h⟩ := Ho_let h
    refine J_lstore_n (x := x36) (lv' := [(1, .long x36), (0, .ref (ad 63)), (3, .int v3)]) hx dX5_digest_118 hx36 (by decide) rfl ?_
    refine J_ldc2 hx cn_RX5_266 dX5_digest_119 ?_
    refine J_lload_n hx dX5_digest_122 0 rfl ?_
    refine J_lmul hx dX5_digest_123 ?_
    refine J_aload_n hx dX5_digest_124 1 rfl ?_
    refine J_getR (q := 70) hx fl_RX5_28 (rfl : k_sh 63 = (5, k_N 5)) rfl rfl dX5_digest_125 ?_
    refine J_bipush (v := (26 : Int32)) hx dX5_digest_128 (by decide) ?_
    refine J_iload_n hx dX5_digest_130 2 rfl ?_
    refine J_iadd hx dX5_digest_131 ?_
    obtain ⟨b37, h⟩ := Ho_gd h
    refine J_iald hx (rfl : k_sh 70 = (10, 40)) b37 dX5_digest_132 ?_
    refine J_i2l hx dX5_digest_133 ?_
    refine J_ladd hx dX5_digest_134 ?_
    obtain ⟨x38, hx38, h⟩ := Ho_let h
    refine J_lstore_n (x := x38) (lv' := [(1, .long x38), (0, .ref (ad 63)), (3, .int v3)]) hx dX5_digest_135 hx38 (by decide) rfl ?_
    refine J_ldc2 hx cn_RX5_266 dX5_digest_136 ?_
    refine J_lload_n hx dX5_digest_139 0 rfl ?_
    refine J_lmul hx dX5_digest_140 ?_
    refine J_aload_n hx dX5_digest_141 1 rfl ?_
    refine J_getR (q := 70) hx fl_RX5_28 (rfl : k_sh 63 = (5, k_N 5)) rfl rfl dX5_digest_142 ?_
    refine J_bipush (v := (33 : Int32)) hx dX5_digest_145 (by decide) ?_
    refine J_iload_n hx dX5_digest_147 2 rfl ?_
    refine J_iadd hx dX5_digest_148 ?_
    obtain ⟨b39, h⟩ := Ho_gd h
    refine J_iald hx (rfl : k_sh 70 = (10, 40)) b39 dX5_digest_149 ?_
    refine J_i2l hx dX5_digest_150 ?_
    refine J_ladd hx dX5_digest_151 ?_
    obtain ⟨x40, hx40, h⟩ := Ho_let h
    refine J_lstore_n (x := x40) (lv' := [(1, .long x40), (0, .ref (ad 63)), (3, .int v3)]) hx dX5_digest_152 hx40 (by decide) rfl ?_
    obtain ⟨x41, hx41, h⟩ := Ho_let h
    refine J_iinc (x := x41) (lv' := [(3, .int x41), (1, .long x40), (0, .ref (ad 63))]) hx dX5_digest_153 2 rfl (by rw [hx41]; rfl) (by decide) rfl ?_
    refine J_goto hx dX5_digest_156 33 (by decide) ?_
    refine J_sub (lv' := [(0, .ref (ad 63)), (1, .long x40), (3, .int x41)]) hx [2, 1, 0] rfl ?_
    have h := Ho_some h
    exact h
set_option maxRecDepth 100000 in
set_option maxHeartbeats 4000000 in
theorem s_X5_digest_L33 {X : k_C} {ad : Nat → Nat} {P : Option Value → StI → StL → Prop} {I : StI} {L : StL} (hx : Ok X cX5_digest RX5 5 (some .long) 3) (hQ : OkQ X ad P)  {v1 : Int64} {v3 : Int32}  (n : Nat) (h : Ho (f_X5_digest_L33 I n v1 v3) (kr_X5_digest P I L)) : J X ad 5 I L 33 [(0, .ref (ad 63)), (1, .long v1), (3, .int v3)] [] := by
  exact k_loop_ho (G := g_X5_digest_L33 X ad I L) (fun s hs => s_X5_digest_L33_b hx hQ  hs) n (v1, v3) h
def f_X5_digest_L6_b (v1 : Int64) (v3 : Int32) (I : StI) : Option ((Int64 × Int32) ⊕ (Int64)) :=
  (if (13 : Int32) ≤ v3 then Option.map Sum.inr (f_X5_digest_L33 I k_fu v1 (0 : Int32)) else Option.bind (f_X5_count v3 I) (fun t42 => k_let (((31 : Int64) * v1) + (t42).toInt64) (fun x44 => k_let (v3 + (1 : Int32)) (fun x45 => some (.inl (x44, x45))))))
def f_X5_digest_L6 (I : StI) (n : Nat) (v1 : Int64) (v3 : Int32) : Option (Int64) :=
  k_loop (fun s => f_X5_digest_L6_b s.1 s.2 I) n (v1, v3)
set_option maxRecDepth 100000 in
set_option maxHeartbeats 4000000 in
theorem s_X5_digest_L6_b {X : k_C} {ad : Nat → Nat} {P : Option Value → StI → StL → Prop} {I : StI} {L : StL} (hx : Ok X cX5_digest RX5 5 (some .long) 3) (hQ : OkQ X ad P)  {v1 : Int64} {v3 : Int32}  (h : Ho (f_X5_digest_L6_b v1 v3 I) (Sum.elim (g_X5_digest_L6 X ad I L) (kr_X5_digest P I L))) : J X ad 5 I L 6 [(0, .ref (ad 63)), (1, .long v1), (3, .int v3)] [] := by
  unfold f_X5_digest_L6_b at h
  refine J_iload_n hx dX5_digest_6 2 rfl ?_
  refine J_bipush (v := (13 : Int32)) hx dX5_digest_7 (by decide) ?_
  refine J_ic_ge hx dX5_digest_9 31 (by decide) (fun c1 => ?_) (fun c1 => ?_)
  · have h := Ho_t c1 h
    refine J_iconst (v := (0 : Int32)) hx dX5_digest_31 (by decide) ?_
    refine J_istore_n (x := (0 : Int32)) (lv' := [(3, .int (0 : Int32)), (0, .ref (ad 63)), (1, .long v1)]) hx dX5_digest_32 rfl (by decide) rfl ?_
    refine J_sub (lv' := [(0, .ref (ad 63)), (1, .long v1), (3, .int (0 : Int32))]) hx [1, 2, 0] rfl ?_
    have h := Ho_map h
    exact s_X5_digest_L33 hx hQ  k_fu h
  · have h := Ho_f c1 h
    refine J_ldc2 hx cn_RX5_266 dX5_digest_12 ?_
    refine J_lload_n hx dX5_digest_15 1 rfl ?_
    refine J_lmul hx dX5_digest_16 ?_
    refine J_aload_n hx dX5_digest_17 0 rfl ?_
    refine J_iload_n hx dX5_digest_18 2 rfl ?_
    obtain ⟨t42, e43, h⟩ := Ho_bind h
    refine J_callVi hx lkV_RX5_268 (rfl : k_sh 63 = (5, k_N 5)) [.int v3] [.long ((31 : Int64) * v1)] rfl rfl (Nat.le_of_ble_eq_true rfl) (Nat.le_of_ble_eq_true rfl) (s_X5_count  ⟨t42, e43, ⟨rfl, rfl, rfl⟩⟩) dX5_digest_19 ?_
    refine J_i2l hx dX5_digest_22 ?_
    refine J_ladd hx dX5_digest_23 ?_
    obtain ⟨x44, hx44, h⟩ := Ho_let h
    refine J_lstore_n (x := x44) (lv' := [(1, .long x44), (0, .ref (ad 63)), (3, .int v3)]) hx dX5_digest_24 hx44 (by decide) rfl ?_
    obtain ⟨x45, hx45, h⟩ := Ho_let h
    refine J_iinc (x := x45) (lv' := [(3, .int x45), (1, .long x44), (0, .ref (ad 63))]) hx dX5_digest_25 2 rfl (by rw [hx45]; rfl) (by decide) rfl ?_
    refine J_goto hx dX5_digest_28 6 (by decide) ?_
    refine J_sub (lv' := [(0, .ref (ad 63)), (1, .long x44), (3, .int x45)]) hx [2, 1, 0] rfl ?_
    have h := Ho_some h
    exact h
set_option maxRecDepth 100000 in
set_option maxHeartbeats 4000000 in
theorem s_X5_digest_L6 {X : k_C} {ad : Nat → Nat} {P : Option Value → StI → StL → Prop} {I : StI} {L : StL} (hx : Ok X cX5_digest RX5 5 (some .long) 3) (hQ : OkQ X ad P)  {v1 : Int64} {v3 : Int32}  (n : Nat) (h : Ho (f_X5_digest_L6 I n v1 v3) (kr_X5_digest P I L)) : J X ad 5 I L 6 [(0, .ref (ad 63)), (1, .long v1), (3, .int v3)] [] := by
  exact k_loop_ho (G := g_X5_digest_L6 X ad I L) (fun s hs => s_X5_digest_L6_b hx hQ  hs) n (v1, v3) h
def f_X5_digest (I : StI) : Option (Int64) :=
  f_X5_digest_L6 I k_fu (17 : Int64) (0 : Int32)
set_option maxRecDepth 100000 in
set_option maxHeartbeats 4000000 in
theorem s_X5_digest {l : Launch} {ad : Nat → Nat} {P : Option Value → StI → StL → Prop} {I : StI} {L : StL}   (h : Ho (f_X5_digest I) (kr_X5_digest P I L)) : k_Met l ad 3 yX5_digest cX5_digest 5 (some .long) [.ref (ad 63)] I L P := by
  refine k_enter (by decide +kernel) (Nat.le_of_ble_eq_true rfl) (fun X hl hx hQ => ?_)
  clear hl
  have hx : Ok X cX5_digest RX5 5 (some .long) 3 := hx
  show J X ad 5 I L 0 [(0, .ref (ad 63))] []
  unfold f_X5_digest at h
  refine J_ldc2 hx cn_RX5_264 dX5_digest_0 ?_
  refine J_lstore_n (x := (17 : Int64)) (lv' := [(1, .long (17 : Int64)), (0, .ref (ad 63))]) hx dX5_digest_3 rfl (by decide) rfl ?_
  refine J_iconst (v := (0 : Int32)) hx dX5_digest_4 (by decide) ?_
  refine J_istore_n (x := (0 : Int32)) (lv' := [(3, .int (0 : Int32)), (1, .long (17 : Int64)), (0, .ref (ad 63))]) hx dX5_digest_5 rfl (by decide) rfl ?_
  refine J_sub (lv' := [(0, .ref (ad 63)), (1, .long (17 : Int64)), (3, .int (0 : Int32))]) hx [2, 1, 0] rfl ?_
  exact s_X5_digest_L6 hx hQ  k_fu h
abbrev kr_X5_patternBy (P : Option Value → StI → StL → Prop) (I : StI) (L : StL) : Int32 → Prop := fun t => P (some (.int t)) I L
abbrev g_X5_patternBy_L13 (X : k_C) (ad : Nat → Nat) (I : StI) (L : StL) (v2 : Int32) : (Int32 × Int32 × Int32) → Prop := fun s => J X ad 7 I L 13 [(2, .int v2), (3, .int s.1), (4, .int s.2.1), (5, .int s.2.2)] []
def f_X5_patternBy_j80 (v2 : Int32) (v4 : Int32) (v5 : Int32) (s0 : Int32) (s1 : Int32) (I : StI) : Option ((Int32 × Int32 × Int32) ⊕ (Int32)) :=
  k_let (s0 ^^^ s1) (fun x8 => k_let (v5 + (1 : Int32)) (fun x9 => some (.inl (x8, v4, x9))))
set_option maxRecDepth 100000 in
set_option maxHeartbeats 4000000 in
theorem s_X5_patternBy_j80 {X : k_C} {ad : Nat → Nat} {P : Option Value → StI → StL → Prop} {I : StI} {L : StL} (hx : Ok X cX5_patternBy RX5 7 (some .int) 2) (hQ : OkQ X ad P)  {v2 : Int32} {v4 : Int32} {v5 : Int32} {s0 : Int32} {s1 : Int32}  (h : Ho (f_X5_patternBy_j80 v2 v4 v5 s0 s1 I) (Sum.elim (g_X5_patternBy_L13 X ad I L v2) (kr_X5_patternBy P I L))) : J X ad 7 I L 80 [(2, .int v2), (4, .int v4), (5, .int v5)] [.int s1, .int s0] := by
  unfold f_X5_patternBy_j80 at h
  refine J_ixor hx dX5_patternBy_80 ?_
  obtain ⟨x8, hx8, h⟩ := Ho_let h
  refine J_istore_n (x := x8) (lv' := [(3, .int x8), (2, .int v2), (4, .int v4), (5, .int v5)]) hx dX5_patternBy_81 hx8 (by decide) rfl ?_
  obtain ⟨x9, hx9, h⟩ := Ho_let h
  refine J_iinc (x := x9) (lv' := [(5, .int x9), (3, .int x8), (2, .int v2), (4, .int v4)]) hx dX5_patternBy_82 3 rfl (by rw [hx9]; rfl) (by decide) rfl ?_
  refine J_goto hx dX5_patternBy_85 13 (by decide) ?_
  refine J_sub (lv' := [(2, .int v2), (3, .int x8), (4, .int v4), (5, .int x9)]) hx [2, 1, 3, 0] rfl ?_
  have h := Ho_some h
  exact h
def f_X5_patternBy_j64 (v2 : Int32) (v3 : Int32) (v4 : Int32) (v5 : Int32) (v6 : Int32) (I : StI) : Option ((Int32 × Int32 × Int32) ⊕ (Int32)) :=
  (if (8 : Int32) ≤ v6 then f_X5_patternBy_j80 v2 v4 v5 v3 (0 : Int32) I else f_X5_patternBy_j80 v2 v4 v5 v3 ((1 : Int32) <<< (v6 &&& 31)) I)
set_option maxRecDepth 100000 in
set_option maxHeartbeats 4000000 in
theorem s_X5_patternBy_j64 {X : k_C} {ad : Nat → Nat} {P : Option Value → StI → StL → Prop} {I : StI} {L : StL} (hx : Ok X cX5_patternBy RX5 7 (some .int) 2) (hQ : OkQ X ad P)  {v2 : Int32} {v3 : Int32} {v4 : Int32} {v5 : Int32} {v6 : Int32}  (h : Ho (f_X5_patternBy_j64 v2 v3 v4 v5 v6 I) (Sum.elim (g_X5_patternBy_L13 X ad I L v2) (kr_X5_patternBy P I L))) : J X ad 7 I L 64 [(2, .int v2), (3, .int v3), (4, .int v4), (5, .int v5), (6, .int v6)] [] := by
  unfold f_X5_patternBy_j64 at h
  refine J_iload_n hx dX5_patternBy_64 1 rfl ?_
  refine J_iload hx dX5_patternBy_65 4 rfl ?_
  refine J_bipush (v := (8 : Int32)) hx dX5_patternBy_67 (by decide) ?_
  refine J_ic_ge hx dX5_patternBy_69 79 (by decide) (fun c7 => ?_) (fun c7 => ?_)
  · have h := Ho_t c7 h
    refine J_iconst (v := (0 : Int32)) hx dX5_patternBy_79 (by decide) ?_
    refine J_sub (lv' := [(2, .int v2), (4, .int v4), (5, .int v5)]) hx [0, 2, 3] rfl ?_
    exact s_X5_patternBy_j80 hx hQ  h
  · have h := Ho_f c7 h
    refine J_iconst (v := (1 : Int32)) hx dX5_patternBy_72 (by decide) ?_
    refine J_iload hx dX5_patternBy_73 4 rfl ?_
    refine J_ishl hx dX5_patternBy_75 ?_
    refine J_goto hx dX5_patternBy_76 80 (by decide) ?_
    refine J_sub (lv' := [(2, .int v2), (4, .int v4), (5, .int v5)]) hx [0, 2, 3] rfl ?_
    exact s_X5_patternBy_j80 hx hQ  h
def f_X5_patternBy_j58 (v2 : Int32) (v3 : Int32) (v4 : Int32) (v5 : Int32) (v6 : Int32) (s0 : Int32) (s1 : Int32) (I : StI) : Option ((Int32 × Int32 × Int32) ⊕ (Int32)) :=
  (if s0 = s1 then f_X5_patternBy_j64 v2 v3 v4 v5 v6 I else some (.inr ((-9 : Int32))))
set_option maxRecDepth 100000 in
set_option maxHeartbeats 4000000 in
theorem s_X5_patternBy_j58 {X : k_C} {ad : Nat → Nat} {P : Option Value → StI → StL → Prop} {I : StI} {L : StL} (hx : Ok X cX5_patternBy RX5 7 (some .int) 2) (hQ : OkQ X ad P)  {v2 : Int32} {v3 : Int32} {v4 : Int32} {v5 : Int32} {v6 : Int32} {s0 : Int32} {s1 : Int32}  (h : Ho (f_X5_patternBy_j58 v2 v3 v4 v5 v6 s0 s1 I) (Sum.elim (g_X5_patternBy_L13 X ad I L v2) (kr_X5_patternBy P I L))) : J X ad 7 I L 58 [(2, .int v2), (3, .int v3), (4, .int v4), (5, .int v5), (6, .int v6)] [.int s1, .int s0] := by
  unfold f_X5_patternBy_j58 at h
  refine J_ic_eq hx dX5_patternBy_58 64 (by decide) (fun c13 => ?_) (fun c13 => ?_)
  · have h := Ho_t c13 h
    refine J_sub (lv' := [(2, .int v2), (3, .int v3), (4, .int v4), (5, .int v5), (6, .int v6)]) hx [0, 1, 2, 3, 4] rfl ?_
    exact s_X5_patternBy_j64 hx hQ  h
  · have h := Ho_f c13 h
    refine J_bipush (v := (-9 : Int32)) hx dX5_patternBy_61 (by decide) ?_
    have h := Ho_some h
    exact J_iret hx hQ dX5_patternBy_63 h
def f_X5_patternBy_L13_b (v2 : Int32) (v3 : Int32) (v4 : Int32) (v5 : Int32) (I : StI) : Option ((Int32 × Int32 × Int32) ⊕ (Int32)) :=
  (if v2 ≤ v5 then some (.inr (v3)) else k_let (v4 - v4 / (9 : Int32) * (9 : Int32)) (fun x4 => k_let (v4 / (9 : Int32)) (fun x5 => (if (8 : Int32) ≤ x4 then f_X5_patternBy_j64 v2 v3 x5 v5 x4 I else Option.bind (f_X5_has v3 x4) (fun t10 => (if (v5 - v5 / (2 : Int32) * (2 : Int32)) = 0 then f_X5_patternBy_j58 v2 v3 x5 v5 x4 t10 (1 : Int32) I else f_X5_patternBy_j58 v2 v3 x5 v5 x4 t10 (0 : Int32) I))))))
def f_X5_patternBy_L13 (v2 : Int32) (I : StI) (n : Nat) (v3 : Int32) (v4 : Int32) (v5 : Int32) : Option (Int32) :=
  k_loop (fun s => f_X5_patternBy_L13_b v2 s.1 s.2.1 s.2.2 I) n (v3, v4, v5)
set_option maxRecDepth 100000 in
set_option maxHeartbeats 4000000 in
theorem s_X5_patternBy_L13_b {X : k_C} {ad : Nat → Nat} {P : Option Value → StI → StL → Prop} {I : StI} {L : StL} (hx : Ok X cX5_patternBy RX5 7 (some .int) 2) (hQ : OkQ X ad P)  {v2 : Int32} {v3 : Int32} {v4 : Int32} {v5 : Int32}  (h : Ho (f_X5_patternBy_L13_b v2 v3 v4 v5 I) (Sum.elim (g_X5_patternBy_L13 X ad I L v2) (kr_X5_patternBy P I L))) : J X ad 7 I L 13 [(2, .int v2), (3, .int v3), (4, .int v4), (5, .int v5)] [] := by
  unfold f_X5_patternBy_L13_b at h
  refine J_iload hx dX5_patternBy_13 3 rfl ?_
  refine J_iload_n hx dX5_patternBy_15 0 rfl ?_
  refine J_ic_ge hx dX5_patternBy_16 88 (by decide) (fun c3 => ?_) (fun c3 => ?_)
  · have h := Ho_t c3 h
    refine J_iload_n hx dX5_patternBy_88 1 rfl ?_
    have h := Ho_some h
    exact J_iret hx hQ dX5_patternBy_89 h
  · have h := Ho_f c3 h
    refine J_iload hx dX5_patternBy_19 2 rfl ?_
    refine J_bipush (v := (9 : Int32)) hx dX5_patternBy_21 (by decide) ?_
    refine J_irem hx (by decide) dX5_patternBy_23 ?_
    obtain ⟨x4, hx4, h⟩ := Ho_let h
    refine J_istore (x := x4) (lv' := [(6, .int x4), (2, .int v2), (3, .int v3), (4, .int v4), (5, .int v5)]) hx dX5_patternBy_24 hx4 (by decide) rfl ?_
    refine J_iload hx dX5_patternBy_26 3 rfl ?_
    refine J_bipush (v := (9 : Int32)) hx dX5_patternBy_28 (by decide) ?_
    refine J_idiv hx (by decide) dX5_patternBy_30 ?_
    obtain ⟨x5, hx5, h⟩ := Ho_let h
    refine J_istore (x := x5) (lv' := [(4, .int x5), (6, .int x4), (2, .int v2), (3, .int v3), (5, .int v5)]) hx dX5_patternBy_31 hx5 (by decide) rfl ?_
    refine J_iload hx dX5_patternBy_33 1 rfl ?_
    refine J_bipush (v := (8 : Int32)) hx dX5_patternBy_35 (by decide) ?_
    refine J_ic_ge hx dX5_patternBy_37 64 (by decide) (fun c6 => ?_) (fun c6 => ?_)
    · have h := Ho_t c6 h
      refine J_sub (lv' := [(2, .int v2), (3, .int v3), (4, .int x5), (5, .int v5), (6, .int x4)]) hx [2, 3, 0, 4, 1] rfl ?_
      exact s_X5_patternBy_j64 hx hQ  h
    · have h := Ho_f c6 h
      refine J_iload_n hx dX5_patternBy_40 3 rfl ?_
      refine J_iload hx dX5_patternBy_41 1 rfl ?_
      obtain ⟨t10, e11, h⟩ := Ho_bind h
      refine J_callSi hx lkS_RX5_139 [.int v3, .int x4] [] rfl rfl (Nat.le_of_ble_eq_true rfl) (Nat.le_of_ble_eq_true rfl) (s_X5_has  ⟨t10, e11, ⟨rfl, rfl, rfl⟩⟩) dX5_patternBy_43 ?_
      refine J_iload hx dX5_patternBy_46 4 rfl ?_
      refine J_iconst (v := (2 : Int32)) hx dX5_patternBy_48 (by decide) ?_
      refine J_irem hx (by decide) dX5_patternBy_49 ?_
      refine J_if_ne hx dX5_patternBy_50 57 (by decide) (fun c12 => ?_) (fun c12 => ?_)
      · have h := Ho_f c12 h
        refine J_iconst (v := (0 : Int32)) hx dX5_patternBy_57 (by decide) ?_
        refine J_sub (lv' := [(2, .int v2), (3, .int v3), (4, .int x5), (5, .int v5), (6, .int x4)]) hx [2, 3, 0, 4, 1] rfl ?_
        exact s_X5_patternBy_j58 hx hQ  h
      · have h := Ho_t c12 h
        refine J_iconst (v := (1 : Int32)) hx dX5_patternBy_53 (by decide) ?_
        refine J_goto hx dX5_patternBy_54 58 (by decide) ?_
        refine J_sub (lv' := [(2, .int v2), (3, .int v3), (4, .int x5), (5, .int v5), (6, .int x4)]) hx [2, 3, 0, 4, 1] rfl ?_
        exact s_X5_patternBy_j58 hx hQ  h
set_option maxRecDepth 100000 in
set_option maxHeartbeats 4000000 in
theorem s_X5_patternBy_L13 {X : k_C} {ad : Nat → Nat} {P : Option Value → StI → StL → Prop} {I : StI} {L : StL} (hx : Ok X cX5_patternBy RX5 7 (some .int) 2) (hQ : OkQ X ad P)  {v2 : Int32} {v3 : Int32} {v4 : Int32} {v5 : Int32}  (n : Nat) (h : Ho (f_X5_patternBy_L13 v2 I n v3 v4 v5) (kr_X5_patternBy P I L)) : J X ad 7 I L 13 [(2, .int v2), (3, .int v3), (4, .int v4), (5, .int v5)] [] := by
  exact k_loop_ho (G := g_X5_patternBy_L13 X ad I L v2) (fun s hs => s_X5_patternBy_L13_b hx hQ  hs) n (v3, v4, v5) h
def f_X5_patternBy (v1 : Int32) (v2 : Int32) (I : StI) : Option (Int32) :=
  k_gd (3 : Int32) 40 (k_let (I 70 (3 : Int32).toNatClampNeg) (fun x2 => f_X5_patternBy_L13 v2 I k_fu x2 v1 (0 : Int32)))
set_option maxRecDepth 100000 in
set_option maxHeartbeats 4000000 in
theorem s_X5_patternBy {l : Launch} {ad : Nat → Nat} {P : Option Value → StI → StL → Prop} {I : StI} {L : StL} {v1 : Int32} {v2 : Int32}  (h : Ho (f_X5_patternBy v1 v2 I) (kr_X5_patternBy P I L)) : k_Met l ad 2 yX5_patternBy cX5_patternBy 7 (some .int) [.ref (ad 63), .int v1, .int v2] I L P := by
  refine k_enter (by decide +kernel) (Nat.le_of_ble_eq_true rfl) (fun X hl hx hQ => ?_)
  clear hl
  have hx : Ok X cX5_patternBy RX5 7 (some .int) 2 := hx
  show J X ad 7 I L 0 [(0, .ref (ad 63)), (1, .int v1), (2, .int v2)] []
  unfold f_X5_patternBy at h
  refine J_aload_n hx dX5_patternBy_0 0 rfl ?_
  refine J_getR (q := 70) hx fl_RX5_28 (rfl : k_sh 63 = (5, k_N 5)) rfl rfl dX5_patternBy_1 ?_
  refine J_iconst (v := (3 : Int32)) hx dX5_patternBy_4 (by decide) ?_
  obtain ⟨b1, h⟩ := Ho_gd h
  refine J_iald hx (rfl : k_sh 70 = (10, 40)) b1 dX5_patternBy_5 ?_
  obtain ⟨x2, hx2, h⟩ := Ho_let h
  refine J_istore_n (x := x2) (lv' := [(3, .int x2), (0, .ref (ad 63)), (1, .int v1), (2, .int v2)]) hx dX5_patternBy_6 hx2 (by decide) rfl ?_
  refine J_iload_n hx dX5_patternBy_7 2 rfl ?_
  refine J_istore (x := v1) (lv' := [(4, .int v1), (3, .int x2), (0, .ref (ad 63)), (1, .int v1), (2, .int v2)]) hx dX5_patternBy_8 rfl (by decide) rfl ?_
  refine J_iconst (v := (0 : Int32)) hx dX5_patternBy_10 (by decide) ?_
  refine J_istore (x := (0 : Int32)) (lv' := [(5, .int (0 : Int32)), (4, .int v1), (3, .int x2), (0, .ref (ad 63)), (1, .int v1), (2, .int v2)]) hx dX5_patternBy_11 rfl (by decide) rfl ?_
  refine J_sub (lv' := [(2, .int v2), (3, .int x2), (4, .int v1), (5, .int (0 : Int32))]) hx [5, 2, 1, 0] rfl ?_
  exact s_X5_patternBy_L13 hx hQ  k_fu h
abbrev kr_X5_duel (P : Option Value → StI → StL → Prop) (L : StL) : Int32 × StI → Prop := fun t => P (some (.int t.1)) t.2 L
abbrev g_X5_duel_L151 (X : k_C) (ad : Nat → Nat) (I : StI) (L : StL) (v2 : Int32) (v3 : Int32) (v4 : Int32) : (Int32 × Int32) → Prop := fun s => J X ad 8 I L 151 [(0, .ref (ad 63)), (2, .int v2), (3, .int v3), (4, .int v4), (5, .int s.1), (6, .int s.2)] []
abbrev g_X5_duel_L128 (X : k_C) (ad : Nat → Nat) (L : StL) (v2 : Int32) (v3 : Int32) : (Int32 × StI) → Prop := fun s => J X ad 8 s.2 L 128 [(0, .ref (ad 63)), (2, .int v2), (3, .int v3), (4, .int s.1)] []
abbrev g_X5_duel_L116 (X : k_C) (ad : Nat → Nat) (L : StL) : (Int32 × Int32 × StI) → Prop := fun s => J X ad 8 s.2.2 L 116 [(0, .ref (ad 63)), (2, .int s.1), (3, .int s.2.1)] []
abbrev g_X5_duel_L50 (X : k_C) (ad : Nat → Nat) (L : StL) (v1 : Int32) (v2 : Int32) : (Int32 × StI) → Prop := fun s => J X ad 8 s.2 L 50 [(0, .ref (ad 63)), (1, .int v1), (2, .int v2), (3, .int s.1)] []
abbrev g_X5_duel_L32 (X : k_C) (ad : Nat → Nat) (I : StI) (L : StL) (v1 : Int32) : (Int32 × Int32) → Prop := fun s => J X ad 8 I L 32 [(0, .ref (ad 63)), (1, .int v1), (2, .int s.1), (3, .int s.2)] []
def f_X5_duel_j207 (v2 : Int32) (v3 : Int32) (v4 : Int32) (v5 : Int32) (v6 : Int32) (I : StI) : Option ((Int32 × Int32) ⊕ ((Int32 × StI) ⊕ ((Int32 × Int32 × StI) ⊕ (Int32 × StI)))) :=
  k_let (v6 + (1 : Int32)) (fun x24 => some (.inl (v5, x24)))
set_option maxRecDepth 100000 in
set_option maxHeartbeats 4000000 in
theorem s_X5_duel_j207 {X : k_C} {ad : Nat → Nat} {P : Option Value → StI → StL → Prop} {I : StI} {L : StL} (hx : Ok X cX5_duel RX5 8 (some .int) 5) (hQ : OkQ X ad P)  {v2 : Int32} {v3 : Int32} {v4 : Int32} {v5 : Int32} {v6 : Int32}  (h : Ho (f_X5_duel_j207 v2 v3 v4 v5 v6 I) (Sum.elim (g_X5_duel_L151 X ad I L v2 v3 v4) (Sum.elim (g_X5_duel_L128 X ad L v2 v3) (Sum.elim (g_X5_duel_L116 X ad L) (kr_X5_duel P L))))) : J X ad 8 I L 207 [(0, .ref (ad 63)), (2, .int v2), (3, .int v3), (4, .int v4), (5, .int v5), (6, .int v6)] [] := by
  unfold f_X5_duel_j207 at h
  refine J_iload hx dX5_duel_207 4 rfl ?_
  refine J_istore (x := v5) (lv' := [(5, .int v5), (0, .ref (ad 63)), (2, .int v2), (3, .int v3), (4, .int v4), (6, .int v6)]) hx dX5_duel_209 rfl (by decide) rfl ?_
  obtain ⟨x24, hx24, h⟩ := Ho_let h
  refine J_iinc (x := x24) (lv' := [(6, .int x24), (5, .int v5), (0, .ref (ad 63)), (2, .int v2), (3, .int v3), (4, .int v4)]) hx dX5_duel_211 5 rfl (by rw [hx24]; rfl) (by decide) rfl ?_
  refine J_goto hx dX5_duel_214 151 (by decide) ?_
  refine J_sub (lv' := [(0, .ref (ad 63)), (2, .int v2), (3, .int v3), (4, .int v4), (5, .int v5), (6, .int x24)]) hx [2, 3, 4, 5, 1, 0] rfl ?_
  have h := Ho_some h
  exact h
def f_X5_duel_j202 (v2 : Int32) (v3 : Int32) (v4 : Int32) (v6 : Int32) (v7 : Int32) (I : StI) : Option ((Int32 × Int32) ⊕ ((Int32 × StI) ⊕ ((Int32 × Int32 × StI) ⊕ (Int32 × StI)))) :=
  k_let (v6 + (1 : Int32)) (fun x27 => some (.inl (v7, x27)))
set_option maxRecDepth 100000 in
set_option maxHeartbeats 4000000 in
theorem s_X5_duel_j202 {X : k_C} {ad : Nat → Nat} {P : Option Value → StI → StL → Prop} {I : StI} {L : StL} (hx : Ok X cX5_duel RX5 8 (some .int) 5) (hQ : OkQ X ad P)  {v2 : Int32} {v3 : Int32} {v4 : Int32} {v6 : Int32} {v7 : Int32}  (h : Ho (f_X5_duel_j202 v2 v3 v4 v6 v7 I) (Sum.elim (g_X5_duel_L151 X ad I L v2 v3 v4) (Sum.elim (g_X5_duel_L128 X ad L v2 v3) (Sum.elim (g_X5_duel_L116 X ad L) (kr_X5_duel P L))))) : J X ad 8 I L 202 [(0, .ref (ad 63)), (2, .int v2), (3, .int v3), (4, .int v4), (6, .int v6), (7, .int v7)] [] := by
  unfold f_X5_duel_j202 at h
  refine J_iload hx dX5_duel_202 5 rfl ?_
  refine J_goto hx dX5_duel_204 209 (by decide) ?_
  refine J_istore (x := v7) (lv' := [(5, .int v7), (0, .ref (ad 63)), (2, .int v2), (3, .int v3), (4, .int v4), (6, .int v6), (7, .int v7)]) hx dX5_duel_209 rfl (by decide) rfl ?_
  obtain ⟨x27, hx27, h⟩ := Ho_let h
  refine J_iinc (x := x27) (lv' := [(6, .int x27), (5, .int v7), (0, .ref (ad 63)), (2, .int v2), (3, .int v3), (4, .int v4), (7, .int v7)]) hx dX5_duel_211 5 rfl (by rw [hx27]; rfl) (by decide) rfl ?_
  refine J_goto hx dX5_duel_214 151 (by decide) ?_
  refine J_sub (lv' := [(0, .ref (ad 63)), (2, .int v2), (3, .int v3), (4, .int v4), (5, .int v7), (6, .int x27)]) hx [2, 3, 4, 5, 1, 0] rfl ?_
  have h := Ho_some h
  exact h
def f_X5_duel_L151_b (v2 : Int32) (v3 : Int32) (v4 : Int32) (v5 : Int32) (v6 : Int32) (I : StI) : Option ((Int32 × Int32) ⊕ ((Int32 × StI) ⊕ ((Int32 × Int32 × StI) ⊕ (Int32 × StI)))) :=
  (if (8 : Int32) ≤ v6 then k_gd v4 6561 (k_let (k_up I 80 v4.toNatClampNeg v5) (fun I19 => k_let (v4 + (1 : Int32)) (fun x20 => some (.inr (.inl (x20, I19)))))) else k_gd (v4 + (v6 * v2)) 6561 (k_let (I 80 (v4 + (v6 * v2)).toNatClampNeg) (fun x22 => (if x22 = (-9 : Int32) then f_X5_duel_j207 v2 v3 v4 v5 v6 I else (if (v3 - v3 / (2 : Int32) * (2 : Int32)) = 0 then (if v5 ≤ x22 then f_X5_duel_j207 v2 v3 v4 v5 v6 I else f_X5_duel_j202 v2 v3 v4 v6 x22 I) else (if x22 ≤ v5 then f_X5_duel_j207 v2 v3 v4 v5 v6 I else f_X5_duel_j202 v2 v3 v4 v6 x22 I))))))
def f_X5_duel_L151 (v2 : Int32) (v3 : Int32) (v4 : Int32) (I : StI) (n : Nat) (v5 : Int32) (v6 : Int32) : Option ((Int32 × StI) ⊕ ((Int32 × Int32 × StI) ⊕ (Int32 × StI))) :=
  k_loop (fun s => f_X5_duel_L151_b v2 v3 v4 s.1 s.2 I) n (v5, v6)
set_option maxRecDepth 100000 in
set_option maxHeartbeats 4000000 in
theorem s_X5_duel_L151_b {X : k_C} {ad : Nat → Nat} {P : Option Value → StI → StL → Prop} {I : StI} {L : StL} (hx : Ok X cX5_duel RX5 8 (some .int) 5) (hQ : OkQ X ad P)  {v2 : Int32} {v3 : Int32} {v4 : Int32} {v5 : Int32} {v6 : Int32}  (h : Ho (f_X5_duel_L151_b v2 v3 v4 v5 v6 I) (Sum.elim (g_X5_duel_L151 X ad I L v2 v3 v4) (Sum.elim (g_X5_duel_L128 X ad L v2 v3) (Sum.elim (g_X5_duel_L116 X ad L) (kr_X5_duel P L))))) : J X ad 8 I L 151 [(0, .ref (ad 63)), (2, .int v2), (3, .int v3), (4, .int v4), (5, .int v5), (6, .int v6)] [] := by
  unfold f_X5_duel_L151_b at h
  refine J_iload hx dX5_duel_151 5 rfl ?_
  refine J_bipush (v := (8 : Int32)) hx dX5_duel_153 (by decide) ?_
  refine J_ic_ge hx dX5_duel_155 217 (by decide) (fun c17 => ?_) (fun c17 => ?_)
  · have h := Ho_t c17 h
    refine J_aload_n hx dX5_duel_217 0 rfl ?_
    refine J_getR (q := 80) hx fl_RX5_63 (rfl : k_sh 63 = (5, k_N 5)) rfl rfl dX5_duel_218 ?_
    refine J_iload hx dX5_duel_221 3 rfl ?_
    refine J_iload hx dX5_duel_223 4 rfl ?_
    obtain ⟨b18, h⟩ := Ho_gd h
    obtain ⟨I19, hI19, h⟩ := Ho_let h
    refine J_iast hx (rfl : k_sh 80 = (10, 6561)) b18 dX5_duel_225 hI19 ?_
    obtain ⟨x20, hx20, h⟩ := Ho_let h
    refine J_iinc (x := x20) (lv' := [(4, .int x20), (0, .ref (ad 63)), (2, .int v2), (3, .int v3), (5, .int v5), (6, .int v6)]) hx dX5_duel_226 3 rfl (by rw [hx20]; rfl) (by decide) rfl ?_
    refine J_goto hx dX5_duel_229 128 (by decide) ?_
    refine J_sub (lv' := [(0, .ref (ad 63)), (2, .int v2), (3, .int v3), (4, .int x20)]) hx [1, 2, 3, 0] rfl ?_
    have h := Ho_some h
    exact h
  · have h := Ho_f c17 h
    refine J_aload_n hx dX5_duel_158 0 rfl ?_
    refine J_getR (q := 80) hx fl_RX5_63 (rfl : k_sh 63 = (5, k_N 5)) rfl rfl dX5_duel_159 ?_
    refine J_iload hx dX5_duel_162 3 rfl ?_
    refine J_iload hx dX5_duel_164 5 rfl ?_
    refine J_iload_n hx dX5_duel_166 1 rfl ?_
    refine J_imul hx dX5_duel_167 ?_
    refine J_iadd hx dX5_duel_168 ?_
    obtain ⟨b21, h⟩ := Ho_gd h
    refine J_iald hx (rfl : k_sh 80 = (10, 6561)) b21 dX5_duel_169 ?_
    obtain ⟨x22, hx22, h⟩ := Ho_let h
    refine J_istore (x := x22) (lv' := [(7, .int x22), (0, .ref (ad 63)), (2, .int v2), (3, .int v3), (4, .int v4), (5, .int v5), (6, .int v6)]) hx dX5_duel_170 hx22 (by decide) rfl ?_
    refine J_iload hx dX5_duel_172 0 rfl ?_
    refine J_bipush (v := (-9 : Int32)) hx dX5_duel_174 (by decide) ?_
    refine J_ic_eq hx dX5_duel_176 207 (by decide) (fun c23 => ?_) (fun c23 => ?_)
    · have h := Ho_t c23 h
      refine J_sub (lv' := [(0, .ref (ad 63)), (2, .int v2), (3, .int v3), (4, .int v4), (5, .int v5), (6, .int v6)]) hx [1, 2, 3, 4, 5, 6] rfl ?_
      exact s_X5_duel_j207 hx hQ  h
    · have h := Ho_f c23 h
      refine J_iload_n hx dX5_duel_179 3 rfl ?_
      refine J_iconst (v := (2 : Int32)) hx dX5_duel_180 (by decide) ?_
      refine J_irem hx (by decide) dX5_duel_181 ?_
      refine J_if_ne hx dX5_duel_182 195 (by decide) (fun c25 => ?_) (fun c25 => ?_)
      · have h := Ho_f c25 h
        refine J_iload hx dX5_duel_195 0 rfl ?_
        refine J_iload hx dX5_duel_197 5 rfl ?_
        refine J_ic_le hx dX5_duel_199 207 (by decide) (fun c26 => ?_) (fun c26 => ?_)
        · have h := Ho_t c26 h
          refine J_sub (lv' := [(0, .ref (ad 63)), (2, .int v2), (3, .int v3), (4, .int v4), (5, .int v5), (6, .int v6)]) hx [1, 2, 3, 4, 5, 6] rfl ?_
          exact s_X5_duel_j207 hx hQ  h
        · have h := Ho_f c26 h
          refine J_sub (lv' := [(0, .ref (ad 63)), (2, .int v2), (3, .int v3), (4, .int v4), (6, .int v6), (7, .int x22)]) hx [1, 2, 3, 4, 6, 0] rfl ?_
          exact s_X5_duel_j202 hx hQ  h
      · have h := Ho_t c25 h
        refine J_iload hx dX5_duel_185 0 rfl ?_
        refine J_iload hx dX5_duel_187 5 rfl ?_
        refine J_ic_ge hx dX5_duel_189 207 (by decide) (fun c28 => ?_) (fun c28 => ?_)
        · have h := Ho_t c28 h
          refine J_sub (lv' := [(0, .ref (ad 63)), (2, .int v2), (3, .int v3), (4, .int v4), (5, .int v5), (6, .int v6)]) hx [1, 2, 3, 4, 5, 6] rfl ?_
          exact s_X5_duel_j207 hx hQ  h
        · have h := Ho_f c28 h
          refine J_goto hx dX5_duel_192 202 (by decide) ?_
          refine J_sub (lv' := [(0, .ref (ad 63)), (2, .int v2), (3, .int v3), (4, .int v4), (6, .int v6), (7, .int x22)]) hx [1, 2, 3, 4, 6, 0] rfl ?_
          exact s_X5_duel_j202 hx hQ  h
set_option maxRecDepth 100000 in
set_option maxHeartbeats 4000000 in
theorem s_X5_duel_L151 {X : k_C} {ad : Nat → Nat} {P : Option Value → StI → StL → Prop} {I : StI} {L : StL} (hx : Ok X cX5_duel RX5 8 (some .int) 5) (hQ : OkQ X ad P)  {v2 : Int32} {v3 : Int32} {v4 : Int32} {v5 : Int32} {v6 : Int32}  (n : Nat) (h : Ho (f_X5_duel_L151 v2 v3 v4 I n v5 v6) (Sum.elim (g_X5_duel_L128 X ad L v2 v3) (Sum.elim (g_X5_duel_L116 X ad L) (kr_X5_duel P L)))) : J X ad 8 I L 151 [(0, .ref (ad 63)), (2, .int v2), (3, .int v3), (4, .int v4), (5, .int v5), (6, .int v6)] [] := by
  exact k_loop_ho (G := g_X5_duel_L151 X ad I L v2 v3 v4) (fun s hs => s_X5_duel_L151_b hx hQ  hs) n (v5, v6) h
def f_X5_duel_L128_b (v2 : Int32) (v3 : Int32) (v4 : Int32) (I : StI) : Option ((Int32 × StI) ⊕ ((Int32 × Int32 × StI) ⊕ (Int32 × StI))) :=
  (if v2 ≤ v4 then k_let (v3 + (-1 : Int32)) (fun x14 => some (.inr (.inl (v2, x14, I)))) else k_gd (v4 + ((8 : Int32) * v2)) 6561 (k_let (I 80 (v4 + ((8 : Int32) * v2)).toNatClampNeg) (fun x16 => f_X5_duel_L151 v2 v3 v4 I k_fu x16 (0 : Int32))))
def f_X5_duel_L128 (v2 : Int32) (v3 : Int32) (n : Nat) (v4 : Int32) (I : StI) : Option ((Int32 × Int32 × StI) ⊕ (Int32 × StI)) :=
  k_loop (fun s => f_X5_duel_L128_b v2 v3 s.1 s.2) n (v4, I)
set_option maxRecDepth 100000 in
set_option maxHeartbeats 4000000 in
theorem s_X5_duel_L128_b {X : k_C} {ad : Nat → Nat} {P : Option Value → StI → StL → Prop} {I : StI} {L : StL} (hx : Ok X cX5_duel RX5 8 (some .int) 5) (hQ : OkQ X ad P)  {v2 : Int32} {v3 : Int32} {v4 : Int32}  (h : Ho (f_X5_duel_L128_b v2 v3 v4 I) (Sum.elim (g_X5_duel_L128 X ad L v2 v3) (Sum.elim (g_X5_duel_L116 X ad L) (kr_X5_duel P L)))) : J X ad 8 I L 128 [(0, .ref (ad 63)), (2, .int v2), (3, .int v3), (4, .int v4)] [] := by
  unfold f_X5_duel_L128_b at h
  refine J_iload hx dX5_duel_128 3 rfl ?_
  refine J_iload_n hx dX5_duel_130 1 rfl ?_
  refine J_ic_ge hx dX5_duel_131 232 (by decide) (fun c13 => ?_) (fun c13 => ?_)
  · have h := Ho_t c13 h
    obtain ⟨x14, hx14, h⟩ := Ho_let h
    refine J_iinc (x := x14) (lv' := [(3, .int x14), (0, .ref (ad 63)), (2, .int v2), (4, .int v4)]) hx dX5_duel_232 2 rfl (by rw [hx14]; rfl) (by decide) rfl ?_
    refine J_goto hx dX5_duel_235 116 (by decide) ?_
    refine J_sub (lv' := [(0, .ref (ad 63)), (2, .int v2), (3, .int x14)]) hx [1, 2, 0] rfl ?_
    have h := Ho_some h
    exact h
  · have h := Ho_f c13 h
    refine J_aload_n hx dX5_duel_134 0 rfl ?_
    refine J_getR (q := 80) hx fl_RX5_63 (rfl : k_sh 63 = (5, k_N 5)) rfl rfl dX5_duel_135 ?_
    refine J_iload hx dX5_duel_138 3 rfl ?_
    refine J_bipush (v := (8 : Int32)) hx dX5_duel_140 (by decide) ?_
    refine J_iload_n hx dX5_duel_142 1 rfl ?_
    refine J_imul hx dX5_duel_143 ?_
    refine J_iadd hx dX5_duel_144 ?_
    obtain ⟨b15, h⟩ := Ho_gd h
    refine J_iald hx (rfl : k_sh 80 = (10, 6561)) b15 dX5_duel_145 ?_
    obtain ⟨x16, hx16, h⟩ := Ho_let h
    refine J_istore (x := x16) (lv' := [(5, .int x16), (0, .ref (ad 63)), (2, .int v2), (3, .int v3), (4, .int v4)]) hx dX5_duel_146 hx16 (by decide) rfl ?_
    refine J_iconst (v := (0 : Int32)) hx dX5_duel_148 (by decide) ?_
    refine J_istore (x := (0 : Int32)) (lv' := [(6, .int (0 : Int32)), (5, .int x16), (0, .ref (ad 63)), (2, .int v2), (3, .int v3), (4, .int v4)]) hx dX5_duel_149 rfl (by decide) rfl ?_
    refine J_sub (lv' := [(0, .ref (ad 63)), (2, .int v2), (3, .int v3), (4, .int v4), (5, .int x16), (6, .int (0 : Int32))]) hx [2, 3, 4, 5, 1, 0] rfl ?_
    exact s_X5_duel_L151 hx hQ  k_fu h
set_option maxRecDepth 100000 in
set_option maxHeartbeats 4000000 in
theorem s_X5_duel_L128 {X : k_C} {ad : Nat → Nat} {P : Option Value → StI → StL → Prop} {I : StI} {L : StL} (hx : Ok X cX5_duel RX5 8 (some .int) 5) (hQ : OkQ X ad P)  {v2 : Int32} {v3 : Int32} {v4 : Int32}  (n : Nat) (h : Ho (f_X5_duel_L128 v2 v3 n v4 I) (Sum.elim (g_X5_duel_L116 X ad L) (kr_X5_duel P L))) : J X ad 8 I L 128 [(0, .ref (ad 63)), (2, .int v2), (3, .int v3), (4, .int v4)] [] := by
  exact k_loop_ho (G := g_X5_duel_L128 X ad L v2 v3) (fun s hs => s_X5_duel_L128_b hx hQ  hs) n (v4, I) h
def f_X5_duel_L116_b (v2 : Int32) (v3 : Int32) (I : StI) : Option ((Int32 × Int32 × StI) ⊕ (Int32 × StI)) :=
  (if v3 < 0 then k_gd (0 : Int32) 6561 (some (.inr ((I 80 (0 : Int32).toNatClampNeg), I))) else k_let (v2 / (9 : Int32)) (fun x12 => f_X5_duel_L128 x12 v3 k_fu (0 : Int32) I))
def f_X5_duel_L116  (n : Nat) (v2 : Int32) (v3 : Int32) (I : StI) : Option (Int32 × StI) :=
  k_loop (fun s => f_X5_duel_L116_b s.1 s.2.1 s.2.2) n (v2, v3, I)
set_option maxRecDepth 100000 in
set_option maxHeartbeats 4000000 in
theorem s_X5_duel_L116_b {X : k_C} {ad : Nat → Nat} {P : Option Value → StI → StL → Prop} {I : StI} {L : StL} (hx : Ok X cX5_duel RX5 8 (some .int) 5) (hQ : OkQ X ad P)  {v2 : Int32} {v3 : Int32}  (h : Ho (f_X5_duel_L116_b v2 v3 I) (Sum.elim (g_X5_duel_L116 X ad L) (kr_X5_duel P L))) : J X ad 8 I L 116 [(0, .ref (ad 63)), (2, .int v2), (3, .int v3)] [] := by
  unfold f_X5_duel_L116_b at h
  refine J_iload_n hx dX5_duel_116 2 rfl ?_
  refine J_if_lt hx dX5_duel_117 238 (by decide) (fun c10 => ?_) (fun c10 => ?_)
  · have h := Ho_t c10 h
    refine J_aload_n hx dX5_duel_238 0 rfl ?_
    refine J_getR (q := 80) hx fl_RX5_63 (rfl : k_sh 63 = (5, k_N 5)) rfl rfl dX5_duel_239 ?_
    refine J_iconst (v := (0 : Int32)) hx dX5_duel_242 (by decide) ?_
    obtain ⟨b11, h⟩ := Ho_gd h
    refine J_iald hx (rfl : k_sh 80 = (10, 6561)) b11 dX5_duel_243 ?_
    have h := Ho_some h
    exact J_iret hx hQ dX5_duel_244 h
  · have h := Ho_f c10 h
    refine J_iload_n hx dX5_duel_120 1 rfl ?_
    refine J_bipush (v := (9 : Int32)) hx dX5_duel_121 (by decide) ?_
    refine J_idiv hx (by decide) dX5_duel_123 ?_
    obtain ⟨x12, hx12, h⟩ := Ho_let h
    refine J_istore_n (x := x12) (lv' := [(2, .int x12), (0, .ref (ad 63)), (3, .int v3)]) hx dX5_duel_124 hx12 (by decide) rfl ?_
    refine J_iconst (v := (0 : Int32)) hx dX5_duel_125 (by decide) ?_
    refine J_istore (x := (0 : Int32)) (lv' := [(4, .int (0 : Int32)), (2, .int x12), (0, .ref (ad 63)), (3, .int v3)]) hx dX5_duel_126 rfl (by decide) rfl ?_
    refine J_sub (lv' := [(0, .ref (ad 63)), (2, .int x12), (3, .int v3), (4, .int (0 : Int32))]) hx [2, 1, 3, 0] rfl ?_
    exact s_X5_duel_L128 hx hQ  k_fu h
set_option maxRecDepth 100000 in
set_option maxHeartbeats 4000000 in
theorem s_X5_duel_L116 {X : k_C} {ad : Nat → Nat} {P : Option Value → StI → StL → Prop} {I : StI} {L : StL} (hx : Ok X cX5_duel RX5 8 (some .int) 5) (hQ : OkQ X ad P)  {v2 : Int32} {v3 : Int32}  (n : Nat) (h : Ho (f_X5_duel_L116  n v2 v3 I) (kr_X5_duel P L)) : J X ad 8 I L 116 [(0, .ref (ad 63)), (2, .int v2), (3, .int v3)] [] := by
  exact k_loop_ho (G := g_X5_duel_L116 X ad L) (fun s hs => s_X5_duel_L116_b hx hQ  hs) n (v2, v3, I) h
def f_X5_duel_L50_b (v1 : Int32) (v2 : Int32) (v3 : Int32) (I : StI) : Option ((Int32 × StI) ⊕ (Int32 × StI)) :=
  (if v2 ≤ v3 then k_let (v1 - (1 : Int32)) (fun x9 => Option.map Sum.inr (f_X5_duel_L116  k_fu v2 x9 I)) else Option.bind (f_X5_patternBy v3 v1 I) (fun t29 => (if t29 = (-9 : Int32) then k_gd v3 6561 (k_let (k_up I 80 v3.toNatClampNeg (-9 : Int32)) (fun I42 => k_let (v3 + (1 : Int32)) (fun x43 => some (.inl (x43, I42))))) else Option.bind (f_X5_laysAside I) (fun t32 => k_gd (3 : Int32) 40 (k_let (k_up t32 71 (3 : Int32).toNatClampNeg t29) (fun I35 => Option.bind (f_X5_goesOn (8 : Int32) (0 : Int32) I35) (fun t36 => k_gd v3 6561 (k_let (k_up t36.2 80 v3.toNatClampNeg t36.1) (fun I39 => k_let (v3 + (1 : Int32)) (fun x40 => some (.inl (x40, I39))))))))))))
def f_X5_duel_L50 (v1 : Int32) (v2 : Int32) (n : Nat) (v3 : Int32) (I : StI) : Option (Int32 × StI) :=
  k_loop (fun s => f_X5_duel_L50_b v1 v2 s.1 s.2) n (v3, I)
set_option maxRecDepth 100000 in
set_option maxHeartbeats 4000000 in
theorem s_X5_duel_L50_b {X : k_C} {ad : Nat → Nat} {P : Option Value → StI → StL → Prop} {I : StI} {L : StL} (hx : Ok X cX5_duel RX5 8 (some .int) 5) (hQ : OkQ X ad P)  {v1 : Int32} {v2 : Int32} {v3 : Int32}  (h : Ho (f_X5_duel_L50_b v1 v2 v3 I) (Sum.elim (g_X5_duel_L50 X ad L v1 v2) (kr_X5_duel P L))) : J X ad 8 I L 50 [(0, .ref (ad 63)), (1, .int v1), (2, .int v2), (3, .int v3)] [] := by
  unfold f_X5_duel_L50_b at h
  refine J_iload_n hx dX5_duel_50 3 rfl ?_
  refine J_iload_n hx dX5_duel_51 2 rfl ?_
  refine J_ic_ge hx dX5_duel_52 112 (by decide) (fun c8 => ?_) (fun c8 => ?_)
  · have h := Ho_t c8 h
    refine J_iload_n hx dX5_duel_112 1 rfl ?_
    refine J_iconst (v := (1 : Int32)) hx dX5_duel_113 (by decide) ?_
    refine J_isub hx dX5_duel_114 ?_
    obtain ⟨x9, hx9, h⟩ := Ho_let h
    refine J_istore_n (x := x9) (lv' := [(3, .int x9), (0, .ref (ad 63)), (1, .int v1), (2, .int v2)]) hx dX5_duel_115 hx9 (by decide) rfl ?_
    refine J_sub (lv' := [(0, .ref (ad 63)), (2, .int v2), (3, .int x9)]) hx [1, 3, 0] rfl ?_
    have h := Ho_map h
    exact s_X5_duel_L116 hx hQ  k_fu h
  · have h := Ho_f c8 h
    refine J_aload_n hx dX5_duel_55 0 rfl ?_
    refine J_iload_n hx dX5_duel_56 3 rfl ?_
    refine J_iload_n hx dX5_duel_57 1 rfl ?_
    obtain ⟨t29, e30, h⟩ := Ho_bind h
    refine J_callVi hx lkV_RX5_219 (rfl : k_sh 63 = (5, k_N 5)) [.int v3, .int v1] [] rfl rfl (Nat.le_of_ble_eq_true rfl) (Nat.le_of_ble_eq_true rfl) (s_X5_patternBy  ⟨t29, e30, ⟨rfl, rfl, rfl⟩⟩) dX5_duel_58 ?_
    refine J_istore (x := t29) (lv' := [(4, .int t29), (0, .ref (ad 63)), (1, .int v1), (2, .int v2), (3, .int v3)]) hx dX5_duel_61 rfl (by decide) rfl ?_
    refine J_iload hx dX5_duel_63 0 rfl ?_
    refine J_bipush (v := (-9 : Int32)) hx dX5_duel_65 (by decide) ?_
    refine J_ic_ne hx dX5_duel_67 81 (by decide) (fun c31 => ?_) (fun c31 => ?_)
    · have h := Ho_f c31 h
      refine J_aload_n hx dX5_duel_81 1 rfl ?_
      obtain ⟨t32, e33, h⟩ := Ho_bind h
      refine J_callVv hx lkV_RX5_195 (rfl : k_sh 63 = (5, k_N 5)) [] [] rfl rfl (Nat.le_of_ble_eq_true rfl) (Nat.le_of_ble_eq_true rfl) (s_X5_laysAside  ⟨t32, e33, ⟨rfl, rfl, rfl⟩⟩) dX5_duel_82 ?_
      refine J_aload_n hx dX5_duel_85 1 rfl ?_
      refine J_getR (q := 71) hx fl_RX5_31 (rfl : k_sh 63 = (5, k_N 5)) rfl rfl dX5_duel_86 ?_
      refine J_iconst (v := (3 : Int32)) hx dX5_duel_89 (by decide) ?_
      refine J_iload hx dX5_duel_90 0 rfl ?_
      obtain ⟨b34, h⟩ := Ho_gd h
      obtain ⟨I35, hI35, h⟩ := Ho_let h
      refine J_iast hx (rfl : k_sh 71 = (10, 40)) b34 dX5_duel_92 hI35 ?_
      refine J_aload_n hx dX5_duel_93 1 rfl ?_
      refine J_getR (q := 80) hx fl_RX5_63 (rfl : k_sh 63 = (5, k_N 5)) rfl rfl dX5_duel_94 ?_
      refine J_iload_n hx dX5_duel_97 4 rfl ?_
      refine J_aload_n hx dX5_duel_98 1 rfl ?_
      refine J_bipush (v := (8 : Int32)) hx dX5_duel_99 (by decide) ?_
      refine J_iconst (v := (0 : Int32)) hx dX5_duel_101 (by decide) ?_
      obtain ⟨t36, e37, h⟩ := Ho_bind h
      refine J_callVi hx lkV_RX5_198 (rfl : k_sh 63 = (5, k_N 5)) [.int (8 : Int32), .int (0 : Int32)] [.int v3, .ref (ad 80)] rfl rfl (Nat.le_of_ble_eq_true rfl) (Nat.le_of_ble_eq_true rfl) (s_X5_goesOn  ⟨t36, e37, ⟨rfl, rfl, rfl⟩⟩) dX5_duel_102 ?_
      obtain ⟨b38, h⟩ := Ho_gd h
      obtain ⟨I39, hI39, h⟩ := Ho_let h
      refine J_iast hx (rfl : k_sh 80 = (10, 6561)) b38 dX5_duel_105 hI39 ?_
      obtain ⟨x40, hx40, h⟩ := Ho_let h
      refine J_iinc (x := x40) (lv' := [(3, .int x40), (4, .int t29), (0, .ref (ad 63)), (1, .int v1), (2, .int v2)]) hx dX5_duel_106 4 rfl (by rw [hx40]; rfl) (by decide) rfl ?_
      refine J_goto hx dX5_duel_109 50 (by decide) ?_
      refine J_sub (lv' := [(0, .ref (ad 63)), (1, .int v1), (2, .int v2), (3, .int x40)]) hx [2, 3, 4, 0] rfl ?_
      have h := Ho_some h
      exact h
    · have h := Ho_t c31 h
      refine J_aload_n hx dX5_duel_70 1 rfl ?_
      refine J_getR (q := 80) hx fl_RX5_63 (rfl : k_sh 63 = (5, k_N 5)) rfl rfl dX5_duel_71 ?_
      refine J_iload_n hx dX5_duel_74 4 rfl ?_
      refine J_bipush (v := (-9 : Int32)) hx dX5_duel_75 (by decide) ?_
      obtain ⟨b41, h⟩ := Ho_gd h
      obtain ⟨I42, hI42, h⟩ := Ho_let h
      refine J_iast hx (rfl : k_sh 80 = (10, 6561)) b41 dX5_duel_77 hI42 ?_
      refine J_goto hx dX5_duel_78 106 (by decide) ?_
      obtain ⟨x43, hx43, h⟩ := Ho_let h
      refine J_iinc (x := x43) (lv' := [(3, .int x43), (4, .int t29), (0, .ref (ad 63)), (1, .int v1), (2, .int v2)]) hx dX5_duel_106 4 rfl (by rw [hx43]; rfl) (by decide) rfl ?_
      refine J_goto hx dX5_duel_109 50 (by decide) ?_
      refine J_sub (lv' := [(0, .ref (ad 63)), (1, .int v1), (2, .int v2), (3, .int x43)]) hx [2, 3, 4, 0] rfl ?_
      have h := Ho_some h
      exact h
set_option maxRecDepth 100000 in
set_option maxHeartbeats 4000000 in
theorem s_X5_duel_L50 {X : k_C} {ad : Nat → Nat} {P : Option Value → StI → StL → Prop} {I : StI} {L : StL} (hx : Ok X cX5_duel RX5 8 (some .int) 5) (hQ : OkQ X ad P)  {v1 : Int32} {v2 : Int32} {v3 : Int32}  (n : Nat) (h : Ho (f_X5_duel_L50 v1 v2 n v3 I) (kr_X5_duel P L)) : J X ad 8 I L 50 [(0, .ref (ad 63)), (1, .int v1), (2, .int v2), (3, .int v3)] [] := by
  exact k_loop_ho (G := g_X5_duel_L50 X ad L v1 v2) (fun s hs => s_X5_duel_L50_b hx hQ  hs) n (v3, I) h
def f_X5_duel_L32_b (v1 : Int32) (v2 : Int32) (v3 : Int32) (I : StI) : Option ((Int32 × Int32) ⊕ (Int32 × StI)) :=
  (if v1 ≤ v3 then Option.map Sum.inr (f_X5_duel_L50 v1 v2 k_fu (0 : Int32) I) else k_let (v2 * (9 : Int32)) (fun x44 => k_let (v3 + (1 : Int32)) (fun x45 => some (.inl (x44, x45)))))
def f_X5_duel_L32 (v1 : Int32) (I : StI) (n : Nat) (v2 : Int32) (v3 : Int32) : Option (Int32 × StI) :=
  k_loop (fun s => f_X5_duel_L32_b v1 s.1 s.2 I) n (v2, v3)
set_option maxRecDepth 100000 in
set_option maxHeartbeats 4000000 in
theorem s_X5_duel_L32_b {X : k_C} {ad : Nat → Nat} {P : Option Value → StI → StL → Prop} {I : StI} {L : StL} (hx : Ok X cX5_duel RX5 8 (some .int) 5) (hQ : OkQ X ad P)  {v1 : Int32} {v2 : Int32} {v3 : Int32}  (h : Ho (f_X5_duel_L32_b v1 v2 v3 I) (Sum.elim (g_X5_duel_L32 X ad I L v1) (kr_X5_duel P L))) : J X ad 8 I L 32 [(0, .ref (ad 63)), (1, .int v1), (2, .int v2), (3, .int v3)] [] := by
  unfold f_X5_duel_L32_b at h
  refine J_iload_n hx dX5_duel_32 3 rfl ?_
  refine J_iload_n hx dX5_duel_33 1 rfl ?_
  refine J_ic_ge hx dX5_duel_34 48 (by decide) (fun c7 => ?_) (fun c7 => ?_)
  · have h := Ho_t c7 h
    refine J_iconst (v := (0 : Int32)) hx dX5_duel_48 (by decide) ?_
    refine J_istore_n (x := (0 : Int32)) (lv' := [(3, .int (0 : Int32)), (0, .ref (ad 63)), (1, .int v1), (2, .int v2)]) hx dX5_duel_49 rfl (by decide) rfl ?_
    refine J_sub (lv' := [(0, .ref (ad 63)), (1, .int v1), (2, .int v2), (3, .int (0 : Int32))]) hx [1, 2, 3, 0] rfl ?_
    have h := Ho_map h
    exact s_X5_duel_L50 hx hQ  k_fu h
  · have h := Ho_f c7 h
    refine J_iload_n hx dX5_duel_37 2 rfl ?_
    refine J_bipush (v := (9 : Int32)) hx dX5_duel_38 (by decide) ?_
    refine J_imul hx dX5_duel_40 ?_
    obtain ⟨x44, hx44, h⟩ := Ho_let h
    refine J_istore_n (x := x44) (lv' := [(2, .int x44), (0, .ref (ad 63)), (1, .int v1), (3, .int v3)]) hx dX5_duel_41 hx44 (by decide) rfl ?_
    obtain ⟨x45, hx45, h⟩ := Ho_let h
    refine J_iinc (x := x45) (lv' := [(3, .int x45), (2, .int x44), (0, .ref (ad 63)), (1, .int v1)]) hx dX5_duel_42 3 rfl (by rw [hx45]; rfl) (by decide) rfl ?_
    refine J_goto hx dX5_duel_45 32 (by decide) ?_
    refine J_sub (lv' := [(0, .ref (ad 63)), (1, .int v1), (2, .int x44), (3, .int x45)]) hx [2, 3, 1, 0] rfl ?_
    have h := Ho_some h
    exact h
set_option maxRecDepth 100000 in
set_option maxHeartbeats 4000000 in
theorem s_X5_duel_L32 {X : k_C} {ad : Nat → Nat} {P : Option Value → StI → StL → Prop} {I : StI} {L : StL} (hx : Ok X cX5_duel RX5 8 (some .int) 5) (hQ : OkQ X ad P)  {v1 : Int32} {v2 : Int32} {v3 : Int32}  (n : Nat) (h : Ho (f_X5_duel_L32 v1 I n v2 v3) (kr_X5_duel P L)) : J X ad 8 I L 32 [(0, .ref (ad 63)), (1, .int v1), (2, .int v2), (3, .int v3)] [] := by
  exact k_loop_ho (G := g_X5_duel_L32 X ad I L v1) (fun s hs => s_X5_duel_L32_b hx hQ  hs) n (v2, v3) h
def f_X5_duel (v1 : Int32) (I : StI) : Option (Int32 × StI) :=
  Option.bind (f_X5_in (v1).toInt64 (0 : Int64) (4 : Int64)) (fun t1 => (if t1 = 0 then some ((-1 : Int32), I) else (if (I 63 4) = 0 then some ((-4 : Int32), I) else Option.bind (f_X5_asKinds I) (fun t5 => f_X5_duel_L32 v1 t5 k_fu (1 : Int32) (0 : Int32)))))
set_option maxRecDepth 100000 in
set_option maxHeartbeats 4000000 in
theorem s_X5_duel {l : Launch} {ad : Nat → Nat} {P : Option Value → StI → StL → Prop} {I : StI} {L : StL} {v1 : Int32}  (h : Ho (f_X5_duel v1 I) (kr_X5_duel P L)) : k_Met l ad 5 yX5_duel cX5_duel 8 (some .int) [.ref (ad 63), .int v1] I L P := by
  refine k_enter (by decide +kernel) (Nat.le_of_ble_eq_true rfl) (fun X hl hx hQ => ?_)
  clear hl
  have hx : Ok X cX5_duel RX5 8 (some .int) 5 := hx
  show J X ad 8 I L 0 [(0, .ref (ad 63)), (1, .int v1)] []
  unfold f_X5_duel at h
  refine J_iload_n hx dX5_duel_0 1 rfl ?_
  refine J_i2l hx dX5_duel_1 ?_
  refine J_lconst (v := (0 : Int64)) hx dX5_duel_2 (by decide) ?_
  refine J_ldc2 hx cn_RX5_217 dX5_duel_3 ?_
  obtain ⟨t1, e2, h⟩ := Ho_bind h
  refine J_callSi hx lkS_RX5_75 [.long (v1).toInt64, .long (0 : Int64), .long (4 : Int64)] [] rfl rfl (Nat.le_of_ble_eq_true rfl) (Nat.le_of_ble_eq_true rfl) (s_X5_in  ⟨t1, e2, ⟨rfl, rfl, rfl⟩⟩) dX5_duel_6 ?_
  refine J_if_ne hx dX5_duel_9 14 (by decide) (fun c3 => ?_) (fun c3 => ?_)
  · have h := Ho_f c3 h
    refine J_aload_n hx dX5_duel_14 0 rfl ?_
    refine J_getI hx fl_RX5_115 (rfl : k_sh 63 = (5, k_N 5)) rfl dX5_duel_15 ?_
    refine J_if_ne hx dX5_duel_18 24 (by decide) (fun c4 => ?_) (fun c4 => ?_)
    · have h := Ho_f c4 h
      refine J_aload_n hx dX5_duel_24 0 rfl ?_
      obtain ⟨t5, e6, h⟩ := Ho_bind h
      refine J_callVv hx lkV_RX5_174 (rfl : k_sh 63 = (5, k_N 5)) [] [] rfl rfl (Nat.le_of_ble_eq_true rfl) (Nat.le_of_ble_eq_true rfl) (s_X5_asKinds  ⟨t5, e6, ⟨rfl, rfl, rfl⟩⟩) dX5_duel_25 ?_
      refine J_iconst (v := (1 : Int32)) hx dX5_duel_28 (by decide) ?_
      refine J_istore_n (x := (1 : Int32)) (lv' := [(2, .int (1 : Int32)), (0, .ref (ad 63)), (1, .int v1)]) hx dX5_duel_29 rfl (by decide) rfl ?_
      refine J_iconst (v := (0 : Int32)) hx dX5_duel_30 (by decide) ?_
      refine J_istore_n (x := (0 : Int32)) (lv' := [(3, .int (0 : Int32)), (2, .int (1 : Int32)), (0, .ref (ad 63)), (1, .int v1)]) hx dX5_duel_31 rfl (by decide) rfl ?_
      refine J_sub (lv' := [(0, .ref (ad 63)), (1, .int v1), (2, .int (1 : Int32)), (3, .int (0 : Int32))]) hx [2, 3, 1, 0] rfl ?_
      exact s_X5_duel_L32 hx hQ  k_fu h
    · have h := Ho_t c4 h
      refine J_bipush (v := (-4 : Int32)) hx dX5_duel_21 (by decide) ?_
      have h := Ho_some h
      exact J_iret hx hQ dX5_duel_23 h
  · have h := Ho_t c3 h
    refine J_iconst (v := (-1 : Int32)) hx dX5_duel_12 (by decide) ?_
    have h := Ho_some h
    exact J_iret hx hQ dX5_duel_13 h
abbrev kr_X5_isText (P : Option Value → StI → StL → Prop) (I : StI) (L : StL) : Int32 → Prop := fun t => P (some (.int t)) I L
def f_X5_isText (v0 : Int32) : Option (Int32) :=
  Option.bind (f_X5_in (v0).toInt64 (0 : Int64) (3 : Int64)) (fun t1 => k_bo t1 (some (t1)))
set_option maxRecDepth 100000 in
set_option maxHeartbeats 4000000 in
theorem s_X5_isText {l : Launch} {ad : Nat → Nat} {P : Option Value → StI → StL → Prop} {I : StI} {L : StL} {v0 : Int32}  (h : Ho (f_X5_isText v0) (kr_X5_isText P I L)) : k_Met l ad 2 yX5_isText cX5_isText 1 (some .boolean) [.int v0] I L P := by
  refine k_enter (by decide +kernel) (Nat.le_of_ble_eq_true rfl) (fun X hl hx hQ => ?_)
  clear hl
  have hx : Ok X cX5_isText RX5 1 (some .boolean) 2 := hx
  show J X ad 1 I L 0 [(0, .int v0)] []
  unfold f_X5_isText at h
  refine J_iload_n hx dX5_isText_0 0 rfl ?_
  refine J_i2l hx dX5_isText_1 ?_
  refine J_lconst (v := (0 : Int64)) hx dX5_isText_2 (by decide) ?_
  refine J_ldc2 hx cn_RX5_79 dX5_isText_3 ?_
  obtain ⟨t1, e2, h⟩ := Ho_bind h
  refine J_callSi hx lkS_RX5_75 [.long (v0).toInt64, .long (0 : Int64), .long (3 : Int64)] [] rfl rfl (Nat.le_of_ble_eq_true rfl) (Nat.le_of_ble_eq_true rfl) (s_X5_in  ⟨t1, e2, ⟨rfl, rfl, rfl⟩⟩) dX5_isText_6 ?_
  obtain ⟨z3, h⟩ := Ho_bo h
  have h := Ho_some h
  exact J_zret hx hQ dX5_isText_9 z3 h
abbrev kr_X5_isFigure (P : Option Value → StI → StL → Prop) (I : StI) (L : StL) : Int32 → Prop := fun t => P (some (.int t)) I L
def f_X5_isFigure (v1 : Int32) (v2 : Int32) (I : StI) : Option (Int32) :=
  k_gd v1 4 ((if (I 66 v1.toNatClampNeg) ≤ v2 then some ((0 : Int32)) else k_gd (((60 : Int32) * v1) + v2) 240 (Option.bind (f_X5_in ((I 67 (((60 : Int32) * v1) + v2).toNatClampNeg)).toInt64 (49 : Int64) (57 : Int64)) (fun t4 => (if t4 = 0 then some ((0 : Int32)) else some ((1 : Int32)))))))
set_option maxRecDepth 100000 in
set_option maxHeartbeats 4000000 in
theorem s_X5_isFigure {l : Launch} {ad : Nat → Nat} {P : Option Value → StI → StL → Prop} {I : StI} {L : StL} {v1 : Int32} {v2 : Int32}  (h : Ho (f_X5_isFigure v1 v2 I) (kr_X5_isFigure P I L)) : k_Met l ad 2 yX5_isFigure cX5_isFigure 3 (some .boolean) [.ref (ad 63), .int v1, .int v2] I L P := by
  refine k_enter (by decide +kernel) (Nat.le_of_ble_eq_true rfl) (fun X hl hx hQ => ?_)
  clear hl
  have hx : Ok X cX5_isFigure RX5 3 (some .boolean) 2 := hx
  show J X ad 3 I L 0 [(0, .ref (ad 63)), (1, .int v1), (2, .int v2)] []
  unfold f_X5_isFigure at h
  refine J_iload_n hx dX5_isFigure_0 2 rfl ?_
  refine J_aload_n hx dX5_isFigure_1 0 rfl ?_
  refine J_getR (q := 66) hx fl_RX5_16 (rfl : k_sh 63 = (5, k_N 5)) rfl rfl dX5_isFigure_2 ?_
  refine J_iload_n hx dX5_isFigure_5 1 rfl ?_
  obtain ⟨b1, h⟩ := Ho_gd h
  refine J_iald hx (rfl : k_sh 66 = (10, 4)) b1 dX5_isFigure_6 ?_
  refine J_ic_ge hx dX5_isFigure_7 38 (by decide) (fun c2 => ?_) (fun c2 => ?_)
  · have h := Ho_t c2 h
    refine J_iconst (v := (0 : Int32)) hx dX5_isFigure_38 (by decide) ?_
    have h := Ho_some h
    exact J_zret hx hQ dX5_isFigure_39 rfl h
  · have h := Ho_f c2 h
    refine J_aload_n hx dX5_isFigure_10 0 rfl ?_
    refine J_getR (q := 67) hx fl_RX5_19 (rfl : k_sh 63 = (5, k_N 5)) rfl rfl dX5_isFigure_11 ?_
    refine J_bipush (v := (60 : Int32)) hx dX5_isFigure_14 (by decide) ?_
    refine J_iload_n hx dX5_isFigure_16 1 rfl ?_
    refine J_imul hx dX5_isFigure_17 ?_
    refine J_iload_n hx dX5_isFigure_18 2 rfl ?_
    refine J_iadd hx dX5_isFigure_19 ?_
    obtain ⟨b3, h⟩ := Ho_gd h
    refine J_iald hx (rfl : k_sh 67 = (10, 240)) b3 dX5_isFigure_20 ?_
    refine J_i2l hx dX5_isFigure_21 ?_
    refine J_ldc2 hx cn_RX5_95 dX5_isFigure_22 ?_
    refine J_ldc2 hx cn_RX5_97 dX5_isFigure_25 ?_
    obtain ⟨t4, e5, h⟩ := Ho_bind h
    refine J_callSi hx lkS_RX5_75 [.long ((I 67 (((60 : Int32) * v1) + v2).toNatClampNeg)).toInt64, .long (49 : Int64), .long (57 : Int64)] [] rfl rfl (Nat.le_of_ble_eq_true rfl) (Nat.le_of_ble_eq_true rfl) (s_X5_in  ⟨t4, e5, ⟨rfl, rfl, rfl⟩⟩) dX5_isFigure_28 ?_
    refine J_if_eq hx dX5_isFigure_31 38 (by decide) (fun c6 => ?_) (fun c6 => ?_)
    · have h := Ho_t c6 h
      refine J_iconst (v := (0 : Int32)) hx dX5_isFigure_38 (by decide) ?_
      have h := Ho_some h
      exact J_zret hx hQ dX5_isFigure_39 rfl h
    · have h := Ho_f c6 h
      refine J_iconst (v := (1 : Int32)) hx dX5_isFigure_34 (by decide) ?_
      refine J_goto hx dX5_isFigure_35 39 (by decide) ?_
      have h := Ho_some h
      exact J_zret hx hQ dX5_isFigure_39 rfl h
abbrev kr_X5_kindOf (P : Option Value → StI → StL → Prop) (I : StI) (L : StL) : Int32 → Prop := fun t => P (some (.int t)) I L
def f_X5_kindOf (v0 : Int32) : Option (Int32) :=
  (if v0 = (98 : Int32) then some ((5 : Int32)) else (if v0 = (101 : Int32) then some ((3 : Int32)) else (if v0 = (108 : Int32) then some ((1 : Int32)) else (if v0 = (112 : Int32) then some ((0 : Int32)) else (if v0 = (115 : Int32) then some ((4 : Int32)) else (if v0 = (116 : Int32) then some ((2 : Int32)) else some ((-9 : Int32))))))))
set_option maxRecDepth 100000 in
set_option maxHeartbeats 4000000 in
theorem s_X5_kindOf {l : Launch} {ad : Nat → Nat} {P : Option Value → StI → StL → Prop} {I : StI} {L : StL} {v0 : Int32}  (h : Ho (f_X5_kindOf v0) (kr_X5_kindOf P I L)) : k_Met l ad 1 yX5_kindOf cX5_kindOf 1 (some .int) [.int v0] I L P := by
  refine k_enter (by decide +kernel) (Nat.le_of_ble_eq_true rfl) (fun X hl hx hQ => ?_)
  clear hl
  have hx : Ok X cX5_kindOf RX5 1 (some .int) 1 := hx
  show J X ad 1 I L 0 [(0, .int v0)] []
  unfold f_X5_kindOf at h
  refine J_iload_n hx dX5_kindOf_0 0 rfl ?_
  by_cases c1 : v0 = (98 : Int32)
  · have h := Ho_t c1 h
    refine J_tIn (x' := (98 : Int32)) (off := 101) hx dX5_kindOf_1 c1 (by decide) (by decide) (by decide) 102 (by decide) ?_
    refine J_iconst (v := (5 : Int32)) hx dX5_kindOf_102 (by decide) ?_
    have h := Ho_some h
    exact J_iret hx hQ dX5_kindOf_103 h
  have h := Ho_f c1 h
  by_cases c2 : v0 = (101 : Int32)
  · have h := Ho_t c2 h
    refine J_tIn (x' := (101 : Int32)) (off := 97) hx dX5_kindOf_1 c2 (by decide) (by decide) (by decide) 98 (by decide) ?_
    refine J_iconst (v := (3 : Int32)) hx dX5_kindOf_98 (by decide) ?_
    have h := Ho_some h
    exact J_iret hx hQ dX5_kindOf_99 h
  have h := Ho_f c2 h
  by_cases c3 : v0 = (108 : Int32)
  · have h := Ho_t c3 h
    refine J_tIn (x' := (108 : Int32)) (off := 93) hx dX5_kindOf_1 c3 (by decide) (by decide) (by decide) 94 (by decide) ?_
    refine J_iconst (v := (1 : Int32)) hx dX5_kindOf_94 (by decide) ?_
    have h := Ho_some h
    exact J_iret hx hQ dX5_kindOf_95 h
  have h := Ho_f c3 h
  by_cases c4 : v0 = (112 : Int32)
  · have h := Ho_t c4 h
    refine J_tIn (x' := (112 : Int32)) (off := 91) hx dX5_kindOf_1 c4 (by decide) (by decide) (by decide) 92 (by decide) ?_
    refine J_iconst (v := (0 : Int32)) hx dX5_kindOf_92 (by decide) ?_
    have h := Ho_some h
    exact J_iret hx hQ dX5_kindOf_93 h
  have h := Ho_f c4 h
  by_cases c5 : v0 = (115 : Int32)
  · have h := Ho_t c5 h
    refine J_tIn (x' := (115 : Int32)) (off := 99) hx dX5_kindOf_1 c5 (by decide) (by decide) (by decide) 100 (by decide) ?_
    refine J_iconst (v := (4 : Int32)) hx dX5_kindOf_100 (by decide) ?_
    have h := Ho_some h
    exact J_iret hx hQ dX5_kindOf_101 h
  have h := Ho_f c5 h
  by_cases c6 : v0 = (116 : Int32)
  · have h := Ho_t c6 h
    refine J_tIn (x' := (116 : Int32)) (off := 95) hx dX5_kindOf_1 c6 (by decide) (by decide) (by decide) 96 (by decide) ?_
    refine J_iconst (v := (2 : Int32)) hx dX5_kindOf_96 (by decide) ?_
    have h := Ho_some h
    exact J_iret hx hQ dX5_kindOf_97 h
  have h := Ho_f c6 h
  refine J_tDef hx dX5_kindOf_1 [(98 : Int32), (101 : Int32), (108 : Int32), (112 : Int32), (115 : Int32), (116 : Int32)] (List.forall_mem_cons.mpr ⟨c1, List.forall_mem_cons.mpr ⟨c2, List.forall_mem_cons.mpr ⟨c3, List.forall_mem_cons.mpr ⟨c4, List.forall_mem_cons.mpr ⟨c5, List.forall_mem_cons.mpr ⟨c6, fun _ z => absurd z List.not_mem_nil⟩⟩⟩⟩⟩⟩) (by decide) (by decide) 104 (by decide) ?_
  refine J_bipush (v := (-9 : Int32)) hx dX5_kindOf_104 (by decide) ?_
  have h := Ho_some h
  exact J_iret hx hQ dX5_kindOf_106 h
