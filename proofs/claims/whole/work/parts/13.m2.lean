abbrev kr_X2_add (P : Option Value → StI → StL → Prop) (L : StL) : StI → Prop := fun t => P none t L
def f_X2_add (v0 : Nat) (v1 : Int32) (v2 : Int32) (v3 : Int32) (I : StI) : Option (StI) :=
  (if (I v0 3) < 0 then some (I) else (if (I v0 3) < (40 : Int32) then k_gd (I v0 3) 40 (k_let (k_up I (v0 + 1) (I v0 3).toNatClampNeg v1) (fun I4 => k_gd (I4 v0 3) 40 (k_let (k_up I4 (v0 + 2) (I4 v0 3).toNatClampNeg v2) (fun I6 => k_gd (I6 v0 3) 40 (k_let (k_up I6 (v0 + 3) (I6 v0 3).toNatClampNeg v3) (fun I8 => k_let (k_up I8 v0 3 ((I8 v0 3) + (1 : Int32))) (fun I9 => some (I9)))))))) else some (I)))
set_option maxRecDepth 100000 in
set_option maxHeartbeats 4000000 in
theorem s_X2_add {l : Launch} {ad : Nat → Nat} {P : Option Value → StI → StL → Prop} {I : StI} {L : StL} {v0 : Nat} {v1 : Int32} {v2 : Int32} {v3 : Int32} (hv0 : k_isD v0) (h : Ho (f_X2_add v0 v1 v2 v3 I) (kr_X2_add P L)) : k_Met l ad 1 yX2_add cX2_add 4 none [.ref (ad v0), .int v1, .int v2, .int v3] I L P := by
  refine k_enter (by decide +kernel) (Nat.le_of_ble_eq_true rfl) (fun X hl hx hQ => ?_)
  clear hl
  have hx : Ok X cX2_add RX2 4 none 1 := hx
  show J X ad 4 I L 0 [(0, .ref (ad v0)), (1, .int v1), (2, .int v2), (3, .int v3)] []
  unfold f_X2_add at h
  refine J_aload_n hx dX2_add_0 0 rfl ?_
  refine J_getI hx fl_RX2_21 (k_D0 hv0) rfl dX2_add_1 ?_
  refine J_if_lt hx dX2_add_4 16 (by decide) (fun c1 => ?_) (fun c1 => ?_)
  · have h := Ho_t c1 h
    have h := Ho_some h
    exact J_vret hx hQ dX2_add_16 h
  · have h := Ho_f c1 h
    refine J_aload_n hx dX2_add_7 0 rfl ?_
    refine J_getI hx fl_RX2_21 (k_D0 hv0) rfl dX2_add_8 ?_
    refine J_bipush (v := (40 : Int32)) hx dX2_add_11 (by decide) ?_
    refine J_ic_lt hx dX2_add_13 17 (by decide) (fun c2 => ?_) (fun c2 => ?_)
    · have h := Ho_t c2 h
      refine J_aload_n hx dX2_add_17 0 rfl ?_
      refine J_getR (q := (v0 + 1)) hx fl_RX2_9 (k_D0 hv0) rfl (k_Dr1 hv0) dX2_add_18 ?_
      refine J_aload_n hx dX2_add_21 0 rfl ?_
      refine J_getI hx fl_RX2_21 (k_D0 hv0) rfl dX2_add_22 ?_
      refine J_iload_n hx dX2_add_25 1 rfl ?_
      obtain ⟨b3, h⟩ := Ho_gd h
      obtain ⟨I4, hI4, h⟩ := Ho_let h
      refine J_iast hx (k_Da1 hv0) b3 dX2_add_26 hI4 ?_
      refine J_aload_n hx dX2_add_27 0 rfl ?_
      refine J_getR (q := (v0 + 2)) hx fl_RX2_15 (k_D0 hv0) rfl (k_Dr2 hv0) dX2_add_28 ?_
      refine J_aload_n hx dX2_add_31 0 rfl ?_
      refine J_getI hx fl_RX2_21 (k_D0 hv0) rfl dX2_add_32 ?_
      refine J_iload_n hx dX2_add_35 2 rfl ?_
      obtain ⟨b5, h⟩ := Ho_gd h
      obtain ⟨I6, hI6, h⟩ := Ho_let h
      refine J_iast hx (k_Da2 hv0) b5 dX2_add_36 hI6 ?_
      refine J_aload_n hx dX2_add_37 0 rfl ?_
      refine J_getR (q := (v0 + 3)) hx fl_RX2_18 (k_D0 hv0) rfl (k_Dr3 hv0) dX2_add_38 ?_
      refine J_aload_n hx dX2_add_41 0 rfl ?_
      refine J_getI hx fl_RX2_21 (k_D0 hv0) rfl dX2_add_42 ?_
      refine J_iload_n hx dX2_add_45 3 rfl ?_
      obtain ⟨b7, h⟩ := Ho_gd h
      obtain ⟨I8, hI8, h⟩ := Ho_let h
      refine J_iast hx (k_Da3 hv0) b7 dX2_add_46 hI8 ?_
      refine J_aload_n hx dX2_add_47 0 rfl ?_
      refine J_dup hx dX2_add_48 rfl ?_
      refine J_getI hx fl_RX2_21 (k_D0 hv0) rfl dX2_add_49 ?_
      refine J_iconst (v := (1 : Int32)) hx dX2_add_52 (by decide) ?_
      refine J_iadd hx dX2_add_53 ?_
      obtain ⟨I9, hI9, h⟩ := Ho_let h
      refine J_putI hx flW_RX2_21 (k_D0 hv0) rfl dX2_add_54 hI9 ?_
      have h := Ho_some h
      exact J_vret hx hQ dX2_add_57 h
    · have h := Ho_f c2 h
      have h := Ho_some h
      exact J_vret hx hQ dX2_add_16 h
abbrev kr_X2_become (P : Option Value → StI → StL → Prop) (L : StL) : StI → Prop := fun t => P none t L
abbrev g_X2_become_L10 (X : k_C) (ad : Nat → Nat) (L : StL) (v0 : Nat) (v1 : Nat) : (Int32 × StI) → Prop := fun s => J X ad 3 s.2 L 10 [(0, .ref (ad v0)), (1, .ref (ad v1)), (2, .int s.1)] []
def f_X2_become_L10_b (v0 : Nat) (v1 : Nat) (v2 : Int32) (I : StI) : Option ((Int32 × StI) ⊕ (StI)) :=
  (if (I v0 3) ≤ v2 then some (.inr (I)) else k_gd v2 40 (k_gd v2 40 (k_let (k_up I (v0 + 1) v2.toNatClampNeg (I (v1 + 1) v2.toNatClampNeg)) (fun I5 => k_gd v2 40 (k_gd v2 40 (k_let (k_up I5 (v0 + 2) v2.toNatClampNeg (I5 (v1 + 2) v2.toNatClampNeg)) (fun I8 => k_gd v2 40 (k_gd v2 40 (k_let (k_up I8 (v0 + 3) v2.toNatClampNeg (I8 (v1 + 3) v2.toNatClampNeg)) (fun I11 => k_let (v2 + (1 : Int32)) (fun x12 => some (.inl (x12, I11)))))))))))))
def f_X2_become_L10 (v0 : Nat) (v1 : Nat) (n : Nat) (v2 : Int32) (I : StI) : Option (StI) :=
  k_loop (fun s => f_X2_become_L10_b v0 v1 s.1 s.2) n (v2, I)
set_option maxRecDepth 100000 in
set_option maxHeartbeats 4000000 in
theorem s_X2_become_L10_b {X : k_C} {ad : Nat → Nat} {P : Option Value → StI → StL → Prop} {I : StI} {L : StL} (hx : Ok X cX2_become RX2 3 none 1) (hQ : OkQ X ad P)  {v0 : Nat} {v1 : Nat} {v2 : Int32} (hv0 : k_isD v0) (hv1 : k_isD v1) (h : Ho (f_X2_become_L10_b v0 v1 v2 I) (Sum.elim (g_X2_become_L10 X ad L v0 v1) (kr_X2_become P L))) : J X ad 3 I L 10 [(0, .ref (ad v0)), (1, .ref (ad v1)), (2, .int v2)] [] := by
  unfold f_X2_become_L10_b at h
  refine J_iload_n hx dX2_become_10 2 rfl ?_
  refine J_aload_n hx dX2_become_11 0 rfl ?_
  refine J_getI hx fl_RX2_21 (k_D0 hv0) rfl dX2_become_12 ?_
  refine J_ic_ge hx dX2_become_15 60 (by decide) (fun c2 => ?_) (fun c2 => ?_)
  · have h := Ho_t c2 h
    have h := Ho_some h
    exact J_vret hx hQ dX2_become_60 h
  · have h := Ho_f c2 h
    refine J_aload_n hx dX2_become_18 0 rfl ?_
    refine J_getR (q := (v0 + 1)) hx fl_RX2_9 (k_D0 hv0) rfl (k_Dr1 hv0) dX2_become_19 ?_
    refine J_iload_n hx dX2_become_22 2 rfl ?_
    refine J_aload_n hx dX2_become_23 1 rfl ?_
    refine J_getR (q := (v1 + 1)) hx fl_RX2_9 (k_D0 hv1) rfl (k_Dr1 hv1) dX2_become_24 ?_
    refine J_iload_n hx dX2_become_27 2 rfl ?_
    obtain ⟨b3, h⟩ := Ho_gd h
    refine J_iald hx (k_Da1 hv1) b3 dX2_become_28 ?_
    obtain ⟨b4, h⟩ := Ho_gd h
    obtain ⟨I5, hI5, h⟩ := Ho_let h
    refine J_iast hx (k_Da1 hv0) b4 dX2_become_29 hI5 ?_
    refine J_aload_n hx dX2_become_30 0 rfl ?_
    refine J_getR (q := (v0 + 2)) hx fl_RX2_15 (k_D0 hv0) rfl (k_Dr2 hv0) dX2_become_31 ?_
    refine J_iload_n hx dX2_become_34 2 rfl ?_
    refine J_aload_n hx dX2_become_35 1 rfl ?_
    refine J_getR (q := (v1 + 2)) hx fl_RX2_15 (k_D0 hv1) rfl (k_Dr2 hv1) dX2_become_36 ?_
    refine J_iload_n hx dX2_become_39 2 rfl ?_
    obtain ⟨b6, h⟩ := Ho_gd h
    refine J_iald hx (k_Da2 hv1) b6 dX2_become_40 ?_
    obtain ⟨b7, h⟩ := Ho_gd h
    obtain ⟨I8, hI8, h⟩ := Ho_let h
    refine J_iast hx (k_Da2 hv0) b7 dX2_become_41 hI8 ?_
    refine J_aload_n hx dX2_become_42 0 rfl ?_
    refine J_getR (q := (v0 + 3)) hx fl_RX2_18 (k_D0 hv0) rfl (k_Dr3 hv0) dX2_become_43 ?_
    refine J_iload_n hx dX2_become_46 2 rfl ?_
    refine J_aload_n hx dX2_become_47 1 rfl ?_
    refine J_getR (q := (v1 + 3)) hx fl_RX2_18 (k_D0 hv1) rfl (k_Dr3 hv1) dX2_become_48 ?_
    refine J_iload_n hx dX2_become_51 2 rfl ?_
    obtain ⟨b9, h⟩ := Ho_gd h
    refine J_iald hx (k_Da3 hv1) b9 dX2_become_52 ?_
    obtain ⟨b10, h⟩ := Ho_gd h
    obtain ⟨I11, hI11, h⟩ := Ho_let h
    refine J_iast hx (k_Da3 hv0) b10 dX2_become_53 hI11 ?_
    obtain ⟨x12, hx12, h⟩ := Ho_let h
    refine J_iinc (x := x12) (lv' := [(2, .int x12), (0, .ref (ad v0)), (1, .ref (ad v1))]) hx dX2_become_54 2 rfl (by rw [hx12]; rfl) (by decide) rfl ?_
    refine J_goto hx dX2_become_57 10 (by decide) ?_
    refine J_sub (lv' := [(0, .ref (ad v0)), (1, .ref (ad v1)), (2, .int x12)]) hx [1, 2, 0] rfl ?_
    have h := Ho_some h
    exact h
set_option maxRecDepth 100000 in
set_option maxHeartbeats 4000000 in
theorem s_X2_become_L10 {X : k_C} {ad : Nat → Nat} {P : Option Value → StI → StL → Prop} {I : StI} {L : StL} (hx : Ok X cX2_become RX2 3 none 1) (hQ : OkQ X ad P)  {v0 : Nat} {v1 : Nat} {v2 : Int32} (hv0 : k_isD v0) (hv1 : k_isD v1) (n : Nat) (h : Ho (f_X2_become_L10 v0 v1 n v2 I) (kr_X2_become P L)) : J X ad 3 I L 10 [(0, .ref (ad v0)), (1, .ref (ad v1)), (2, .int v2)] [] := by
  exact k_loop_ho (G := g_X2_become_L10 X ad L v0 v1) (fun s hs => s_X2_become_L10_b hx hQ hv0 hv1 hs) n (v2, I) h
def f_X2_become (v0 : Nat) (v1 : Nat) (I : StI) : Option (StI) :=
  k_let (k_up I v0 3 (I v1 3)) (fun I1 => f_X2_become_L10 v0 v1 k_fu (0 : Int32) I1)
set_option maxRecDepth 100000 in
set_option maxHeartbeats 4000000 in
theorem s_X2_become {l : Launch} {ad : Nat → Nat} {P : Option Value → StI → StL → Prop} {I : StI} {L : StL} {v0 : Nat} {v1 : Nat} (hv0 : k_isD v0) (hv1 : k_isD v1) (h : Ho (f_X2_become v0 v1 I) (kr_X2_become P L)) : k_Met l ad 1 yX2_become cX2_become 3 none [.ref (ad v0), .ref (ad v1)] I L P := by
  refine k_enter (by decide +kernel) (Nat.le_of_ble_eq_true rfl) (fun X hl hx hQ => ?_)
  clear hl
  have hx : Ok X cX2_become RX2 3 none 1 := hx
  show J X ad 3 I L 0 [(0, .ref (ad v0)), (1, .ref (ad v1))] []
  unfold f_X2_become at h
  refine J_aload_n hx dX2_become_0 0 rfl ?_
  refine J_aload_n hx dX2_become_1 1 rfl ?_
  refine J_getI hx fl_RX2_21 (k_D0 hv1) rfl dX2_become_2 ?_
  obtain ⟨I1, hI1, h⟩ := Ho_let h
  refine J_putI hx flW_RX2_21 (k_D0 hv0) rfl dX2_become_5 hI1 ?_
  refine J_iconst (v := (0 : Int32)) hx dX2_become_8 (by decide) ?_
  refine J_istore_n (x := (0 : Int32)) (lv' := [(2, .int (0 : Int32)), (0, .ref (ad v0)), (1, .ref (ad v1))]) hx dX2_become_9 rfl (by decide) rfl ?_
  refine J_sub (lv' := [(0, .ref (ad v0)), (1, .ref (ad v1)), (2, .int (0 : Int32))]) hx [1, 2, 0] rfl ?_
  exact s_X2_become_L10 hx hQ hv0 hv1 k_fu h
abbrev kr_X3_isUpIn (P : Option Value → StI → StL → Prop) (I : StI) (L : StL) : Int32 → Prop := fun t => P (some (.int t)) I L
def f_X3_isUpIn (v0 : Nat) (v1 : Int32) (I : StI) : Option (Int32) :=
  Option.bind (f_J9_floorMod_7cf53 v1 (8 : Int32)) (fun t1 => (if (((I v0 3) >>> (t1 &&& 31)) &&& (1 : Int32)) = (1 : Int32) then some ((1 : Int32)) else some ((0 : Int32))))
set_option maxRecDepth 100000 in
set_option maxHeartbeats 4000000 in
theorem s_X3_isUpIn {l : Launch} {ad : Nat → Nat} {P : Option Value → StI → StL → Prop} {I : StI} {L : StL} {v0 : Nat} {v1 : Int32} (hv0 : k_isH v0) (h : Ho (f_X3_isUpIn v0 v1 I) (kr_X3_isUpIn P I L)) : k_Met l ad 2 yX3_isUpIn cX3_isUpIn 2 (some .boolean) [.ref (ad v0), .int v1] I L P := by
  refine k_enter (by decide +kernel) (Nat.le_of_ble_eq_true rfl) (fun X hl hx hQ => ?_)
  clear hl
  have hx : Ok X cX3_isUpIn RX3 2 (some .boolean) 2 := hx
  show J X ad 2 I L 0 [(0, .ref (ad v0)), (1, .int v1)] []
  unfold f_X3_isUpIn at h
  refine J_aload_n hx dX3_isUpIn_0 0 rfl ?_
  refine J_getI hx fl_RX3_25 (k_H0 hv0) rfl dX3_isUpIn_1 ?_
  refine J_iload_n hx dX3_isUpIn_4 1 rfl ?_
  refine J_bipush (v := (8 : Int32)) hx dX3_isUpIn_5 (by decide) ?_
  obtain ⟨t1, e2, h⟩ := Ho_bind h
  refine J_callSi hx lkS_RX3_44 [.int v1, .int (8 : Int32)] [.int (I v0 3)] rfl rfl (Nat.le_of_ble_eq_true rfl) (Nat.le_of_ble_eq_true rfl) (s_J9_floorMod_7cf53  ⟨t1, e2, ⟨rfl, rfl, rfl⟩⟩) dX3_isUpIn_7 ?_
  refine J_ishr hx dX3_isUpIn_10 ?_
  refine J_iconst (v := (1 : Int32)) hx dX3_isUpIn_11 (by decide) ?_
  refine J_iand hx dX3_isUpIn_12 ?_
  refine J_iconst (v := (1 : Int32)) hx dX3_isUpIn_13 (by decide) ?_
  refine J_ic_ne hx dX3_isUpIn_14 21 (by decide) (fun c3 => ?_) (fun c3 => ?_)
  · have h := Ho_f c3 h
    refine J_iconst (v := (0 : Int32)) hx dX3_isUpIn_21 (by decide) ?_
    have h := Ho_some h
    exact J_zret hx hQ dX3_isUpIn_22 rfl h
  · have h := Ho_t c3 h
    refine J_iconst (v := (1 : Int32)) hx dX3_isUpIn_17 (by decide) ?_
    refine J_goto hx dX3_isUpIn_18 22 (by decide) ?_
    have h := Ho_some h
    exact J_zret hx hQ dX3_isUpIn_22 rfl h
abbrev kr_X3_isUp (P : Option Value → StI → StL → Prop) (I : StI) (L : StL) : Int32 → Prop := fun t => P (some (.int t)) I L
def f_X3_isUp (v0 : Nat) (I : StI) : Option (Int32) :=
  Option.bind (f_X3_isUpIn v0 (I v0 4) I) (fun t1 => k_bo t1 (some (t1)))
set_option maxRecDepth 100000 in
set_option maxHeartbeats 4000000 in
theorem s_X3_isUp {l : Launch} {ad : Nat → Nat} {P : Option Value → StI → StL → Prop} {I : StI} {L : StL} {v0 : Nat} (hv0 : k_isH v0) (h : Ho (f_X3_isUp v0 I) (kr_X3_isUp P I L)) : k_Met l ad 3 yX3_isUp cX3_isUp 1 (some .boolean) [.ref (ad v0)] I L P := by
  refine k_enter (by decide +kernel) (Nat.le_of_ble_eq_true rfl) (fun X hl hx hQ => ?_)
  clear hl
  have hx : Ok X cX3_isUp RX3 1 (some .boolean) 3 := hx
  show J X ad 1 I L 0 [(0, .ref (ad v0))] []
  unfold f_X3_isUp at h
  refine J_aload_n hx dX3_isUp_0 0 rfl ?_
  refine J_aload_n hx dX3_isUp_1 0 rfl ?_
  refine J_getI hx fl_RX3_28 (k_H0 hv0) rfl dX3_isUp_2 ?_
  obtain ⟨t1, e2, h⟩ := Ho_bind h
  refine J_callVi hx lkV_RX3_50 (k_H0 hv0) [.int (I v0 4)] [] rfl rfl (Nat.le_of_ble_eq_true rfl) (Nat.le_of_ble_eq_true rfl) (s_X3_isUpIn hv0 ⟨t1, e2, ⟨rfl, rfl, rfl⟩⟩) dX3_isUp_5 ?_
  obtain ⟨z3, h⟩ := Ho_bo h
  have h := Ho_some h
  exact J_zret hx hQ dX3_isUp_8 z3 h
abbrev kr_X3_isHushed (P : Option Value → StI → StL → Prop) (I : StI) (L : StL) : Int32 → Prop := fun t => P (some (.int t)) I L
def f_X3_isHushed (v0 : Nat) (v1 : Int32) (I : StI) : Option (Int32) :=
  (if (((I v0 7) >>> (v1 &&& 31)) &&& (1 : Int32)) = (1 : Int32) then some ((1 : Int32)) else some ((0 : Int32)))
set_option maxRecDepth 100000 in
set_option maxHeartbeats 4000000 in
theorem s_X3_isHushed {l : Launch} {ad : Nat → Nat} {P : Option Value → StI → StL → Prop} {I : StI} {L : StL} {v0 : Nat} {v1 : Int32} (hv0 : k_isH v0) (h : Ho (f_X3_isHushed v0 v1 I) (kr_X3_isHushed P I L)) : k_Met l ad 1 yX3_isHushed cX3_isHushed 2 (some .boolean) [.ref (ad v0), .int v1] I L P := by
  refine k_enter (by decide +kernel) (Nat.le_of_ble_eq_true rfl) (fun X hl hx hQ => ?_)
  clear hl
  have hx : Ok X cX3_isHushed RX3 2 (some .boolean) 1 := hx
  show J X ad 2 I L 0 [(0, .ref (ad v0)), (1, .int v1)] []
  unfold f_X3_isHushed at h
  refine J_aload_n hx dX3_isHushed_0 0 rfl ?_
  refine J_getI hx fl_RX3_37 (k_H0 hv0) rfl dX3_isHushed_1 ?_
  refine J_iload_n hx dX3_isHushed_4 1 rfl ?_
  refine J_ishr hx dX3_isHushed_5 ?_
  refine J_iconst (v := (1 : Int32)) hx dX3_isHushed_6 (by decide) ?_
  refine J_iand hx dX3_isHushed_7 ?_
  refine J_iconst (v := (1 : Int32)) hx dX3_isHushed_8 (by decide) ?_
  refine J_ic_ne hx dX3_isHushed_9 16 (by decide) (fun c1 => ?_) (fun c1 => ?_)
  · have h := Ho_f c1 h
    refine J_iconst (v := (0 : Int32)) hx dX3_isHushed_16 (by decide) ?_
    have h := Ho_some h
    exact J_zret hx hQ dX3_isHushed_17 rfl h
  · have h := Ho_t c1 h
    refine J_iconst (v := (1 : Int32)) hx dX3_isHushed_12 (by decide) ?_
    refine J_goto hx dX3_isHushed_13 17 (by decide) ?_
    have h := Ho_some h
    exact J_zret hx hQ dX3_isHushed_17 rfl h
abbrev kr_X3_calling (P : Option Value → StI → StL → Prop) (I : StI) (L : StL) : Int32 → Prop := fun t => P (some (.int t)) I L
abbrev g_X3_calling_L4 (X : k_C) (ad : Nat → Nat) (I : StI) (L : StL) (v0 : Nat) : (Int32 × Int32) → Prop := fun s => J X ad 3 I L 4 [(0, .ref (ad v0)), (1, .int s.1), (2, .int s.2)] []
def f_X3_calling_L4_b (v0 : Nat) (v1 : Int32) (v2 : Int32) (I : StI) : Option ((Int32 × Int32) ⊕ (Int32)) :=
  (if (I v0 1) ≤ v2 then some (.inr (v1)) else Option.bind (f_X3_isHushed v0 v2 I) (fun t2 => (if t2 = 0 then k_gd v2 7 (Option.bind (f_X0_callsIn (k_cq v0 v2.toNatClampNeg) (I v0 4) I) (fun t7 => (if t7 = 0 then k_let (v2 + (1 : Int32)) (fun x10 => some (.inl (v1, x10))) else k_let (v1 ||| ((1 : Int32) <<< (v2 &&& 31))) (fun x11 => k_let (v2 + (1 : Int32)) (fun x12 => some (.inl (x11, x12))))))) else k_let (v2 + (1 : Int32)) (fun x5 => some (.inl (v1, x5))))))
def f_X3_calling_L4 (v0 : Nat) (I : StI) (n : Nat) (v1 : Int32) (v2 : Int32) : Option (Int32) :=
  k_loop (fun s => f_X3_calling_L4_b v0 s.1 s.2 I) n (v1, v2)
set_option maxRecDepth 100000 in
set_option maxHeartbeats 4000000 in
theorem s_X3_calling_L4_b {X : k_C} {ad : Nat → Nat} {P : Option Value → StI → StL → Prop} {I : StI} {L : StL} (hx : Ok X cX3_calling RX3 3 (some .int) 2) (hQ : OkQ X ad P)  {v0 : Nat} {v1 : Int32} {v2 : Int32} (hv0 : k_isH v0) (h : Ho (f_X3_calling_L4_b v0 v1 v2 I) (Sum.elim (g_X3_calling_L4 X ad I L v0) (kr_X3_calling P I L))) : J X ad 3 I L 4 [(0, .ref (ad v0)), (1, .int v1), (2, .int v2)] [] := by
  unfold f_X3_calling_L4_b at h
  refine J_iload_n hx dX3_calling_4 2 rfl ?_
  refine J_aload_n hx dX3_calling_5 0 rfl ?_
  refine J_getI hx fl_RX3_18 (k_H0 hv0) rfl dX3_calling_6 ?_
  refine J_ic_ge hx dX3_calling_9 48 (by decide) (fun c1 => ?_) (fun c1 => ?_)
  · have h := Ho_t c1 h
    refine J_iload_n hx dX3_calling_48 1 rfl ?_
    have h := Ho_some h
    exact J_iret hx hQ dX3_calling_49 h
  · have h := Ho_f c1 h
    refine J_aload_n hx dX3_calling_12 0 rfl ?_
    refine J_iload_n hx dX3_calling_13 2 rfl ?_
    obtain ⟨t2, e3, h⟩ := Ho_bind h
    refine J_callVi hx lkV_RX3_54 (k_H0 hv0) [.int v2] [] rfl rfl (Nat.le_of_ble_eq_true rfl) (Nat.le_of_ble_eq_true rfl) (s_X3_isHushed hv0 ⟨t2, e3, ⟨rfl, rfl, rfl⟩⟩) dX3_calling_14 ?_
    refine J_if_ne hx dX3_calling_17 42 (by decide) (fun c4 => ?_) (fun c4 => ?_)
    · have h := Ho_f c4 h
      obtain ⟨x5, hx5, h⟩ := Ho_let h
      refine J_iinc (x := x5) (lv' := [(2, .int x5), (0, .ref (ad v0)), (1, .int v1)]) hx dX3_calling_42 2 rfl (by rw [hx5]; rfl) (by decide) rfl ?_
      refine J_goto hx dX3_calling_45 4 (by decide) ?_
      refine J_sub (lv' := [(0, .ref (ad v0)), (1, .int v1), (2, .int x5)]) hx [1, 2, 0] rfl ?_
      have h := Ho_some h
      exact h
    · have h := Ho_t c4 h
      refine J_aload_n hx dX3_calling_20 0 rfl ?_
      refine J_getR (q := (v0 + 1)) hx fl_RX3_11 (k_H0 hv0) rfl (k_Hr0 hv0) dX3_calling_21 ?_
      refine J_iload_n hx dX3_calling_24 2 rfl ?_
      obtain ⟨b6, h⟩ := Ho_gd h
      refine J_aald (q := (k_cq v0 v2.toNatClampNeg)) hx (k_H1 hv0) (by decide) (by decide) b6 (k_Hr hv0) dX3_calling_25 ?_
      refine J_aload_n hx dX3_calling_26 0 rfl ?_
      refine J_getI hx fl_RX3_28 (k_H0 hv0) rfl dX3_calling_27 ?_
      obtain ⟨t7, e8, h⟩ := Ho_bind h
      refine J_callVi hx lkV_RX3_57 (k_H2 hv0 b6) [.int (I v0 4)] [] rfl rfl (Nat.le_of_ble_eq_true rfl) (Nat.le_of_ble_eq_true rfl) (s_X0_callsIn (k_H2 hv0 b6) ⟨t7, e8, ⟨rfl, rfl, rfl⟩⟩) dX3_calling_30 ?_
      refine J_if_eq hx dX3_calling_33 42 (by decide) (fun c9 => ?_) (fun c9 => ?_)
      · have h := Ho_t c9 h
        obtain ⟨x10, hx10, h⟩ := Ho_let h
        refine J_iinc (x := x10) (lv' := [(2, .int x10), (0, .ref (ad v0)), (1, .int v1)]) hx dX3_calling_42 2 rfl (by rw [hx10]; rfl) (by decide) rfl ?_
        refine J_goto hx dX3_calling_45 4 (by decide) ?_
        refine J_sub (lv' := [(0, .ref (ad v0)), (1, .int v1), (2, .int x10)]) hx [1, 2, 0] rfl ?_
        have h := Ho_some h
        exact h
      · have h := Ho_f c9 h
        refine J_iload_n hx dX3_calling_36 1 rfl ?_
        refine J_iconst (v := (1 : Int32)) hx dX3_calling_37 (by decide) ?_
        refine J_iload_n hx dX3_calling_38 2 rfl ?_
        refine J_ishl hx dX3_calling_39 ?_
        refine J_ior hx dX3_calling_40 ?_
        obtain ⟨x11, hx11, h⟩ := Ho_let h
        refine J_istore_n (x := x11) (lv' := [(1, .int x11), (0, .ref (ad v0)), (2, .int v2)]) hx dX3_calling_41 hx11 (by decide) rfl ?_
        obtain ⟨x12, hx12, h⟩ := Ho_let h
        refine J_iinc (x := x12) (lv' := [(2, .int x12), (1, .int x11), (0, .ref (ad v0))]) hx dX3_calling_42 2 rfl (by rw [hx12]; rfl) (by decide) rfl ?_
        refine J_goto hx dX3_calling_45 4 (by decide) ?_
        refine J_sub (lv' := [(0, .ref (ad v0)), (1, .int x11), (2, .int x12)]) hx [2, 1, 0] rfl ?_
        have h := Ho_some h
        exact h
set_option maxRecDepth 100000 in
set_option maxHeartbeats 4000000 in
theorem s_X3_calling_L4 {X : k_C} {ad : Nat → Nat} {P : Option Value → StI → StL → Prop} {I : StI} {L : StL} (hx : Ok X cX3_calling RX3 3 (some .int) 2) (hQ : OkQ X ad P)  {v0 : Nat} {v1 : Int32} {v2 : Int32} (hv0 : k_isH v0) (n : Nat) (h : Ho (f_X3_calling_L4 v0 I n v1 v2) (kr_X3_calling P I L)) : J X ad 3 I L 4 [(0, .ref (ad v0)), (1, .int v1), (2, .int v2)] [] := by
  exact k_loop_ho (G := g_X3_calling_L4 X ad I L v0) (fun s hs => s_X3_calling_L4_b hx hQ hv0 hs) n (v1, v2) h
def f_X3_calling (v0 : Nat) (I : StI) : Option (Int32) :=
  f_X3_calling_L4 v0 I k_fu (0 : Int32) (0 : Int32)
set_option maxRecDepth 100000 in
set_option maxHeartbeats 4000000 in
theorem s_X3_calling {l : Launch} {ad : Nat → Nat} {P : Option Value → StI → StL → Prop} {I : StI} {L : StL} {v0 : Nat} (hv0 : k_isH v0) (h : Ho (f_X3_calling v0 I) (kr_X3_calling P I L)) : k_Met l ad 2 yX3_calling cX3_calling 3 (some .int) [.ref (ad v0)] I L P := by
  refine k_enter (by decide +kernel) (Nat.le_of_ble_eq_true rfl) (fun X hl hx hQ => ?_)
  clear hl
  have hx : Ok X cX3_calling RX3 3 (some .int) 2 := hx
  show J X ad 3 I L 0 [(0, .ref (ad v0))] []
  unfold f_X3_calling at h
  refine J_iconst (v := (0 : Int32)) hx dX3_calling_0 (by decide) ?_
  refine J_istore_n (x := (0 : Int32)) (lv' := [(1, .int (0 : Int32)), (0, .ref (ad v0))]) hx dX3_calling_1 rfl (by decide) rfl ?_
  refine J_iconst (v := (0 : Int32)) hx dX3_calling_2 (by decide) ?_
  refine J_istore_n (x := (0 : Int32)) (lv' := [(2, .int (0 : Int32)), (1, .int (0 : Int32)), (0, .ref (ad v0))]) hx dX3_calling_3 rfl (by decide) rfl ?_
  refine J_sub (lv' := [(0, .ref (ad v0)), (1, .int (0 : Int32)), (2, .int (0 : Int32))]) hx [2, 1, 0] rfl ?_
  exact s_X3_calling_L4 hx hQ hv0 k_fu h
abbrev kr_X3_pass (P : Option Value → StI → StL → Prop) (L : StL) : Int32 × StI → Prop := fun t => P (some (.int t.1)) t.2 L
abbrev g_X3_pass_L32 (X : k_C) (ad : Nat → Nat) (L : StL) (v0 : Nat) (v2 : Int32) (v3 : Int32) (v4 : Int32) : (Int32 × StI) → Prop := fun s => J X ad 7 s.2 L 32 [(0, .ref (ad v0)), (2, .int v2), (3, .int v3), (4, .int v4), (5, .int s.1)] []
def f_X3_pass_j81 (v0 : Nat) (v2 : Int32) (v3 : Int32) (v4 : Int32) (v5 : Int32) (v6 : Int32) (I : StI) : Option ((Int32 × StI) ⊕ (Int32 × StI)) :=
  (if v6 = 0 then Option.bind (f_X3_isHushed v0 v5 I) (fun t14 => (if t14 = 0 then k_gd v5 7 ((if (I (k_cq v0 v5.toNatClampNeg) 3) = (1 : Int32) then k_gd v5 7 (Option.bind (f_X0_restOneStep (k_cq v0 v5.toNatClampNeg) I) (fun t22 => k_let (v5 + (1 : Int32)) (fun x24 => some (.inl (x24, t22))))) else k_let (v5 + (1 : Int32)) (fun x20 => some (.inl (x20, I))))) else k_let (v5 + (1 : Int32)) (fun x17 => some (.inl (x17, I))))) else k_gd v5 7 (Option.bind (f_X0_takeFault (k_cq v0 v5.toNatClampNeg) (I v0 4) I) (fun t26 => k_let (v5 + (1 : Int32)) (fun x28 => some (.inl (x28, t26))))))
set_option maxRecDepth 100000 in
set_option maxHeartbeats 4000000 in
theorem s_X3_pass_j81 {X : k_C} {ad : Nat → Nat} {P : Option Value → StI → StL → Prop} {I : StI} {L : StL} (hx : Ok X cX3_pass RX3 7 (some .int) 3) (hQ : OkQ X ad P)  {v0 : Nat} {v2 : Int32} {v3 : Int32} {v4 : Int32} {v5 : Int32} {v6 : Int32} (hv0 : k_isH v0) (h : Ho (f_X3_pass_j81 v0 v2 v3 v4 v5 v6 I) (Sum.elim (g_X3_pass_L32 X ad L v0 v2 v3 v4) (kr_X3_pass P L))) : J X ad 7 I L 81 [(0, .ref (ad v0)), (2, .int v2), (3, .int v3), (4, .int v4), (5, .int v5), (6, .int v6)] [] := by
  unfold f_X3_pass_j81 at h
  refine J_iload hx dX3_pass_81 5 rfl ?_
  refine J_if_eq hx dX3_pass_83 103 (by decide) (fun c13 => ?_) (fun c13 => ?_)
  · have h := Ho_t c13 h
    refine J_aload_n hx dX3_pass_103 0 rfl ?_
    refine J_iload hx dX3_pass_104 4 rfl ?_
    obtain ⟨t14, e15, h⟩ := Ho_bind h
    refine J_callVi hx lkV_RX3_54 (k_H0 hv0) [.int v5] [] rfl rfl (Nat.le_of_ble_eq_true rfl) (Nat.le_of_ble_eq_true rfl) (s_X3_isHushed hv0 ⟨t14, e15, ⟨rfl, rfl, rfl⟩⟩) dX3_pass_106 ?_
    refine J_if_ne hx dX3_pass_109 136 (by decide) (fun c16 => ?_) (fun c16 => ?_)
    · have h := Ho_f c16 h
      obtain ⟨x17, hx17, h⟩ := Ho_let h
      refine J_iinc (x := x17) (lv' := [(5, .int x17), (0, .ref (ad v0)), (2, .int v2), (3, .int v3), (4, .int v4), (6, .int v6)]) hx dX3_pass_136 4 rfl (by rw [hx17]; rfl) (by decide) rfl ?_
      refine J_goto hx dX3_pass_139 32 (by decide) ?_
      refine J_sub (lv' := [(0, .ref (ad v0)), (2, .int v2), (3, .int v3), (4, .int v4), (5, .int x17)]) hx [1, 2, 3, 4, 0] rfl ?_
      have h := Ho_some h
      exact h
    · have h := Ho_t c16 h
      refine J_aload_n hx dX3_pass_112 0 rfl ?_
      refine J_getR (q := (v0 + 1)) hx fl_RX3_11 (k_H0 hv0) rfl (k_Hr0 hv0) dX3_pass_113 ?_
      refine J_iload hx dX3_pass_116 4 rfl ?_
      obtain ⟨b18, h⟩ := Ho_gd h
      refine J_aald (q := (k_cq v0 v5.toNatClampNeg)) hx (k_H1 hv0) (by decide) (by decide) b18 (k_Hr hv0) dX3_pass_118 ?_
      refine J_getI hx fl_RX3_74 (k_H2 hv0 b18) rfl dX3_pass_119 ?_
      refine J_iconst (v := (1 : Int32)) hx dX3_pass_122 (by decide) ?_
      refine J_ic_ne hx dX3_pass_123 136 (by decide) (fun c19 => ?_) (fun c19 => ?_)
      · have h := Ho_f c19 h
        obtain ⟨x20, hx20, h⟩ := Ho_let h
        refine J_iinc (x := x20) (lv' := [(5, .int x20), (0, .ref (ad v0)), (2, .int v2), (3, .int v3), (4, .int v4), (6, .int v6)]) hx dX3_pass_136 4 rfl (by rw [hx20]; rfl) (by decide) rfl ?_
        refine J_goto hx dX3_pass_139 32 (by decide) ?_
        refine J_sub (lv' := [(0, .ref (ad v0)), (2, .int v2), (3, .int v3), (4, .int v4), (5, .int x20)]) hx [1, 2, 3, 4, 0] rfl ?_
        have h := Ho_some h
        exact h
      · have h := Ho_t c19 h
        refine J_aload_n hx dX3_pass_126 0 rfl ?_
        refine J_getR (q := (v0 + 1)) hx fl_RX3_11 (k_H0 hv0) rfl (k_Hr0 hv0) dX3_pass_127 ?_
        refine J_iload hx dX3_pass_130 4 rfl ?_
        obtain ⟨b21, h⟩ := Ho_gd h
        refine J_aald (q := (k_cq v0 v5.toNatClampNeg)) hx (k_H1 hv0) (by decide) (by decide) b21 (k_Hr hv0) dX3_pass_132 ?_
        obtain ⟨t22, e23, h⟩ := Ho_bind h
        refine J_callVv hx lkV_RX3_90 (k_H2 hv0 b21) [] [] rfl rfl (Nat.le_of_ble_eq_true rfl) (Nat.le_of_ble_eq_true rfl) (s_X0_restOneStep (k_H2 hv0 b21) ⟨t22, e23, ⟨rfl, rfl, rfl⟩⟩) dX3_pass_133 ?_
        obtain ⟨x24, hx24, h⟩ := Ho_let h
        refine J_iinc (x := x24) (lv' := [(5, .int x24), (0, .ref (ad v0)), (2, .int v2), (3, .int v3), (4, .int v4), (6, .int v6)]) hx dX3_pass_136 4 rfl (by rw [hx24]; rfl) (by decide) rfl ?_
        refine J_goto hx dX3_pass_139 32 (by decide) ?_
        refine J_sub (lv' := [(0, .ref (ad v0)), (2, .int v2), (3, .int v3), (4, .int v4), (5, .int x24)]) hx [1, 2, 3, 4, 0] rfl ?_
        have h := Ho_some h
        exact h
  · have h := Ho_f c13 h
    refine J_aload_n hx dX3_pass_86 0 rfl ?_
    refine J_getR (q := (v0 + 1)) hx fl_RX3_11 (k_H0 hv0) rfl (k_Hr0 hv0) dX3_pass_87 ?_
    refine J_iload hx dX3_pass_90 4 rfl ?_
    obtain ⟨b25, h⟩ := Ho_gd h
    refine J_aald (q := (k_cq v0 v5.toNatClampNeg)) hx (k_H1 hv0) (by decide) (by decide) b25 (k_Hr hv0) dX3_pass_92 ?_
    refine J_aload_n hx dX3_pass_93 0 rfl ?_
    refine J_getI hx fl_RX3_28 (k_H0 hv0) rfl dX3_pass_94 ?_
    obtain ⟨t26, e27, h⟩ := Ho_bind h
    refine J_callVv hx lkV_RX3_86 (k_H2 hv0 b25) [.int (I v0 4)] [] rfl rfl (Nat.le_of_ble_eq_true rfl) (Nat.le_of_ble_eq_true rfl) (s_X0_takeFault (k_H2 hv0 b25) ⟨t26, e27, ⟨rfl, rfl, rfl⟩⟩) dX3_pass_97 ?_
    refine J_goto hx dX3_pass_100 136 (by decide) ?_
    obtain ⟨x28, hx28, h⟩ := Ho_let h
    refine J_iinc (x := x28) (lv' := [(5, .int x28), (0, .ref (ad v0)), (2, .int v2), (3, .int v3), (4, .int v4), (6, .int v6)]) hx dX3_pass_136 4 rfl (by rw [hx28]; rfl) (by decide) rfl ?_
    refine J_goto hx dX3_pass_139 32 (by decide) ?_
    refine J_sub (lv' := [(0, .ref (ad v0)), (2, .int v2), (3, .int v3), (4, .int v4), (5, .int x28)]) hx [1, 2, 3, 4, 0] rfl ?_
    have h := Ho_some h
    exact h
def f_X3_pass_j56 (v0 : Nat) (v2 : Int32) (v3 : Int32) (v4 : Int32) (v5 : Int32) (s0 : Int32) (I : StI) : Option ((Int32 × StI) ⊕ (Int32 × StI)) :=
  (if s0 = 0 then f_X3_pass_j81 v0 v2 v3 v4 v5 s0 I else (if v4 = 0 then f_X3_pass_j81 v0 v2 v3 v4 v5 s0 I else k_gd v5 7 (Option.bind (f_X0_takeAnswer (k_cq v0 v5.toNatClampNeg) I) (fun t31 => k_let (v5 + (1 : Int32)) (fun x33 => some (.inl (x33, t31)))))))
set_option maxRecDepth 100000 in
set_option maxHeartbeats 4000000 in
theorem s_X3_pass_j56 {X : k_C} {ad : Nat → Nat} {P : Option Value → StI → StL → Prop} {I : StI} {L : StL} (hx : Ok X cX3_pass RX3 7 (some .int) 3) (hQ : OkQ X ad P)  {v0 : Nat} {v2 : Int32} {v3 : Int32} {v4 : Int32} {v5 : Int32} {s0 : Int32} (hv0 : k_isH v0) (h : Ho (f_X3_pass_j56 v0 v2 v3 v4 v5 s0 I) (Sum.elim (g_X3_pass_L32 X ad L v0 v2 v3 v4) (kr_X3_pass P L))) : J X ad 7 I L 56 [(0, .ref (ad v0)), (2, .int v2), (3, .int v3), (4, .int v4), (5, .int v5)] [.int s0] := by
  unfold f_X3_pass_j56 at h
  refine J_istore (x := s0) (lv' := [(6, .int s0), (0, .ref (ad v0)), (2, .int v2), (3, .int v3), (4, .int v4), (5, .int v5)]) hx dX3_pass_56 rfl (by decide) rfl ?_
  refine J_iload hx dX3_pass_58 0 rfl ?_
  refine J_if_eq hx dX3_pass_60 81 (by decide) (fun c12 => ?_) (fun c12 => ?_)
  · have h := Ho_t c12 h
    refine J_sub (lv' := [(0, .ref (ad v0)), (2, .int v2), (3, .int v3), (4, .int v4), (5, .int v5), (6, .int s0)]) hx [1, 2, 3, 4, 5, 0] rfl ?_
    exact s_X3_pass_j81 hx hQ hv0 h
  · have h := Ho_f c12 h
    refine J_iload hx dX3_pass_63 4 rfl ?_
    refine J_if_eq hx dX3_pass_65 81 (by decide) (fun c29 => ?_) (fun c29 => ?_)
    · have h := Ho_t c29 h
      refine J_sub (lv' := [(0, .ref (ad v0)), (2, .int v2), (3, .int v3), (4, .int v4), (5, .int v5), (6, .int s0)]) hx [1, 2, 3, 4, 5, 0] rfl ?_
      exact s_X3_pass_j81 hx hQ hv0 h
    · have h := Ho_f c29 h
      refine J_aload_n hx dX3_pass_68 1 rfl ?_
      refine J_getR (q := (v0 + 1)) hx fl_RX3_11 (k_H0 hv0) rfl (k_Hr0 hv0) dX3_pass_69 ?_
      refine J_iload hx dX3_pass_72 5 rfl ?_
      obtain ⟨b30, h⟩ := Ho_gd h
      refine J_aald (q := (k_cq v0 v5.toNatClampNeg)) hx (k_H1 hv0) (by decide) (by decide) b30 (k_Hr hv0) dX3_pass_74 ?_
      obtain ⟨t31, e32, h⟩ := Ho_bind h
      refine J_callVv hx lkV_RX3_83 (k_H2 hv0 b30) [] [] rfl rfl (Nat.le_of_ble_eq_true rfl) (Nat.le_of_ble_eq_true rfl) (s_X0_takeAnswer (k_H2 hv0 b30) ⟨t31, e32, ⟨rfl, rfl, rfl⟩⟩) dX3_pass_75 ?_
      refine J_goto hx dX3_pass_78 136 (by decide) ?_
      obtain ⟨x33, hx33, h⟩ := Ho_let h
      refine J_iinc (x := x33) (lv' := [(5, .int x33), (6, .int s0), (0, .ref (ad v0)), (2, .int v2), (3, .int v3), (4, .int v4)]) hx dX3_pass_136 5 rfl (by rw [hx33]; rfl) (by decide) rfl ?_
      refine J_goto hx dX3_pass_139 32 (by decide) ?_
      refine J_sub (lv' := [(0, .ref (ad v0)), (2, .int v2), (3, .int v3), (4, .int v4), (5, .int x33)]) hx [2, 3, 4, 5, 0] rfl ?_
      have h := Ho_some h
      exact h
def f_X3_pass_L32_b (v0 : Nat) (v2 : Int32) (v3 : Int32) (v4 : Int32) (v5 : Int32) (I : StI) : Option ((Int32 × StI) ⊕ (Int32 × StI)) :=
  (if (I v0 1) ≤ v5 then k_let (k_up I v0 4 ((I v0 4) + (1 : Int32))) (fun I7 => (if v4 = 0 then k_let (k_up I7 v0 6 ((I7 v0 6) + v3)) (fun I10 => some (.inr ((0 : Int32), I10))) else k_let (k_up I7 v0 5 ((I7 v0 5) + v3)) (fun I9 => some (.inr (v3, I9))))) else (if ((v2 >>> (v5 &&& 31)) &&& (1 : Int32)) = (1 : Int32) then f_X3_pass_j56 v0 v2 v3 v4 v5 (1 : Int32) I else f_X3_pass_j56 v0 v2 v3 v4 v5 (0 : Int32) I))
def f_X3_pass_L32 (v0 : Nat) (v2 : Int32) (v3 : Int32) (v4 : Int32) (n : Nat) (v5 : Int32) (I : StI) : Option (Int32 × StI) :=
  k_loop (fun s => f_X3_pass_L32_b v0 v2 v3 v4 s.1 s.2) n (v5, I)
set_option maxRecDepth 100000 in
set_option maxHeartbeats 4000000 in
theorem s_X3_pass_L32_b {X : k_C} {ad : Nat → Nat} {P : Option Value → StI → StL → Prop} {I : StI} {L : StL} (hx : Ok X cX3_pass RX3 7 (some .int) 3) (hQ : OkQ X ad P)  {v0 : Nat} {v2 : Int32} {v3 : Int32} {v4 : Int32} {v5 : Int32} (hv0 : k_isH v0) (h : Ho (f_X3_pass_L32_b v0 v2 v3 v4 v5 I) (Sum.elim (g_X3_pass_L32 X ad L v0 v2 v3 v4) (kr_X3_pass P L))) : J X ad 7 I L 32 [(0, .ref (ad v0)), (2, .int v2), (3, .int v3), (4, .int v4), (5, .int v5)] [] := by
  unfold f_X3_pass_L32_b at h
  refine J_iload hx dX3_pass_32 4 rfl ?_
  refine J_aload_n hx dX3_pass_34 0 rfl ?_
  refine J_getI hx fl_RX3_18 (k_H0 hv0) rfl dX3_pass_35 ?_
  refine J_ic_ge hx dX3_pass_38 142 (by decide) (fun c6 => ?_) (fun c6 => ?_)
  · have h := Ho_t c6 h
    refine J_aload_n hx dX3_pass_142 0 rfl ?_
    refine J_dup hx dX3_pass_143 rfl ?_
    refine J_getI hx fl_RX3_28 (k_H0 hv0) rfl dX3_pass_144 ?_
    refine J_iconst (v := (1 : Int32)) hx dX3_pass_147 (by decide) ?_
    refine J_iadd hx dX3_pass_148 ?_
    obtain ⟨I7, hI7, h⟩ := Ho_let h
    refine J_putI hx flW_RX3_28 (k_H0 hv0) rfl dX3_pass_149 hI7 ?_
    refine J_iload hx dX3_pass_152 3 rfl ?_
    refine J_if_ne hx dX3_pass_154 169 (by decide) (fun c8 => ?_) (fun c8 => ?_)
    · have h := Ho_f c8 h
      refine J_aload_n hx dX3_pass_169 0 rfl ?_
      refine J_dup hx dX3_pass_170 rfl ?_
      refine J_getI hx fl_RX3_31 (k_H0 hv0) rfl dX3_pass_171 ?_
      refine J_iload_n hx dX3_pass_174 2 rfl ?_
      refine J_iadd hx dX3_pass_175 ?_
      obtain ⟨I9, hI9, h⟩ := Ho_let h
      refine J_putI hx flW_RX3_31 (k_H0 hv0) rfl dX3_pass_176 hI9 ?_
      refine J_iload_n hx dX3_pass_179 2 rfl ?_
      have h := Ho_some h
      exact J_iret hx hQ dX3_pass_180 h
    · have h := Ho_t c8 h
      refine J_aload_n hx dX3_pass_157 0 rfl ?_
      refine J_dup hx dX3_pass_158 rfl ?_
      refine J_getI hx fl_RX3_34 (k_H0 hv0) rfl dX3_pass_159 ?_
      refine J_iload_n hx dX3_pass_162 2 rfl ?_
      refine J_iadd hx dX3_pass_163 ?_
      obtain ⟨I10, hI10, h⟩ := Ho_let h
      refine J_putI hx flW_RX3_34 (k_H0 hv0) rfl dX3_pass_164 hI10 ?_
      refine J_iconst (v := (0 : Int32)) hx dX3_pass_167 (by decide) ?_
      have h := Ho_some h
      exact J_iret hx hQ dX3_pass_168 h
  · have h := Ho_f c6 h
    refine J_iload_n hx dX3_pass_41 1 rfl ?_
    refine J_iload hx dX3_pass_42 4 rfl ?_
    refine J_ishr hx dX3_pass_44 ?_
    refine J_iconst (v := (1 : Int32)) hx dX3_pass_45 (by decide) ?_
    refine J_iand hx dX3_pass_46 ?_
    refine J_iconst (v := (1 : Int32)) hx dX3_pass_47 (by decide) ?_
    refine J_ic_ne hx dX3_pass_48 55 (by decide) (fun c11 => ?_) (fun c11 => ?_)
    · have h := Ho_f c11 h
      refine J_iconst (v := (0 : Int32)) hx dX3_pass_55 (by decide) ?_
      refine J_sub (lv' := [(0, .ref (ad v0)), (2, .int v2), (3, .int v3), (4, .int v4), (5, .int v5)]) hx [0, 1, 2, 3, 4] rfl ?_
      exact s_X3_pass_j56 hx hQ hv0 h
    · have h := Ho_t c11 h
      refine J_iconst (v := (1 : Int32)) hx dX3_pass_51 (by decide) ?_
      refine J_goto hx dX3_pass_52 56 (by decide) ?_
      refine J_sub (lv' := [(0, .ref (ad v0)), (2, .int v2), (3, .int v3), (4, .int v4), (5, .int v5)]) hx [0, 1, 2, 3, 4] rfl ?_
      exact s_X3_pass_j56 hx hQ hv0 h
set_option maxRecDepth 100000 in
set_option maxHeartbeats 4000000 in
theorem s_X3_pass_L32 {X : k_C} {ad : Nat → Nat} {P : Option Value → StI → StL → Prop} {I : StI} {L : StL} (hx : Ok X cX3_pass RX3 7 (some .int) 3) (hQ : OkQ X ad P)  {v0 : Nat} {v2 : Int32} {v3 : Int32} {v4 : Int32} {v5 : Int32} (hv0 : k_isH v0) (n : Nat) (h : Ho (f_X3_pass_L32 v0 v2 v3 v4 n v5 I) (kr_X3_pass P L)) : J X ad 7 I L 32 [(0, .ref (ad v0)), (2, .int v2), (3, .int v3), (4, .int v4), (5, .int v5)] [] := by
  exact k_loop_ho (G := g_X3_pass_L32 X ad L v0 v2 v3 v4) (fun s hs => s_X3_pass_L32_b hx hQ hv0 hs) n (v5, I) h
def f_X3_pass_j26 (v0 : Nat) (v2 : Int32) (v3 : Int32) (I : StI) : Option (Int32 × StI) :=
  f_X3_pass_L32 v0 v2 v3 (0 : Int32) k_fu (0 : Int32) I
set_option maxRecDepth 100000 in
set_option maxHeartbeats 4000000 in
theorem s_X3_pass_j26 {X : k_C} {ad : Nat → Nat} {P : Option Value → StI → StL → Prop} {I : StI} {L : StL} (hx : Ok X cX3_pass RX3 7 (some .int) 3) (hQ : OkQ X ad P)  {v0 : Nat} {v2 : Int32} {v3 : Int32} (hv0 : k_isH v0) (h : Ho (f_X3_pass_j26 v0 v2 v3 I) (kr_X3_pass P L)) : J X ad 7 I L 26 [(0, .ref (ad v0)), (2, .int v2), (3, .int v3)] [] := by
  unfold f_X3_pass_j26 at h
  refine J_iconst (v := (0 : Int32)) hx dX3_pass_26 (by decide) ?_
  refine J_istore (x := (0 : Int32)) (lv' := [(4, .int (0 : Int32)), (0, .ref (ad v0)), (2, .int v2), (3, .int v3)]) hx dX3_pass_27 rfl (by decide) rfl ?_
  refine J_iconst (v := (0 : Int32)) hx dX3_pass_29 (by decide) ?_
  refine J_istore (x := (0 : Int32)) (lv' := [(5, .int (0 : Int32)), (4, .int (0 : Int32)), (0, .ref (ad v0)), (2, .int v2), (3, .int v3)]) hx dX3_pass_30 rfl (by decide) rfl ?_
  refine J_sub (lv' := [(0, .ref (ad v0)), (2, .int v2), (3, .int v3), (4, .int (0 : Int32)), (5, .int (0 : Int32))]) hx [2, 3, 4, 1, 0] rfl ?_
  exact s_X3_pass_L32 hx hQ hv0 k_fu h
def f_X3_pass (v0 : Nat) (v1 : Int32) (I : StI) : Option (Int32 × StI) :=
  Option.bind (f_X3_calling v0 I) (fun t1 => Option.bind (f_J6_bitCount_0f7a4 t1) (fun t3 => (if v1 = 0 then f_X3_pass_j26 v0 t1 t3 I else (if (I v0 2) < t3 then f_X3_pass_j26 v0 t1 t3 I else f_X3_pass_L32 v0 t1 t3 (1 : Int32) k_fu (0 : Int32) I))))
set_option maxRecDepth 100000 in
set_option maxHeartbeats 4000000 in
theorem s_X3_pass {l : Launch} {ad : Nat → Nat} {P : Option Value → StI → StL → Prop} {I : StI} {L : StL} {v0 : Nat} {v1 : Int32} (hv0 : k_isH v0) (h : Ho (f_X3_pass v0 v1 I) (kr_X3_pass P L)) : k_Met l ad 3 yX3_pass cX3_pass 7 (some .int) [.ref (ad v0), .int v1] I L P := by
  refine k_enter (by decide +kernel) (Nat.le_of_ble_eq_true rfl) (fun X hl hx hQ => ?_)
  clear hl
  have hx : Ok X cX3_pass RX3 7 (some .int) 3 := hx
  show J X ad 7 I L 0 [(0, .ref (ad v0)), (1, .int v1)] []
  unfold f_X3_pass at h
  refine J_aload_n hx dX3_pass_0 0 rfl ?_
  obtain ⟨t1, e2, h⟩ := Ho_bind h
  refine J_callVi hx lkV_RX3_64 (k_H0 hv0) [] [] rfl rfl (Nat.le_of_ble_eq_true rfl) (Nat.le_of_ble_eq_true rfl) (s_X3_calling hv0 ⟨t1, e2, ⟨rfl, rfl, rfl⟩⟩) dX3_pass_1 ?_
  refine J_istore_n (x := t1) (lv' := [(2, .int t1), (0, .ref (ad v0)), (1, .int v1)]) hx dX3_pass_4 rfl (by decide) rfl ?_
  refine J_iload_n hx dX3_pass_5 0 rfl ?_
  obtain ⟨t3, e4, h⟩ := Ho_bind h
  refine J_callSi hx lkS_RX3_68 [.int t1] [] rfl rfl (Nat.le_of_ble_eq_true rfl) (Nat.le_of_ble_eq_true rfl) (s_J6_bitCount_0f7a4  ⟨t3, e4, ⟨rfl, rfl, rfl⟩⟩) dX3_pass_6 ?_
  refine J_istore_n (x := t3) (lv' := [(3, .int t3), (2, .int t1), (0, .ref (ad v0)), (1, .int v1)]) hx dX3_pass_9 rfl (by decide) rfl ?_
  refine J_iload_n hx dX3_pass_10 3 rfl ?_
  refine J_if_eq hx dX3_pass_11 26 (by decide) (fun c5 => ?_) (fun c5 => ?_)
  · have h := Ho_t c5 h
    refine J_sub (lv' := [(0, .ref (ad v0)), (2, .int t1), (3, .int t3)]) hx [2, 1, 0] rfl ?_
    exact s_X3_pass_j26 hx hQ hv0 h
  · have h := Ho_f c5 h
    refine J_iload_n hx dX3_pass_14 0 rfl ?_
    refine J_aload_n hx dX3_pass_15 2 rfl ?_
    refine J_getI hx fl_RX3_22 (k_H0 hv0) rfl dX3_pass_16 ?_
    refine J_ic_gt hx dX3_pass_19 26 (by decide) (fun c34 => ?_) (fun c34 => ?_)
    · have h := Ho_t c34 h
      refine J_sub (lv' := [(0, .ref (ad v0)), (2, .int t1), (3, .int t3)]) hx [2, 1, 0] rfl ?_
      exact s_X3_pass_j26 hx hQ hv0 h
    · have h := Ho_f c34 h
      refine J_iconst (v := (1 : Int32)) hx dX3_pass_22 (by decide) ?_
      refine J_goto hx dX3_pass_23 27 (by decide) ?_
      refine J_istore (x := (1 : Int32)) (lv' := [(4, .int (1 : Int32)), (3, .int t3), (2, .int t1), (0, .ref (ad v0)), (1, .int v1)]) hx dX3_pass_27 rfl (by decide) rfl ?_
      refine J_iconst (v := (0 : Int32)) hx dX3_pass_29 (by decide) ?_
      refine J_istore (x := (0 : Int32)) (lv' := [(5, .int (0 : Int32)), (4, .int (1 : Int32)), (3, .int t3), (2, .int t1), (0, .ref (ad v0)), (1, .int v1)]) hx dX3_pass_30 rfl (by decide) rfl ?_
      refine J_sub (lv' := [(0, .ref (ad v0)), (2, .int t1), (3, .int t3), (4, .int (1 : Int32)), (5, .int (0 : Int32))]) hx [4, 3, 2, 1, 0] rfl ?_
      exact s_X3_pass_L32 hx hQ hv0 k_fu h
abbrev kr_X3_answeredIn (P : Option Value → StI → StL → Prop) (L : StL) : Int32 × StI → Prop := fun t => P (some (.int t.1)) t.2 L
abbrev g_X3_answeredIn_L4 (X : k_C) (ad : Nat → Nat) (L : StL) (v0 : Nat) (v1 : Int32) : (Int32 × Int32 × StI) → Prop := fun s => J X ad 4 s.2.2 L 4 [(0, .ref (ad v0)), (1, .int v1), (2, .int s.1), (3, .int s.2.1)] []
def f_X3_answeredIn_L4_b (v0 : Nat) (v1 : Int32) (v2 : Int32) (v3 : Int32) (I : StI) : Option ((Int32 × Int32 × StI) ⊕ (Int32 × StI)) :=
  (if v1 ≤ v3 then some (.inr (v2, I)) else Option.bind (f_X3_isUp v0 I) (fun t2 => Option.bind (f_X3_pass v0 t2 I) (fun t4 => k_let (v2 + t4.1) (fun x6 => k_let (v3 + (1 : Int32)) (fun x7 => some (.inl (x6, x7, t4.2)))))))
def f_X3_answeredIn_L4 (v0 : Nat) (v1 : Int32) (n : Nat) (v2 : Int32) (v3 : Int32) (I : StI) : Option (Int32 × StI) :=
  k_loop (fun s => f_X3_answeredIn_L4_b v0 v1 s.1 s.2.1 s.2.2) n (v2, v3, I)
set_option maxRecDepth 100000 in
set_option maxHeartbeats 4000000 in
theorem s_X3_answeredIn_L4_b {X : k_C} {ad : Nat → Nat} {P : Option Value → StI → StL → Prop} {I : StI} {L : StL} (hx : Ok X cX3_answeredIn RX3 4 (some .int) 4) (hQ : OkQ X ad P)  {v0 : Nat} {v1 : Int32} {v2 : Int32} {v3 : Int32} (hv0 : k_isH v0) (h : Ho (f_X3_answeredIn_L4_b v0 v1 v2 v3 I) (Sum.elim (g_X3_answeredIn_L4 X ad L v0 v1) (kr_X3_answeredIn P L))) : J X ad 4 I L 4 [(0, .ref (ad v0)), (1, .int v1), (2, .int v2), (3, .int v3)] [] := by
  unfold f_X3_answeredIn_L4_b at h
  refine J_iload_n hx dX3_answeredIn_4 3 rfl ?_
  refine J_iload_n hx dX3_answeredIn_5 1 rfl ?_
  refine J_ic_ge hx dX3_answeredIn_6 26 (by decide) (fun c1 => ?_) (fun c1 => ?_)
  · have h := Ho_t c1 h
    refine J_iload_n hx dX3_answeredIn_26 2 rfl ?_
    have h := Ho_some h
    exact J_iret hx hQ dX3_answeredIn_27 h
  · have h := Ho_f c1 h
    refine J_iload_n hx dX3_answeredIn_9 2 rfl ?_
    refine J_aload_n hx dX3_answeredIn_10 0 rfl ?_
    refine J_aload_n hx dX3_answeredIn_11 0 rfl ?_
    obtain ⟨t2, e3, h⟩ := Ho_bind h
    refine J_callVi hx lkV_RX3_60 (k_H0 hv0) [] [.ref (ad v0), .int v2] rfl rfl (Nat.le_of_ble_eq_true rfl) (Nat.le_of_ble_eq_true rfl) (s_X3_isUp hv0 ⟨t2, e3, ⟨rfl, rfl, rfl⟩⟩) dX3_answeredIn_12 ?_
    obtain ⟨t4, e5, h⟩ := Ho_bind h
    refine J_callVi hx lkV_RX3_93 (k_H0 hv0) [.int t2] [.int v2] rfl rfl (Nat.le_of_ble_eq_true rfl) (Nat.le_of_ble_eq_true rfl) (s_X3_pass hv0 ⟨t4, e5, ⟨rfl, rfl, rfl⟩⟩) dX3_answeredIn_15 ?_
    refine J_iadd hx dX3_answeredIn_18 ?_
    obtain ⟨x6, hx6, h⟩ := Ho_let h
    refine J_istore_n (x := x6) (lv' := [(2, .int x6), (0, .ref (ad v0)), (1, .int v1), (3, .int v3)]) hx dX3_answeredIn_19 hx6 (by decide) rfl ?_
    obtain ⟨x7, hx7, h⟩ := Ho_let h
    refine J_iinc (x := x7) (lv' := [(3, .int x7), (2, .int x6), (0, .ref (ad v0)), (1, .int v1)]) hx dX3_answeredIn_20 3 rfl (by rw [hx7]; rfl) (by decide) rfl ?_
    refine J_goto hx dX3_answeredIn_23 4 (by decide) ?_
    refine J_sub (lv' := [(0, .ref (ad v0)), (1, .int v1), (2, .int x6), (3, .int x7)]) hx [2, 3, 1, 0] rfl ?_
    have h := Ho_some h
    exact h
set_option maxRecDepth 100000 in
set_option maxHeartbeats 4000000 in
theorem s_X3_answeredIn_L4 {X : k_C} {ad : Nat → Nat} {P : Option Value → StI → StL → Prop} {I : StI} {L : StL} (hx : Ok X cX3_answeredIn RX3 4 (some .int) 4) (hQ : OkQ X ad P)  {v0 : Nat} {v1 : Int32} {v2 : Int32} {v3 : Int32} (hv0 : k_isH v0) (n : Nat) (h : Ho (f_X3_answeredIn_L4 v0 v1 n v2 v3 I) (kr_X3_answeredIn P L)) : J X ad 4 I L 4 [(0, .ref (ad v0)), (1, .int v1), (2, .int v2), (3, .int v3)] [] := by
  exact k_loop_ho (G := g_X3_answeredIn_L4 X ad L v0 v1) (fun s hs => s_X3_answeredIn_L4_b hx hQ hv0 hs) n (v2, v3, I) h
def f_X3_answeredIn (v0 : Nat) (v1 : Int32) (I : StI) : Option (Int32 × StI) :=
  f_X3_answeredIn_L4 v0 v1 k_fu (0 : Int32) (0 : Int32) I
set_option maxRecDepth 100000 in
set_option maxHeartbeats 4000000 in
theorem s_X3_answeredIn {l : Launch} {ad : Nat → Nat} {P : Option Value → StI → StL → Prop} {I : StI} {L : StL} {v0 : Nat} {v1 : Int32} (hv0 : k_isH v0) (h : Ho (f_X3_answeredIn v0 v1 I) (kr_X3_answeredIn P L)) : k_Met l ad 4 yX3_answeredIn cX3_answeredIn 4 (some .int) [.ref (ad v0), .int v1] I L P := by
  refine k_enter (by decide +kernel) (Nat.le_of_ble_eq_true rfl) (fun X hl hx hQ => ?_)
  clear hl
  have hx : Ok X cX3_answeredIn RX3 4 (some .int) 4 := hx
  show J X ad 4 I L 0 [(0, .ref (ad v0)), (1, .int v1)] []
  unfold f_X3_answeredIn at h
  refine J_iconst (v := (0 : Int32)) hx dX3_answeredIn_0 (by decide) ?_
  refine J_istore_n (x := (0 : Int32)) (lv' := [(2, .int (0 : Int32)), (0, .ref (ad v0)), (1, .int v1)]) hx dX3_answeredIn_1 rfl (by decide) rfl ?_
  refine J_iconst (v := (0 : Int32)) hx dX3_answeredIn_2 (by decide) ?_
  refine J_istore_n (x := (0 : Int32)) (lv' := [(3, .int (0 : Int32)), (2, .int (0 : Int32)), (0, .ref (ad v0)), (1, .int v1)]) hx dX3_answeredIn_3 rfl (by decide) rfl ?_
  refine J_sub (lv' := [(0, .ref (ad v0)), (1, .int v1), (2, .int (0 : Int32)), (3, .int (0 : Int32))]) hx [2, 3, 1, 0] rfl ?_
  exact s_X3_answeredIn_L4 hx hQ hv0 k_fu h
abbrev kr_X3_become (P : Option Value → StI → StL → Prop) (L : StL) : StI → Prop := fun t => P none t L
abbrev g_X3_become_L58 (X : k_C) (ad : Nat → Nat) (L : StL) (v0 : Nat) (v1 : Nat) : (Int32 × StI) → Prop := fun s => J X ad 3 s.2 L 58 [(0, .ref (ad v0)), (1, .ref (ad v1)), (2, .int s.1)] []
def f_X3_become_L58_b (v0 : Nat) (v1 : Nat) (v2 : Int32) (I : StI) : Option ((Int32 × StI) ⊕ (StI)) :=
  (if (I v0 1) ≤ v2 then some (.inr (I)) else k_gd v2 7 (k_gd v2 7 (Option.bind (f_X0_become (k_cq v0 v2.toNatClampNeg) (k_cq v1 v2.toNatClampNeg) I) (fun t11 => k_let (v2 + (1 : Int32)) (fun x13 => some (.inl (x13, t11)))))))
def f_X3_become_L58 (v0 : Nat) (v1 : Nat) (n : Nat) (v2 : Int32) (I : StI) : Option (StI) :=
  k_loop (fun s => f_X3_become_L58_b v0 v1 s.1 s.2) n (v2, I)
set_option maxRecDepth 100000 in
set_option maxHeartbeats 4000000 in
theorem s_X3_become_L58_b {X : k_C} {ad : Nat → Nat} {P : Option Value → StI → StL → Prop} {I : StI} {L : StL} (hx : Ok X cX3_become RX3 3 none 2) (hQ : OkQ X ad P)  {v0 : Nat} {v1 : Nat} {v2 : Int32} (hv0 : k_isH v0) (hv1 : k_isH v1) (h : Ho (f_X3_become_L58_b v0 v1 v2 I) (Sum.elim (g_X3_become_L58 X ad L v0 v1) (kr_X3_become P L))) : J X ad 3 I L 58 [(0, .ref (ad v0)), (1, .ref (ad v1)), (2, .int v2)] [] := by
  unfold f_X3_become_L58_b at h
  refine J_iload_n hx dX3_become_58 2 rfl ?_
  refine J_aload_n hx dX3_become_59 0 rfl ?_
  refine J_getI hx fl_RX3_18 (k_H0 hv0) rfl dX3_become_60 ?_
  refine J_ic_ge hx dX3_become_63 87 (by decide) (fun c8 => ?_) (fun c8 => ?_)
  · have h := Ho_t c8 h
    have h := Ho_some h
    exact J_vret hx hQ dX3_become_87 h
  · have h := Ho_f c8 h
    refine J_aload_n hx dX3_become_66 0 rfl ?_
    refine J_getR (q := (v0 + 1)) hx fl_RX3_11 (k_H0 hv0) rfl (k_Hr0 hv0) dX3_become_67 ?_
    refine J_iload_n hx dX3_become_70 2 rfl ?_
    obtain ⟨b9, h⟩ := Ho_gd h
    refine J_aald (q := (k_cq v0 v2.toNatClampNeg)) hx (k_H1 hv0) (by decide) (by decide) b9 (k_Hr hv0) dX3_become_71 ?_
    refine J_aload_n hx dX3_become_72 1 rfl ?_
    refine J_getR (q := (v1 + 1)) hx fl_RX3_11 (k_H0 hv1) rfl (k_Hr0 hv1) dX3_become_73 ?_
    refine J_iload_n hx dX3_become_76 2 rfl ?_
    obtain ⟨b10, h⟩ := Ho_gd h
    refine J_aald (q := (k_cq v1 v2.toNatClampNeg)) hx (k_H1 hv1) (by decide) (by decide) b10 (k_Hr hv1) dX3_become_77 ?_
    obtain ⟨t11, e12, h⟩ := Ho_bind h
    refine J_callVv hx lkV_RX3_40 (k_H2 hv0 b9) [.ref (ad (k_cq v1 v2.toNatClampNeg))] [] rfl rfl (Nat.le_of_ble_eq_true rfl) (Nat.le_of_ble_eq_true rfl) (s_X0_become (k_H2 hv0 b9) (k_H2 hv1 b10) ⟨t11, e12, ⟨rfl, rfl, rfl⟩⟩) dX3_become_78 ?_
    obtain ⟨x13, hx13, h⟩ := Ho_let h
    refine J_iinc (x := x13) (lv' := [(2, .int x13), (0, .ref (ad v0)), (1, .ref (ad v1))]) hx dX3_become_81 2 rfl (by rw [hx13]; rfl) (by decide) rfl ?_
    refine J_goto hx dX3_become_84 58 (by decide) ?_
    refine J_sub (lv' := [(0, .ref (ad v0)), (1, .ref (ad v1)), (2, .int x13)]) hx [1, 2, 0] rfl ?_
    have h := Ho_some h
    exact h
set_option maxRecDepth 100000 in
set_option maxHeartbeats 4000000 in
theorem s_X3_become_L58 {X : k_C} {ad : Nat → Nat} {P : Option Value → StI → StL → Prop} {I : StI} {L : StL} (hx : Ok X cX3_become RX3 3 none 2) (hQ : OkQ X ad P)  {v0 : Nat} {v1 : Nat} {v2 : Int32} (hv0 : k_isH v0) (hv1 : k_isH v1) (n : Nat) (h : Ho (f_X3_become_L58 v0 v1 n v2 I) (kr_X3_become P L)) : J X ad 3 I L 58 [(0, .ref (ad v0)), (1, .ref (ad v1)), (2, .int v2)] [] := by
  exact k_loop_ho (G := g_X3_become_L58 X ad L v0 v1) (fun s hs => s_X3_become_L58_b hx hQ hv0 hv1 hs) n (v2, I) h
def f_X3_become (v0 : Nat) (v1 : Nat) (I : StI) : Option (StI) :=
  k_let (k_up I v0 1 (I v1 1)) (fun I1 => k_let (k_up I1 v0 2 (I1 v1 2)) (fun I2 => k_let (k_up I2 v0 3 (I2 v1 3)) (fun I3 => k_let (k_up I3 v0 4 (I3 v1 4)) (fun I4 => k_let (k_up I4 v0 5 (I4 v1 5)) (fun I5 => k_let (k_up I5 v0 6 (I5 v1 6)) (fun I6 => k_let (k_up I6 v0 7 (I6 v1 7)) (fun I7 => f_X3_become_L58 v0 v1 k_fu (0 : Int32) I7)))))))
set_option maxRecDepth 100000 in
set_option maxHeartbeats 4000000 in
theorem s_X3_become {l : Launch} {ad : Nat → Nat} {P : Option Value → StI → StL → Prop} {I : StI} {L : StL} {v0 : Nat} {v1 : Nat} (hv0 : k_isH v0) (hv1 : k_isH v1) (h : Ho (f_X3_become v0 v1 I) (kr_X3_become P L)) : k_Met l ad 2 yX3_become cX3_become 3 none [.ref (ad v0), .ref (ad v1)] I L P := by
  refine k_enter (by decide +kernel) (Nat.le_of_ble_eq_true rfl) (fun X hl hx hQ => ?_)
  clear hl
  have hx : Ok X cX3_become RX3 3 none 2 := hx
  show J X ad 3 I L 0 [(0, .ref (ad v0)), (1, .ref (ad v1))] []
  unfold f_X3_become at h
  refine J_aload_n hx dX3_become_0 0 rfl ?_
  refine J_aload_n hx dX3_become_1 1 rfl ?_
  refine J_getI hx fl_RX3_18 (k_H0 hv1) rfl dX3_become_2 ?_
  obtain ⟨I1, hI1, h⟩ := Ho_let h
  refine J_putI hx flW_RX3_18 (k_H0 hv0) rfl dX3_become_5 hI1 ?_
  refine J_aload_n hx dX3_become_8 0 rfl ?_
  refine J_aload_n hx dX3_become_9 1 rfl ?_
  refine J_getI hx fl_RX3_22 (k_H0 hv1) rfl dX3_become_10 ?_
  obtain ⟨I2, hI2, h⟩ := Ho_let h
  refine J_putI hx flW_RX3_22 (k_H0 hv0) rfl dX3_become_13 hI2 ?_
  refine J_aload_n hx dX3_become_16 0 rfl ?_
  refine J_aload_n hx dX3_become_17 1 rfl ?_
  refine J_getI hx fl_RX3_25 (k_H0 hv1) rfl dX3_become_18 ?_
  obtain ⟨I3, hI3, h⟩ := Ho_let h
  refine J_putI hx flW_RX3_25 (k_H0 hv0) rfl dX3_become_21 hI3 ?_
  refine J_aload_n hx dX3_become_24 0 rfl ?_
  refine J_aload_n hx dX3_become_25 1 rfl ?_
  refine J_getI hx fl_RX3_28 (k_H0 hv1) rfl dX3_become_26 ?_
  obtain ⟨I4, hI4, h⟩ := Ho_let h
  refine J_putI hx flW_RX3_28 (k_H0 hv0) rfl dX3_become_29 hI4 ?_
  refine J_aload_n hx dX3_become_32 0 rfl ?_
  refine J_aload_n hx dX3_become_33 1 rfl ?_
  refine J_getI hx fl_RX3_31 (k_H0 hv1) rfl dX3_become_34 ?_
  obtain ⟨I5, hI5, h⟩ := Ho_let h
  refine J_putI hx flW_RX3_31 (k_H0 hv0) rfl dX3_become_37 hI5 ?_
  refine J_aload_n hx dX3_become_40 0 rfl ?_
  refine J_aload_n hx dX3_become_41 1 rfl ?_
  refine J_getI hx fl_RX3_34 (k_H0 hv1) rfl dX3_become_42 ?_
  obtain ⟨I6, hI6, h⟩ := Ho_let h
  refine J_putI hx flW_RX3_34 (k_H0 hv0) rfl dX3_become_45 hI6 ?_
  refine J_aload_n hx dX3_become_48 0 rfl ?_
  refine J_aload_n hx dX3_become_49 1 rfl ?_
  refine J_getI hx fl_RX3_37 (k_H0 hv1) rfl dX3_become_50 ?_
  obtain ⟨I7, hI7, h⟩ := Ho_let h
  refine J_putI hx flW_RX3_37 (k_H0 hv0) rfl dX3_become_53 hI7 ?_
  refine J_iconst (v := (0 : Int32)) hx dX3_become_56 (by decide) ?_
  refine J_istore_n (x := (0 : Int32)) (lv' := [(2, .int (0 : Int32)), (0, .ref (ad v0)), (1, .ref (ad v1))]) hx dX3_become_57 rfl (by decide) rfl ?_
  refine J_sub (lv' := [(0, .ref (ad v0)), (1, .ref (ad v1)), (2, .int (0 : Int32))]) hx [1, 2, 0] rfl ?_
  exact s_X3_become_L58 hx hQ hv0 hv1 k_fu h
abbrev kr_X3_callersOf (P : Option Value → StI → StL → Prop) (I : StI) (L : StL) : Int32 → Prop := fun t => P (some (.int t)) I L
abbrev g_X3_callersOf_L4 (X : k_C) (ad : Nat → Nat) (I : StI) (L : StL) (v0 : Nat) (v1 : Int32) : (Int32 × Int32) → Prop := fun s => J X ad 4 I L 4 [(0, .ref (ad v0)), (1, .int v1), (2, .int s.1), (3, .int s.2)] []
def f_X3_callersOf_L4_b (v0 : Nat) (v1 : Int32) (v2 : Int32) (v3 : Int32) (I : StI) : Option ((Int32 × Int32) ⊕ (Int32)) :=
  (if (I v0 1) ≤ v3 then some (.inr (v2)) else k_gd v3 7 (Option.bind (f_X0_isOf (k_cq v0 v3.toNatClampNeg) v1 I) (fun t3 => (if t3 = 0 then k_let (v3 + (1 : Int32)) (fun x6 => some (.inl (v2, x6))) else k_let (v2 + (1 : Int32)) (fun x7 => k_let (v3 + (1 : Int32)) (fun x8 => some (.inl (x7, x8))))))))
def f_X3_callersOf_L4 (v0 : Nat) (v1 : Int32) (I : StI) (n : Nat) (v2 : Int32) (v3 : Int32) : Option (Int32) :=
  k_loop (fun s => f_X3_callersOf_L4_b v0 v1 s.1 s.2 I) n (v2, v3)
set_option maxRecDepth 100000 in
set_option maxHeartbeats 4000000 in
theorem s_X3_callersOf_L4_b {X : k_C} {ad : Nat → Nat} {P : Option Value → StI → StL → Prop} {I : StI} {L : StL} (hx : Ok X cX3_callersOf RX3 4 (some .int) 2) (hQ : OkQ X ad P)  {v0 : Nat} {v1 : Int32} {v2 : Int32} {v3 : Int32} (hv0 : k_isH v0) (h : Ho (f_X3_callersOf_L4_b v0 v1 v2 v3 I) (Sum.elim (g_X3_callersOf_L4 X ad I L v0 v1) (kr_X3_callersOf P I L))) : J X ad 4 I L 4 [(0, .ref (ad v0)), (1, .int v1), (2, .int v2), (3, .int v3)] [] := by
  unfold f_X3_callersOf_L4_b at h
  refine J_iload_n hx dX3_callersOf_4 3 rfl ?_
  refine J_aload_n hx dX3_callersOf_5 0 rfl ?_
  refine J_getI hx fl_RX3_18 (k_H0 hv0) rfl dX3_callersOf_6 ?_
  refine J_ic_ge hx dX3_callersOf_9 34 (by decide) (fun c1 => ?_) (fun c1 => ?_)
  · have h := Ho_t c1 h
    refine J_iload_n hx dX3_callersOf_34 2 rfl ?_
    have h := Ho_some h
    exact J_iret hx hQ dX3_callersOf_35 h
  · have h := Ho_f c1 h
    refine J_aload_n hx dX3_callersOf_12 0 rfl ?_
    refine J_getR (q := (v0 + 1)) hx fl_RX3_11 (k_H0 hv0) rfl (k_Hr0 hv0) dX3_callersOf_13 ?_
    refine J_iload_n hx dX3_callersOf_16 3 rfl ?_
    obtain ⟨b2, h⟩ := Ho_gd h
    refine J_aald (q := (k_cq v0 v3.toNatClampNeg)) hx (k_H1 hv0) (by decide) (by decide) b2 (k_Hr hv0) dX3_callersOf_17 ?_
    refine J_iload_n hx dX3_callersOf_18 1 rfl ?_
    obtain ⟨t3, e4, h⟩ := Ho_bind h
    refine J_callVi hx lkV_RX3_80 (k_H2 hv0 b2) [.int v1] [] rfl rfl (Nat.le_of_ble_eq_true rfl) (Nat.le_of_ble_eq_true rfl) (s_X0_isOf (k_H2 hv0 b2) ⟨t3, e4, ⟨rfl, rfl, rfl⟩⟩) dX3_callersOf_19 ?_
    refine J_if_eq hx dX3_callersOf_22 28 (by decide) (fun c5 => ?_) (fun c5 => ?_)
    · have h := Ho_t c5 h
      obtain ⟨x6, hx6, h⟩ := Ho_let h
      refine J_iinc (x := x6) (lv' := [(3, .int x6), (0, .ref (ad v0)), (1, .int v1), (2, .int v2)]) hx dX3_callersOf_28 3 rfl (by rw [hx6]; rfl) (by decide) rfl ?_
      refine J_goto hx dX3_callersOf_31 4 (by decide) ?_
      refine J_sub (lv' := [(0, .ref (ad v0)), (1, .int v1), (2, .int v2), (3, .int x6)]) hx [1, 2, 3, 0] rfl ?_
      have h := Ho_some h
      exact h
    · have h := Ho_f c5 h
      obtain ⟨x7, hx7, h⟩ := Ho_let h
      refine J_iinc (x := x7) (lv' := [(2, .int x7), (0, .ref (ad v0)), (1, .int v1), (3, .int v3)]) hx dX3_callersOf_25 2 rfl (by rw [hx7]; rfl) (by decide) rfl ?_
      obtain ⟨x8, hx8, h⟩ := Ho_let h
      refine J_iinc (x := x8) (lv' := [(3, .int x8), (2, .int x7), (0, .ref (ad v0)), (1, .int v1)]) hx dX3_callersOf_28 3 rfl (by rw [hx8]; rfl) (by decide) rfl ?_
      refine J_goto hx dX3_callersOf_31 4 (by decide) ?_
      refine J_sub (lv' := [(0, .ref (ad v0)), (1, .int v1), (2, .int x7), (3, .int x8)]) hx [2, 3, 1, 0] rfl ?_
      have h := Ho_some h
      exact h
set_option maxRecDepth 100000 in
set_option maxHeartbeats 4000000 in
theorem s_X3_callersOf_L4 {X : k_C} {ad : Nat → Nat} {P : Option Value → StI → StL → Prop} {I : StI} {L : StL} (hx : Ok X cX3_callersOf RX3 4 (some .int) 2) (hQ : OkQ X ad P)  {v0 : Nat} {v1 : Int32} {v2 : Int32} {v3 : Int32} (hv0 : k_isH v0) (n : Nat) (h : Ho (f_X3_callersOf_L4 v0 v1 I n v2 v3) (kr_X3_callersOf P I L)) : J X ad 4 I L 4 [(0, .ref (ad v0)), (1, .int v1), (2, .int v2), (3, .int v3)] [] := by
  exact k_loop_ho (G := g_X3_callersOf_L4 X ad I L v0 v1) (fun s hs => s_X3_callersOf_L4_b hx hQ hv0 hs) n (v2, v3) h
def f_X3_callersOf (v0 : Nat) (v1 : Int32) (I : StI) : Option (Int32) :=
  f_X3_callersOf_L4 v0 v1 I k_fu (0 : Int32) (0 : Int32)
set_option maxRecDepth 100000 in
set_option maxHeartbeats 4000000 in
theorem s_X3_callersOf {l : Launch} {ad : Nat → Nat} {P : Option Value → StI → StL → Prop} {I : StI} {L : StL} {v0 : Nat} {v1 : Int32} (hv0 : k_isH v0) (h : Ho (f_X3_callersOf v0 v1 I) (kr_X3_callersOf P I L)) : k_Met l ad 2 yX3_callersOf cX3_callersOf 4 (some .int) [.ref (ad v0), .int v1] I L P := by
  refine k_enter (by decide +kernel) (Nat.le_of_ble_eq_true rfl) (fun X hl hx hQ => ?_)
  clear hl
  have hx : Ok X cX3_callersOf RX3 4 (some .int) 2 := hx
  show J X ad 4 I L 0 [(0, .ref (ad v0)), (1, .int v1)] []
  unfold f_X3_callersOf at h
  refine J_iconst (v := (0 : Int32)) hx dX3_callersOf_0 (by decide) ?_
  refine J_istore_n (x := (0 : Int32)) (lv' := [(2, .int (0 : Int32)), (0, .ref (ad v0)), (1, .int v1)]) hx dX3_callersOf_1 rfl (by decide) rfl ?_
  refine J_iconst (v := (0 : Int32)) hx dX3_callersOf_2 (by decide) ?_
  refine J_istore_n (x := (0 : Int32)) (lv' := [(3, .int (0 : Int32)), (2, .int (0 : Int32)), (0, .ref (ad v0)), (1, .int v1)]) hx dX3_callersOf_3 rfl (by decide) rfl ?_
  refine J_sub (lv' := [(0, .ref (ad v0)), (1, .int v1), (2, .int (0 : Int32)), (3, .int (0 : Int32))]) hx [2, 3, 1, 0] rfl ?_
  exact s_X3_callersOf_L4 hx hQ hv0 k_fu h
abbrev kr_X3_carryOut (P : Option Value → StI → StL → Prop) (L : StL) : StI → Prop := fun t => P none t L
def f_X3_carryOut (v0 : Nat) (v1 : Int32) (v2 : Int32) (v3 : Int32) (I : StI) : Option (StI) :=
  (if v1 = (1 : Int32) then Option.bind (f_X3_isUp v0 I) (fun t2 => Option.bind (f_X3_pass v0 t2 I) (fun t4 => some (t4.2))) else (if v1 = (2 : Int32) then k_let (k_up I v0 3 ((I v0 3) ^^^ ((1 : Int32) <<< (v2 &&& 31)))) (fun I7 => some (I7)) else (if v1 = (3 : Int32) then k_let (k_up I v0 2 v3) (fun I9 => some (I9)) else (if v1 = (4 : Int32) then k_gd v2 7 (k_let (k_up I (k_cq v0 v2.toNatClampNeg) 1 v3) (fun I12 => some (I12))) else (if v1 = (5 : Int32) then k_gd v2 7 (Option.bind (f_X0_renew (k_cq v0 v2.toNatClampNeg) I) (fun t15 => some (t15))) else some (I))))))
set_option maxRecDepth 100000 in
set_option maxHeartbeats 4000000 in
theorem s_X3_carryOut {l : Launch} {ad : Nat → Nat} {P : Option Value → StI → StL → Prop} {I : StI} {L : StL} {v0 : Nat} {v1 : Int32} {v2 : Int32} {v3 : Int32} (hv0 : k_isH v0) (h : Ho (f_X3_carryOut v0 v1 v2 v3 I) (kr_X3_carryOut P L)) : k_Met l ad 4 yX3_carryOut cX3_carryOut 4 none [.ref (ad v0), .int v1, .int v2, .int v3] I L P := by
  refine k_enter (by decide +kernel) (Nat.le_of_ble_eq_true rfl) (fun X hl hx hQ => ?_)
  clear hl
  have hx : Ok X cX3_carryOut RX3 4 none 4 := hx
  show J X ad 4 I L 0 [(0, .ref (ad v0)), (1, .int v1), (2, .int v2), (3, .int v3)] []
  unfold f_X3_carryOut at h
  refine J_iload_n hx dX3_carryOut_0 1 rfl ?_
  by_cases c1 : v1 = (1 : Int32)
  · have h := Ho_t c1 h
    refine J_tIn (x' := (1 : Int32)) (off := 35) hx dX3_carryOut_1 c1 (by decide) (by decide) (by decide) 36 (by decide) ?_
    refine J_aload_n hx dX3_carryOut_36 0 rfl ?_
    refine J_aload_n hx dX3_carryOut_37 0 rfl ?_
    obtain ⟨t2, e3, h⟩ := Ho_bind h
    refine J_callVi hx lkV_RX3_60 (k_H0 hv0) [] [.ref (ad v0)] rfl rfl (Nat.le_of_ble_eq_true rfl) (Nat.le_of_ble_eq_true rfl) (s_X3_isUp hv0 ⟨t2, e3, ⟨rfl, rfl, rfl⟩⟩) dX3_carryOut_38 ?_
    obtain ⟨t4, e5, h⟩ := Ho_bind h
    refine J_callVi hx lkV_RX3_93 (k_H0 hv0) [.int t2] [] rfl rfl (Nat.le_of_ble_eq_true rfl) (Nat.le_of_ble_eq_true rfl) (s_X3_pass hv0 ⟨t4, e5, ⟨rfl, rfl, rfl⟩⟩) dX3_carryOut_41 ?_
    refine J_pop hx dX3_carryOut_44 rfl ?_
    refine J_goto hx dX3_carryOut_45 96 (by decide) ?_
    have h := Ho_some h
    exact J_vret hx hQ dX3_carryOut_96 h
  have h := Ho_f c1 h
  by_cases c6 : v1 = (2 : Int32)
  · have h := Ho_t c6 h
    refine J_tIn (x' := (2 : Int32)) (off := 47) hx dX3_carryOut_1 c6 (by decide) (by decide) (by decide) 48 (by decide) ?_
    refine J_aload_n hx dX3_carryOut_48 0 rfl ?_
    refine J_dup hx dX3_carryOut_49 rfl ?_
    refine J_getI hx fl_RX3_25 (k_H0 hv0) rfl dX3_carryOut_50 ?_
    refine J_iconst (v := (1 : Int32)) hx dX3_carryOut_53 (by decide) ?_
    refine J_iload_n hx dX3_carryOut_54 2 rfl ?_
    refine J_ishl hx dX3_carryOut_55 ?_
    refine J_ixor hx dX3_carryOut_56 ?_
    obtain ⟨I7, hI7, h⟩ := Ho_let h
    refine J_putI hx flW_RX3_25 (k_H0 hv0) rfl dX3_carryOut_57 hI7 ?_
    refine J_goto hx dX3_carryOut_60 96 (by decide) ?_
    have h := Ho_some h
    exact J_vret hx hQ dX3_carryOut_96 h
  have h := Ho_f c6 h
  by_cases c8 : v1 = (3 : Int32)
  · have h := Ho_t c8 h
    refine J_tIn (x' := (3 : Int32)) (off := 62) hx dX3_carryOut_1 c8 (by decide) (by decide) (by decide) 63 (by decide) ?_
    refine J_aload_n hx dX3_carryOut_63 0 rfl ?_
    refine J_iload_n hx dX3_carryOut_64 3 rfl ?_
    obtain ⟨I9, hI9, h⟩ := Ho_let h
    refine J_putI hx flW_RX3_22 (k_H0 hv0) rfl dX3_carryOut_65 hI9 ?_
    refine J_goto hx dX3_carryOut_68 96 (by decide) ?_
    have h := Ho_some h
    exact J_vret hx hQ dX3_carryOut_96 h
  have h := Ho_f c8 h
  by_cases c10 : v1 = (4 : Int32)
  · have h := Ho_t c10 h
    refine J_tIn (x' := (4 : Int32)) (off := 70) hx dX3_carryOut_1 c10 (by decide) (by decide) (by decide) 71 (by decide) ?_
    refine J_aload_n hx dX3_carryOut_71 0 rfl ?_
    refine J_getR (q := (v0 + 1)) hx fl_RX3_11 (k_H0 hv0) rfl (k_Hr0 hv0) dX3_carryOut_72 ?_
    refine J_iload_n hx dX3_carryOut_75 2 rfl ?_
    obtain ⟨b11, h⟩ := Ho_gd h
    refine J_aald (q := (k_cq v0 v2.toNatClampNeg)) hx (k_H1 hv0) (by decide) (by decide) b11 (k_Hr hv0) dX3_carryOut_76 ?_
    refine J_iload_n hx dX3_carryOut_77 3 rfl ?_
    obtain ⟨I12, hI12, h⟩ := Ho_let h
    refine J_putI hx flW_RX3_97 (k_H2 hv0 b11) rfl dX3_carryOut_78 hI12 ?_
    refine J_goto hx dX3_carryOut_81 96 (by decide) ?_
    have h := Ho_some h
    exact J_vret hx hQ dX3_carryOut_96 h
  have h := Ho_f c10 h
  by_cases c13 : v1 = (5 : Int32)
  · have h := Ho_t c13 h
    refine J_tIn (x' := (5 : Int32)) (off := 83) hx dX3_carryOut_1 c13 (by decide) (by decide) (by decide) 84 (by decide) ?_
    refine J_aload_n hx dX3_carryOut_84 0 rfl ?_
    refine J_getR (q := (v0 + 1)) hx fl_RX3_11 (k_H0 hv0) rfl (k_Hr0 hv0) dX3_carryOut_85 ?_
    refine J_iload_n hx dX3_carryOut_88 2 rfl ?_
    obtain ⟨b14, h⟩ := Ho_gd h
    refine J_aald (q := (k_cq v0 v2.toNatClampNeg)) hx (k_H1 hv0) (by decide) (by decide) b14 (k_Hr hv0) dX3_carryOut_89 ?_
    obtain ⟨t15, e16, h⟩ := Ho_bind h
    refine J_callVv hx lkV_RX3_100 (k_H2 hv0 b14) [] [] rfl rfl (Nat.le_of_ble_eq_true rfl) (Nat.le_of_ble_eq_true rfl) (s_X0_renew (k_H2 hv0 b14) ⟨t15, e16, ⟨rfl, rfl, rfl⟩⟩) dX3_carryOut_90 ?_
    refine J_goto hx dX3_carryOut_93 96 (by decide) ?_
    have h := Ho_some h
    exact J_vret hx hQ dX3_carryOut_96 h
  have h := Ho_f c13 h
  refine J_tDef hx dX3_carryOut_1 [(1 : Int32), (2 : Int32), (3 : Int32), (4 : Int32), (5 : Int32)] (List.forall_mem_cons.mpr ⟨c1, List.forall_mem_cons.mpr ⟨c6, List.forall_mem_cons.mpr ⟨c8, List.forall_mem_cons.mpr ⟨c10, List.forall_mem_cons.mpr ⟨c13, fun _ z => absurd z List.not_mem_nil⟩⟩⟩⟩⟩) (by decide) (by decide) 96 (by decide) ?_
  have h := Ho_some h
  exact J_vret hx hQ dX3_carryOut_96 h
abbrev kr_X3_clear (P : Option Value → StI → StL → Prop) (L : StL) : StI → Prop := fun t => P none t L
def f_X3_clear (v0 : Nat) (I : StI) : Option (StI) :=
  k_let (k_up I v0 1 (0 : Int32)) (fun I1 => k_let (k_up I1 v0 2 (0 : Int32)) (fun I2 => k_let (k_up I2 v0 3 (255 : Int32)) (fun I3 => k_let (k_up I3 v0 4 (0 : Int32)) (fun I4 => k_let (k_up I4 v0 5 (0 : Int32)) (fun I5 => k_let (k_up I5 v0 6 (0 : Int32)) (fun I6 => k_let (k_up I6 v0 7 (0 : Int32)) (fun I7 => some (I7))))))))
set_option maxRecDepth 100000 in
set_option maxHeartbeats 4000000 in
theorem s_X3_clear {l : Launch} {ad : Nat → Nat} {P : Option Value → StI → StL → Prop} {I : StI} {L : StL} {v0 : Nat} (hv0 : k_isH v0) (h : Ho (f_X3_clear v0 I) (kr_X3_clear P L)) : k_Met l ad 1 yX3_clear cX3_clear 1 none [.ref (ad v0)] I L P := by
  refine k_enter (by decide +kernel) (Nat.le_of_ble_eq_true rfl) (fun X hl hx hQ => ?_)
  clear hl
  have hx : Ok X cX3_clear RX3 1 none 1 := hx
  show J X ad 1 I L 0 [(0, .ref (ad v0))] []
  unfold f_X3_clear at h
  refine J_aload_n hx dX3_clear_0 0 rfl ?_
  refine J_iconst (v := (0 : Int32)) hx dX3_clear_1 (by decide) ?_
  obtain ⟨I1, hI1, h⟩ := Ho_let h
  refine J_putI hx flW_RX3_18 (k_H0 hv0) rfl dX3_clear_2 hI1 ?_
  refine J_aload_n hx dX3_clear_5 0 rfl ?_
  refine J_iconst (v := (0 : Int32)) hx dX3_clear_6 (by decide) ?_
  obtain ⟨I2, hI2, h⟩ := Ho_let h
  refine J_putI hx flW_RX3_22 (k_H0 hv0) rfl dX3_clear_7 hI2 ?_
  refine J_aload_n hx dX3_clear_10 0 rfl ?_
  refine J_sipush (v := (255 : Int32)) hx dX3_clear_11 (by decide) ?_
  obtain ⟨I3, hI3, h⟩ := Ho_let h
  refine J_putI hx flW_RX3_25 (k_H0 hv0) rfl dX3_clear_14 hI3 ?_
  refine J_aload_n hx dX3_clear_17 0 rfl ?_
  refine J_iconst (v := (0 : Int32)) hx dX3_clear_18 (by decide) ?_
  obtain ⟨I4, hI4, h⟩ := Ho_let h
  refine J_putI hx flW_RX3_28 (k_H0 hv0) rfl dX3_clear_19 hI4 ?_
  refine J_aload_n hx dX3_clear_22 0 rfl ?_
  refine J_iconst (v := (0 : Int32)) hx dX3_clear_23 (by decide) ?_
  obtain ⟨I5, hI5, h⟩ := Ho_let h
  refine J_putI hx flW_RX3_31 (k_H0 hv0) rfl dX3_clear_24 hI5 ?_
  refine J_aload_n hx dX3_clear_27 0 rfl ?_
  refine J_iconst (v := (0 : Int32)) hx dX3_clear_28 (by decide) ?_
  obtain ⟨I6, hI6, h⟩ := Ho_let h
  refine J_putI hx flW_RX3_34 (k_H0 hv0) rfl dX3_clear_29 hI6 ?_
  refine J_aload_n hx dX3_clear_32 0 rfl ?_
  refine J_iconst (v := (0 : Int32)) hx dX3_clear_33 (by decide) ?_
  obtain ⟨I7, hI7, h⟩ := Ho_let h
  refine J_putI hx flW_RX3_37 (k_H0 hv0) rfl dX3_clear_34 hI7 ?_
  have h := Ho_some h
  exact J_vret hx hQ dX3_clear_37 h
abbrev kr_X3_open (P : Option Value → StI → StL → Prop) (I : StI) (L : StL) : Int32 → Prop := fun t => P (some (.int t)) I L
abbrev g_X3_open_L4 (X : k_C) (ad : Nat → Nat) (I : StI) (L : StL) (v0 : Nat) : (Int32 × Int32) → Prop := fun s => J X ad 3 I L 4 [(0, .ref (ad v0)), (1, .int s.1), (2, .int s.2)] []
def f_X3_open_L4_b (v0 : Nat) (v1 : Int32) (v2 : Int32) (I : StI) : Option ((Int32 × Int32) ⊕ (Int32)) :=
  (if (I v0 1) ≤ v2 then some (.inr (v1)) else k_gd v2 7 ((if (I (k_cq v0 v2.toNatClampNeg) 3) = (1 : Int32) then k_let (v1 ||| ((1 : Int32) <<< (v2 &&& 31))) (fun x5 => k_let (v2 + (1 : Int32)) (fun x6 => some (.inl (x5, x6)))) else k_let (v2 + (1 : Int32)) (fun x4 => some (.inl (v1, x4))))))
def f_X3_open_L4 (v0 : Nat) (I : StI) (n : Nat) (v1 : Int32) (v2 : Int32) : Option (Int32) :=
  k_loop (fun s => f_X3_open_L4_b v0 s.1 s.2 I) n (v1, v2)
set_option maxRecDepth 100000 in
set_option maxHeartbeats 4000000 in
theorem s_X3_open_L4_b {X : k_C} {ad : Nat → Nat} {P : Option Value → StI → StL → Prop} {I : StI} {L : StL} (hx : Ok X cX3_open RX3 3 (some .int) 1) (hQ : OkQ X ad P)  {v0 : Nat} {v1 : Int32} {v2 : Int32} (hv0 : k_isH v0) (h : Ho (f_X3_open_L4_b v0 v1 v2 I) (Sum.elim (g_X3_open_L4 X ad I L v0) (kr_X3_open P I L))) : J X ad 3 I L 4 [(0, .ref (ad v0)), (1, .int v1), (2, .int v2)] [] := by
  unfold f_X3_open_L4_b at h
  refine J_iload_n hx dX3_open_4 2 rfl ?_
  refine J_aload_n hx dX3_open_5 0 rfl ?_
  refine J_getI hx fl_RX3_18 (k_H0 hv0) rfl dX3_open_6 ?_
  refine J_ic_ge hx dX3_open_9 37 (by decide) (fun c1 => ?_) (fun c1 => ?_)
  · have h := Ho_t c1 h
    refine J_iload_n hx dX3_open_37 1 rfl ?_
    have h := Ho_some h
    exact J_iret hx hQ dX3_open_38 h
  · have h := Ho_f c1 h
    refine J_aload_n hx dX3_open_12 0 rfl ?_
    refine J_getR (q := (v0 + 1)) hx fl_RX3_11 (k_H0 hv0) rfl (k_Hr0 hv0) dX3_open_13 ?_
    refine J_iload_n hx dX3_open_16 2 rfl ?_
    obtain ⟨b2, h⟩ := Ho_gd h
    refine J_aald (q := (k_cq v0 v2.toNatClampNeg)) hx (k_H1 hv0) (by decide) (by decide) b2 (k_Hr hv0) dX3_open_17 ?_
    refine J_getI hx fl_RX3_74 (k_H2 hv0 b2) rfl dX3_open_18 ?_
    refine J_iconst (v := (1 : Int32)) hx dX3_open_21 (by decide) ?_
    refine J_ic_ne hx dX3_open_22 31 (by decide) (fun c3 => ?_) (fun c3 => ?_)
    · have h := Ho_f c3 h
      obtain ⟨x4, hx4, h⟩ := Ho_let h
      refine J_iinc (x := x4) (lv' := [(2, .int x4), (0, .ref (ad v0)), (1, .int v1)]) hx dX3_open_31 2 rfl (by rw [hx4]; rfl) (by decide) rfl ?_
      refine J_goto hx dX3_open_34 4 (by decide) ?_
      refine J_sub (lv' := [(0, .ref (ad v0)), (1, .int v1), (2, .int x4)]) hx [1, 2, 0] rfl ?_
      have h := Ho_some h
      exact h
    · have h := Ho_t c3 h
      refine J_iload_n hx dX3_open_25 1 rfl ?_
      refine J_iconst (v := (1 : Int32)) hx dX3_open_26 (by decide) ?_
      refine J_iload_n hx dX3_open_27 2 rfl ?_
      refine J_ishl hx dX3_open_28 ?_
      refine J_ior hx dX3_open_29 ?_
      obtain ⟨x5, hx5, h⟩ := Ho_let h
      refine J_istore_n (x := x5) (lv' := [(1, .int x5), (0, .ref (ad v0)), (2, .int v2)]) hx dX3_open_30 hx5 (by decide) rfl ?_
      obtain ⟨x6, hx6, h⟩ := Ho_let h
      refine J_iinc (x := x6) (lv' := [(2, .int x6), (1, .int x5), (0, .ref (ad v0))]) hx dX3_open_31 2 rfl (by rw [hx6]; rfl) (by decide) rfl ?_
      refine J_goto hx dX3_open_34 4 (by decide) ?_
      refine J_sub (lv' := [(0, .ref (ad v0)), (1, .int x5), (2, .int x6)]) hx [2, 1, 0] rfl ?_
      have h := Ho_some h
      exact h
set_option maxRecDepth 100000 in
set_option maxHeartbeats 4000000 in
theorem s_X3_open_L4 {X : k_C} {ad : Nat → Nat} {P : Option Value → StI → StL → Prop} {I : StI} {L : StL} (hx : Ok X cX3_open RX3 3 (some .int) 1) (hQ : OkQ X ad P)  {v0 : Nat} {v1 : Int32} {v2 : Int32} (hv0 : k_isH v0) (n : Nat) (h : Ho (f_X3_open_L4 v0 I n v1 v2) (kr_X3_open P I L)) : J X ad 3 I L 4 [(0, .ref (ad v0)), (1, .int v1), (2, .int v2)] [] := by
  exact k_loop_ho (G := g_X3_open_L4 X ad I L v0) (fun s hs => s_X3_open_L4_b hx hQ hv0 hs) n (v1, v2) h
def f_X3_open (v0 : Nat) (I : StI) : Option (Int32) :=
  f_X3_open_L4 v0 I k_fu (0 : Int32) (0 : Int32)
set_option maxRecDepth 100000 in
set_option maxHeartbeats 4000000 in
theorem s_X3_open {l : Launch} {ad : Nat → Nat} {P : Option Value → StI → StL → Prop} {I : StI} {L : StL} {v0 : Nat} (hv0 : k_isH v0) (h : Ho (f_X3_open v0 I) (kr_X3_open P I L)) : k_Met l ad 1 yX3_open cX3_open 3 (some .int) [.ref (ad v0)] I L P := by
  refine k_enter (by decide +kernel) (Nat.le_of_ble_eq_true rfl) (fun X hl hx hQ => ?_)
  clear hl
  have hx : Ok X cX3_open RX3 3 (some .int) 1 := hx
  show J X ad 3 I L 0 [(0, .ref (ad v0))] []
  unfold f_X3_open at h
  refine J_iconst (v := (0 : Int32)) hx dX3_open_0 (by decide) ?_
  refine J_istore_n (x := (0 : Int32)) (lv' := [(1, .int (0 : Int32)), (0, .ref (ad v0))]) hx dX3_open_1 rfl (by decide) rfl ?_
  refine J_iconst (v := (0 : Int32)) hx dX3_open_2 (by decide) ?_
  refine J_istore_n (x := (0 : Int32)) (lv' := [(2, .int (0 : Int32)), (1, .int (0 : Int32)), (0, .ref (ad v0))]) hx dX3_open_3 rfl (by decide) rfl ?_
  refine J_sub (lv' := [(0, .ref (ad v0)), (1, .int (0 : Int32)), (2, .int (0 : Int32))]) hx [2, 1, 0] rfl ?_
  exact s_X3_open_L4 hx hQ hv0 k_fu h
abbrev kr_X3_notOpen (P : Option Value → StI → StL → Prop) (I : StI) (L : StL) : Int32 → Prop := fun t => P (some (.int t)) I L
def f_X3_notOpen (v0 : Nat) (I : StI) : Option (Int32) :=
  Option.bind (f_X3_open v0 I) (fun t1 => Option.bind (f_J6_bitCount_0f7a4 t1) (fun t3 => some (((I v0 1) - t3))))
set_option maxRecDepth 100000 in
set_option maxHeartbeats 4000000 in
theorem s_X3_notOpen {l : Launch} {ad : Nat → Nat} {P : Option Value → StI → StL → Prop} {I : StI} {L : StL} {v0 : Nat} (hv0 : k_isH v0) (h : Ho (f_X3_notOpen v0 I) (kr_X3_notOpen P I L)) : k_Met l ad 2 yX3_notOpen cX3_notOpen 1 (some .int) [.ref (ad v0)] I L P := by
  refine k_enter (by decide +kernel) (Nat.le_of_ble_eq_true rfl) (fun X hl hx hQ => ?_)
  clear hl
  have hx : Ok X cX3_notOpen RX3 1 (some .int) 2 := hx
  show J X ad 1 I L 0 [(0, .ref (ad v0))] []
  unfold f_X3_notOpen at h
  refine J_aload_n hx dX3_notOpen_0 0 rfl ?_
  refine J_getI hx fl_RX3_18 (k_H0 hv0) rfl dX3_notOpen_1 ?_
  refine J_aload_n hx dX3_notOpen_4 0 rfl ?_
  obtain ⟨t1, e2, h⟩ := Ho_bind h
  refine J_callVi hx lkV_RX3_77 (k_H0 hv0) [] [.int (I v0 1)] rfl rfl (Nat.le_of_ble_eq_true rfl) (Nat.le_of_ble_eq_true rfl) (s_X3_open hv0 ⟨t1, e2, ⟨rfl, rfl, rfl⟩⟩) dX3_notOpen_5 ?_
  obtain ⟨t3, e4, h⟩ := Ho_bind h
  refine J_callSi hx lkS_RX3_68 [.int t1] [.int (I v0 1)] rfl rfl (Nat.le_of_ble_eq_true rfl) (Nat.le_of_ble_eq_true rfl) (s_J6_bitCount_0f7a4  ⟨t3, e4, ⟨rfl, rfl, rfl⟩⟩) dX3_notOpen_8 ?_
  refine J_isub hx dX3_notOpen_11 ?_
  have h := Ho_some h
  exact J_iret hx hQ dX3_notOpen_12 h
abbrev kr_X3_wouldAnswer (P : Option Value → StI → StL → Prop) (I : StI) (L : StL) : Int32 → Prop := fun t => P (some (.int t)) I L
def f_X3_wouldAnswer (v0 : Nat) (I : StI) : Option (Int32) :=
  Option.bind (f_X3_isUp v0 I) (fun t1 => (if t1 = 0 then some ((0 : Int32)) else Option.bind (f_X3_calling v0 I) (fun t4 => Option.bind (f_J6_bitCount_0f7a4 t4) (fun t6 => (if (I v0 2) < t6 then some ((0 : Int32)) else some ((1 : Int32)))))))
set_option maxRecDepth 100000 in
set_option maxHeartbeats 4000000 in
theorem s_X3_wouldAnswer {l : Launch} {ad : Nat → Nat} {P : Option Value → StI → StL → Prop} {I : StI} {L : StL} {v0 : Nat} (hv0 : k_isH v0) (h : Ho (f_X3_wouldAnswer v0 I) (kr_X3_wouldAnswer P I L)) : k_Met l ad 4 yX3_wouldAnswer cX3_wouldAnswer 1 (some .boolean) [.ref (ad v0)] I L P := by
  refine k_enter (by decide +kernel) (Nat.le_of_ble_eq_true rfl) (fun X hl hx hQ => ?_)
  clear hl
  have hx : Ok X cX3_wouldAnswer RX3 1 (some .boolean) 4 := hx
  show J X ad 1 I L 0 [(0, .ref (ad v0))] []
  unfold f_X3_wouldAnswer at h
  refine J_aload_n hx dX3_wouldAnswer_0 0 rfl ?_
  obtain ⟨t1, e2, h⟩ := Ho_bind h
  refine J_callVi hx lkV_RX3_60 (k_H0 hv0) [] [] rfl rfl (Nat.le_of_ble_eq_true rfl) (Nat.le_of_ble_eq_true rfl) (s_X3_isUp hv0 ⟨t1, e2, ⟨rfl, rfl, rfl⟩⟩) dX3_wouldAnswer_1 ?_
  refine J_if_eq hx dX3_wouldAnswer_4 25 (by decide) (fun c3 => ?_) (fun c3 => ?_)
  · have h := Ho_t c3 h
    refine J_iconst (v := (0 : Int32)) hx dX3_wouldAnswer_25 (by decide) ?_
    have h := Ho_some h
    exact J_zret hx hQ dX3_wouldAnswer_26 rfl h
  · have h := Ho_f c3 h
    refine J_aload_n hx dX3_wouldAnswer_7 0 rfl ?_
    obtain ⟨t4, e5, h⟩ := Ho_bind h
    refine J_callVi hx lkV_RX3_64 (k_H0 hv0) [] [] rfl rfl (Nat.le_of_ble_eq_true rfl) (Nat.le_of_ble_eq_true rfl) (s_X3_calling hv0 ⟨t4, e5, ⟨rfl, rfl, rfl⟩⟩) dX3_wouldAnswer_8 ?_
    obtain ⟨t6, e7, h⟩ := Ho_bind h
    refine J_callSi hx lkS_RX3_68 [.int t4] [] rfl rfl (Nat.le_of_ble_eq_true rfl) (Nat.le_of_ble_eq_true rfl) (s_J6_bitCount_0f7a4  ⟨t6, e7, ⟨rfl, rfl, rfl⟩⟩) dX3_wouldAnswer_11 ?_
    refine J_aload_n hx dX3_wouldAnswer_14 0 rfl ?_
    refine J_getI hx fl_RX3_22 (k_H0 hv0) rfl dX3_wouldAnswer_15 ?_
    refine J_ic_gt hx dX3_wouldAnswer_18 25 (by decide) (fun c8 => ?_) (fun c8 => ?_)
    · have h := Ho_t c8 h
      refine J_iconst (v := (0 : Int32)) hx dX3_wouldAnswer_25 (by decide) ?_
      have h := Ho_some h
      exact J_zret hx hQ dX3_wouldAnswer_26 rfl h
    · have h := Ho_f c8 h
      refine J_iconst (v := (1 : Int32)) hx dX3_wouldAnswer_21 (by decide) ?_
      refine J_goto hx dX3_wouldAnswer_22 26 (by decide) ?_
      have h := Ho_some h
      exact J_zret hx hQ dX3_wouldAnswer_26 rfl h
