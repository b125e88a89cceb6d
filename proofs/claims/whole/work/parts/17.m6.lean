abbrev kr_X4_flip (P : Option Value → StI → StL → Prop) (L : StL) : Int32 × StI → Prop := fun t => P (some (.int t.1)) t.2 L
def f_X4_flip (v1 : Int32) (I : StI) : Option (Int32 × StI) :=
  (if v1 < 0 then some ((-1 : Int32), I) else (if v1 < (8 : Int32) then (if (I 24 1) = 0 then some ((-4 : Int32), I) else Option.bind (f_X4_isFullWith (1 : Int32) I) (fun t4 => (if t4 = 0 then Option.bind (f_X4_doDeed (2 : Int32) v1 (0 : Int32) I) (fun t7 => Option.bind (f_J6_bitCount_0f7a4 (t7 24 3)) (fun t9 => some (t9, t7))) else some ((-2 : Int32), I)))) else some ((-1 : Int32), I)))
set_option maxRecDepth 100000 in
set_option maxHeartbeats 4000000 in
theorem s_X4_flip {l : Launch} {ad : Nat → Nat} {P : Option Value → StI → StL → Prop} {I : StI} {L : StL} {v1 : Int32}  (h : Ho (f_X4_flip v1 I) (kr_X4_flip P L)) : k_Met l ad 6 yX4_flip cX4_flip 2 (some .int) [.ref (ad 0), .int v1] I L P := by
  refine k_enter (by decide +kernel) (Nat.le_of_ble_eq_true rfl) (fun X hl hx hQ => ?_)
  clear hl
  have hx : Ok X cX4_flip RX4 2 (some .int) 6 := hx
  show J X ad 2 I L 0 [(0, .ref (ad 0)), (1, .int v1)] []
  unfold f_X4_flip at h
  refine J_iload_n hx dX4_flip_0 1 rfl ?_
  refine J_if_lt hx dX4_flip_1 10 (by decide) (fun c1 => ?_) (fun c1 => ?_)
  · have h := Ho_t c1 h
    refine J_iconst (v := (-1 : Int32)) hx dX4_flip_10 (by decide) ?_
    have h := Ho_some h
    exact J_iret hx hQ dX4_flip_11 h
  · have h := Ho_f c1 h
    refine J_iload_n hx dX4_flip_4 1 rfl ?_
    refine J_bipush (v := (8 : Int32)) hx dX4_flip_5 (by decide) ?_
    refine J_ic_lt hx dX4_flip_7 12 (by decide) (fun c2 => ?_) (fun c2 => ?_)
    · have h := Ho_t c2 h
      refine J_aload_n hx dX4_flip_12 0 rfl ?_
      refine J_getR (q := 24) hx fl_RX4_33 (rfl : k_sh 0 = (4, k_N 4)) rfl rfl dX4_flip_13 ?_
      refine J_getI hx fl_RX4_125 (rfl : k_sh 24 = (3, k_N 3)) rfl dX4_flip_16 ?_
      refine J_if_ne hx dX4_flip_19 25 (by decide) (fun c3 => ?_) (fun c3 => ?_)
      · have h := Ho_f c3 h
        refine J_aload_n hx dX4_flip_25 0 rfl ?_
        refine J_iconst (v := (1 : Int32)) hx dX4_flip_26 (by decide) ?_
        obtain ⟨t4, e5, h⟩ := Ho_bind h
        refine J_callVi hx lkV_RX4_150 (rfl : k_sh 0 = (4, k_N 4)) [.int (1 : Int32)] [] rfl rfl (Nat.le_of_ble_eq_true rfl) (Nat.le_of_ble_eq_true rfl) (s_X4_isFullWith  ⟨t4, e5, ⟨rfl, rfl, rfl⟩⟩) dX4_flip_27 ?_
        refine J_if_eq hx dX4_flip_30 36 (by decide) (fun c6 => ?_) (fun c6 => ?_)
        · have h := Ho_t c6 h
          refine J_aload_n hx dX4_flip_36 0 rfl ?_
          refine J_iconst (v := (2 : Int32)) hx dX4_flip_37 (by decide) ?_
          refine J_iload_n hx dX4_flip_38 1 rfl ?_
          refine J_iconst (v := (0 : Int32)) hx dX4_flip_39 (by decide) ?_
          obtain ⟨t7, e8, h⟩ := Ho_bind h
          refine J_callVv hx lkV_RX4_156 (rfl : k_sh 0 = (4, k_N 4)) [.int (2 : Int32), .int v1, .int (0 : Int32)] [] rfl rfl (Nat.le_of_ble_eq_true rfl) (Nat.le_of_ble_eq_true rfl) (s_X4_doDeed  ⟨t7, e8, ⟨rfl, rfl, rfl⟩⟩) dX4_flip_40 ?_
          refine J_aload_n hx dX4_flip_43 0 rfl ?_
          refine J_getR (q := 24) hx fl_RX4_33 (rfl : k_sh 0 = (4, k_N 4)) rfl rfl dX4_flip_44 ?_
          refine J_getI hx fl_RX4_160 (rfl : k_sh 24 = (3, k_N 3)) rfl dX4_flip_47 ?_
          obtain ⟨t9, e10, h⟩ := Ho_bind h
          refine J_callSi hx lkS_RX4_163 [.int (t7 24 3)] [] rfl rfl (Nat.le_of_ble_eq_true rfl) (Nat.le_of_ble_eq_true rfl) (s_J6_bitCount_0f7a4  ⟨t9, e10, ⟨rfl, rfl, rfl⟩⟩) dX4_flip_50 ?_
          have h := Ho_some h
          exact J_iret hx hQ dX4_flip_53 h
        · have h := Ho_f c6 h
          refine J_bipush (v := (-2 : Int32)) hx dX4_flip_33 (by decide) ?_
          have h := Ho_some h
          exact J_iret hx hQ dX4_flip_35 h
      · have h := Ho_t c3 h
        refine J_bipush (v := (-4 : Int32)) hx dX4_flip_22 (by decide) ?_
        have h := Ho_some h
        exact J_iret hx hQ dX4_flip_24 h
    · have h := Ho_f c2 h
      refine J_iconst (v := (-1 : Int32)) hx dX4_flip_10 (by decide) ?_
      have h := Ho_some h
      exact J_iret hx hQ dX4_flip_11 h
abbrev kr_X4_goesAsSeen (P : Option Value → StI → StL → Prop) (L : StL) : Int32 × StI → Prop := fun t => P (some (.int t.1)) t.2 L
abbrev g_X4_goesAsSeen_L2 (X : k_C) (ad : Nat → Nat) (L : StL) (v1 : Int32) : (Int32 × StI) → Prop := fun s => J X ad 3 s.2 L 2 [(0, .ref (ad 0)), (1, .int v1), (2, .int s.1)] []
def f_X4_goesAsSeen_L2_b (v1 : Int32) (v2 : Int32) (I : StI) : Option ((Int32 × StI) ⊕ (Int32 × StI)) :=
  k_gd v1 6 ((if (I 8 v1.toNatClampNeg) ≤ v2 then some (.inr ((1 : Int32), I)) else Option.bind (f_X3_isUp 33 I) (fun t3 => Option.bind (f_X3_pass 33 t3 I) (fun t5 => k_gd v1 6 (k_gd v2 40 ((if t5.1 = (t5.2 (k_rq v1.toNatClampNeg) v2.toNatClampNeg) then k_let (v2 + (1 : Int32)) (fun x10 => some (.inl (x10, t5.2))) else some (.inr ((0 : Int32), t5.2)))))))))
def f_X4_goesAsSeen_L2 (v1 : Int32) (n : Nat) (v2 : Int32) (I : StI) : Option (Int32 × StI) :=
  k_loop (fun s => f_X4_goesAsSeen_L2_b v1 s.1 s.2) n (v2, I)
set_option maxRecDepth 100000 in
set_option maxHeartbeats 4000000 in
theorem s_X4_goesAsSeen_L2_b {X : k_C} {ad : Nat → Nat} {P : Option Value → StI → StL → Prop} {I : StI} {L : StL} (hx : Ok X cX4_goesAsSeen RX4 3 (some .boolean) 4) (hQ : OkQ X ad P)  {v1 : Int32} {v2 : Int32}  (h : Ho (f_X4_goesAsSeen_L2_b v1 v2 I) (Sum.elim (g_X4_goesAsSeen_L2 X ad L v1) (kr_X4_goesAsSeen P L))) : J X ad 3 I L 2 [(0, .ref (ad 0)), (1, .int v1), (2, .int v2)] [] := by
  unfold f_X4_goesAsSeen_L2_b at h
  refine J_iload_n hx dX4_goesAsSeen_2 2 rfl ?_
  refine J_aload_n hx dX4_goesAsSeen_3 0 rfl ?_
  refine J_getR (q := 8) hx fl_RX4_14 (rfl : k_sh 0 = (4, k_N 4)) rfl rfl dX4_goesAsSeen_4 ?_
  refine J_iload_n hx dX4_goesAsSeen_7 1 rfl ?_
  obtain ⟨b1, h⟩ := Ho_gd h
  refine J_iald hx (rfl : k_sh 8 = (10, 6)) b1 dX4_goesAsSeen_8 ?_
  refine J_ic_ge hx dX4_goesAsSeen_9 45 (by decide) (fun c2 => ?_) (fun c2 => ?_)
  · have h := Ho_t c2 h
    refine J_iconst (v := (1 : Int32)) hx dX4_goesAsSeen_45 (by decide) ?_
    have h := Ho_some h
    exact J_zret hx hQ dX4_goesAsSeen_46 rfl h
  · have h := Ho_f c2 h
    refine J_aload_n hx dX4_goesAsSeen_12 0 rfl ?_
    refine J_getR (q := 33) hx fl_RX4_36 (rfl : k_sh 0 = (4, k_N 4)) rfl rfl dX4_goesAsSeen_13 ?_
    refine J_aload_n hx dX4_goesAsSeen_16 0 rfl ?_
    refine J_getR (q := 33) hx fl_RX4_36 (rfl : k_sh 0 = (4, k_N 4)) rfl rfl dX4_goesAsSeen_17 ?_
    obtain ⟨t3, e4, h⟩ := Ho_bind h
    refine J_callVi hx lkV_RX4_203 (rfl : k_sh 33 = (3, k_N 3)) [] [.ref (ad 33)] rfl rfl (Nat.le_of_ble_eq_true rfl) (Nat.le_of_ble_eq_true rfl) (s_X3_isUp k_H33 ⟨t3, e4, ⟨rfl, rfl, rfl⟩⟩) dX4_goesAsSeen_20 ?_
    obtain ⟨t5, e6, h⟩ := Ho_bind h
    refine J_callVi hx lkV_RX4_206 (rfl : k_sh 33 = (3, k_N 3)) [.int t3] [] rfl rfl (Nat.le_of_ble_eq_true rfl) (Nat.le_of_ble_eq_true rfl) (s_X3_pass k_H33 ⟨t5, e6, ⟨rfl, rfl, rfl⟩⟩) dX4_goesAsSeen_23 ?_
    refine J_aload_n hx dX4_goesAsSeen_26 0 rfl ?_
    refine J_getR (q := 1) hx fl_RX4_11 (rfl : k_sh 0 = (4, k_N 4)) rfl rfl dX4_goesAsSeen_27 ?_
    refine J_iload_n hx dX4_goesAsSeen_30 1 rfl ?_
    obtain ⟨b7, h⟩ := Ho_gd h
    refine J_aald (q := (k_rq v1.toNatClampNeg)) hx (rfl : k_sh 1 = (15, 6)) (by decide) (by decide) b7 k_Rr dX4_goesAsSeen_31 ?_
    refine J_iload_n hx dX4_goesAsSeen_32 2 rfl ?_
    obtain ⟨b8, h⟩ := Ho_gd h
    refine J_iald hx (k_Rq b7) b8 dX4_goesAsSeen_33 ?_
    refine J_ic_eq hx dX4_goesAsSeen_34 39 (by decide) (fun c9 => ?_) (fun c9 => ?_)
    · have h := Ho_t c9 h
      obtain ⟨x10, hx10, h⟩ := Ho_let h
      refine J_iinc (x := x10) (lv' := [(2, .int x10), (0, .ref (ad 0)), (1, .int v1)]) hx dX4_goesAsSeen_39 2 rfl (by rw [hx10]; rfl) (by decide) rfl ?_
      refine J_goto hx dX4_goesAsSeen_42 2 (by decide) ?_
      refine J_sub (lv' := [(0, .ref (ad 0)), (1, .int v1), (2, .int x10)]) hx [1, 2, 0] rfl ?_
      have h := Ho_some h
      exact h
    · have h := Ho_f c9 h
      refine J_iconst (v := (0 : Int32)) hx dX4_goesAsSeen_37 (by decide) ?_
      have h := Ho_some h
      exact J_zret hx hQ dX4_goesAsSeen_38 rfl h
set_option maxRecDepth 100000 in
set_option maxHeartbeats 4000000 in
theorem s_X4_goesAsSeen_L2 {X : k_C} {ad : Nat → Nat} {P : Option Value → StI → StL → Prop} {I : StI} {L : StL} (hx : Ok X cX4_goesAsSeen RX4 3 (some .boolean) 4) (hQ : OkQ X ad P)  {v1 : Int32} {v2 : Int32}  (n : Nat) (h : Ho (f_X4_goesAsSeen_L2 v1 n v2 I) (kr_X4_goesAsSeen P L)) : J X ad 3 I L 2 [(0, .ref (ad 0)), (1, .int v1), (2, .int v2)] [] := by
  exact k_loop_ho (G := g_X4_goesAsSeen_L2 X ad L v1) (fun s hs => s_X4_goesAsSeen_L2_b hx hQ  hs) n (v2, I) h
def f_X4_goesAsSeen (v1 : Int32) (I : StI) : Option (Int32 × StI) :=
  f_X4_goesAsSeen_L2 v1 k_fu (0 : Int32) I
set_option maxRecDepth 100000 in
set_option maxHeartbeats 4000000 in
theorem s_X4_goesAsSeen {l : Launch} {ad : Nat → Nat} {P : Option Value → StI → StL → Prop} {I : StI} {L : StL} {v1 : Int32}  (h : Ho (f_X4_goesAsSeen v1 I) (kr_X4_goesAsSeen P L)) : k_Met l ad 4 yX4_goesAsSeen cX4_goesAsSeen 3 (some .boolean) [.ref (ad 0), .int v1] I L P := by
  refine k_enter (by decide +kernel) (Nat.le_of_ble_eq_true rfl) (fun X hl hx hQ => ?_)
  clear hl
  have hx : Ok X cX4_goesAsSeen RX4 3 (some .boolean) 4 := hx
  show J X ad 3 I L 0 [(0, .ref (ad 0)), (1, .int v1)] []
  unfold f_X4_goesAsSeen at h
  refine J_iconst (v := (0 : Int32)) hx dX4_goesAsSeen_0 (by decide) ?_
  refine J_istore_n (x := (0 : Int32)) (lv' := [(2, .int (0 : Int32)), (0, .ref (ad 0)), (1, .int v1)]) hx dX4_goesAsSeen_1 rfl (by decide) rfl ?_
  refine J_sub (lv' := [(0, .ref (ad 0)), (1, .int v1), (2, .int (0 : Int32))]) hx [1, 2, 0] rfl ?_
  exact s_X4_goesAsSeen_L2 hx hQ  k_fu h
abbrev kr_X4_greatestPart (P : Option Value → StI → StL → Prop) (I : StI) (L : StL) : Int32 → Prop := fun t => P (some (.int t)) I L
def f_X4_greatestPart (v1 : Int32) (I : StI) : Option (Int32) :=
  k_let ((v1 - (1 : Int32)) * (3 : Int32)) (fun x1 => k_gd (x1 + (0 : Int32)) 60 (k_gd (x1 + (1 : Int32)) 60 (k_gd (x1 + (2 : Int32)) 60 (Option.bind (f_J9_max_7cf53 (I 50 (x1 + (1 : Int32)).toNatClampNeg) (I 50 (x1 + (2 : Int32)).toNatClampNeg)) (fun t5 => Option.bind (f_J9_max_7cf53 (I 50 (x1 + (0 : Int32)).toNatClampNeg) t5) (fun t7 => some (t7)))))))
set_option maxRecDepth 100000 in
set_option maxHeartbeats 4000000 in
theorem s_X4_greatestPart {l : Launch} {ad : Nat → Nat} {P : Option Value → StI → StL → Prop} {I : StI} {L : StL} {v1 : Int32}  (h : Ho (f_X4_greatestPart v1 I) (kr_X4_greatestPart P I L)) : k_Met l ad 2 yX4_greatestPart cX4_greatestPart 3 (some .int) [.ref (ad 0), .int v1] I L P := by
  refine k_enter (by decide +kernel) (Nat.le_of_ble_eq_true rfl) (fun X hl hx hQ => ?_)
  clear hl
  have hx : Ok X cX4_greatestPart RX4 3 (some .int) 2 := hx
  show J X ad 3 I L 0 [(0, .ref (ad 0)), (1, .int v1)] []
  unfold f_X4_greatestPart at h
  refine J_iload_n hx dX4_greatestPart_0 1 rfl ?_
  refine J_iconst (v := (1 : Int32)) hx dX4_greatestPart_1 (by decide) ?_
  refine J_isub hx dX4_greatestPart_2 ?_
  refine J_iconst (v := (3 : Int32)) hx dX4_greatestPart_3 (by decide) ?_
  refine J_imul hx dX4_greatestPart_4 ?_
  obtain ⟨x1, hx1, h⟩ := Ho_let h
  refine J_istore_n (x := x1) (lv' := [(2, .int x1), (0, .ref (ad 0)), (1, .int v1)]) hx dX4_greatestPart_5 hx1 (by decide) rfl ?_
  refine J_aload_n hx dX4_greatestPart_6 1 rfl ?_
  refine J_getR (q := 50) hx fl_RX4_77 (rfl : k_sh 0 = (4, k_N 4)) rfl rfl dX4_greatestPart_7 ?_
  refine J_iload_n hx dX4_greatestPart_10 0 rfl ?_
  refine J_iconst (v := (0 : Int32)) hx dX4_greatestPart_11 (by decide) ?_
  refine J_iadd hx dX4_greatestPart_12 ?_
  obtain ⟨b2, h⟩ := Ho_gd h
  refine J_iald hx (rfl : k_sh 50 = (10, 60)) b2 dX4_greatestPart_13 ?_
  refine J_aload_n hx dX4_greatestPart_14 1 rfl ?_
  refine J_getR (q := 50) hx fl_RX4_77 (rfl : k_sh 0 = (4, k_N 4)) rfl rfl dX4_greatestPart_15 ?_
  refine J_iload_n hx dX4_greatestPart_18 0 rfl ?_
  refine J_iconst (v := (1 : Int32)) hx dX4_greatestPart_19 (by decide) ?_
  refine J_iadd hx dX4_greatestPart_20 ?_
  obtain ⟨b3, h⟩ := Ho_gd h
  refine J_iald hx (rfl : k_sh 50 = (10, 60)) b3 dX4_greatestPart_21 ?_
  refine J_aload_n hx dX4_greatestPart_22 1 rfl ?_
  refine J_getR (q := 50) hx fl_RX4_77 (rfl : k_sh 0 = (4, k_N 4)) rfl rfl dX4_greatestPart_23 ?_
  refine J_iload_n hx dX4_greatestPart_26 0 rfl ?_
  refine J_iconst (v := (2 : Int32)) hx dX4_greatestPart_27 (by decide) ?_
  refine J_iadd hx dX4_greatestPart_28 ?_
  obtain ⟨b4, h⟩ := Ho_gd h
  refine J_iald hx (rfl : k_sh 50 = (10, 60)) b4 dX4_greatestPart_29 ?_
  obtain ⟨t5, e6, h⟩ := Ho_bind h
  refine J_callSi hx lkS_RX4_305 [.int (I 50 (x1 + (1 : Int32)).toNatClampNeg), .int (I 50 (x1 + (2 : Int32)).toNatClampNeg)] [.int (I 50 (x1 + (0 : Int32)).toNatClampNeg)] rfl rfl (Nat.le_of_ble_eq_true rfl) (Nat.le_of_ble_eq_true rfl) (s_J9_max_7cf53  ⟨t5, e6, ⟨rfl, rfl, rfl⟩⟩) dX4_greatestPart_30 ?_
  obtain ⟨t7, e8, h⟩ := Ho_bind h
  refine J_callSi hx lkS_RX4_305 [.int (I 50 (x1 + (0 : Int32)).toNatClampNeg), .int t5] [] rfl rfl (Nat.le_of_ble_eq_true rfl) (Nat.le_of_ble_eq_true rfl) (s_J9_max_7cf53  ⟨t7, e8, ⟨rfl, rfl, rfl⟩⟩) dX4_greatestPart_33 ?_
  have h := Ho_some h
  exact J_iret hx hQ dX4_greatestPart_36 h
abbrev kr_X4_house (P : Option Value → StI → StL → Prop) (L : StL) : Int32 × StI → Prop := fun t => P (some (.int t.1)) t.2 L
abbrev g_X4_house_L84 (X : k_C) (ad : Nat → Nat) (L : StL) : (Int32 × StI) → Prop := fun s => J X ad 3 s.2 L 84 [(0, .ref (ad 0)), (2, .int s.1)] []
def f_X4_house_L84_b (v2 : Int32) (I : StI) : Option ((Int32 × StI) ⊕ (Int32 × StI)) :=
  (if (3 : Int32) ≤ v2 then some (.inr ((I 24 1), I)) else k_gd v2 3 (k_let (k_up I (k_dq v2.toNatClampNeg) 3 (-1 : Int32)) (fun I18 => k_let (v2 + (1 : Int32)) (fun x19 => some (.inl (x19, I18))))))
def f_X4_house_L84  (n : Nat) (v2 : Int32) (I : StI) : Option (Int32 × StI) :=
  k_loop (fun s => f_X4_house_L84_b s.1 s.2) n (v2, I)
set_option maxRecDepth 100000 in
set_option maxHeartbeats 4000000 in
theorem s_X4_house_L84_b {X : k_C} {ad : Nat → Nat} {P : Option Value → StI → StL → Prop} {I : StI} {L : StL} (hx : Ok X cX4_house RX4 3 (some .int) 5) (hQ : OkQ X ad P)  {v2 : Int32}  (h : Ho (f_X4_house_L84_b v2 I) (Sum.elim (g_X4_house_L84 X ad L) (kr_X4_house P L))) : J X ad 3 I L 84 [(0, .ref (ad 0)), (2, .int v2)] [] := by
  unfold f_X4_house_L84_b at h
  refine J_iload_n hx dX4_house_84 1 rfl ?_
  refine J_iconst (v := (3 : Int32)) hx dX4_house_85 (by decide) ?_
  refine J_ic_ge hx dX4_house_86 105 (by decide) (fun c16 => ?_) (fun c16 => ?_)
  · have h := Ho_t c16 h
    refine J_aload_n hx dX4_house_105 0 rfl ?_
    refine J_getR (q := 24) hx fl_RX4_33 (rfl : k_sh 0 = (4, k_N 4)) rfl rfl dX4_house_106 ?_
    refine J_getI hx fl_RX4_125 (rfl : k_sh 24 = (3, k_N 3)) rfl dX4_house_109 ?_
    have h := Ho_some h
    exact J_iret hx hQ dX4_house_112 h
  · have h := Ho_f c16 h
    refine J_aload_n hx dX4_house_89 0 rfl ?_
    refine J_getR (q := 46) hx fl_RX4_46 (rfl : k_sh 0 = (4, k_N 4)) rfl rfl dX4_house_90 ?_
    refine J_iload_n hx dX4_house_93 1 rfl ?_
    obtain ⟨b17, h⟩ := Ho_gd h
    refine J_aald (q := (k_dq v2.toNatClampNeg)) hx (rfl : k_sh 46 = (14, 3)) (by decide) (by decide) b17 k_Dqr dX4_house_94 ?_
    refine J_iconst (v := (-1 : Int32)) hx dX4_house_95 (by decide) ?_
    obtain ⟨I18, hI18, h⟩ := Ho_let h
    refine J_putI hx flW_RX4_86 (k_D0 (k_Dq b17)) rfl dX4_house_96 hI18 ?_
    obtain ⟨x19, hx19, h⟩ := Ho_let h
    refine J_iinc (x := x19) (lv' := [(2, .int x19), (0, .ref (ad 0))]) hx dX4_house_99 1 rfl (by rw [hx19]; rfl) (by decide) rfl ?_
    refine J_goto hx dX4_house_102 84 (by decide) ?_
    refine J_sub (lv' := [(0, .ref (ad 0)), (2, .int x19)]) hx [1, 0] rfl ?_
    have h := Ho_some h
    exact h
set_option maxRecDepth 100000 in
set_option maxHeartbeats 4000000 in
theorem s_X4_house_L84 {X : k_C} {ad : Nat → Nat} {P : Option Value → StI → StL → Prop} {I : StI} {L : StL} (hx : Ok X cX4_house RX4 3 (some .int) 5) (hQ : OkQ X ad P)  {v2 : Int32}  (n : Nat) (h : Ho (f_X4_house_L84  n v2 I) (kr_X4_house P L)) : J X ad 3 I L 84 [(0, .ref (ad 0)), (2, .int v2)] [] := by
  exact k_loop_ho (G := g_X4_house_L84 X ad L) (fun s hs => s_X4_house_L84_b hx hQ  hs) n (v2, I) h
def f_X4_house (v1 : Int32) (I : StI) : Option (Int32 × StI) :=
  Option.bind (f_X4_isText v1) (fun t1 => (if t1 = 0 then some ((-1 : Int32), I) else k_gd v1 4 ((if (I 14 v1.toNatClampNeg) = (-1 : Int32) then Option.bind (f_X4_found (1 : Int32) I) (fun t20 => some (t20.1, t20.2)) else k_gd v1 4 (k_gd v1 4 (Option.bind (f_X4_readHouse (k_tq v1.toNatClampNeg) (I 14 v1.toNatClampNeg) 33 I) (fun t8 => (if t8.1 = (-9 : Int32) then Option.bind (f_X3_become 15 33 t8.2) (fun t11 => Option.bind (f_X3_become 24 33 t11) (fun t13 => k_let (k_up t13 42 3 (0 : Int32)) (fun I15 => f_X4_house_L84  k_fu (0 : Int32) I15))) else some ((-4 : Int32), t8.2)))))))))
set_option maxRecDepth 100000 in
set_option maxHeartbeats 4000000 in
theorem s_X4_house {l : Launch} {ad : Nat → Nat} {P : Option Value → StI → StL → Prop} {I : StI} {L : StL} {v1 : Int32}  (h : Ho (f_X4_house v1 I) (kr_X4_house P L)) : k_Met l ad 5 yX4_house cX4_house 3 (some .int) [.ref (ad 0), .int v1] I L P := by
  refine k_enter (by decide +kernel) (Nat.le_of_ble_eq_true rfl) (fun X hl hx hQ => ?_)
  clear hl
  have hx : Ok X cX4_house RX4 3 (some .int) 5 := hx
  show J X ad 3 I L 0 [(0, .ref (ad 0)), (1, .int v1)] []
  unfold f_X4_house at h
  refine J_iload_n hx dX4_house_0 1 rfl ?_
  obtain ⟨t1, e2, h⟩ := Ho_bind h
  refine J_callSi hx lkS_RX4_111 [.int v1] [] rfl rfl (Nat.le_of_ble_eq_true rfl) (Nat.le_of_ble_eq_true rfl) (s_X4_isText  ⟨t1, e2, ⟨rfl, rfl, rfl⟩⟩) dX4_house_1 ?_
  refine J_if_ne hx dX4_house_4 9 (by decide) (fun c3 => ?_) (fun c3 => ?_)
  · have h := Ho_f c3 h
    refine J_aload_n hx dX4_house_9 0 rfl ?_
    refine J_getR (q := 14) hx fl_RX4_23 (rfl : k_sh 0 = (4, k_N 4)) rfl rfl dX4_house_10 ?_
    refine J_iload_n hx dX4_house_13 1 rfl ?_
    obtain ⟨b4, h⟩ := Ho_gd h
    refine J_iald hx (rfl : k_sh 14 = (10, 4)) b4 dX4_house_14 ?_
    refine J_iconst (v := (-1 : Int32)) hx dX4_house_15 (by decide) ?_
    refine J_ic_ne hx dX4_house_16 25 (by decide) (fun c5 => ?_) (fun c5 => ?_)
    · have h := Ho_f c5 h
      refine J_aload_n hx dX4_house_25 0 rfl ?_
      refine J_getR (q := 9) hx fl_RX4_20 (rfl : k_sh 0 = (4, k_N 4)) rfl rfl dX4_house_26 ?_
      refine J_iload_n hx dX4_house_29 1 rfl ?_
      obtain ⟨b6, h⟩ := Ho_gd h
      refine J_aald (q := (k_tq v1.toNatClampNeg)) hx (rfl : k_sh 9 = (16, 4)) (by decide) (by decide) b6 k_Tr dX4_house_30 ?_
      refine J_aload_n hx dX4_house_31 0 rfl ?_
      refine J_getR (q := 14) hx fl_RX4_23 (rfl : k_sh 0 = (4, k_N 4)) rfl rfl dX4_house_32 ?_
      refine J_iload_n hx dX4_house_35 1 rfl ?_
      obtain ⟨b7, h⟩ := Ho_gd h
      refine J_iald hx (rfl : k_sh 14 = (10, 4)) b7 dX4_house_36 ?_
      refine J_aload_n hx dX4_house_37 0 rfl ?_
      refine J_getR (q := 33) hx fl_RX4_36 (rfl : k_sh 0 = (4, k_N 4)) rfl rfl dX4_house_38 ?_
      obtain ⟨t8, e9, h⟩ := Ho_bind h
      refine J_callSi hx lkS_RX4_117 [.ref (ad (k_tq v1.toNatClampNeg)), .int (I 14 v1.toNatClampNeg), .ref (ad 33)] [] rfl rfl (Nat.le_of_ble_eq_true rfl) (Nat.le_of_ble_eq_true rfl) (s_X4_readHouse (congrArg Prod.fst (k_Tq b6)) k_H33 ⟨t8, e9, ⟨rfl, rfl, rfl⟩⟩) dX4_house_41 ?_
      refine J_bipush (v := (-9 : Int32)) hx dX4_house_44 (by decide) ?_
      refine J_ic_eq hx dX4_house_46 52 (by decide) (fun c10 => ?_) (fun c10 => ?_)
      · have h := Ho_t c10 h
        refine J_aload_n hx dX4_house_52 0 rfl ?_
        refine J_getR (q := 15) hx fl_RX4_29 (rfl : k_sh 0 = (4, k_N 4)) rfl rfl dX4_house_53 ?_
        refine J_aload_n hx dX4_house_56 0 rfl ?_
        refine J_getR (q := 33) hx fl_RX4_36 (rfl : k_sh 0 = (4, k_N 4)) rfl rfl dX4_house_57 ?_
        obtain ⟨t11, e12, h⟩ := Ho_bind h
        refine J_callVv hx lkV_RX4_121 (rfl : k_sh 15 = (3, k_N 3)) [.ref (ad 33)] [] rfl rfl (Nat.le_of_ble_eq_true rfl) (Nat.le_of_ble_eq_true rfl) (s_X3_become k_H15 k_H33 ⟨t11, e12, ⟨rfl, rfl, rfl⟩⟩) dX4_house_60 ?_
        refine J_aload_n hx dX4_house_63 0 rfl ?_
        refine J_getR (q := 24) hx fl_RX4_33 (rfl : k_sh 0 = (4, k_N 4)) rfl rfl dX4_house_64 ?_
        refine J_aload_n hx dX4_house_67 0 rfl ?_
        refine J_getR (q := 33) hx fl_RX4_36 (rfl : k_sh 0 = (4, k_N 4)) rfl rfl dX4_house_68 ?_
        obtain ⟨t13, e14, h⟩ := Ho_bind h
        refine J_callVv hx lkV_RX4_121 (rfl : k_sh 24 = (3, k_N 3)) [.ref (ad 33)] [] rfl rfl (Nat.le_of_ble_eq_true rfl) (Nat.le_of_ble_eq_true rfl) (s_X3_become k_H24 k_H33 ⟨t13, e14, ⟨rfl, rfl, rfl⟩⟩) dX4_house_71 ?_
        refine J_aload_n hx dX4_house_74 0 rfl ?_
        refine J_getR (q := 42) hx fl_RX4_42 (rfl : k_sh 0 = (4, k_N 4)) rfl rfl dX4_house_75 ?_
        refine J_iconst (v := (0 : Int32)) hx dX4_house_78 (by decide) ?_
        obtain ⟨I15, hI15, h⟩ := Ho_let h
        refine J_putI hx flW_RX4_86 (rfl : k_sh 42 = (2, k_N 2)) rfl dX4_house_79 hI15 ?_
        refine J_iconst (v := (0 : Int32)) hx dX4_house_82 (by decide) ?_
        refine J_istore_n (x := (0 : Int32)) (lv' := [(2, .int (0 : Int32)), (0, .ref (ad 0)), (1, .int v1)]) hx dX4_house_83 rfl (by decide) rfl ?_
        refine J_sub (lv' := [(0, .ref (ad 0)), (2, .int (0 : Int32))]) hx [1, 0] rfl ?_
        exact s_X4_house_L84 hx hQ  k_fu h
      · have h := Ho_f c10 h
        refine J_bipush (v := (-4 : Int32)) hx dX4_house_49 (by decide) ?_
        have h := Ho_some h
        exact J_iret hx hQ dX4_house_51 h
    · have h := Ho_t c5 h
      refine J_aload_n hx dX4_house_19 0 rfl ?_
      refine J_iconst (v := (1 : Int32)) hx dX4_house_20 (by decide) ?_
      obtain ⟨t20, e21, h⟩ := Ho_bind h
      refine J_callVi hx lkV_RX4_93 (rfl : k_sh 0 = (4, k_N 4)) [.int (1 : Int32)] [] rfl rfl (Nat.le_of_ble_eq_true rfl) (Nat.le_of_ble_eq_true rfl) (s_X4_found  ⟨t20, e21, ⟨rfl, rfl, rfl⟩⟩) dX4_house_21 ?_
      have h := Ho_some h
      exact J_iret hx hQ dX4_house_24 h
  · have h := Ho_t c3 h
    refine J_iconst (v := (-1 : Int32)) hx dX4_house_7 (by decide) ?_
    have h := Ho_some h
    exact J_iret hx hQ dX4_house_8 h
abbrev kr_X4_offerSetsOf (P : Option Value → StI → StL → Prop) (L : StL) : StI → Prop := fun t => P none t L
abbrev g_X4_offerSetsOf_L13 (X : k_C) (ad : Nat → Nat) (L : StL) (v1 : Int32) (v2 : Int32) (v3 : Int32) : (Int32 × StI) → Prop := fun s => J X ad 5 s.2 L 13 [(0, .ref (ad 0)), (1, .int v1), (2, .int v2), (3, .int v3), (4, .int s.1)] []
def f_X4_offerSetsOf_L13_b (v1 : Int32) (v2 : Int32) (v3 : Int32) (v4 : Int32) (I : StI) : Option ((Int32 × StI) ⊕ (StI)) :=
  (if v3 ≤ v4 then some (.inr (I)) else Option.bind (f_J6_bitCount_0f7a4 v4) (fun t3 => (if t3 = v1 then Option.bind (f_X3_become 33 24 I) (fun t7 => k_let (k_up t7 33 7 v4) (fun I9 => Option.bind (f_X3_answeredIn 33 v2 I9) (fun t10 => Option.bind (f_X1_offer v4 t10.1 t10.2) (fun t12 => k_let (v4 + (1 : Int32)) (fun x14 => some (.inl (x14, t12))))))) else k_let (v4 + (1 : Int32)) (fun x6 => some (.inl (x6, I))))))
def f_X4_offerSetsOf_L13 (v1 : Int32) (v2 : Int32) (v3 : Int32) (n : Nat) (v4 : Int32) (I : StI) : Option (StI) :=
  k_loop (fun s => f_X4_offerSetsOf_L13_b v1 v2 v3 s.1 s.2) n (v4, I)
set_option maxRecDepth 100000 in
set_option maxHeartbeats 4000000 in
theorem s_X4_offerSetsOf_L13_b {X : k_C} {ad : Nat → Nat} {P : Option Value → StI → StL → Prop} {I : StI} {L : StL} (hx : Ok X cX4_offerSetsOf RX4 5 none 5) (hQ : OkQ X ad P)  {v1 : Int32} {v2 : Int32} {v3 : Int32} {v4 : Int32}  (h : Ho (f_X4_offerSetsOf_L13_b v1 v2 v3 v4 I) (Sum.elim (g_X4_offerSetsOf_L13 X ad L v1 v2 v3) (kr_X4_offerSetsOf P L))) : J X ad 5 I L 13 [(0, .ref (ad 0)), (1, .int v1), (2, .int v2), (3, .int v3), (4, .int v4)] [] := by
  unfold f_X4_offerSetsOf_L13_b at h
  refine J_iload hx dX4_offerSetsOf_13 4 rfl ?_
  refine J_iload_n hx dX4_offerSetsOf_15 3 rfl ?_
  refine J_ic_ge hx dX4_offerSetsOf_16 71 (by decide) (fun c2 => ?_) (fun c2 => ?_)
  · have h := Ho_t c2 h
    have h := Ho_some h
    exact J_vret hx hQ dX4_offerSetsOf_71 h
  · have h := Ho_f c2 h
    refine J_iload hx dX4_offerSetsOf_19 4 rfl ?_
    obtain ⟨t3, e4, h⟩ := Ho_bind h
    refine J_callSi hx lkS_RX4_163 [.int v4] [] rfl rfl (Nat.le_of_ble_eq_true rfl) (Nat.le_of_ble_eq_true rfl) (s_J6_bitCount_0f7a4  ⟨t3, e4, ⟨rfl, rfl, rfl⟩⟩) dX4_offerSetsOf_21 ?_
    refine J_iload_n hx dX4_offerSetsOf_24 1 rfl ?_
    refine J_ic_ne hx dX4_offerSetsOf_25 65 (by decide) (fun c5 => ?_) (fun c5 => ?_)
    · have h := Ho_f c5 h
      obtain ⟨x6, hx6, h⟩ := Ho_let h
      refine J_iinc (x := x6) (lv' := [(4, .int x6), (0, .ref (ad 0)), (1, .int v1), (2, .int v2), (3, .int v3)]) hx dX4_offerSetsOf_65 4 rfl (by rw [hx6]; rfl) (by decide) rfl ?_
      refine J_goto hx dX4_offerSetsOf_68 13 (by decide) ?_
      refine J_sub (lv' := [(0, .ref (ad 0)), (1, .int v1), (2, .int v2), (3, .int v3), (4, .int x6)]) hx [1, 2, 3, 4, 0] rfl ?_
      have h := Ho_some h
      exact h
    · have h := Ho_t c5 h
      refine J_aload_n hx dX4_offerSetsOf_28 0 rfl ?_
      refine J_getR (q := 33) hx fl_RX4_36 (rfl : k_sh 0 = (4, k_N 4)) rfl rfl dX4_offerSetsOf_29 ?_
      refine J_aload_n hx dX4_offerSetsOf_32 0 rfl ?_
      refine J_getR (q := 24) hx fl_RX4_33 (rfl : k_sh 0 = (4, k_N 4)) rfl rfl dX4_offerSetsOf_33 ?_
      obtain ⟨t7, e8, h⟩ := Ho_bind h
      refine J_callVv hx lkV_RX4_121 (rfl : k_sh 33 = (3, k_N 3)) [.ref (ad 24)] [] rfl rfl (Nat.le_of_ble_eq_true rfl) (Nat.le_of_ble_eq_true rfl) (s_X3_become k_H33 k_H24 ⟨t7, e8, ⟨rfl, rfl, rfl⟩⟩) dX4_offerSetsOf_36 ?_
      refine J_aload_n hx dX4_offerSetsOf_39 0 rfl ?_
      refine J_getR (q := 33) hx fl_RX4_36 (rfl : k_sh 0 = (4, k_N 4)) rfl rfl dX4_offerSetsOf_40 ?_
      refine J_iload hx dX4_offerSetsOf_43 4 rfl ?_
      obtain ⟨I9, hI9, h⟩ := Ho_let h
      refine J_putI hx flW_RX4_299 (rfl : k_sh 33 = (3, k_N 3)) rfl dX4_offerSetsOf_45 hI9 ?_
      refine J_aload_n hx dX4_offerSetsOf_48 0 rfl ?_
      refine J_getR (q := 48) hx fl_RX4_70 (rfl : k_sh 0 = (4, k_N 4)) rfl rfl dX4_offerSetsOf_49 ?_
      refine J_iload hx dX4_offerSetsOf_52 4 rfl ?_
      refine J_aload_n hx dX4_offerSetsOf_54 0 rfl ?_
      refine J_getR (q := 33) hx fl_RX4_36 (rfl : k_sh 0 = (4, k_N 4)) rfl rfl dX4_offerSetsOf_55 ?_
      refine J_iload_n hx dX4_offerSetsOf_58 2 rfl ?_
      obtain ⟨t10, e11, h⟩ := Ho_bind h
      refine J_callVi hx lkV_RX4_197 (rfl : k_sh 33 = (3, k_N 3)) [.int v2] [.int v4, .ref (ad 48)] rfl rfl (Nat.le_of_ble_eq_true rfl) (Nat.le_of_ble_eq_true rfl) (s_X3_answeredIn k_H33 ⟨t10, e11, ⟨rfl, rfl, rfl⟩⟩) dX4_offerSetsOf_59 ?_
      obtain ⟨t12, e13, h⟩ := Ho_bind h
      refine J_callVv hx lkV_RX4_217 (rfl : k_sh 48 = (1, k_N 1)) [.int v4, .int t10.1] [] rfl rfl (Nat.le_of_ble_eq_true rfl) (Nat.le_of_ble_eq_true rfl) (s_X1_offer  ⟨t12, e13, ⟨rfl, rfl, rfl⟩⟩) dX4_offerSetsOf_62 ?_
      obtain ⟨x14, hx14, h⟩ := Ho_let h
      refine J_iinc (x := x14) (lv' := [(4, .int x14), (0, .ref (ad 0)), (1, .int v1), (2, .int v2), (3, .int v3)]) hx dX4_offerSetsOf_65 4 rfl (by rw [hx14]; rfl) (by decide) rfl ?_
      refine J_goto hx dX4_offerSetsOf_68 13 (by decide) ?_
      refine J_sub (lv' := [(0, .ref (ad 0)), (1, .int v1), (2, .int v2), (3, .int v3), (4, .int x14)]) hx [1, 2, 3, 4, 0] rfl ?_
      have h := Ho_some h
      exact h
set_option maxRecDepth 100000 in
set_option maxHeartbeats 4000000 in
theorem s_X4_offerSetsOf_L13 {X : k_C} {ad : Nat → Nat} {P : Option Value → StI → StL → Prop} {I : StI} {L : StL} (hx : Ok X cX4_offerSetsOf RX4 5 none 5) (hQ : OkQ X ad P)  {v1 : Int32} {v2 : Int32} {v3 : Int32} {v4 : Int32}  (n : Nat) (h : Ho (f_X4_offerSetsOf_L13 v1 v2 v3 n v4 I) (kr_X4_offerSetsOf P L)) : J X ad 5 I L 13 [(0, .ref (ad 0)), (1, .int v1), (2, .int v2), (3, .int v3), (4, .int v4)] [] := by
  exact k_loop_ho (G := g_X4_offerSetsOf_L13 X ad L v1 v2 v3) (fun s hs => s_X4_offerSetsOf_L13_b hx hQ  hs) n (v4, I) h
def f_X4_offerSetsOf (v1 : Int32) (v2 : Int32) (I : StI) : Option (StI) :=
  k_let ((1 : Int32) <<< ((I 24 1) &&& 31)) (fun x1 => f_X4_offerSetsOf_L13 v1 v2 x1 k_fu (0 : Int32) I)
set_option maxRecDepth 100000 in
set_option maxHeartbeats 4000000 in
theorem s_X4_offerSetsOf {l : Launch} {ad : Nat → Nat} {P : Option Value → StI → StL → Prop} {I : StI} {L : StL} {v1 : Int32} {v2 : Int32}  (h : Ho (f_X4_offerSetsOf v1 v2 I) (kr_X4_offerSetsOf P L)) : k_Met l ad 5 yX4_offerSetsOf cX4_offerSetsOf 5 none [.ref (ad 0), .int v1, .int v2] I L P := by
  refine k_enter (by decide +kernel) (Nat.le_of_ble_eq_true rfl) (fun X hl hx hQ => ?_)
  clear hl
  have hx : Ok X cX4_offerSetsOf RX4 5 none 5 := hx
  show J X ad 5 I L 0 [(0, .ref (ad 0)), (1, .int v1), (2, .int v2)] []
  unfold f_X4_offerSetsOf at h
  refine J_iconst (v := (1 : Int32)) hx dX4_offerSetsOf_0 (by decide) ?_
  refine J_aload_n hx dX4_offerSetsOf_1 0 rfl ?_
  refine J_getR (q := 24) hx fl_RX4_33 (rfl : k_sh 0 = (4, k_N 4)) rfl rfl dX4_offerSetsOf_2 ?_
  refine J_getI hx fl_RX4_125 (rfl : k_sh 24 = (3, k_N 3)) rfl dX4_offerSetsOf_5 ?_
  refine J_ishl hx dX4_offerSetsOf_8 ?_
  obtain ⟨x1, hx1, h⟩ := Ho_let h
  refine J_istore_n (x := x1) (lv' := [(3, .int x1), (0, .ref (ad 0)), (1, .int v1), (2, .int v2)]) hx dX4_offerSetsOf_9 hx1 (by decide) rfl ?_
  refine J_iconst (v := (0 : Int32)) hx dX4_offerSetsOf_10 (by decide) ?_
  refine J_istore (x := (0 : Int32)) (lv' := [(4, .int (0 : Int32)), (3, .int x1), (0, .ref (ad 0)), (1, .int v1), (2, .int v2)]) hx dX4_offerSetsOf_11 rfl (by decide) rfl ?_
  refine J_sub (lv' := [(0, .ref (ad 0)), (1, .int v1), (2, .int v2), (3, .int x1), (4, .int (0 : Int32))]) hx [2, 3, 4, 1, 0] rfl ?_
  exact s_X4_offerSetsOf_L13 hx hQ  k_fu h
abbrev kr_X4_hush (P : Option Value → StI → StL → Prop) (L : StL) : Int32 × StI → Prop := fun t => P (some (.int t.1)) t.2 L
abbrev g_X4_hush_L36 (X : k_C) (ad : Nat → Nat) (L : StL) (v1 : Int32) : (Int32 × StI) → Prop := fun s => J X ad 3 s.2 L 36 [(0, .ref (ad 0)), (1, .int v1), (2, .int s.1)] []
def f_X4_hush_L36_b (v1 : Int32) (v2 : Int32) (I : StI) : Option ((Int32 × StI) ⊕ (Int32 × StI)) :=
  (if (I 24 1) < v2 then k_let (k_up I 0 9 (I 48 0)) (fun I7 => some (.inr ((I7 48 1), I7))) else Option.bind (f_X4_offerSetsOf v2 v1 I) (fun t8 => k_let (v2 + (1 : Int32)) (fun x10 => some (.inl (x10, t8)))))
def f_X4_hush_L36 (v1 : Int32) (n : Nat) (v2 : Int32) (I : StI) : Option (Int32 × StI) :=
  k_loop (fun s => f_X4_hush_L36_b v1 s.1 s.2) n (v2, I)
set_option maxRecDepth 100000 in
set_option maxHeartbeats 4000000 in
theorem s_X4_hush_L36_b {X : k_C} {ad : Nat → Nat} {P : Option Value → StI → StL → Prop} {I : StI} {L : StL} (hx : Ok X cX4_hush RX4 3 (some .int) 6) (hQ : OkQ X ad P)  {v1 : Int32} {v2 : Int32}  (h : Ho (f_X4_hush_L36_b v1 v2 I) (Sum.elim (g_X4_hush_L36 X ad L v1) (kr_X4_hush P L))) : J X ad 3 I L 36 [(0, .ref (ad 0)), (1, .int v1), (2, .int v2)] [] := by
  unfold f_X4_hush_L36_b at h
  refine J_iload_n hx dX4_hush_36 2 rfl ?_
  refine J_aload_n hx dX4_hush_37 0 rfl ?_
  refine J_getR (q := 24) hx fl_RX4_33 (rfl : k_sh 0 = (4, k_N 4)) rfl rfl dX4_hush_38 ?_
  refine J_getI hx fl_RX4_125 (rfl : k_sh 24 = (3, k_N 3)) rfl dX4_hush_41 ?_
  refine J_ic_gt hx dX4_hush_44 59 (by decide) (fun c6 => ?_) (fun c6 => ?_)
  · have h := Ho_t c6 h
    refine J_aload_n hx dX4_hush_59 0 rfl ?_
    refine J_aload_n hx dX4_hush_60 0 rfl ?_
    refine J_getR (q := 48) hx fl_RX4_70 (rfl : k_sh 0 = (4, k_N 4)) rfl rfl dX4_hush_61 ?_
    refine J_getI hx fl_RX4_221 (rfl : k_sh 48 = (1, k_N 1)) rfl dX4_hush_64 ?_
    obtain ⟨I7, hI7, h⟩ := Ho_let h
    refine J_putI hx flW_RX4_50 (rfl : k_sh 0 = (4, k_N 4)) rfl dX4_hush_67 hI7 ?_
    refine J_aload_n hx dX4_hush_70 0 rfl ?_
    refine J_getR (q := 48) hx fl_RX4_70 (rfl : k_sh 0 = (4, k_N 4)) rfl rfl dX4_hush_71 ?_
    refine J_getI hx fl_RX4_224 (rfl : k_sh 48 = (1, k_N 1)) rfl dX4_hush_74 ?_
    have h := Ho_some h
    exact J_iret hx hQ dX4_hush_77 h
  · have h := Ho_f c6 h
    refine J_aload_n hx dX4_hush_47 0 rfl ?_
    refine J_iload_n hx dX4_hush_48 2 rfl ?_
    refine J_iload_n hx dX4_hush_49 1 rfl ?_
    obtain ⟨t8, e9, h⟩ := Ho_bind h
    refine J_callVv hx lkV_RX4_227 (rfl : k_sh 0 = (4, k_N 4)) [.int v2, .int v1] [] rfl rfl (Nat.le_of_ble_eq_true rfl) (Nat.le_of_ble_eq_true rfl) (s_X4_offerSetsOf  ⟨t8, e9, ⟨rfl, rfl, rfl⟩⟩) dX4_hush_50 ?_
    obtain ⟨x10, hx10, h⟩ := Ho_let h
    refine J_iinc (x := x10) (lv' := [(2, .int x10), (0, .ref (ad 0)), (1, .int v1)]) hx dX4_hush_53 2 rfl (by rw [hx10]; rfl) (by decide) rfl ?_
    refine J_goto hx dX4_hush_56 36 (by decide) ?_
    refine J_sub (lv' := [(0, .ref (ad 0)), (1, .int v1), (2, .int x10)]) hx [1, 2, 0] rfl ?_
    have h := Ho_some h
    exact h
set_option maxRecDepth 100000 in
set_option maxHeartbeats 4000000 in
theorem s_X4_hush_L36 {X : k_C} {ad : Nat → Nat} {P : Option Value → StI → StL → Prop} {I : StI} {L : StL} (hx : Ok X cX4_hush RX4 3 (some .int) 6) (hQ : OkQ X ad P)  {v1 : Int32} {v2 : Int32}  (n : Nat) (h : Ho (f_X4_hush_L36 v1 n v2 I) (kr_X4_hush P L)) : J X ad 3 I L 36 [(0, .ref (ad 0)), (1, .int v1), (2, .int v2)] [] := by
  exact k_loop_ho (G := g_X4_hush_L36 X ad L v1) (fun s hs => s_X4_hush_L36_b hx hQ  hs) n (v2, I) h
def f_X4_hush (v1 : Int32) (I : StI) : Option (Int32 × StI) :=
  (if v1 < (1 : Int32) then some ((-1 : Int32), I) else (if v1 ≤ (20 : Int32) then (if (I 24 1) = 0 then some ((-4 : Int32), I) else Option.bind (f_X1_begin (-1 : Int32) I) (fun t4 => f_X4_hush_L36 v1 k_fu (0 : Int32) t4)) else some ((-1 : Int32), I)))
set_option maxRecDepth 100000 in
set_option maxHeartbeats 4000000 in
theorem s_X4_hush {l : Launch} {ad : Nat → Nat} {P : Option Value → StI → StL → Prop} {I : StI} {L : StL} {v1 : Int32}  (h : Ho (f_X4_hush v1 I) (kr_X4_hush P L)) : k_Met l ad 6 yX4_hush cX4_hush 3 (some .int) [.ref (ad 0), .int v1] I L P := by
  refine k_enter (by decide +kernel) (Nat.le_of_ble_eq_true rfl) (fun X hl hx hQ => ?_)
  clear hl
  have hx : Ok X cX4_hush RX4 3 (some .int) 6 := hx
  show J X ad 3 I L 0 [(0, .ref (ad 0)), (1, .int v1)] []
  unfold f_X4_hush at h
  refine J_iload_n hx dX4_hush_0 1 rfl ?_
  refine J_iconst (v := (1 : Int32)) hx dX4_hush_1 (by decide) ?_
  refine J_ic_lt hx dX4_hush_2 11 (by decide) (fun c1 => ?_) (fun c1 => ?_)
  · have h := Ho_t c1 h
    refine J_iconst (v := (-1 : Int32)) hx dX4_hush_11 (by decide) ?_
    have h := Ho_some h
    exact J_iret hx hQ dX4_hush_12 h
  · have h := Ho_f c1 h
    refine J_iload_n hx dX4_hush_5 1 rfl ?_
    refine J_bipush (v := (20 : Int32)) hx dX4_hush_6 (by decide) ?_
    refine J_ic_le hx dX4_hush_8 13 (by decide) (fun c2 => ?_) (fun c2 => ?_)
    · have h := Ho_t c2 h
      refine J_aload_n hx dX4_hush_13 0 rfl ?_
      refine J_getR (q := 24) hx fl_RX4_33 (rfl : k_sh 0 = (4, k_N 4)) rfl rfl dX4_hush_14 ?_
      refine J_getI hx fl_RX4_125 (rfl : k_sh 24 = (3, k_N 3)) rfl dX4_hush_17 ?_
      refine J_if_ne hx dX4_hush_20 26 (by decide) (fun c3 => ?_) (fun c3 => ?_)
      · have h := Ho_f c3 h
        refine J_aload_n hx dX4_hush_26 0 rfl ?_
        refine J_getR (q := 48) hx fl_RX4_70 (rfl : k_sh 0 = (4, k_N 4)) rfl rfl dX4_hush_27 ?_
        refine J_iconst (v := (-1 : Int32)) hx dX4_hush_30 (by decide) ?_
        obtain ⟨t4, e5, h⟩ := Ho_bind h
        refine J_callVv hx lkV_RX4_213 (rfl : k_sh 48 = (1, k_N 1)) [.int (-1 : Int32)] [] rfl rfl (Nat.le_of_ble_eq_true rfl) (Nat.le_of_ble_eq_true rfl) (s_X1_begin  ⟨t4, e5, ⟨rfl, rfl, rfl⟩⟩) dX4_hush_31 ?_
        refine J_iconst (v := (0 : Int32)) hx dX4_hush_34 (by decide) ?_
        refine J_istore_n (x := (0 : Int32)) (lv' := [(2, .int (0 : Int32)), (0, .ref (ad 0)), (1, .int v1)]) hx dX4_hush_35 rfl (by decide) rfl ?_
        refine J_sub (lv' := [(0, .ref (ad 0)), (1, .int v1), (2, .int (0 : Int32))]) hx [1, 2, 0] rfl ?_
        exact s_X4_hush_L36 hx hQ  k_fu h
      · have h := Ho_t c3 h
        refine J_bipush (v := (-4 : Int32)) hx dX4_hush_23 (by decide) ?_
        have h := Ho_some h
        exact J_iret hx hQ dX4_hush_25 h
    · have h := Ho_f c2 h
      refine J_iconst (v := (-1 : Int32)) hx dX4_hush_11 (by decide) ?_
      have h := Ho_some h
      exact J_iret hx hQ dX4_hush_12 h
abbrev kr_X4_isChance (P : Option Value → StI → StL → Prop) (I : StI) (L : StL) : Int32 → Prop := fun t => P (some (.int t)) I L
def f_X4_isChance (v0 : Int32) : Option (Int32) :=
  (if v0 < 0 then some ((0 : Int32)) else (if (12 : Int32) < v0 then some ((0 : Int32)) else some ((1 : Int32))))
set_option maxRecDepth 100000 in
set_option maxHeartbeats 4000000 in
theorem s_X4_isChance {l : Launch} {ad : Nat → Nat} {P : Option Value → StI → StL → Prop} {I : StI} {L : StL} {v0 : Int32}  (h : Ho (f_X4_isChance v0) (kr_X4_isChance P I L)) : k_Met l ad 1 yX4_isChance cX4_isChance 1 (some .boolean) [.int v0] I L P := by
  refine k_enter (by decide +kernel) (Nat.le_of_ble_eq_true rfl) (fun X hl hx hQ => ?_)
  clear hl
  have hx : Ok X cX4_isChance RX4 1 (some .boolean) 1 := hx
  show J X ad 1 I L 0 [(0, .int v0)] []
  unfold f_X4_isChance at h
  refine J_iload_n hx dX4_isChance_0 0 rfl ?_
  refine J_if_lt hx dX4_isChance_1 14 (by decide) (fun c1 => ?_) (fun c1 => ?_)
  · have h := Ho_t c1 h
    refine J_iconst (v := (0 : Int32)) hx dX4_isChance_14 (by decide) ?_
    have h := Ho_some h
    exact J_zret hx hQ dX4_isChance_15 rfl h
  · have h := Ho_f c1 h
    refine J_iload_n hx dX4_isChance_4 0 rfl ?_
    refine J_bipush (v := (12 : Int32)) hx dX4_isChance_5 (by decide) ?_
    refine J_ic_gt hx dX4_isChance_7 14 (by decide) (fun c2 => ?_) (fun c2 => ?_)
    · have h := Ho_t c2 h
      refine J_iconst (v := (0 : Int32)) hx dX4_isChance_14 (by decide) ?_
      have h := Ho_some h
      exact J_zret hx hQ dX4_isChance_15 rfl h
    · have h := Ho_f c2 h
      refine J_iconst (v := (1 : Int32)) hx dX4_isChance_10 (by decide) ?_
      refine J_goto hx dX4_isChance_11 15 (by decide) ?_
      have h := Ho_some h
      exact J_zret hx hQ dX4_isChance_15 rfl h
abbrev kr_X4_isKeptPlace (P : Option Value → StI → StL → Prop) (I : StI) (L : StL) : Int32 → Prop := fun t => P (some (.int t)) I L
def f_X4_isKeptPlace (v0 : Int32) : Option (Int32) :=
  (if v0 < 0 then some ((0 : Int32)) else (if (3 : Int32) ≤ v0 then some ((0 : Int32)) else some ((1 : Int32))))
set_option maxRecDepth 100000 in
set_option maxHeartbeats 4000000 in
theorem s_X4_isKeptPlace {l : Launch} {ad : Nat → Nat} {P : Option Value → StI → StL → Prop} {I : StI} {L : StL} {v0 : Int32}  (h : Ho (f_X4_isKeptPlace v0) (kr_X4_isKeptPlace P I L)) : k_Met l ad 1 yX4_isKeptPlace cX4_isKeptPlace 1 (some .boolean) [.int v0] I L P := by
  refine k_enter (by decide +kernel) (Nat.le_of_ble_eq_true rfl) (fun X hl hx hQ => ?_)
  clear hl
  have hx : Ok X cX4_isKeptPlace RX4 1 (some .boolean) 1 := hx
  show J X ad 1 I L 0 [(0, .int v0)] []
  unfold f_X4_isKeptPlace at h
  refine J_iload_n hx dX4_isKeptPlace_0 0 rfl ?_
  refine J_if_lt hx dX4_isKeptPlace_1 13 (by decide) (fun c1 => ?_) (fun c1 => ?_)
  · have h := Ho_t c1 h
    refine J_iconst (v := (0 : Int32)) hx dX4_isKeptPlace_13 (by decide) ?_
    have h := Ho_some h
    exact J_zret hx hQ dX4_isKeptPlace_14 rfl h
  · have h := Ho_f c1 h
    refine J_iload_n hx dX4_isKeptPlace_4 0 rfl ?_
    refine J_iconst (v := (3 : Int32)) hx dX4_isKeptPlace_5 (by decide) ?_
    refine J_ic_ge hx dX4_isKeptPlace_6 13 (by decide) (fun c2 => ?_) (fun c2 => ?_)
    · have h := Ho_t c2 h
      refine J_iconst (v := (0 : Int32)) hx dX4_isKeptPlace_13 (by decide) ?_
      have h := Ho_some h
      exact J_zret hx hQ dX4_isKeptPlace_14 rfl h
    · have h := Ho_f c2 h
      refine J_iconst (v := (1 : Int32)) hx dX4_isKeptPlace_9 (by decide) ?_
      refine J_goto hx dX4_isKeptPlace_10 14 (by decide) ?_
      have h := Ho_some h
      exact J_zret hx hQ dX4_isKeptPlace_14 rfl h
abbrev kr_X4_keep (P : Option Value → StI → StL → Prop) (L : StL) : Int32 × StI → Prop := fun t => P (some (.int t.1)) t.2 L
def f_X4_keep (v1 : Int32) (I : StI) : Option (Int32 × StI) :=
  Option.bind (f_X4_isKeptPlace v1) (fun t1 => (if t1 = 0 then some ((-1 : Int32), I) else (if (I 24 1) = 0 then some ((-4 : Int32), I) else k_gd v1 3 (Option.bind (f_X2_become (k_dq v1.toNatClampNeg) 42 I) (fun t6 => some ((t6 42 3), t6))))))
set_option maxRecDepth 100000 in
set_option maxHeartbeats 4000000 in
theorem s_X4_keep {l : Launch} {ad : Nat → Nat} {P : Option Value → StI → StL → Prop} {I : StI} {L : StL} {v1 : Int32}  (h : Ho (f_X4_keep v1 I) (kr_X4_keep P L)) : k_Met l ad 2 yX4_keep cX4_keep 2 (some .int) [.ref (ad 0), .int v1] I L P := by
  refine k_enter (by decide +kernel) (Nat.le_of_ble_eq_true rfl) (fun X hl hx hQ => ?_)
  clear hl
  have hx : Ok X cX4_keep RX4 2 (some .int) 2 := hx
  show J X ad 2 I L 0 [(0, .ref (ad 0)), (1, .int v1)] []
  unfold f_X4_keep at h
  refine J_iload_n hx dX4_keep_0 1 rfl ?_
  obtain ⟨t1, e2, h⟩ := Ho_bind h
  refine J_callSi hx lkS_RX4_183 [.int v1] [] rfl rfl (Nat.le_of_ble_eq_true rfl) (Nat.le_of_ble_eq_true rfl) (s_X4_isKeptPlace  ⟨t1, e2, ⟨rfl, rfl, rfl⟩⟩) dX4_keep_1 ?_
  refine J_if_ne hx dX4_keep_4 9 (by decide) (fun c3 => ?_) (fun c3 => ?_)
  · have h := Ho_f c3 h
    refine J_aload_n hx dX4_keep_9 0 rfl ?_
    refine J_getR (q := 24) hx fl_RX4_33 (rfl : k_sh 0 = (4, k_N 4)) rfl rfl dX4_keep_10 ?_
    refine J_getI hx fl_RX4_125 (rfl : k_sh 24 = (3, k_N 3)) rfl dX4_keep_13 ?_
    refine J_if_ne hx dX4_keep_16 22 (by decide) (fun c4 => ?_) (fun c4 => ?_)
    · have h := Ho_f c4 h
      refine J_aload_n hx dX4_keep_22 0 rfl ?_
      refine J_getR (q := 46) hx fl_RX4_46 (rfl : k_sh 0 = (4, k_N 4)) rfl rfl dX4_keep_23 ?_
      refine J_iload_n hx dX4_keep_26 1 rfl ?_
      obtain ⟨b5, h⟩ := Ho_gd h
      refine J_aald (q := (k_dq v1.toNatClampNeg)) hx (rfl : k_sh 46 = (14, 3)) (by decide) (by decide) b5 k_Dqr dX4_keep_27 ?_
      refine J_aload_n hx dX4_keep_28 0 rfl ?_
      refine J_getR (q := 42) hx fl_RX4_42 (rfl : k_sh 0 = (4, k_N 4)) rfl rfl dX4_keep_29 ?_
      obtain ⟨t6, e7, h⟩ := Ho_bind h
      refine J_callVv hx lkV_RX4_186 (k_D0 (k_Dq b5)) [.ref (ad 42)] [] rfl rfl (Nat.le_of_ble_eq_true rfl) (Nat.le_of_ble_eq_true rfl) (s_X2_become (k_Dq b5) k_D42 ⟨t6, e7, ⟨rfl, rfl, rfl⟩⟩) dX4_keep_32 ?_
      refine J_aload_n hx dX4_keep_35 0 rfl ?_
      refine J_getR (q := 42) hx fl_RX4_42 (rfl : k_sh 0 = (4, k_N 4)) rfl rfl dX4_keep_36 ?_
      refine J_getI hx fl_RX4_86 (rfl : k_sh 42 = (2, k_N 2)) rfl dX4_keep_39 ?_
      have h := Ho_some h
      exact J_iret hx hQ dX4_keep_42 h
    · have h := Ho_t c4 h
      refine J_bipush (v := (-4 : Int32)) hx dX4_keep_19 (by decide) ?_
      have h := Ho_some h
      exact J_iret hx hQ dX4_keep_21 h
  · have h := Ho_t c3 h
    refine J_iconst (v := (-1 : Int32)) hx dX4_keep_7 (by decide) ?_
    have h := Ho_some h
    exact J_iret hx hQ dX4_keep_8 h
abbrev kr_X4_kindsAsSeen (P : Option Value → StI → StL → Prop) (L : StL) : Int32 × StI → Prop := fun t => P (some (.int t.1)) t.2 L
abbrev g_X4_kindsAsSeen_L5 (X : k_C) (ad : Nat → Nat) (L : StL) (v1 : Int32) (v2 : Int32) : (Int32 × Int32 × StI) → Prop := fun s => J X ad 5 s.2.2 L 5 [(0, .ref (ad 0)), (1, .int v1), (2, .int v2), (3, .int s.1), (4, .int s.2.1)] []
def f_X4_kindsAsSeen_L5_b (v1 : Int32) (v2 : Int32) (v3 : Int32) (v4 : Int32) (I : StI) : Option ((Int32 × Int32 × StI) ⊕ (Int32 × StI)) :=
  (if (6 : Int32) ≤ v4 then some (.inr (v3, I)) else Option.bind (f_X3_become 33 24 I) (fun t2 => k_gd v1 7 (k_let (k_up t2 (k_cq 33 v1.toNatClampNeg) 0 v4) (fun I5 => Option.bind (f_X4_goesAsSeen v2 I5) (fun t6 => (if t6.1 = 0 then k_let (v4 + (1 : Int32)) (fun x9 => some (.inl (v3, x9, t6.2))) else k_let (v3 ||| ((1 : Int32) <<< (v4 &&& 31))) (fun x10 => k_let (v4 + (1 : Int32)) (fun x11 => some (.inl (x10, x11, t6.2))))))))))
def f_X4_kindsAsSeen_L5 (v1 : Int32) (v2 : Int32) (n : Nat) (v3 : Int32) (v4 : Int32) (I : StI) : Option (Int32 × StI) :=
  k_loop (fun s => f_X4_kindsAsSeen_L5_b v1 v2 s.1 s.2.1 s.2.2) n (v3, v4, I)
set_option maxRecDepth 100000 in
set_option maxHeartbeats 4000000 in
theorem s_X4_kindsAsSeen_L5_b {X : k_C} {ad : Nat → Nat} {P : Option Value → StI → StL → Prop} {I : StI} {L : StL} (hx : Ok X cX4_kindsAsSeen RX4 5 (some .int) 5) (hQ : OkQ X ad P)  {v1 : Int32} {v2 : Int32} {v3 : Int32} {v4 : Int32}  (h : Ho (f_X4_kindsAsSeen_L5_b v1 v2 v3 v4 I) (Sum.elim (g_X4_kindsAsSeen_L5 X ad L v1 v2) (kr_X4_kindsAsSeen P L))) : J X ad 5 I L 5 [(0, .ref (ad 0)), (1, .int v1), (2, .int v2), (3, .int v3), (4, .int v4)] [] := by
  unfold f_X4_kindsAsSeen_L5_b at h
  refine J_iload hx dX4_kindsAsSeen_5 4 rfl ?_
  refine J_bipush (v := (6 : Int32)) hx dX4_kindsAsSeen_7 (by decide) ?_
  refine J_ic_ge hx dX4_kindsAsSeen_9 58 (by decide) (fun c1 => ?_) (fun c1 => ?_)
  · have h := Ho_t c1 h
    refine J_iload_n hx dX4_kindsAsSeen_58 3 rfl ?_
    have h := Ho_some h
    exact J_iret hx hQ dX4_kindsAsSeen_59 h
  · have h := Ho_f c1 h
    refine J_aload_n hx dX4_kindsAsSeen_12 0 rfl ?_
    refine J_getR (q := 33) hx fl_RX4_36 (rfl : k_sh 0 = (4, k_N 4)) rfl rfl dX4_kindsAsSeen_13 ?_
    refine J_aload_n hx dX4_kindsAsSeen_16 0 rfl ?_
    refine J_getR (q := 24) hx fl_RX4_33 (rfl : k_sh 0 = (4, k_N 4)) rfl rfl dX4_kindsAsSeen_17 ?_
    obtain ⟨t2, e3, h⟩ := Ho_bind h
    refine J_callVv hx lkV_RX4_121 (rfl : k_sh 33 = (3, k_N 3)) [.ref (ad 24)] [] rfl rfl (Nat.le_of_ble_eq_true rfl) (Nat.le_of_ble_eq_true rfl) (s_X3_become k_H33 k_H24 ⟨t2, e3, ⟨rfl, rfl, rfl⟩⟩) dX4_kindsAsSeen_20 ?_
    refine J_aload_n hx dX4_kindsAsSeen_23 0 rfl ?_
    refine J_getR (q := 33) hx fl_RX4_36 (rfl : k_sh 0 = (4, k_N 4)) rfl rfl dX4_kindsAsSeen_24 ?_
    refine J_getR (q := 34) hx fl_RX4_129 (rfl : k_sh 33 = (3, k_N 3)) rfl rfl dX4_kindsAsSeen_27 ?_
    refine J_iload_n hx dX4_kindsAsSeen_30 1 rfl ?_
    obtain ⟨b4, h⟩ := Ho_gd h
    refine J_aald (q := (k_cq 33 v1.toNatClampNeg)) hx (rfl : k_sh 34 = (13, 7)) (by decide) (by decide) b4 (k_Hr k_H33) dX4_kindsAsSeen_31 ?_
    refine J_iload hx dX4_kindsAsSeen_32 4 rfl ?_
    obtain ⟨I5, hI5, h⟩ := Ho_let h
    refine J_putI hx flW_RX4_302 (k_H2 k_H33 b4) rfl dX4_kindsAsSeen_34 hI5 ?_
    refine J_aload_n hx dX4_kindsAsSeen_37 0 rfl ?_
    refine J_iload_n hx dX4_kindsAsSeen_38 2 rfl ?_
    obtain ⟨t6, e7, h⟩ := Ho_bind h
    refine J_callVi hx lkV_RX4_233 (rfl : k_sh 0 = (4, k_N 4)) [.int v2] [] rfl rfl (Nat.le_of_ble_eq_true rfl) (Nat.le_of_ble_eq_true rfl) (s_X4_goesAsSeen  ⟨t6, e7, ⟨rfl, rfl, rfl⟩⟩) dX4_kindsAsSeen_39 ?_
    refine J_if_eq hx dX4_kindsAsSeen_42 52 (by decide) (fun c8 => ?_) (fun c8 => ?_)
    · have h := Ho_t c8 h
      obtain ⟨x9, hx9, h⟩ := Ho_let h
      refine J_iinc (x := x9) (lv' := [(4, .int x9), (0, .ref (ad 0)), (1, .int v1), (2, .int v2), (3, .int v3)]) hx dX4_kindsAsSeen_52 4 rfl (by rw [hx9]; rfl) (by decide) rfl ?_
      refine J_goto hx dX4_kindsAsSeen_55 5 (by decide) ?_
      refine J_sub (lv' := [(0, .ref (ad 0)), (1, .int v1), (2, .int v2), (3, .int v3), (4, .int x9)]) hx [1, 2, 3, 4, 0] rfl ?_
      have h := Ho_some h
      exact h
    · have h := Ho_f c8 h
      refine J_iload_n hx dX4_kindsAsSeen_45 3 rfl ?_
      refine J_iconst (v := (1 : Int32)) hx dX4_kindsAsSeen_46 (by decide) ?_
      refine J_iload hx dX4_kindsAsSeen_47 4 rfl ?_
      refine J_ishl hx dX4_kindsAsSeen_49 ?_
      refine J_ior hx dX4_kindsAsSeen_50 ?_
      obtain ⟨x10, hx10, h⟩ := Ho_let h
      refine J_istore_n (x := x10) (lv' := [(3, .int x10), (0, .ref (ad 0)), (1, .int v1), (2, .int v2), (4, .int v4)]) hx dX4_kindsAsSeen_51 hx10 (by decide) rfl ?_
      obtain ⟨x11, hx11, h⟩ := Ho_let h
      refine J_iinc (x := x11) (lv' := [(4, .int x11), (3, .int x10), (0, .ref (ad 0)), (1, .int v1), (2, .int v2)]) hx dX4_kindsAsSeen_52 4 rfl (by rw [hx11]; rfl) (by decide) rfl ?_
      refine J_goto hx dX4_kindsAsSeen_55 5 (by decide) ?_
      refine J_sub (lv' := [(0, .ref (ad 0)), (1, .int v1), (2, .int v2), (3, .int x10), (4, .int x11)]) hx [2, 3, 4, 1, 0] rfl ?_
      have h := Ho_some h
      exact h
set_option maxRecDepth 100000 in
set_option maxHeartbeats 4000000 in
theorem s_X4_kindsAsSeen_L5 {X : k_C} {ad : Nat → Nat} {P : Option Value → StI → StL → Prop} {I : StI} {L : StL} (hx : Ok X cX4_kindsAsSeen RX4 5 (some .int) 5) (hQ : OkQ X ad P)  {v1 : Int32} {v2 : Int32} {v3 : Int32} {v4 : Int32}  (n : Nat) (h : Ho (f_X4_kindsAsSeen_L5 v1 v2 n v3 v4 I) (kr_X4_kindsAsSeen P L)) : J X ad 5 I L 5 [(0, .ref (ad 0)), (1, .int v1), (2, .int v2), (3, .int v3), (4, .int v4)] [] := by
  exact k_loop_ho (G := g_X4_kindsAsSeen_L5 X ad L v1 v2) (fun s hs => s_X4_kindsAsSeen_L5_b hx hQ  hs) n (v3, v4, I) h
def f_X4_kindsAsSeen (v1 : Int32) (v2 : Int32) (I : StI) : Option (Int32 × StI) :=
  f_X4_kindsAsSeen_L5 v1 v2 k_fu (0 : Int32) (0 : Int32) I
set_option maxRecDepth 100000 in
set_option maxHeartbeats 4000000 in
theorem s_X4_kindsAsSeen {l : Launch} {ad : Nat → Nat} {P : Option Value → StI → StL → Prop} {I : StI} {L : StL} {v1 : Int32} {v2 : Int32}  (h : Ho (f_X4_kindsAsSeen v1 v2 I) (kr_X4_kindsAsSeen P L)) : k_Met l ad 5 yX4_kindsAsSeen cX4_kindsAsSeen 5 (some .int) [.ref (ad 0), .int v1, .int v2] I L P := by
  refine k_enter (by decide +kernel) (Nat.le_of_ble_eq_true rfl) (fun X hl hx hQ => ?_)
  clear hl
  have hx : Ok X cX4_kindsAsSeen RX4 5 (some .int) 5 := hx
  show J X ad 5 I L 0 [(0, .ref (ad 0)), (1, .int v1), (2, .int v2)] []
  unfold f_X4_kindsAsSeen at h
  refine J_iconst (v := (0 : Int32)) hx dX4_kindsAsSeen_0 (by decide) ?_
  refine J_istore_n (x := (0 : Int32)) (lv' := [(3, .int (0 : Int32)), (0, .ref (ad 0)), (1, .int v1), (2, .int v2)]) hx dX4_kindsAsSeen_1 rfl (by decide) rfl ?_
  refine J_iconst (v := (0 : Int32)) hx dX4_kindsAsSeen_2 (by decide) ?_
  refine J_istore (x := (0 : Int32)) (lv' := [(4, .int (0 : Int32)), (3, .int (0 : Int32)), (0, .ref (ad 0)), (1, .int v1), (2, .int v2)]) hx dX4_kindsAsSeen_3 rfl (by decide) rfl ?_
  refine J_sub (lv' := [(0, .ref (ad 0)), (1, .int v1), (2, .int v2), (3, .int (0 : Int32)), (4, .int (0 : Int32))]) hx [2, 3, 4, 1, 0] rfl ?_
  exact s_X4_kindsAsSeen_L5 hx hQ  k_fu h
abbrev kr_X4_kinds (P : Option Value → StI → StL → Prop) (L : StL) : Int32 × StI → Prop := fun t => P (some (.int t.1)) t.2 L
def f_X4_kinds (v1 : Int32) (v2 : Int32) (I : StI) : Option (Int32 × StI) :=
  Option.bind (f_X4_isCaller v1 I) (fun t1 => (if t1 = 0 then some ((-1 : Int32), I) else Option.bind (f_X4_isRow v2) (fun t4 => (if t4 = 0 then some ((-1 : Int32), I) else Option.bind (f_X4_findingOfSeen v2 I) (fun t7 => (if t7 = 0 then Option.bind (f_X4_kindsAsSeen v1 v2 I) (fun t10 => some (t10.1, t10.2)) else Option.bind (f_X4_found t7 I) (fun t12 => some (t12.1, t12.2))))))))
set_option maxRecDepth 100000 in
set_option maxHeartbeats 4000000 in
theorem s_X4_kinds {l : Launch} {ad : Nat → Nat} {P : Option Value → StI → StL → Prop} {I : StI} {L : StL} {v1 : Int32} {v2 : Int32}  (h : Ho (f_X4_kinds v1 v2 I) (kr_X4_kinds P L)) : k_Met l ad 6 yX4_kinds cX4_kinds 4 (some .int) [.ref (ad 0), .int v1, .int v2] I L P := by
  refine k_enter (by decide +kernel) (Nat.le_of_ble_eq_true rfl) (fun X hl hx hQ => ?_)
  clear hl
  have hx : Ok X cX4_kinds RX4 4 (some .int) 6 := hx
  show J X ad 4 I L 0 [(0, .ref (ad 0)), (1, .int v1), (2, .int v2)] []
  unfold f_X4_kinds at h
  refine J_aload_n hx dX4_kinds_0 0 rfl ?_
  refine J_iload_n hx dX4_kinds_1 1 rfl ?_
  obtain ⟨t1, e2, h⟩ := Ho_bind h
  refine J_callVi hx lkV_RX4_126 (rfl : k_sh 0 = (4, k_N 4)) [.int v1] [] rfl rfl (Nat.le_of_ble_eq_true rfl) (Nat.le_of_ble_eq_true rfl) (s_X4_isCaller  ⟨t1, e2, ⟨rfl, rfl, rfl⟩⟩) dX4_kinds_2 ?_
  refine J_if_eq hx dX4_kinds_5 15 (by decide) (fun c3 => ?_) (fun c3 => ?_)
  · have h := Ho_t c3 h
    refine J_iconst (v := (-1 : Int32)) hx dX4_kinds_15 (by decide) ?_
    have h := Ho_some h
    exact J_iret hx hQ dX4_kinds_16 h
  · have h := Ho_f c3 h
    refine J_iload_n hx dX4_kinds_8 2 rfl ?_
    obtain ⟨t4, e5, h⟩ := Ho_bind h
    refine J_callSi hx lkS_RX4_89 [.int v2] [] rfl rfl (Nat.le_of_ble_eq_true rfl) (Nat.le_of_ble_eq_true rfl) (s_X4_isRow  ⟨t4, e5, ⟨rfl, rfl, rfl⟩⟩) dX4_kinds_9 ?_
    refine J_if_ne hx dX4_kinds_12 17 (by decide) (fun c6 => ?_) (fun c6 => ?_)
    · have h := Ho_f c6 h
      refine J_aload_n hx dX4_kinds_17 0 rfl ?_
      refine J_iload_n hx dX4_kinds_18 2 rfl ?_
      obtain ⟨t7, e8, h⟩ := Ho_bind h
      refine J_callVi hx lkV_RX4_230 (rfl : k_sh 0 = (4, k_N 4)) [.int v2] [] rfl rfl (Nat.le_of_ble_eq_true rfl) (Nat.le_of_ble_eq_true rfl) (s_X4_findingOfSeen  ⟨t7, e8, ⟨rfl, rfl, rfl⟩⟩) dX4_kinds_19 ?_
      refine J_istore_n (x := t7) (lv' := [(3, .int t7), (0, .ref (ad 0)), (1, .int v1), (2, .int v2)]) hx dX4_kinds_22 rfl (by decide) rfl ?_
      refine J_iload_n hx dX4_kinds_23 0 rfl ?_
      refine J_if_eq hx dX4_kinds_24 33 (by decide) (fun c9 => ?_) (fun c9 => ?_)
      · have h := Ho_t c9 h
        refine J_aload_n hx dX4_kinds_33 1 rfl ?_
        refine J_iload_n hx dX4_kinds_34 2 rfl ?_
        refine J_iload_n hx dX4_kinds_35 3 rfl ?_
        obtain ⟨t10, e11, h⟩ := Ho_bind h
        refine J_callVi hx lkV_RX4_236 (rfl : k_sh 0 = (4, k_N 4)) [.int v1, .int v2] [] rfl rfl (Nat.le_of_ble_eq_true rfl) (Nat.le_of_ble_eq_true rfl) (s_X4_kindsAsSeen  ⟨t10, e11, ⟨rfl, rfl, rfl⟩⟩) dX4_kinds_36 ?_
        have h := Ho_some h
        exact J_iret hx hQ dX4_kinds_39 h
      · have h := Ho_f c9 h
        refine J_aload_n hx dX4_kinds_27 1 rfl ?_
        refine J_iload_n hx dX4_kinds_28 0 rfl ?_
        obtain ⟨t12, e13, h⟩ := Ho_bind h
        refine J_callVi hx lkV_RX4_93 (rfl : k_sh 0 = (4, k_N 4)) [.int t7] [] rfl rfl (Nat.le_of_ble_eq_true rfl) (Nat.le_of_ble_eq_true rfl) (s_X4_found  ⟨t12, e13, ⟨rfl, rfl, rfl⟩⟩) dX4_kinds_29 ?_
        have h := Ho_some h
        exact J_iret hx hQ dX4_kinds_32 h
    · have h := Ho_t c6 h
      refine J_iconst (v := (-1 : Int32)) hx dX4_kinds_15 (by decide) ?_
      have h := Ho_some h
      exact J_iret hx hQ dX4_kinds_16 h
abbrev kr_X4_later (P : Option Value → StI → StL → Prop) (L : StL) : Int32 × StI → Prop := fun t => P (some (.int t.1)) t.2 L
def f_X4_later (v1 : Int32) (v2 : Int32) (I : StI) : Option (Int32 × StI) :=
  Option.bind (f_X4_isCaller v1 I) (fun t1 => (if t1 = 0 then some ((-1 : Int32), I) else (if v2 < 0 then some ((-1 : Int32), I) else (if v2 ≤ (60 : Int32) then Option.bind (f_X3_become 33 24 I) (fun t6 => Option.bind (f_X3_answeredIn 33 v2 t6) (fun t8 => k_let (k_up t8.2 0 9 t8.1) (fun I10 => k_gd v1 7 (some ((I10 (k_cq 33 v1.toNatClampNeg) 3), I10))))) else some ((-1 : Int32), I)))))
set_option maxRecDepth 100000 in
set_option maxHeartbeats 4000000 in
theorem s_X4_later {l : Launch} {ad : Nat → Nat} {P : Option Value → StI → StL → Prop} {I : StI} {L : StL} {v1 : Int32} {v2 : Int32}  (h : Ho (f_X4_later v1 v2 I) (kr_X4_later P L)) : k_Met l ad 5 yX4_later cX4_later 3 (some .int) [.ref (ad 0), .int v1, .int v2] I L P := by
  refine k_enter (by decide +kernel) (Nat.le_of_ble_eq_true rfl) (fun X hl hx hQ => ?_)
  clear hl
  have hx : Ok X cX4_later RX4 3 (some .int) 5 := hx
  show J X ad 3 I L 0 [(0, .ref (ad 0)), (1, .int v1), (2, .int v2)] []
  unfold f_X4_later at h
  refine J_aload_n hx dX4_later_0 0 rfl ?_
  refine J_iload_n hx dX4_later_1 1 rfl ?_
  obtain ⟨t1, e2, h⟩ := Ho_bind h
  refine J_callVi hx lkV_RX4_126 (rfl : k_sh 0 = (4, k_N 4)) [.int v1] [] rfl rfl (Nat.le_of_ble_eq_true rfl) (Nat.le_of_ble_eq_true rfl) (s_X4_isCaller  ⟨t1, e2, ⟨rfl, rfl, rfl⟩⟩) dX4_later_2 ?_
  refine J_if_eq hx dX4_later_5 18 (by decide) (fun c3 => ?_) (fun c3 => ?_)
  · have h := Ho_t c3 h
    refine J_iconst (v := (-1 : Int32)) hx dX4_later_18 (by decide) ?_
    have h := Ho_some h
    exact J_iret hx hQ dX4_later_19 h
  · have h := Ho_f c3 h
    refine J_iload_n hx dX4_later_8 2 rfl ?_
    refine J_if_lt hx dX4_later_9 18 (by decide) (fun c4 => ?_) (fun c4 => ?_)
    · have h := Ho_t c4 h
      refine J_iconst (v := (-1 : Int32)) hx dX4_later_18 (by decide) ?_
      have h := Ho_some h
      exact J_iret hx hQ dX4_later_19 h
    · have h := Ho_f c4 h
      refine J_iload_n hx dX4_later_12 2 rfl ?_
      refine J_bipush (v := (60 : Int32)) hx dX4_later_13 (by decide) ?_
      refine J_ic_le hx dX4_later_15 20 (by decide) (fun c5 => ?_) (fun c5 => ?_)
      · have h := Ho_t c5 h
        refine J_aload_n hx dX4_later_20 0 rfl ?_
        refine J_getR (q := 33) hx fl_RX4_36 (rfl : k_sh 0 = (4, k_N 4)) rfl rfl dX4_later_21 ?_
        refine J_aload_n hx dX4_later_24 0 rfl ?_
        refine J_getR (q := 24) hx fl_RX4_33 (rfl : k_sh 0 = (4, k_N 4)) rfl rfl dX4_later_25 ?_
        obtain ⟨t6, e7, h⟩ := Ho_bind h
        refine J_callVv hx lkV_RX4_121 (rfl : k_sh 33 = (3, k_N 3)) [.ref (ad 24)] [] rfl rfl (Nat.le_of_ble_eq_true rfl) (Nat.le_of_ble_eq_true rfl) (s_X3_become k_H33 k_H24 ⟨t6, e7, ⟨rfl, rfl, rfl⟩⟩) dX4_later_28 ?_
        refine J_aload_n hx dX4_later_31 0 rfl ?_
        refine J_aload_n hx dX4_later_32 0 rfl ?_
        refine J_getR (q := 33) hx fl_RX4_36 (rfl : k_sh 0 = (4, k_N 4)) rfl rfl dX4_later_33 ?_
        refine J_iload_n hx dX4_later_36 2 rfl ?_
        obtain ⟨t8, e9, h⟩ := Ho_bind h
        refine J_callVi hx lkV_RX4_197 (rfl : k_sh 33 = (3, k_N 3)) [.int v2] [.ref (ad 0)] rfl rfl (Nat.le_of_ble_eq_true rfl) (Nat.le_of_ble_eq_true rfl) (s_X3_answeredIn k_H33 ⟨t8, e9, ⟨rfl, rfl, rfl⟩⟩) dX4_later_37 ?_
        obtain ⟨I10, hI10, h⟩ := Ho_let h
        refine J_putI hx flW_RX4_50 (rfl : k_sh 0 = (4, k_N 4)) rfl dX4_later_40 hI10 ?_
        refine J_aload_n hx dX4_later_43 0 rfl ?_
        refine J_getR (q := 33) hx fl_RX4_36 (rfl : k_sh 0 = (4, k_N 4)) rfl rfl dX4_later_44 ?_
        refine J_getR (q := 34) hx fl_RX4_129 (rfl : k_sh 33 = (3, k_N 3)) rfl rfl dX4_later_47 ?_
        refine J_iload_n hx dX4_later_50 1 rfl ?_
        obtain ⟨b11, h⟩ := Ho_gd h
        refine J_aald (q := (k_cq 33 v1.toNatClampNeg)) hx (rfl : k_sh 34 = (13, 7)) (by decide) (by decide) b11 (k_Hr k_H33) dX4_later_51 ?_
        refine J_getI hx fl_RX4_177 (k_H2 k_H33 b11) rfl dX4_later_52 ?_
        have h := Ho_some h
        exact J_iret hx hQ dX4_later_55 h
      · have h := Ho_f c5 h
        refine J_iconst (v := (-1 : Int32)) hx dX4_later_18 (by decide) ?_
        have h := Ho_some h
        exact J_iret hx hQ dX4_later_19 h
abbrev kr_X4_lay (P : Option Value → StI → StL → Prop) (L : StL) : Int32 × StI → Prop := fun t => P (some (.int t.1)) t.2 L
def f_X4_lay (v1 : Int32) (v2 : Int32) (v3 : Int32) (I : StI) : Option (Int32 × StI) :=
  Option.bind (f_X4_isRow v1) (fun t1 => (if t1 = 0 then some ((-1 : Int32), I) else k_gd v1 6 (Option.bind (f_X4_findingOfPlace (I 8 v1.toNatClampNeg) v2) (fun t5 => (if t5 = 0 then k_gd v1 6 (k_gd v2 40 (k_let (k_up I 0 9 (I (k_rq v1.toNatClampNeg) v2.toNatClampNeg)) (fun I10 => k_gd v1 6 (k_gd v2 40 (k_let (k_up I10 (k_rq v1.toNatClampNeg) v2.toNatClampNeg v3) (fun I13 => some ((1 : Int32), I13))))))) else Option.bind (f_X4_found t5 I) (fun t14 => some (t14.1, t14.2)))))))
set_option maxRecDepth 100000 in
set_option maxHeartbeats 4000000 in
theorem s_X4_lay {l : Launch} {ad : Nat → Nat} {P : Option Value → StI → StL → Prop} {I : StI} {L : StL} {v1 : Int32} {v2 : Int32} {v3 : Int32}  (h : Ho (f_X4_lay v1 v2 v3 I) (kr_X4_lay P L)) : k_Met l ad 2 yX4_lay cX4_lay 5 (some .int) [.ref (ad 0), .int v1, .int v2, .int v3] I L P := by
  refine k_enter (by decide +kernel) (Nat.le_of_ble_eq_true rfl) (fun X hl hx hQ => ?_)
  clear hl
  have hx : Ok X cX4_lay RX4 5 (some .int) 2 := hx
  show J X ad 5 I L 0 [(0, .ref (ad 0)), (1, .int v1), (2, .int v2), (3, .int v3)] []
  unfold f_X4_lay at h
  refine J_iload_n hx dX4_lay_0 1 rfl ?_
  obtain ⟨t1, e2, h⟩ := Ho_bind h
  refine J_callSi hx lkS_RX4_89 [.int v1] [] rfl rfl (Nat.le_of_ble_eq_true rfl) (Nat.le_of_ble_eq_true rfl) (s_X4_isRow  ⟨t1, e2, ⟨rfl, rfl, rfl⟩⟩) dX4_lay_1 ?_
  refine J_if_ne hx dX4_lay_4 9 (by decide) (fun c3 => ?_) (fun c3 => ?_)
  · have h := Ho_f c3 h
    refine J_aload_n hx dX4_lay_9 0 rfl ?_
    refine J_getR (q := 8) hx fl_RX4_14 (rfl : k_sh 0 = (4, k_N 4)) rfl rfl dX4_lay_10 ?_
    refine J_iload_n hx dX4_lay_13 1 rfl ?_
    obtain ⟨b4, h⟩ := Ho_gd h
    refine J_iald hx (rfl : k_sh 8 = (10, 6)) b4 dX4_lay_14 ?_
    refine J_iload_n hx dX4_lay_15 2 rfl ?_
    obtain ⟨t5, e6, h⟩ := Ho_bind h
    refine J_callSi hx lkS_RX4_97 [.int (I 8 v1.toNatClampNeg), .int v2] [] rfl rfl (Nat.le_of_ble_eq_true rfl) (Nat.le_of_ble_eq_true rfl) (s_X4_findingOfPlace  ⟨t5, e6, ⟨rfl, rfl, rfl⟩⟩) dX4_lay_16 ?_
    refine J_istore (x := t5) (lv' := [(4, .int t5), (0, .ref (ad 0)), (1, .int v1), (2, .int v2), (3, .int v3)]) hx dX4_lay_19 rfl (by decide) rfl ?_
    refine J_iload hx dX4_lay_21 0 rfl ?_
    refine J_if_eq hx dX4_lay_23 33 (by decide) (fun c7 => ?_) (fun c7 => ?_)
    · have h := Ho_t c7 h
      refine J_aload_n hx dX4_lay_33 1 rfl ?_
      refine J_aload_n hx dX4_lay_34 1 rfl ?_
      refine J_getR (q := 1) hx fl_RX4_11 (rfl : k_sh 0 = (4, k_N 4)) rfl rfl dX4_lay_35 ?_
      refine J_iload_n hx dX4_lay_38 2 rfl ?_
      obtain ⟨b8, h⟩ := Ho_gd h
      refine J_aald (q := (k_rq v1.toNatClampNeg)) hx (rfl : k_sh 1 = (15, 6)) (by decide) (by decide) b8 k_Rr dX4_lay_39 ?_
      refine J_iload_n hx dX4_lay_40 3 rfl ?_
      obtain ⟨b9, h⟩ := Ho_gd h
      refine J_iald hx (k_Rq b8) b9 dX4_lay_41 ?_
      obtain ⟨I10, hI10, h⟩ := Ho_let h
      refine J_putI hx flW_RX4_50 (rfl : k_sh 0 = (4, k_N 4)) rfl dX4_lay_42 hI10 ?_
      refine J_aload_n hx dX4_lay_45 1 rfl ?_
      refine J_getR (q := 1) hx fl_RX4_11 (rfl : k_sh 0 = (4, k_N 4)) rfl rfl dX4_lay_46 ?_
      refine J_iload_n hx dX4_lay_49 2 rfl ?_
      obtain ⟨b11, h⟩ := Ho_gd h
      refine J_aald (q := (k_rq v1.toNatClampNeg)) hx (rfl : k_sh 1 = (15, 6)) (by decide) (by decide) b11 k_Rr dX4_lay_50 ?_
      refine J_iload_n hx dX4_lay_51 3 rfl ?_
      refine J_iload_n hx dX4_lay_52 4 rfl ?_
      obtain ⟨b12, h⟩ := Ho_gd h
      obtain ⟨I13, hI13, h⟩ := Ho_let h
      refine J_iast hx (k_Rq b11) b12 dX4_lay_53 hI13 ?_
      refine J_iconst (v := (1 : Int32)) hx dX4_lay_54 (by decide) ?_
      have h := Ho_some h
      exact J_iret hx hQ dX4_lay_55 h
    · have h := Ho_f c7 h
      refine J_aload_n hx dX4_lay_26 1 rfl ?_
      refine J_iload hx dX4_lay_27 0 rfl ?_
      obtain ⟨t14, e15, h⟩ := Ho_bind h
      refine J_callVi hx lkV_RX4_93 (rfl : k_sh 0 = (4, k_N 4)) [.int t5] [] rfl rfl (Nat.le_of_ble_eq_true rfl) (Nat.le_of_ble_eq_true rfl) (s_X4_found  ⟨t14, e15, ⟨rfl, rfl, rfl⟩⟩) dX4_lay_29 ?_
      have h := Ho_some h
      exact J_iret hx hQ dX4_lay_32 h
  · have h := Ho_t c3 h
    refine J_iconst (v := (-1 : Int32)) hx dX4_lay_7 (by decide) ?_
    have h := Ho_some h
    exact J_iret hx hQ dX4_lay_8 h
abbrev kr_X4_limit (P : Option Value → StI → StL → Prop) (L : StL) : Int32 × StI → Prop := fun t => P (some (.int t.1)) t.2 L
def f_X4_limit (v1 : Int32) (v2 : Int32) (I : StI) : Option (Int32 × StI) :=
  Option.bind (f_X4_isCaller v1 I) (fun t1 => (if t1 = 0 then some ((-1 : Int32), I) else Option.bind (f_X4_isFigure v2) (fun t4 => (if t4 = 0 then some ((-1 : Int32), I) else k_gd v1 7 (k_let (I (k_cq 24 v1.toNatClampNeg) 1) (fun x8 => (if x8 = v2 then some ((-4 : Int32), I) else Option.bind (f_X4_isFullWith (1 : Int32) I) (fun t10 => (if t10 = 0 then Option.bind (f_X4_doDeed (4 : Int32) v1 v2 I) (fun t13 => some (x8, t13)) else some ((-2 : Int32), I))))))))))
set_option maxRecDepth 100000 in
set_option maxHeartbeats 4000000 in
theorem s_X4_limit {l : Launch} {ad : Nat → Nat} {P : Option Value → StI → StL → Prop} {I : StI} {L : StL} {v1 : Int32} {v2 : Int32}  (h : Ho (f_X4_limit v1 v2 I) (kr_X4_limit P L)) : k_Met l ad 6 yX4_limit cX4_limit 4 (some .int) [.ref (ad 0), .int v1, .int v2] I L P := by
  refine k_enter (by decide +kernel) (Nat.le_of_ble_eq_true rfl) (fun X hl hx hQ => ?_)
  clear hl
  have hx : Ok X cX4_limit RX4 4 (some .int) 6 := hx
  show J X ad 4 I L 0 [(0, .ref (ad 0)), (1, .int v1), (2, .int v2)] []
  unfold f_X4_limit at h
  refine J_aload_n hx dX4_limit_0 0 rfl ?_
  refine J_iload_n hx dX4_limit_1 1 rfl ?_
  obtain ⟨t1, e2, h⟩ := Ho_bind h
  refine J_callVi hx lkV_RX4_126 (rfl : k_sh 0 = (4, k_N 4)) [.int v1] [] rfl rfl (Nat.le_of_ble_eq_true rfl) (Nat.le_of_ble_eq_true rfl) (s_X4_isCaller  ⟨t1, e2, ⟨rfl, rfl, rfl⟩⟩) dX4_limit_2 ?_
  refine J_if_eq hx dX4_limit_5 15 (by decide) (fun c3 => ?_) (fun c3 => ?_)
  · have h := Ho_t c3 h
    refine J_iconst (v := (-1 : Int32)) hx dX4_limit_15 (by decide) ?_
    have h := Ho_some h
    exact J_iret hx hQ dX4_limit_16 h
  · have h := Ho_f c3 h
    refine J_iload_n hx dX4_limit_8 2 rfl ?_
    obtain ⟨t4, e5, h⟩ := Ho_bind h
    refine J_callSi hx lkS_RX4_168 [.int v2] [] rfl rfl (Nat.le_of_ble_eq_true rfl) (Nat.le_of_ble_eq_true rfl) (s_X4_isFigure  ⟨t4, e5, ⟨rfl, rfl, rfl⟩⟩) dX4_limit_9 ?_
    refine J_if_ne hx dX4_limit_12 17 (by decide) (fun c6 => ?_) (fun c6 => ?_)
    · have h := Ho_f c6 h
      refine J_aload_n hx dX4_limit_17 0 rfl ?_
      refine J_getR (q := 24) hx fl_RX4_33 (rfl : k_sh 0 = (4, k_N 4)) rfl rfl dX4_limit_18 ?_
      refine J_getR (q := 25) hx fl_RX4_129 (rfl : k_sh 24 = (3, k_N 3)) rfl rfl dX4_limit_21 ?_
      refine J_iload_n hx dX4_limit_24 1 rfl ?_
      obtain ⟨b7, h⟩ := Ho_gd h
      refine J_aald (q := (k_cq 24 v1.toNatClampNeg)) hx (rfl : k_sh 25 = (13, 7)) (by decide) (by decide) b7 (k_Hr k_H24) dX4_limit_25 ?_
      refine J_getI hx fl_RX4_174 (k_H2 k_H24 b7) rfl dX4_limit_26 ?_
      obtain ⟨x8, hx8, h⟩ := Ho_let h
      refine J_istore_n (x := x8) (lv' := [(3, .int x8), (0, .ref (ad 0)), (1, .int v1), (2, .int v2)]) hx dX4_limit_29 hx8 (by decide) rfl ?_
      refine J_iload_n hx dX4_limit_30 0 rfl ?_
      refine J_iload_n hx dX4_limit_31 3 rfl ?_
      refine J_ic_ne hx dX4_limit_32 38 (by decide) (fun c9 => ?_) (fun c9 => ?_)
      · have h := Ho_f c9 h
        refine J_aload_n hx dX4_limit_38 1 rfl ?_
        refine J_iconst (v := (1 : Int32)) hx dX4_limit_39 (by decide) ?_
        obtain ⟨t10, e11, h⟩ := Ho_bind h
        refine J_callVi hx lkV_RX4_150 (rfl : k_sh 0 = (4, k_N 4)) [.int (1 : Int32)] [] rfl rfl (Nat.le_of_ble_eq_true rfl) (Nat.le_of_ble_eq_true rfl) (s_X4_isFullWith  ⟨t10, e11, ⟨rfl, rfl, rfl⟩⟩) dX4_limit_40 ?_
        refine J_if_eq hx dX4_limit_43 49 (by decide) (fun c12 => ?_) (fun c12 => ?_)
        · have h := Ho_t c12 h
          refine J_aload_n hx dX4_limit_49 1 rfl ?_
          refine J_iconst (v := (4 : Int32)) hx dX4_limit_50 (by decide) ?_
          refine J_iload_n hx dX4_limit_51 2 rfl ?_
          refine J_iload_n hx dX4_limit_52 3 rfl ?_
          obtain ⟨t13, e14, h⟩ := Ho_bind h
          refine J_callVv hx lkV_RX4_156 (rfl : k_sh 0 = (4, k_N 4)) [.int (4 : Int32), .int v1, .int v2] [] rfl rfl (Nat.le_of_ble_eq_true rfl) (Nat.le_of_ble_eq_true rfl) (s_X4_doDeed  ⟨t13, e14, ⟨rfl, rfl, rfl⟩⟩) dX4_limit_53 ?_
          refine J_iload_n hx dX4_limit_56 0 rfl ?_
          have h := Ho_some h
          exact J_iret hx hQ dX4_limit_57 h
        · have h := Ho_f c12 h
          refine J_bipush (v := (-2 : Int32)) hx dX4_limit_46 (by decide) ?_
          have h := Ho_some h
          exact J_iret hx hQ dX4_limit_48 h
      · have h := Ho_t c9 h
        refine J_bipush (v := (-4 : Int32)) hx dX4_limit_35 (by decide) ?_
        have h := Ho_some h
        exact J_iret hx hQ dX4_limit_37 h
    · have h := Ho_t c6 h
      refine J_iconst (v := (-1 : Int32)) hx dX4_limit_15 (by decide) ?_
      have h := Ho_some h
      exact J_iret hx hQ dX4_limit_16 h
abbrev kr_X4_lots (P : Option Value → StI → StL → Prop) (L : StL) : Int32 × StI → Prop := fun t => P (some (.int t.1)) t.2 L
abbrev g_X4_lots_L57 (X : k_C) (ad : Nat → Nat) (L : StL) (v1 : Int32) : (Int64 × Int32 × StI) → Prop := fun s => J X ad 6 s.2.2 L 57 [(0, .ref (ad 0)), (1, .int v1), (3, .long s.1), (5, .int s.2.1)] []
def f_X4_lots_L57_b (v1 : Int32) (v3 : Int64) (v5 : Int32) (I : StI) : Option ((Int64 × Int32 × StI) ⊕ (Int32 × StI)) :=
  (if v1 ≤ v5 then some (.inr ((I 24 5), I)) else k_let (((48271 : Int64) * v3) - ((48271 : Int64) * v3) / (2147483647 : Int64) * (2147483647 : Int64)) (fun x11 => Option.bind (f_X4_doDeedOfLot (x11).toInt32 I) (fun t12 => k_let (v5 + (1 : Int32)) (fun x14 => some (.inl (x11, x14, t12))))))
def f_X4_lots_L57 (v1 : Int32) (n : Nat) (v3 : Int64) (v5 : Int32) (I : StI) : Option (Int32 × StI) :=
  k_loop (fun s => f_X4_lots_L57_b v1 s.1 s.2.1 s.2.2) n (v3, v5, I)
set_option maxRecDepth 100000 in
set_option maxHeartbeats 4000000 in
theorem s_X4_lots_L57_b {X : k_C} {ad : Nat → Nat} {P : Option Value → StI → StL → Prop} {I : StI} {L : StL} (hx : Ok X cX4_lots RX4 6 (some .int) 7) (hQ : OkQ X ad P)  {v1 : Int32} {v3 : Int64} {v5 : Int32}  (h : Ho (f_X4_lots_L57_b v1 v3 v5 I) (Sum.elim (g_X4_lots_L57 X ad L v1) (kr_X4_lots P L))) : J X ad 6 I L 57 [(0, .ref (ad 0)), (1, .int v1), (3, .long v3), (5, .int v5)] [] := by
  unfold f_X4_lots_L57_b at h
  refine J_iload hx dX4_lots_57 3 rfl ?_
  refine J_iload_n hx dX4_lots_59 1 rfl ?_
  refine J_ic_ge hx dX4_lots_60 85 (by decide) (fun c10 => ?_) (fun c10 => ?_)
  · have h := Ho_t c10 h
    refine J_aload_n hx dX4_lots_85 0 rfl ?_
    refine J_getR (q := 24) hx fl_RX4_33 (rfl : k_sh 0 = (4, k_N 4)) rfl rfl dX4_lots_86 ?_
    refine J_getI hx fl_RX4_153 (rfl : k_sh 24 = (3, k_N 3)) rfl dX4_lots_89 ?_
    have h := Ho_some h
    exact J_iret hx hQ dX4_lots_92 h
  · have h := Ho_f c10 h
    refine J_ldc2 hx cn_RX4_265 dX4_lots_63 ?_
    refine J_lload_n hx dX4_lots_66 2 rfl ?_
    refine J_lmul hx dX4_lots_67 ?_
    refine J_ldc2 hx cn_RX4_263 dX4_lots_68 ?_
    refine J_lrem hx (by decide) dX4_lots_71 ?_
    obtain ⟨x11, hx11, h⟩ := Ho_let h
    refine J_lstore_n (x := x11) (lv' := [(3, .long x11), (0, .ref (ad 0)), (1, .int v1), (5, .int v5)]) hx dX4_lots_72 hx11 (by decide) rfl ?_
    refine J_aload_n hx dX4_lots_73 1 rfl ?_
    refine J_lload_n hx dX4_lots_74 0 rfl ?_
    refine J_l2i hx dX4_lots_75 ?_
    obtain ⟨t12, e13, h⟩ := Ho_bind h
    refine J_callVv hx lkV_RX4_267 (rfl : k_sh 0 = (4, k_N 4)) [.int (x11).toInt32] [] rfl rfl (Nat.le_of_ble_eq_true rfl) (Nat.le_of_ble_eq_true rfl) (s_X4_doDeedOfLot  ⟨t12, e13, ⟨rfl, rfl, rfl⟩⟩) dX4_lots_76 ?_
    obtain ⟨x14, hx14, h⟩ := Ho_let h
    refine J_iinc (x := x14) (lv' := [(5, .int x14), (3, .long x11), (0, .ref (ad 0)), (1, .int v1)]) hx dX4_lots_79 3 rfl (by rw [hx14]; rfl) (by decide) rfl ?_
    refine J_goto hx dX4_lots_82 57 (by decide) ?_
    refine J_sub (lv' := [(0, .ref (ad 0)), (1, .int v1), (3, .long x11), (5, .int x14)]) hx [2, 3, 1, 0] rfl ?_
    have h := Ho_some h
    exact h
set_option maxRecDepth 100000 in
set_option maxHeartbeats 4000000 in
theorem s_X4_lots_L57 {X : k_C} {ad : Nat → Nat} {P : Option Value → StI → StL → Prop} {I : StI} {L : StL} (hx : Ok X cX4_lots RX4 6 (some .int) 7) (hQ : OkQ X ad P)  {v1 : Int32} {v3 : Int64} {v5 : Int32}  (n : Nat) (h : Ho (f_X4_lots_L57 v1 n v3 v5 I) (kr_X4_lots P L)) : J X ad 6 I L 57 [(0, .ref (ad 0)), (1, .int v1), (3, .long v3), (5, .int v5)] [] := by
  exact k_loop_ho (G := g_X4_lots_L57 X ad L v1) (fun s hs => s_X4_lots_L57_b hx hQ  hs) n (v3, v5, I) h
def f_X4_lots (v1 : Int32) (v2 : Int32) (I : StI) : Option (Int32 × StI) :=
  (if v1 < (1 : Int32) then some ((-1 : Int32), I) else (if (20 : Int32) < v1 then some ((-1 : Int32), I) else (if v2 < (1 : Int32) then some ((-1 : Int32), I) else (if (lg_cmp (v2).toInt64 (2147483647 : Int64)) < 0 then (if (I 24 1) = 0 then some ((-4 : Int32), I) else Option.bind (f_X4_isFullWith v1 I) (fun t6 => (if t6 = 0 then k_let (v2).toInt64 (fun x9 => f_X4_lots_L57 v1 k_fu x9 (0 : Int32) I) else some ((-2 : Int32), I)))) else some ((-1 : Int32), I)))))
set_option maxRecDepth 100000 in
set_option maxHeartbeats 4000000 in
theorem s_X4_lots {l : Launch} {ad : Nat → Nat} {P : Option Value → StI → StL → Prop} {I : StI} {L : StL} {v1 : Int32} {v2 : Int32}  (h : Ho (f_X4_lots v1 v2 I) (kr_X4_lots P L)) : k_Met l ad 7 yX4_lots cX4_lots 6 (some .int) [.ref (ad 0), .int v1, .int v2] I L P := by
  refine k_enter (by decide +kernel) (Nat.le_of_ble_eq_true rfl) (fun X hl hx hQ => ?_)
  clear hl
  have hx : Ok X cX4_lots RX4 6 (some .int) 7 := hx
  show J X ad 6 I L 0 [(0, .ref (ad 0)), (1, .int v1), (2, .int v2)] []
  unfold f_X4_lots at h
  refine J_iload_n hx dX4_lots_0 1 rfl ?_
  refine J_iconst (v := (1 : Int32)) hx dX4_lots_1 (by decide) ?_
  refine J_ic_lt hx dX4_lots_2 25 (by decide) (fun c1 => ?_) (fun c1 => ?_)
  · have h := Ho_t c1 h
    refine J_iconst (v := (-1 : Int32)) hx dX4_lots_25 (by decide) ?_
    have h := Ho_some h
    exact J_iret hx hQ dX4_lots_26 h
  · have h := Ho_f c1 h
    refine J_iload_n hx dX4_lots_5 1 rfl ?_
    refine J_bipush (v := (20 : Int32)) hx dX4_lots_6 (by decide) ?_
    refine J_ic_gt hx dX4_lots_8 25 (by decide) (fun c2 => ?_) (fun c2 => ?_)
    · have h := Ho_t c2 h
      refine J_iconst (v := (-1 : Int32)) hx dX4_lots_25 (by decide) ?_
      have h := Ho_some h
      exact J_iret hx hQ dX4_lots_26 h
    · have h := Ho_f c2 h
      refine J_iload_n hx dX4_lots_11 2 rfl ?_
      refine J_iconst (v := (1 : Int32)) hx dX4_lots_12 (by decide) ?_
      refine J_ic_lt hx dX4_lots_13 25 (by decide) (fun c3 => ?_) (fun c3 => ?_)
      · have h := Ho_t c3 h
        refine J_iconst (v := (-1 : Int32)) hx dX4_lots_25 (by decide) ?_
        have h := Ho_some h
        exact J_iret hx hQ dX4_lots_26 h
      · have h := Ho_f c3 h
        refine J_iload_n hx dX4_lots_16 2 rfl ?_
        refine J_i2l hx dX4_lots_17 ?_
        refine J_ldc2 hx cn_RX4_263 dX4_lots_18 ?_
        refine J_lcmp hx dX4_lots_21 ?_
        refine J_if_lt hx dX4_lots_22 27 (by decide) (fun c4 => ?_) (fun c4 => ?_)
        · have h := Ho_t c4 h
          refine J_aload_n hx dX4_lots_27 0 rfl ?_
          refine J_getR (q := 24) hx fl_RX4_33 (rfl : k_sh 0 = (4, k_N 4)) rfl rfl dX4_lots_28 ?_
          refine J_getI hx fl_RX4_125 (rfl : k_sh 24 = (3, k_N 3)) rfl dX4_lots_31 ?_
          refine J_if_ne hx dX4_lots_34 40 (by decide) (fun c5 => ?_) (fun c5 => ?_)
          · have h := Ho_f c5 h
            refine J_aload_n hx dX4_lots_40 0 rfl ?_
            refine J_iload_n hx dX4_lots_41 1 rfl ?_
            obtain ⟨t6, e7, h⟩ := Ho_bind h
            refine J_callVi hx lkV_RX4_150 (rfl : k_sh 0 = (4, k_N 4)) [.int v1] [] rfl rfl (Nat.le_of_ble_eq_true rfl) (Nat.le_of_ble_eq_true rfl) (s_X4_isFullWith  ⟨t6, e7, ⟨rfl, rfl, rfl⟩⟩) dX4_lots_42 ?_
            refine J_if_eq hx dX4_lots_45 51 (by decide) (fun c8 => ?_) (fun c8 => ?_)
            · have h := Ho_t c8 h
              refine J_iload_n hx dX4_lots_51 2 rfl ?_
              refine J_i2l hx dX4_lots_52 ?_
              obtain ⟨x9, hx9, h⟩ := Ho_let h
              refine J_lstore_n (x := x9) (lv' := [(3, .long x9), (0, .ref (ad 0)), (1, .int v1), (2, .int v2)]) hx dX4_lots_53 hx9 (by decide) rfl ?_
              refine J_iconst (v := (0 : Int32)) hx dX4_lots_54 (by decide) ?_
              refine J_istore (x := (0 : Int32)) (lv' := [(5, .int (0 : Int32)), (3, .long x9), (0, .ref (ad 0)), (1, .int v1), (2, .int v2)]) hx dX4_lots_55 rfl (by decide) rfl ?_
              refine J_sub (lv' := [(0, .ref (ad 0)), (1, .int v1), (3, .long x9), (5, .int (0 : Int32))]) hx [2, 3, 1, 0] rfl ?_
              exact s_X4_lots_L57 hx hQ  k_fu h
            · have h := Ho_f c8 h
              refine J_bipush (v := (-2 : Int32)) hx dX4_lots_48 (by decide) ?_
              have h := Ho_some h
              exact J_iret hx hQ dX4_lots_50 h
          · have h := Ho_t c5 h
            refine J_bipush (v := (-4 : Int32)) hx dX4_lots_37 (by decide) ?_
            have h := Ho_some h
            exact J_iret hx hQ dX4_lots_39 h
        · have h := Ho_f c4 h
          refine J_iconst (v := (-1 : Int32)) hx dX4_lots_25 (by decide) ?_
          have h := Ho_some h
          exact J_iret hx hQ dX4_lots_26 h
abbrev kr_X4_lower (P : Option Value → StI → StL → Prop) (I : StI) (L : StL) : Int64 → Prop := fun t => P (some (.long t)) I L
def f_X4_lower (L : StL) : Option (Int64) :=
  some ((L 0 11))
set_option maxRecDepth 100000 in
set_option maxHeartbeats 4000000 in
theorem s_X4_lower {l : Launch} {ad : Nat → Nat} {P : Option Value → StI → StL → Prop} {I : StI} {L : StL}   (h : Ho (f_X4_lower L) (kr_X4_lower P I L)) : k_Met l ad 1 yX4_lower cX4_lower 1 (some .long) [.ref (ad 0)] I L P := by
  refine k_enter (by decide +kernel) (Nat.le_of_ble_eq_true rfl) (fun X hl hx hQ => ?_)
  clear hl
  have hx : Ok X cX4_lower RX4 1 (some .long) 1 := hx
  show J X ad 1 I L 0 [(0, .ref (ad 0))] []
  unfold f_X4_lower at h
  refine J_aload_n hx dX4_lower_0 0 rfl ?_
  refine J_getL hx fl_RX4_58 (rfl : k_sh 0 = (4, k_N 4)) rfl dX4_lower_1 ?_
  have h := Ho_some h
  exact J_lret hx hQ dX4_lower_4 h
abbrev kr_X4_mark (P : Option Value → StI → StL → Prop) (L : StL) : Int32 × StI → Prop := fun t => P (some (.int t.1)) t.2 L
def f_X4_mark (v1 : Int32) (v2 : Int32) (I : StI) : Option (Int32 × StI) :=
  Option.bind (f_X4_isCaller v1 I) (fun t1 => (if t1 = 0 then some ((-1 : Int32), I) else (if v2 ≤ 0 then some ((-1 : Int32), I) else (if v2 < (6 : Int32) then k_gd v1 7 (Option.bind (f_X0_isOf (k_cq 24 v1.toNatClampNeg) v2 I) (fun t7 => (if t7 = 0 then Option.bind (f_X4_found (3 : Int32) I) (fun t12 => some (t12.1, t12.2)) else Option.bind (f_X0_markOf (k_cq 24 v1.toNatClampNeg) v2 (I 24 4) I) (fun t10 => some (t10, I))))) else some ((-1 : Int32), I)))))
set_option maxRecDepth 100000 in
set_option maxHeartbeats 4000000 in
theorem s_X4_mark {l : Launch} {ad : Nat → Nat} {P : Option Value → StI → StL → Prop} {I : StI} {L : StL} {v1 : Int32} {v2 : Int32}  (h : Ho (f_X4_mark v1 v2 I) (kr_X4_mark P L)) : k_Met l ad 3 yX4_mark cX4_mark 4 (some .int) [.ref (ad 0), .int v1, .int v2] I L P := by
  refine k_enter (by decide +kernel) (Nat.le_of_ble_eq_true rfl) (fun X hl hx hQ => ?_)
  clear hl
  have hx : Ok X cX4_mark RX4 4 (some .int) 3 := hx
  show J X ad 4 I L 0 [(0, .ref (ad 0)), (1, .int v1), (2, .int v2)] []
  unfold f_X4_mark at h
  refine J_aload_n hx dX4_mark_0 0 rfl ?_
  refine J_iload_n hx dX4_mark_1 1 rfl ?_
  obtain ⟨t1, e2, h⟩ := Ho_bind h
  refine J_callVi hx lkV_RX4_126 (rfl : k_sh 0 = (4, k_N 4)) [.int v1] [] rfl rfl (Nat.le_of_ble_eq_true rfl) (Nat.le_of_ble_eq_true rfl) (s_X4_isCaller  ⟨t1, e2, ⟨rfl, rfl, rfl⟩⟩) dX4_mark_2 ?_
  refine J_if_eq hx dX4_mark_5 18 (by decide) (fun c3 => ?_) (fun c3 => ?_)
  · have h := Ho_t c3 h
    refine J_iconst (v := (-1 : Int32)) hx dX4_mark_18 (by decide) ?_
    have h := Ho_some h
    exact J_iret hx hQ dX4_mark_19 h
  · have h := Ho_f c3 h
    refine J_iload_n hx dX4_mark_8 2 rfl ?_
    refine J_if_le hx dX4_mark_9 18 (by decide) (fun c4 => ?_) (fun c4 => ?_)
    · have h := Ho_t c4 h
      refine J_iconst (v := (-1 : Int32)) hx dX4_mark_18 (by decide) ?_
      have h := Ho_some h
      exact J_iret hx hQ dX4_mark_19 h
    · have h := Ho_f c4 h
      refine J_iload_n hx dX4_mark_12 2 rfl ?_
      refine J_bipush (v := (6 : Int32)) hx dX4_mark_13 (by decide) ?_
      refine J_ic_lt hx dX4_mark_15 20 (by decide) (fun c5 => ?_) (fun c5 => ?_)
      · have h := Ho_t c5 h
        refine J_aload_n hx dX4_mark_20 0 rfl ?_
        refine J_getR (q := 24) hx fl_RX4_33 (rfl : k_sh 0 = (4, k_N 4)) rfl rfl dX4_mark_21 ?_
        refine J_getR (q := 25) hx fl_RX4_129 (rfl : k_sh 24 = (3, k_N 3)) rfl rfl dX4_mark_24 ?_
        refine J_iload_n hx dX4_mark_27 1 rfl ?_
        obtain ⟨b6, h⟩ := Ho_gd h
        refine J_aald (q := (k_cq 24 v1.toNatClampNeg)) hx (rfl : k_sh 25 = (13, 7)) (by decide) (by decide) b6 (k_Hr k_H24) dX4_mark_28 ?_
        refine J_astore_n (x := ad (k_cq 24 v1.toNatClampNeg)) (lv' := [(3, .ref (ad (k_cq 24 v1.toNatClampNeg))), (0, .ref (ad 0)), (1, .int v1), (2, .int v2)]) hx dX4_mark_29 rfl (by decide) rfl ?_
        refine J_aload_n hx dX4_mark_30 0 rfl ?_
        refine J_iload_n hx dX4_mark_31 3 rfl ?_
        obtain ⟨t7, e8, h⟩ := Ho_bind h
        refine J_callVi hx lkV_RX4_138 (k_H2 k_H24 b6) [.int v2] [] rfl rfl (Nat.le_of_ble_eq_true rfl) (Nat.le_of_ble_eq_true rfl) (s_X0_isOf (k_H2 k_H24 b6) ⟨t7, e8, ⟨rfl, rfl, rfl⟩⟩) dX4_mark_32 ?_
        refine J_if_ne hx dX4_mark_35 44 (by decide) (fun c9 => ?_) (fun c9 => ?_)
        · have h := Ho_f c9 h
          refine J_aload_n hx dX4_mark_44 0 rfl ?_
          refine J_iload_n hx dX4_mark_45 3 rfl ?_
          refine J_aload_n hx dX4_mark_46 1 rfl ?_
          refine J_getR (q := 24) hx fl_RX4_33 (rfl : k_sh 0 = (4, k_N 4)) rfl rfl dX4_mark_47 ?_
          refine J_getI hx fl_RX4_141 (rfl : k_sh 24 = (3, k_N 3)) rfl dX4_mark_50 ?_
          obtain ⟨t10, e11, h⟩ := Ho_bind h
          refine J_callVi hx lkV_RX4_144 (k_H2 k_H24 b6) [.int v2, .int (I 24 4)] [] rfl rfl (Nat.le_of_ble_eq_true rfl) (Nat.le_of_ble_eq_true rfl) (s_X0_markOf (k_H2 k_H24 b6) ⟨t10, e11, ⟨rfl, rfl, rfl⟩⟩) dX4_mark_53 ?_
          have h := Ho_some h
          exact J_iret hx hQ dX4_mark_56 h
        · have h := Ho_t c9 h
          refine J_aload_n hx dX4_mark_38 1 rfl ?_
          refine J_iconst (v := (3 : Int32)) hx dX4_mark_39 (by decide) ?_
          obtain ⟨t12, e13, h⟩ := Ho_bind h
          refine J_callVi hx lkV_RX4_93 (rfl : k_sh 0 = (4, k_N 4)) [.int (3 : Int32)] [] rfl rfl (Nat.le_of_ble_eq_true rfl) (Nat.le_of_ble_eq_true rfl) (s_X4_found  ⟨t12, e13, ⟨rfl, rfl, rfl⟩⟩) dX4_mark_40 ?_
          have h := Ho_some h
          exact J_iret hx hQ dX4_mark_43 h
      · have h := Ho_f c5 h
        refine J_iconst (v := (-1 : Int32)) hx dX4_mark_18 (by decide) ?_
        have h := Ho_some h
        exact J_iret hx hQ dX4_mark_19 h
abbrev kr_X4_mean (P : Option Value → StI → StL → Prop) (L : StL) : Int32 × StI → Prop := fun t => P (some (.int t.1)) t.2 L
abbrev g_X4_mean_L42 (X : k_C) (ad : Nat → Nat) (I : StI) (L : StL) (v1 : Int32) (v2 : Int32) : (Int64 × Int32) → Prop := fun s => J X ad 6 I L 42 [(0, .ref (ad 0)), (1, .int v1), (2, .int v2), (3, .long s.1), (5, .int s.2)] []
def f_X4_mean_L42_b (v1 : Int32) (v2 : Int32) (v3 : Int64) (v5 : Int32) (I : StI) : Option ((Int64 × Int32) ⊕ (Int32 × StI)) :=
  (if v2 ≤ v5 then k_nzL (v2).toInt64 (k_let (k_up I 0 9 ((v3 / (v2).toInt64)).toInt32) (fun I10 => some (.inr ((1 : Int32), I10)))) else k_gd v1 6 (k_gd v5 40 (k_let (v3 + ((I (k_rq v1.toNatClampNeg) v5.toNatClampNeg)).toInt64) (fun x13 => k_let (v5 + (1 : Int32)) (fun x14 => some (.inl (x13, x14)))))))
def f_X4_mean_L42 (v1 : Int32) (v2 : Int32) (I : StI) (n : Nat) (v3 : Int64) (v5 : Int32) : Option (Int32 × StI) :=
  k_loop (fun s => f_X4_mean_L42_b v1 v2 s.1 s.2 I) n (v3, v5)
set_option maxRecDepth 100000 in
set_option maxHeartbeats 4000000 in
theorem s_X4_mean_L42_b {X : k_C} {ad : Nat → Nat} {P : Option Value → StI → StL → Prop} {I : StI} {L : StL} (hx : Ok X cX4_mean RX4 6 (some .int) 2) (hQ : OkQ X ad P)  {v1 : Int32} {v2 : Int32} {v3 : Int64} {v5 : Int32}  (h : Ho (f_X4_mean_L42_b v1 v2 v3 v5 I) (Sum.elim (g_X4_mean_L42 X ad I L v1 v2) (kr_X4_mean P L))) : J X ad 6 I L 42 [(0, .ref (ad 0)), (1, .int v1), (2, .int v2), (3, .long v3), (5, .int v5)] [] := by
  unfold f_X4_mean_L42_b at h
  refine J_iload hx dX4_mean_42 4 rfl ?_
  refine J_iload_n hx dX4_mean_44 2 rfl ?_
  refine J_ic_ge hx dX4_mean_45 67 (by decide) (fun c8 => ?_) (fun c8 => ?_)
  · have h := Ho_t c8 h
    refine J_aload_n hx dX4_mean_67 0 rfl ?_
    refine J_lload_n hx dX4_mean_68 3 rfl ?_
    refine J_iload_n hx dX4_mean_69 2 rfl ?_
    refine J_i2l hx dX4_mean_70 ?_
    obtain ⟨hz9, h⟩ := Ho_nzL h
    refine J_ldiv hx hz9 dX4_mean_71 ?_
    refine J_l2i hx dX4_mean_72 ?_
    obtain ⟨I10, hI10, h⟩ := Ho_let h
    refine J_putI hx flW_RX4_50 (rfl : k_sh 0 = (4, k_N 4)) rfl dX4_mean_73 hI10 ?_
    refine J_iconst (v := (1 : Int32)) hx dX4_mean_76 (by decide) ?_
    have h := Ho_some h
    exact J_iret hx hQ dX4_mean_77 h
  · have h := Ho_f c8 h
    refine J_lload_n hx dX4_mean_48 3 rfl ?_
    refine J_aload_n hx dX4_mean_49 0 rfl ?_
    refine J_getR (q := 1) hx fl_RX4_11 (rfl : k_sh 0 = (4, k_N 4)) rfl rfl dX4_mean_50 ?_
    refine J_iload_n hx dX4_mean_53 1 rfl ?_
    obtain ⟨b11, h⟩ := Ho_gd h
    refine J_aald (q := (k_rq v1.toNatClampNeg)) hx (rfl : k_sh 1 = (15, 6)) (by decide) (by decide) b11 k_Rr dX4_mean_54 ?_
    refine J_iload hx dX4_mean_55 4 rfl ?_
    obtain ⟨b12, h⟩ := Ho_gd h
    refine J_iald hx (k_Rq b11) b12 dX4_mean_57 ?_
    refine J_i2l hx dX4_mean_58 ?_
    refine J_ladd hx dX4_mean_59 ?_
    obtain ⟨x13, hx13, h⟩ := Ho_let h
    refine J_lstore_n (x := x13) (lv' := [(3, .long x13), (0, .ref (ad 0)), (1, .int v1), (2, .int v2), (5, .int v5)]) hx dX4_mean_60 hx13 (by decide) rfl ?_
    obtain ⟨x14, hx14, h⟩ := Ho_let h
    refine J_iinc (x := x14) (lv' := [(5, .int x14), (3, .long x13), (0, .ref (ad 0)), (1, .int v1), (2, .int v2)]) hx dX4_mean_61 4 rfl (by rw [hx14]; rfl) (by decide) rfl ?_
    refine J_goto hx dX4_mean_64 42 (by decide) ?_
    refine J_sub (lv' := [(0, .ref (ad 0)), (1, .int v1), (2, .int v2), (3, .long x13), (5, .int x14)]) hx [2, 3, 4, 1, 0] rfl ?_
    have h := Ho_some h
    exact h
set_option maxRecDepth 100000 in
set_option maxHeartbeats 4000000 in
theorem s_X4_mean_L42 {X : k_C} {ad : Nat → Nat} {P : Option Value → StI → StL → Prop} {I : StI} {L : StL} (hx : Ok X cX4_mean RX4 6 (some .int) 2) (hQ : OkQ X ad P)  {v1 : Int32} {v2 : Int32} {v3 : Int64} {v5 : Int32}  (n : Nat) (h : Ho (f_X4_mean_L42 v1 v2 I n v3 v5) (kr_X4_mean P L)) : J X ad 6 I L 42 [(0, .ref (ad 0)), (1, .int v1), (2, .int v2), (3, .long v3), (5, .int v5)] [] := by
  exact k_loop_ho (G := g_X4_mean_L42 X ad I L v1 v2) (fun s hs => s_X4_mean_L42_b hx hQ  hs) n (v3, v5) h
def f_X4_mean (v1 : Int32) (I : StI) : Option (Int32 × StI) :=
  Option.bind (f_X4_isRow v1) (fun t1 => (if t1 = 0 then some ((-1 : Int32), I) else k_gd v1 6 (k_let (I 8 v1.toNatClampNeg) (fun x5 => (if x5 = (-1 : Int32) then Option.bind (f_X4_found (1 : Int32) I) (fun t17 => some (t17.1, t17.2)) else (if 0 < x5 then f_X4_mean_L42 v1 x5 I k_fu (0 : Int64) (0 : Int32) else Option.bind (f_X4_found (4 : Int32) I) (fun t15 => some (t15.1, t15.2))))))))
set_option maxRecDepth 100000 in
set_option maxHeartbeats 4000000 in
theorem s_X4_mean {l : Launch} {ad : Nat → Nat} {P : Option Value → StI → StL → Prop} {I : StI} {L : StL} {v1 : Int32}  (h : Ho (f_X4_mean v1 I) (kr_X4_mean P L)) : k_Met l ad 2 yX4_mean cX4_mean 6 (some .int) [.ref (ad 0), .int v1] I L P := by
  refine k_enter (by decide +kernel) (Nat.le_of_ble_eq_true rfl) (fun X hl hx hQ => ?_)
  clear hl
  have hx : Ok X cX4_mean RX4 6 (some .int) 2 := hx
  show J X ad 6 I L 0 [(0, .ref (ad 0)), (1, .int v1)] []
  unfold f_X4_mean at h
  refine J_iload_n hx dX4_mean_0 1 rfl ?_
  obtain ⟨t1, e2, h⟩ := Ho_bind h
  refine J_callSi hx lkS_RX4_89 [.int v1] [] rfl rfl (Nat.le_of_ble_eq_true rfl) (Nat.le_of_ble_eq_true rfl) (s_X4_isRow  ⟨t1, e2, ⟨rfl, rfl, rfl⟩⟩) dX4_mean_1 ?_
  refine J_if_ne hx dX4_mean_4 9 (by decide) (fun c3 => ?_) (fun c3 => ?_)
  · have h := Ho_f c3 h
    refine J_aload_n hx dX4_mean_9 0 rfl ?_
    refine J_getR (q := 8) hx fl_RX4_14 (rfl : k_sh 0 = (4, k_N 4)) rfl rfl dX4_mean_10 ?_
    refine J_iload_n hx dX4_mean_13 1 rfl ?_
    obtain ⟨b4, h⟩ := Ho_gd h
    refine J_iald hx (rfl : k_sh 8 = (10, 6)) b4 dX4_mean_14 ?_
    obtain ⟨x5, hx5, h⟩ := Ho_let h
    refine J_istore_n (x := x5) (lv' := [(2, .int x5), (0, .ref (ad 0)), (1, .int v1)]) hx dX4_mean_15 hx5 (by decide) rfl ?_
    refine J_iload_n hx dX4_mean_16 0 rfl ?_
    refine J_iconst (v := (-1 : Int32)) hx dX4_mean_17 (by decide) ?_
    refine J_ic_ne hx dX4_mean_18 27 (by decide) (fun c6 => ?_) (fun c6 => ?_)
    · have h := Ho_f c6 h
      refine J_iload_n hx dX4_mean_27 0 rfl ?_
      refine J_if_gt hx dX4_mean_28 37 (by decide) (fun c7 => ?_) (fun c7 => ?_)
      · have h := Ho_t c7 h
        refine J_lconst (v := (0 : Int64)) hx dX4_mean_37 (by decide) ?_
        refine J_lstore_n (x := (0 : Int64)) (lv' := [(3, .long (0 : Int64)), (2, .int x5), (0, .ref (ad 0)), (1, .int v1)]) hx dX4_mean_38 rfl (by decide) rfl ?_
        refine J_iconst (v := (0 : Int32)) hx dX4_mean_39 (by decide) ?_
        refine J_istore (x := (0 : Int32)) (lv' := [(5, .int (0 : Int32)), (3, .long (0 : Int64)), (2, .int x5), (0, .ref (ad 0)), (1, .int v1)]) hx dX4_mean_40 rfl (by decide) rfl ?_
        refine J_sub (lv' := [(0, .ref (ad 0)), (1, .int v1), (2, .int x5), (3, .long (0 : Int64)), (5, .int (0 : Int32))]) hx [3, 4, 2, 1, 0] rfl ?_
        exact s_X4_mean_L42 hx hQ  k_fu h
      · have h := Ho_f c7 h
        refine J_aload_n hx dX4_mean_31 1 rfl ?_
        refine J_iconst (v := (4 : Int32)) hx dX4_mean_32 (by decide) ?_
        obtain ⟨t15, e16, h⟩ := Ho_bind h
        refine J_callVi hx lkV_RX4_93 (rfl : k_sh 0 = (4, k_N 4)) [.int (4 : Int32)] [] rfl rfl (Nat.le_of_ble_eq_true rfl) (Nat.le_of_ble_eq_true rfl) (s_X4_found  ⟨t15, e16, ⟨rfl, rfl, rfl⟩⟩) dX4_mean_33 ?_
        have h := Ho_some h
        exact J_iret hx hQ dX4_mean_36 h
    · have h := Ho_t c6 h
      refine J_aload_n hx dX4_mean_21 1 rfl ?_
      refine J_iconst (v := (1 : Int32)) hx dX4_mean_22 (by decide) ?_
      obtain ⟨t17, e18, h⟩ := Ho_bind h
      refine J_callVi hx lkV_RX4_93 (rfl : k_sh 0 = (4, k_N 4)) [.int (1 : Int32)] [] rfl rfl (Nat.le_of_ble_eq_true rfl) (Nat.le_of_ble_eq_true rfl) (s_X4_found  ⟨t17, e18, ⟨rfl, rfl, rfl⟩⟩) dX4_mean_23 ?_
      have h := Ho_some h
      exact J_iret hx hQ dX4_mean_26 h
  · have h := Ho_t c3 h
    refine J_iconst (v := (-1 : Int32)) hx dX4_mean_7 (by decide) ?_
    have h := Ho_some h
    exact J_iret hx hQ dX4_mean_8 h
abbrev kr_X4_mend (P : Option Value → StI → StL → Prop) (L : StL) : Int32 × StI → Prop := fun t => P (some (.int t.1)) t.2 L
abbrev g_X4_mend_L54 (X : k_C) (ad : Nat → Nat) (L : StL) (v1 : Int32) : (Int32 × StI) → Prop := fun s => J X ad 3 s.2 L 54 [(0, .ref (ad 0)), (1, .int v1), (2, .int s.1)] []
def f_X4_mend_L54_b (v1 : Int32) (v2 : Int32) (I : StI) : Option ((Int32 × StI) ⊕ (Int32 × StI)) :=
  (if (8 : Int32) ≤ v2 then (if (I 48 1) = (-9 : Int32) then some (.inr ((I 48 1), I)) else k_let (k_up I 0 9 (I 48 0)) (fun I12 => some (.inr ((I12 48 1), I12)))) else Option.bind (f_X3_become 33 24 I) (fun t13 => k_let (k_up t13 33 3 ((t13 33 3) ^^^ ((1 : Int32) <<< (v2 &&& 31)))) (fun I15 => Option.bind (f_X3_answeredIn 33 v1 I15) (fun t16 => Option.bind (f_X1_offer v2 t16.1 t16.2) (fun t18 => k_let (v2 + (1 : Int32)) (fun x20 => some (.inl (x20, t18))))))))
def f_X4_mend_L54 (v1 : Int32) (n : Nat) (v2 : Int32) (I : StI) : Option (Int32 × StI) :=
  k_loop (fun s => f_X4_mend_L54_b v1 s.1 s.2) n (v2, I)
set_option maxRecDepth 100000 in
set_option maxHeartbeats 4000000 in
theorem s_X4_mend_L54_b {X : k_C} {ad : Nat → Nat} {P : Option Value → StI → StL → Prop} {I : StI} {L : StL} (hx : Ok X cX4_mend RX4 3 (some .int) 5) (hQ : OkQ X ad P)  {v1 : Int32} {v2 : Int32}  (h : Ho (f_X4_mend_L54_b v1 v2 I) (Sum.elim (g_X4_mend_L54 X ad L v1) (kr_X4_mend P L))) : J X ad 3 I L 54 [(0, .ref (ad 0)), (1, .int v1), (2, .int v2)] [] := by
  unfold f_X4_mend_L54_b at h
  refine J_iload_n hx dX4_mend_54 2 rfl ?_
  refine J_bipush (v := (8 : Int32)) hx dX4_mend_55 (by decide) ?_
  refine J_ic_ge hx dX4_mend_57 108 (by decide) (fun c10 => ?_) (fun c10 => ?_)
  · have h := Ho_t c10 h
    refine J_aload_n hx dX4_mend_108 0 rfl ?_
    refine J_getR (q := 48) hx fl_RX4_70 (rfl : k_sh 0 = (4, k_N 4)) rfl rfl dX4_mend_109 ?_
    refine J_getI hx fl_RX4_224 (rfl : k_sh 48 = (1, k_N 1)) rfl dX4_mend_112 ?_
    refine J_bipush (v := (-9 : Int32)) hx dX4_mend_115 (by decide) ?_
    refine J_ic_eq hx dX4_mend_117 131 (by decide) (fun c11 => ?_) (fun c11 => ?_)
    · have h := Ho_t c11 h
      refine J_aload_n hx dX4_mend_131 0 rfl ?_
      refine J_getR (q := 48) hx fl_RX4_70 (rfl : k_sh 0 = (4, k_N 4)) rfl rfl dX4_mend_132 ?_
      refine J_getI hx fl_RX4_224 (rfl : k_sh 48 = (1, k_N 1)) rfl dX4_mend_135 ?_
      have h := Ho_some h
      exact J_iret hx hQ dX4_mend_138 h
    · have h := Ho_f c11 h
      refine J_aload_n hx dX4_mend_120 0 rfl ?_
      refine J_aload_n hx dX4_mend_121 0 rfl ?_
      refine J_getR (q := 48) hx fl_RX4_70 (rfl : k_sh 0 = (4, k_N 4)) rfl rfl dX4_mend_122 ?_
      refine J_getI hx fl_RX4_221 (rfl : k_sh 48 = (1, k_N 1)) rfl dX4_mend_125 ?_
      obtain ⟨I12, hI12, h⟩ := Ho_let h
      refine J_putI hx flW_RX4_50 (rfl : k_sh 0 = (4, k_N 4)) rfl dX4_mend_128 hI12 ?_
      refine J_aload_n hx dX4_mend_131 0 rfl ?_
      refine J_getR (q := 48) hx fl_RX4_70 (rfl : k_sh 0 = (4, k_N 4)) rfl rfl dX4_mend_132 ?_
      refine J_getI hx fl_RX4_224 (rfl : k_sh 48 = (1, k_N 1)) rfl dX4_mend_135 ?_
      have h := Ho_some h
      exact J_iret hx hQ dX4_mend_138 h
  · have h := Ho_f c10 h
    refine J_aload_n hx dX4_mend_60 0 rfl ?_
    refine J_getR (q := 33) hx fl_RX4_36 (rfl : k_sh 0 = (4, k_N 4)) rfl rfl dX4_mend_61 ?_
    refine J_aload_n hx dX4_mend_64 0 rfl ?_
    refine J_getR (q := 24) hx fl_RX4_33 (rfl : k_sh 0 = (4, k_N 4)) rfl rfl dX4_mend_65 ?_
    obtain ⟨t13, e14, h⟩ := Ho_bind h
    refine J_callVv hx lkV_RX4_121 (rfl : k_sh 33 = (3, k_N 3)) [.ref (ad 24)] [] rfl rfl (Nat.le_of_ble_eq_true rfl) (Nat.le_of_ble_eq_true rfl) (s_X3_become k_H33 k_H24 ⟨t13, e14, ⟨rfl, rfl, rfl⟩⟩) dX4_mend_68 ?_
    refine J_aload_n hx dX4_mend_71 0 rfl ?_
    refine J_getR (q := 33) hx fl_RX4_36 (rfl : k_sh 0 = (4, k_N 4)) rfl rfl dX4_mend_72 ?_
    refine J_dup hx dX4_mend_75 rfl ?_
    refine J_getI hx fl_RX4_160 (rfl : k_sh 33 = (3, k_N 3)) rfl dX4_mend_76 ?_
    refine J_iconst (v := (1 : Int32)) hx dX4_mend_79 (by decide) ?_
    refine J_iload_n hx dX4_mend_80 2 rfl ?_
    refine J_ishl hx dX4_mend_81 ?_
    refine J_ixor hx dX4_mend_82 ?_
    obtain ⟨I15, hI15, h⟩ := Ho_let h
    refine J_putI hx flW_RX4_160 (rfl : k_sh 33 = (3, k_N 3)) rfl dX4_mend_83 hI15 ?_
    refine J_aload_n hx dX4_mend_86 0 rfl ?_
    refine J_getR (q := 48) hx fl_RX4_70 (rfl : k_sh 0 = (4, k_N 4)) rfl rfl dX4_mend_87 ?_
    refine J_iload_n hx dX4_mend_90 2 rfl ?_
    refine J_aload_n hx dX4_mend_91 0 rfl ?_
    refine J_getR (q := 33) hx fl_RX4_36 (rfl : k_sh 0 = (4, k_N 4)) rfl rfl dX4_mend_92 ?_
    refine J_iload_n hx dX4_mend_95 1 rfl ?_
    obtain ⟨t16, e17, h⟩ := Ho_bind h
    refine J_callVi hx lkV_RX4_197 (rfl : k_sh 33 = (3, k_N 3)) [.int v1] [.int v2, .ref (ad 48)] rfl rfl (Nat.le_of_ble_eq_true rfl) (Nat.le_of_ble_eq_true rfl) (s_X3_answeredIn k_H33 ⟨t16, e17, ⟨rfl, rfl, rfl⟩⟩) dX4_mend_96 ?_
    obtain ⟨t18, e19, h⟩ := Ho_bind h
    refine J_callVv hx lkV_RX4_217 (rfl : k_sh 48 = (1, k_N 1)) [.int v2, .int t16.1] [] rfl rfl (Nat.le_of_ble_eq_true rfl) (Nat.le_of_ble_eq_true rfl) (s_X1_offer  ⟨t18, e19, ⟨rfl, rfl, rfl⟩⟩) dX4_mend_99 ?_
    obtain ⟨x20, hx20, h⟩ := Ho_let h
    refine J_iinc (x := x20) (lv' := [(2, .int x20), (0, .ref (ad 0)), (1, .int v1)]) hx dX4_mend_102 2 rfl (by rw [hx20]; rfl) (by decide) rfl ?_
    refine J_goto hx dX4_mend_105 54 (by decide) ?_
    refine J_sub (lv' := [(0, .ref (ad 0)), (1, .int v1), (2, .int x20)]) hx [1, 2, 0] rfl ?_
    have h := Ho_some h
    exact h
set_option maxRecDepth 100000 in
set_option maxHeartbeats 4000000 in
theorem s_X4_mend_L54 {X : k_C} {ad : Nat → Nat} {P : Option Value → StI → StL → Prop} {I : StI} {L : StL} (hx : Ok X cX4_mend RX4 3 (some .int) 5) (hQ : OkQ X ad P)  {v1 : Int32} {v2 : Int32}  (n : Nat) (h : Ho (f_X4_mend_L54 v1 n v2 I) (kr_X4_mend P L)) : J X ad 3 I L 54 [(0, .ref (ad 0)), (1, .int v1), (2, .int v2)] [] := by
  exact k_loop_ho (G := g_X4_mend_L54 X ad L v1) (fun s hs => s_X4_mend_L54_b hx hQ  hs) n (v2, I) h
def f_X4_mend (v1 : Int32) (I : StI) : Option (Int32 × StI) :=
  (if v1 < (1 : Int32) then some ((-1 : Int32), I) else (if v1 ≤ (40 : Int32) then (if (I 24 1) = 0 then some ((-4 : Int32), I) else Option.bind (f_X3_become 33 24 I) (fun t4 => Option.bind (f_X3_answeredIn 33 v1 t4) (fun t6 => Option.bind (f_X1_begin t6.1 t6.2) (fun t8 => f_X4_mend_L54 v1 k_fu (0 : Int32) t8)))) else some ((-1 : Int32), I)))
set_option maxRecDepth 100000 in
set_option maxHeartbeats 4000000 in
theorem s_X4_mend {l : Launch} {ad : Nat → Nat} {P : Option Value → StI → StL → Prop} {I : StI} {L : StL} {v1 : Int32}  (h : Ho (f_X4_mend v1 I) (kr_X4_mend P L)) : k_Met l ad 5 yX4_mend cX4_mend 3 (some .int) [.ref (ad 0), .int v1] I L P := by
  refine k_enter (by decide +kernel) (Nat.le_of_ble_eq_true rfl) (fun X hl hx hQ => ?_)
  clear hl
  have hx : Ok X cX4_mend RX4 3 (some .int) 5 := hx
  show J X ad 3 I L 0 [(0, .ref (ad 0)), (1, .int v1)] []
  unfold f_X4_mend at h
  refine J_iload_n hx dX4_mend_0 1 rfl ?_
  refine J_iconst (v := (1 : Int32)) hx dX4_mend_1 (by decide) ?_
  refine J_ic_lt hx dX4_mend_2 11 (by decide) (fun c1 => ?_) (fun c1 => ?_)
  · have h := Ho_t c1 h
    refine J_iconst (v := (-1 : Int32)) hx dX4_mend_11 (by decide) ?_
    have h := Ho_some h
    exact J_iret hx hQ dX4_mend_12 h
  · have h := Ho_f c1 h
    refine J_iload_n hx dX4_mend_5 1 rfl ?_
    refine J_bipush (v := (40 : Int32)) hx dX4_mend_6 (by decide) ?_
    refine J_ic_le hx dX4_mend_8 13 (by decide) (fun c2 => ?_) (fun c2 => ?_)
    · have h := Ho_t c2 h
      refine J_aload_n hx dX4_mend_13 0 rfl ?_
      refine J_getR (q := 24) hx fl_RX4_33 (rfl : k_sh 0 = (4, k_N 4)) rfl rfl dX4_mend_14 ?_
      refine J_getI hx fl_RX4_125 (rfl : k_sh 24 = (3, k_N 3)) rfl dX4_mend_17 ?_
      refine J_if_ne hx dX4_mend_20 26 (by decide) (fun c3 => ?_) (fun c3 => ?_)
      · have h := Ho_f c3 h
        refine J_aload_n hx dX4_mend_26 0 rfl ?_
        refine J_getR (q := 33) hx fl_RX4_36 (rfl : k_sh 0 = (4, k_N 4)) rfl rfl dX4_mend_27 ?_
        refine J_aload_n hx dX4_mend_30 0 rfl ?_
        refine J_getR (q := 24) hx fl_RX4_33 (rfl : k_sh 0 = (4, k_N 4)) rfl rfl dX4_mend_31 ?_
        obtain ⟨t4, e5, h⟩ := Ho_bind h
        refine J_callVv hx lkV_RX4_121 (rfl : k_sh 33 = (3, k_N 3)) [.ref (ad 24)] [] rfl rfl (Nat.le_of_ble_eq_true rfl) (Nat.le_of_ble_eq_true rfl) (s_X3_become k_H33 k_H24 ⟨t4, e5, ⟨rfl, rfl, rfl⟩⟩) dX4_mend_34 ?_
        refine J_aload_n hx dX4_mend_37 0 rfl ?_
        refine J_getR (q := 48) hx fl_RX4_70 (rfl : k_sh 0 = (4, k_N 4)) rfl rfl dX4_mend_38 ?_
        refine J_aload_n hx dX4_mend_41 0 rfl ?_
        refine J_getR (q := 33) hx fl_RX4_36 (rfl : k_sh 0 = (4, k_N 4)) rfl rfl dX4_mend_42 ?_
        refine J_iload_n hx dX4_mend_45 1 rfl ?_
        obtain ⟨t6, e7, h⟩ := Ho_bind h
        refine J_callVi hx lkV_RX4_197 (rfl : k_sh 33 = (3, k_N 3)) [.int v1] [.ref (ad 48)] rfl rfl (Nat.le_of_ble_eq_true rfl) (Nat.le_of_ble_eq_true rfl) (s_X3_answeredIn k_H33 ⟨t6, e7, ⟨rfl, rfl, rfl⟩⟩) dX4_mend_46 ?_
        obtain ⟨t8, e9, h⟩ := Ho_bind h
        refine J_callVv hx lkV_RX4_213 (rfl : k_sh 48 = (1, k_N 1)) [.int t6.1] [] rfl rfl (Nat.le_of_ble_eq_true rfl) (Nat.le_of_ble_eq_true rfl) (s_X1_begin  ⟨t8, e9, ⟨rfl, rfl, rfl⟩⟩) dX4_mend_49 ?_
        refine J_iconst (v := (0 : Int32)) hx dX4_mend_52 (by decide) ?_
        refine J_istore_n (x := (0 : Int32)) (lv' := [(2, .int (0 : Int32)), (0, .ref (ad 0)), (1, .int v1)]) hx dX4_mend_53 rfl (by decide) rfl ?_
        refine J_sub (lv' := [(0, .ref (ad 0)), (1, .int v1), (2, .int (0 : Int32))]) hx [1, 2, 0] rfl ?_
        exact s_X4_mend_L54 hx hQ  k_fu h
      · have h := Ho_t c3 h
        refine J_bipush (v := (-4 : Int32)) hx dX4_mend_23 (by decide) ?_
        have h := Ho_some h
        exact J_iret hx hQ dX4_mend_25 h
    · have h := Ho_f c2 h
      refine J_iconst (v := (-1 : Int32)) hx dX4_mend_11 (by decide) ?_
      have h := Ho_some h
      exact J_iret hx hQ dX4_mend_12 h
abbrev kr_X4_weightOfDowns (P : Option Value → StI → StL → Prop) (I : StI) (L : StL) : Int64 → Prop := fun t => P (some (.long t)) I L
abbrev g_X4_weightOfDowns_L5 (X : k_C) (ad : Nat → Nat) (I : StI) (L : StL) (v0 : Int32) (v1 : Int32) : (Int64 × Int32) → Prop := fun s => J X ad 6 I L 5 [(0, .int v0), (1, .int v1), (2, .long s.1), (4, .int s.2)] []
def f_X4_weightOfDowns_j45 (v0 : Int32) (v1 : Int32) (v4 : Int32) (s0 : Int64) (s1 : Int64) : Option ((Int64 × Int32) ⊕ (Int64)) :=
  k_let (s0 * s1) (fun x4 => k_let (v4 + (1 : Int32)) (fun x5 => some (.inl (x4, x5))))
set_option maxRecDepth 100000 in
set_option maxHeartbeats 4000000 in
theorem s_X4_weightOfDowns_j45 {X : k_C} {ad : Nat → Nat} {P : Option Value → StI → StL → Prop} {I : StI} {L : StL} (hx : Ok X cX4_weightOfDowns RX4 6 (some .long) 1) (hQ : OkQ X ad P)  {v0 : Int32} {v1 : Int32} {v4 : Int32} {s0 : Int64} {s1 : Int64}  (h : Ho (f_X4_weightOfDowns_j45 v0 v1 v4 s0 s1) (Sum.elim (g_X4_weightOfDowns_L5 X ad I L v0 v1) (kr_X4_weightOfDowns P I L))) : J X ad 6 I L 45 [(0, .int v0), (1, .int v1), (4, .int v4)] [.long s1, .long s0] := by
  unfold f_X4_weightOfDowns_j45 at h
  refine J_lmul hx dX4_weightOfDowns_45 ?_
  obtain ⟨x4, hx4, h⟩ := Ho_let h
  refine J_lstore_n (x := x4) (lv' := [(2, .long x4), (0, .int v0), (1, .int v1), (4, .int v4)]) hx dX4_weightOfDowns_46 hx4 (by decide) rfl ?_
  obtain ⟨x5, hx5, h⟩ := Ho_let h
  refine J_iinc (x := x5) (lv' := [(4, .int x5), (2, .long x4), (0, .int v0), (1, .int v1)]) hx dX4_weightOfDowns_47 3 rfl (by rw [hx5]; rfl) (by decide) rfl ?_
  refine J_goto hx dX4_weightOfDowns_50 5 (by decide) ?_
  refine J_sub (lv' := [(0, .int v0), (1, .int v1), (2, .long x4), (4, .int x5)]) hx [2, 3, 1, 0] rfl ?_
  have h := Ho_some h
  exact h
def f_X4_weightOfDowns_j27 (v0 : Int32) (v1 : Int32) (v2 : Int64) (v4 : Int32) (s0 : Int32) : Option ((Int64 × Int32) ⊕ (Int64)) :=
  (if s0 = 0 then f_X4_weightOfDowns_j45 v0 v1 v4 v2 (((12 : Int32) - v1)).toInt64 else f_X4_weightOfDowns_j45 v0 v1 v4 v2 (v1).toInt64)
set_option maxRecDepth 100000 in
set_option maxHeartbeats 4000000 in
theorem s_X4_weightOfDowns_j27 {X : k_C} {ad : Nat → Nat} {P : Option Value → StI → StL → Prop} {I : StI} {L : StL} (hx : Ok X cX4_weightOfDowns RX4 6 (some .long) 1) (hQ : OkQ X ad P)  {v0 : Int32} {v1 : Int32} {v2 : Int64} {v4 : Int32} {s0 : Int32}  (h : Ho (f_X4_weightOfDowns_j27 v0 v1 v2 v4 s0) (Sum.elim (g_X4_weightOfDowns_L5 X ad I L v0 v1) (kr_X4_weightOfDowns P I L))) : J X ad 6 I L 27 [(0, .int v0), (1, .int v1), (2, .long v2), (4, .int v4)] [.int s0] := by
  unfold f_X4_weightOfDowns_j27 at h
  refine J_istore (x := s0) (lv' := [(5, .int s0), (0, .int v0), (1, .int v1), (2, .long v2), (4, .int v4)]) hx dX4_weightOfDowns_27 rfl (by decide) rfl ?_
  refine J_lload_n hx dX4_weightOfDowns_29 3 rfl ?_
  refine J_iload hx dX4_weightOfDowns_30 0 rfl ?_
  refine J_if_eq hx dX4_weightOfDowns_32 40 (by decide) (fun c3 => ?_) (fun c3 => ?_)
  · have h := Ho_t c3 h
    refine J_bipush (v := (12 : Int32)) hx dX4_weightOfDowns_40 (by decide) ?_
    refine J_iload_n hx dX4_weightOfDowns_42 2 rfl ?_
    refine J_isub hx dX4_weightOfDowns_43 ?_
    refine J_i2l hx dX4_weightOfDowns_44 ?_
    refine J_sub (lv' := [(0, .int v0), (1, .int v1), (4, .int v4)]) hx [1, 2, 4] rfl ?_
    exact s_X4_weightOfDowns_j45 hx hQ  h
  · have h := Ho_f c3 h
    refine J_iload_n hx dX4_weightOfDowns_35 2 rfl ?_
    refine J_i2l hx dX4_weightOfDowns_36 ?_
    refine J_goto hx dX4_weightOfDowns_37 45 (by decide) ?_
    refine J_sub (lv' := [(0, .int v0), (1, .int v1), (4, .int v4)]) hx [1, 2, 4] rfl ?_
    exact s_X4_weightOfDowns_j45 hx hQ  h
def f_X4_weightOfDowns_L5_b (v0 : Int32) (v1 : Int32) (v2 : Int64) (v4 : Int32) : Option ((Int64 × Int32) ⊕ (Int64)) :=
  (if (6 : Int32) ≤ v4 then some (.inr (v2)) else (if ((v0 >>> (v4 &&& 31)) &&& (1 : Int32)) = (1 : Int32) then f_X4_weightOfDowns_j27 v0 v1 v2 v4 (1 : Int32) else f_X4_weightOfDowns_j27 v0 v1 v2 v4 (0 : Int32)))
def f_X4_weightOfDowns_L5 (v0 : Int32) (v1 : Int32) (n : Nat) (v2 : Int64) (v4 : Int32) : Option (Int64) :=
  k_loop (fun s => f_X4_weightOfDowns_L5_b v0 v1 s.1 s.2) n (v2, v4)
set_option maxRecDepth 100000 in
set_option maxHeartbeats 4000000 in
theorem s_X4_weightOfDowns_L5_b {X : k_C} {ad : Nat → Nat} {P : Option Value → StI → StL → Prop} {I : StI} {L : StL} (hx : Ok X cX4_weightOfDowns RX4 6 (some .long) 1) (hQ : OkQ X ad P)  {v0 : Int32} {v1 : Int32} {v2 : Int64} {v4 : Int32}  (h : Ho (f_X4_weightOfDowns_L5_b v0 v1 v2 v4) (Sum.elim (g_X4_weightOfDowns_L5 X ad I L v0 v1) (kr_X4_weightOfDowns P I L))) : J X ad 6 I L 5 [(0, .int v0), (1, .int v1), (2, .long v2), (4, .int v4)] [] := by
  unfold f_X4_weightOfDowns_L5_b at h
  refine J_iload hx dX4_weightOfDowns_5 3 rfl ?_
  refine J_bipush (v := (6 : Int32)) hx dX4_weightOfDowns_7 (by decide) ?_
  refine J_ic_ge hx dX4_weightOfDowns_9 53 (by decide) (fun c1 => ?_) (fun c1 => ?_)
  · have h := Ho_t c1 h
    refine J_lload_n hx dX4_weightOfDowns_53 2 rfl ?_
    have h := Ho_some h
    exact J_lret hx hQ dX4_weightOfDowns_54 h
  · have h := Ho_f c1 h
    refine J_iload_n hx dX4_weightOfDowns_12 0 rfl ?_
    refine J_iload hx dX4_weightOfDowns_13 3 rfl ?_
    refine J_ishr hx dX4_weightOfDowns_15 ?_
    refine J_iconst (v := (1 : Int32)) hx dX4_weightOfDowns_16 (by decide) ?_
    refine J_iand hx dX4_weightOfDowns_17 ?_
    refine J_iconst (v := (1 : Int32)) hx dX4_weightOfDowns_18 (by decide) ?_
    refine J_ic_ne hx dX4_weightOfDowns_19 26 (by decide) (fun c2 => ?_) (fun c2 => ?_)
    · have h := Ho_f c2 h
      refine J_iconst (v := (0 : Int32)) hx dX4_weightOfDowns_26 (by decide) ?_
      refine J_sub (lv' := [(0, .int v0), (1, .int v1), (2, .long v2), (4, .int v4)]) hx [0, 1, 2, 3] rfl ?_
      exact s_X4_weightOfDowns_j27 hx hQ  h
    · have h := Ho_t c2 h
      refine J_iconst (v := (1 : Int32)) hx dX4_weightOfDowns_22 (by decide) ?_
      refine J_goto hx dX4_weightOfDowns_23 27 (by decide) ?_
      refine J_sub (lv' := [(0, .int v0), (1, .int v1), (2, .long v2), (4, .int v4)]) hx [0, 1, 2, 3] rfl ?_
      exact s_X4_weightOfDowns_j27 hx hQ  h
set_option maxRecDepth 100000 in
set_option maxHeartbeats 4000000 in
theorem s_X4_weightOfDowns_L5 {X : k_C} {ad : Nat → Nat} {P : Option Value → StI → StL → Prop} {I : StI} {L : StL} (hx : Ok X cX4_weightOfDowns RX4 6 (some .long) 1) (hQ : OkQ X ad P)  {v0 : Int32} {v1 : Int32} {v2 : Int64} {v4 : Int32}  (n : Nat) (h : Ho (f_X4_weightOfDowns_L5 v0 v1 n v2 v4) (kr_X4_weightOfDowns P I L)) : J X ad 6 I L 5 [(0, .int v0), (1, .int v1), (2, .long v2), (4, .int v4)] [] := by
  exact k_loop_ho (G := g_X4_weightOfDowns_L5 X ad I L v0 v1) (fun s hs => s_X4_weightOfDowns_L5_b hx hQ  hs) n (v2, v4) h
def f_X4_weightOfDowns (v0 : Int32) (v1 : Int32) : Option (Int64) :=
  f_X4_weightOfDowns_L5 v0 v1 k_fu (1 : Int64) (0 : Int32)
set_option maxRecDepth 100000 in
set_option maxHeartbeats 4000000 in
theorem s_X4_weightOfDowns {l : Launch} {ad : Nat → Nat} {P : Option Value → StI → StL → Prop} {I : StI} {L : StL} {v0 : Int32} {v1 : Int32}  (h : Ho (f_X4_weightOfDowns v0 v1) (kr_X4_weightOfDowns P I L)) : k_Met l ad 1 yX4_weightOfDowns cX4_weightOfDowns 6 (some .long) [.int v0, .int v1] I L P := by
  refine k_enter (by decide +kernel) (Nat.le_of_ble_eq_true rfl) (fun X hl hx hQ => ?_)
  clear hl
  have hx : Ok X cX4_weightOfDowns RX4 6 (some .long) 1 := hx
  show J X ad 6 I L 0 [(0, .int v0), (1, .int v1)] []
  unfold f_X4_weightOfDowns at h
  refine J_lconst (v := (1 : Int64)) hx dX4_weightOfDowns_0 (by decide) ?_
  refine J_lstore_n (x := (1 : Int64)) (lv' := [(2, .long (1 : Int64)), (0, .int v0), (1, .int v1)]) hx dX4_weightOfDowns_1 rfl (by decide) rfl ?_
  refine J_iconst (v := (0 : Int32)) hx dX4_weightOfDowns_2 (by decide) ?_
  refine J_istore (x := (0 : Int32)) (lv' := [(4, .int (0 : Int32)), (2, .long (1 : Int64)), (0, .int v0), (1, .int v1)]) hx dX4_weightOfDowns_3 rfl (by decide) rfl ?_
  refine J_sub (lv' := [(0, .int v0), (1, .int v1), (2, .long (1 : Int64)), (4, .int (0 : Int32))]) hx [2, 3, 1, 0] rfl ?_
  exact s_X4_weightOfDowns_L5 hx hQ  k_fu h
abbrev kr_X4_tellFraction (P : Option Value → StI → StL → Prop) (I : StI) : StL → Prop := fun t => P none I t
abbrev g_X4_tellFraction_L5 (X : k_C) (ad : Nat → Nat) (I : StI) (L : StL) (v1 : Int64) : (Int64 × Int32) → Prop := fun s => J X ad 7 I L 5 [(0, .ref (ad 0)), (1, .long v1), (3, .long s.1), (5, .int s.2)] []
def f_X4_tellFraction_L5_b (v1 : Int64) (v3 : Int64) (v5 : Int32) (L : StL) : Option ((Int64 × Int32) ⊕ (StL)) :=
  (if (6 : Int32) ≤ v5 then Option.bind (f_X4_commonDivisor v3 v1) (fun t2 => k_nzL t2 (k_let (k_upL L 0 10 (v1 / t2)) (fun L5 => k_nzL t2 (k_let (k_upL L5 0 11 (v3 / t2)) (fun L7 => some (.inr (L7))))))) else k_let (v3 * (12 : Int64)) (fun x8 => k_let (v5 + (1 : Int32)) (fun x9 => some (.inl (x8, x9)))))
def f_X4_tellFraction_L5 (v1 : Int64) (L : StL) (n : Nat) (v3 : Int64) (v5 : Int32) : Option (StL) :=
  k_loop (fun s => f_X4_tellFraction_L5_b v1 s.1 s.2 L) n (v3, v5)
set_option maxRecDepth 100000 in
set_option maxHeartbeats 4000000 in
theorem s_X4_tellFraction_L5_b {X : k_C} {ad : Nat → Nat} {P : Option Value → StI → StL → Prop} {I : StI} {L : StL} (hx : Ok X cX4_tellFraction RX4 7 none 3) (hQ : OkQ X ad P)  {v1 : Int64} {v3 : Int64} {v5 : Int32}  (h : Ho (f_X4_tellFraction_L5_b v1 v3 v5 L) (Sum.elim (g_X4_tellFraction_L5 X ad I L v1) (kr_X4_tellFraction P I))) : J X ad 7 I L 5 [(0, .ref (ad 0)), (1, .long v1), (3, .long v3), (5, .int v5)] [] := by
  unfold f_X4_tellFraction_L5_b at h
  refine J_iload hx dX4_tellFraction_5 3 rfl ?_
  refine J_bipush (v := (6 : Int32)) hx dX4_tellFraction_7 (by decide) ?_
  refine J_ic_ge hx dX4_tellFraction_9 24 (by decide) (fun c1 => ?_) (fun c1 => ?_)
  · have h := Ho_t c1 h
    refine J_lload_n hx dX4_tellFraction_24 2 rfl ?_
    refine J_lload_n hx dX4_tellFraction_25 1 rfl ?_
    obtain ⟨t2, e3, h⟩ := Ho_bind h
    refine J_callSl hx lkS_RX4_318 [.long v3, .long v1] [] rfl rfl (Nat.le_of_ble_eq_true rfl) (Nat.le_of_ble_eq_true rfl) (s_X4_commonDivisor  ⟨t2, e3, ⟨rfl, rfl, rfl⟩⟩) dX4_tellFraction_26 ?_
    refine J_lstore (x := t2) (lv' := [(5, .long t2), (0, .ref (ad 0)), (1, .long v1), (3, .long v3)]) hx dX4_tellFraction_29 rfl (by decide) rfl ?_
    refine J_aload_n hx dX4_tellFraction_31 1 rfl ?_
    refine J_lload_n hx dX4_tellFraction_32 2 rfl ?_
    refine J_lload hx dX4_tellFraction_33 0 rfl ?_
    obtain ⟨hz4, h⟩ := Ho_nzL h
    refine J_ldiv hx hz4 dX4_tellFraction_35 ?_
    obtain ⟨L5, hL5, h⟩ := Ho_let h
    refine J_putL hx flW_RX4_54 (rfl : k_sh 0 = (4, k_N 4)) rfl dX4_tellFraction_36 hL5 ?_
    refine J_aload_n hx dX4_tellFraction_39 1 rfl ?_
    refine J_lload_n hx dX4_tellFraction_40 3 rfl ?_
    refine J_lload hx dX4_tellFraction_41 0 rfl ?_
    obtain ⟨hz6, h⟩ := Ho_nzL h
    refine J_ldiv hx hz6 dX4_tellFraction_43 ?_
    obtain ⟨L7, hL7, h⟩ := Ho_let h
    refine J_putL hx flW_RX4_58 (rfl : k_sh 0 = (4, k_N 4)) rfl dX4_tellFraction_44 hL7 ?_
    have h := Ho_some h
    exact J_vret hx hQ dX4_tellFraction_47 h
  · have h := Ho_f c1 h
    refine J_lload_n hx dX4_tellFraction_12 2 rfl ?_
    refine J_ldc2 hx cn_RX4_316 dX4_tellFraction_13 ?_
    refine J_lmul hx dX4_tellFraction_16 ?_
    obtain ⟨x8, hx8, h⟩ := Ho_let h
    refine J_lstore_n (x := x8) (lv' := [(3, .long x8), (0, .ref (ad 0)), (1, .long v1), (5, .int v5)]) hx dX4_tellFraction_17 hx8 (by decide) rfl ?_
    obtain ⟨x9, hx9, h⟩ := Ho_let h
    refine J_iinc (x := x9) (lv' := [(5, .int x9), (3, .long x8), (0, .ref (ad 0)), (1, .long v1)]) hx dX4_tellFraction_18 3 rfl (by rw [hx9]; rfl) (by decide) rfl ?_
    refine J_goto hx dX4_tellFraction_21 5 (by decide) ?_
    refine J_sub (lv' := [(0, .ref (ad 0)), (1, .long v1), (3, .long x8), (5, .int x9)]) hx [2, 3, 1, 0] rfl ?_
    have h := Ho_some h
    exact h
set_option maxRecDepth 100000 in
set_option maxHeartbeats 4000000 in
theorem s_X4_tellFraction_L5 {X : k_C} {ad : Nat → Nat} {P : Option Value → StI → StL → Prop} {I : StI} {L : StL} (hx : Ok X cX4_tellFraction RX4 7 none 3) (hQ : OkQ X ad P)  {v1 : Int64} {v3 : Int64} {v5 : Int32}  (n : Nat) (h : Ho (f_X4_tellFraction_L5 v1 L n v3 v5) (kr_X4_tellFraction P I)) : J X ad 7 I L 5 [(0, .ref (ad 0)), (1, .long v1), (3, .long v3), (5, .int v5)] [] := by
  exact k_loop_ho (G := g_X4_tellFraction_L5 X ad I L v1) (fun s hs => s_X4_tellFraction_L5_b hx hQ  hs) n (v3, v5) h
def f_X4_tellFraction (v1 : Int64) (L : StL) : Option (StL) :=
  f_X4_tellFraction_L5 v1 L k_fu (1 : Int64) (0 : Int32)
set_option maxRecDepth 100000 in
set_option maxHeartbeats 4000000 in
theorem s_X4_tellFraction {l : Launch} {ad : Nat → Nat} {P : Option Value → StI → StL → Prop} {I : StI} {L : StL} {v1 : Int64}  (h : Ho (f_X4_tellFraction v1 L) (kr_X4_tellFraction P I)) : k_Met l ad 3 yX4_tellFraction cX4_tellFraction 7 none [.ref (ad 0), .long v1] I L P := by
  refine k_enter (by decide +kernel) (Nat.le_of_ble_eq_true rfl) (fun X hl hx hQ => ?_)
  clear hl
  have hx : Ok X cX4_tellFraction RX4 7 none 3 := hx
  show J X ad 7 I L 0 [(0, .ref (ad 0)), (1, .long v1)] []
  unfold f_X4_tellFraction at h
  refine J_lconst (v := (1 : Int64)) hx dX4_tellFraction_0 (by decide) ?_
  refine J_lstore_n (x := (1 : Int64)) (lv' := [(3, .long (1 : Int64)), (0, .ref (ad 0)), (1, .long v1)]) hx dX4_tellFraction_1 rfl (by decide) rfl ?_
  refine J_iconst (v := (0 : Int32)) hx dX4_tellFraction_2 (by decide) ?_
  refine J_istore (x := (0 : Int32)) (lv' := [(5, .int (0 : Int32)), (3, .long (1 : Int64)), (0, .ref (ad 0)), (1, .long v1)]) hx dX4_tellFraction_3 rfl (by decide) rfl ?_
  refine J_sub (lv' := [(0, .ref (ad 0)), (1, .long v1), (3, .long (1 : Int64)), (5, .int (0 : Int32))]) hx [2, 3, 1, 0] rfl ?_
  exact s_X4_tellFraction_L5 hx hQ  k_fu h
abbrev kr_X4_mid (P : Option Value → StI → StL → Prop) : Int32 × StI × StL → Prop := fun t => P (some (.int t.1)) t.2.1 t.2.2
abbrev g_X4_mid_L27 (X : k_C) (ad : Nat → Nat) (L : StL) (v1 : Int32) : (Int64 × Int32 × StI) → Prop := fun s => J X ad 5 s.2.2 L 27 [(0, .ref (ad 0)), (1, .int v1), (2, .long s.1), (4, .int s.2.1)] []
def f_X4_mid_L27_b (v1 : Int32) (v2 : Int64) (v4 : Int32) (I : StI) (L : StL) : Option ((Int64 × Int32 × StI) ⊕ (Int32 × StI × StL)) :=
  (if (64 : Int32) ≤ v4 then Option.bind (f_X4_tellFraction v2 L) (fun t6 => some (.inr ((1 : Int32), I, t6))) else Option.bind (f_X4_answeredWithDowns v4 I) (fun t8 => Option.bind (f_X4_weightOfDowns v4 v1) (fun t10 => k_let (v2 + ((t8.1).toInt64 * t10)) (fun x12 => k_let (v4 + (1 : Int32)) (fun x13 => some (.inl (x12, x13, t8.2)))))))
def f_X4_mid_L27 (v1 : Int32) (L : StL) (n : Nat) (v2 : Int64) (v4 : Int32) (I : StI) : Option (Int32 × StI × StL) :=
  k_loop (fun s => f_X4_mid_L27_b v1 s.1 s.2.1 s.2.2 L) n (v2, v4, I)
set_option maxRecDepth 100000 in
set_option maxHeartbeats 4000000 in
theorem s_X4_mid_L27_b {X : k_C} {ad : Nat → Nat} {P : Option Value → StI → StL → Prop} {I : StI} {L : StL} (hx : Ok X cX4_mid RX4 5 (some .int) 5) (hQ : OkQ X ad P)  {v1 : Int32} {v2 : Int64} {v4 : Int32}  (h : Ho (f_X4_mid_L27_b v1 v2 v4 I L) (Sum.elim (g_X4_mid_L27 X ad L v1) (kr_X4_mid P))) : J X ad 5 I L 27 [(0, .ref (ad 0)), (1, .int v1), (2, .long v2), (4, .int v4)] [] := by
  unfold f_X4_mid_L27_b at h
  refine J_iload hx dX4_mid_27 3 rfl ?_
  refine J_bipush (v := (64 : Int32)) hx dX4_mid_29 (by decide) ?_
  refine J_ic_ge hx dX4_mid_31 57 (by decide) (fun c5 => ?_) (fun c5 => ?_)
  · have h := Ho_t c5 h
    refine J_aload_n hx dX4_mid_57 0 rfl ?_
    refine J_lload_n hx dX4_mid_58 2 rfl ?_
    obtain ⟨t6, e7, h⟩ := Ho_bind h
    refine J_callVv hx lkV_RX4_259 (rfl : k_sh 0 = (4, k_N 4)) [.long v2] [] rfl rfl (Nat.le_of_ble_eq_true rfl) (Nat.le_of_ble_eq_true rfl) (s_X4_tellFraction  ⟨t6, e7, ⟨rfl, rfl, rfl⟩⟩) dX4_mid_59 ?_
    refine J_iconst (v := (1 : Int32)) hx dX4_mid_62 (by decide) ?_
    have h := Ho_some h
    exact J_iret hx hQ dX4_mid_63 h
  · have h := Ho_f c5 h
    refine J_lload_n hx dX4_mid_34 2 rfl ?_
    refine J_aload_n hx dX4_mid_35 0 rfl ?_
    refine J_iload hx dX4_mid_36 3 rfl ?_
    obtain ⟨t8, e9, h⟩ := Ho_bind h
    refine J_callVi hx lkV_RX4_252 (rfl : k_sh 0 = (4, k_N 4)) [.int v4] [.long v2] rfl rfl (Nat.le_of_ble_eq_true rfl) (Nat.le_of_ble_eq_true rfl) (s_X4_answeredWithDowns  ⟨t8, e9, ⟨rfl, rfl, rfl⟩⟩) dX4_mid_38 ?_
    refine J_i2l hx dX4_mid_41 ?_
    refine J_iload hx dX4_mid_42 3 rfl ?_
    refine J_iload_n hx dX4_mid_44 1 rfl ?_
    obtain ⟨t10, e11, h⟩ := Ho_bind h
    refine J_callSl hx lkS_RX4_255 [.int v4, .int v1] [.long (t8.1).toInt64, .long v2] rfl rfl (Nat.le_of_ble_eq_true rfl) (Nat.le_of_ble_eq_true rfl) (s_X4_weightOfDowns  ⟨t10, e11, ⟨rfl, rfl, rfl⟩⟩) dX4_mid_45 ?_
    refine J_lmul hx dX4_mid_48 ?_
    refine J_ladd hx dX4_mid_49 ?_
    obtain ⟨x12, hx12, h⟩ := Ho_let h
    refine J_lstore_n (x := x12) (lv' := [(2, .long x12), (0, .ref (ad 0)), (1, .int v1), (4, .int v4)]) hx dX4_mid_50 hx12 (by decide) rfl ?_
    obtain ⟨x13, hx13, h⟩ := Ho_let h
    refine J_iinc (x := x13) (lv' := [(4, .int x13), (2, .long x12), (0, .ref (ad 0)), (1, .int v1)]) hx dX4_mid_51 3 rfl (by rw [hx13]; rfl) (by decide) rfl ?_
    refine J_goto hx dX4_mid_54 27 (by decide) ?_
    refine J_sub (lv' := [(0, .ref (ad 0)), (1, .int v1), (2, .long x12), (4, .int x13)]) hx [2, 3, 1, 0] rfl ?_
    have h := Ho_some h
    exact h
set_option maxRecDepth 100000 in
set_option maxHeartbeats 4000000 in
theorem s_X4_mid_L27 {X : k_C} {ad : Nat → Nat} {P : Option Value → StI → StL → Prop} {I : StI} {L : StL} (hx : Ok X cX4_mid RX4 5 (some .int) 5) (hQ : OkQ X ad P)  {v1 : Int32} {v2 : Int64} {v4 : Int32}  (n : Nat) (h : Ho (f_X4_mid_L27 v1 L n v2 v4 I) (kr_X4_mid P)) : J X ad 5 I L 27 [(0, .ref (ad 0)), (1, .int v1), (2, .long v2), (4, .int v4)] [] := by
  exact k_loop_ho (G := g_X4_mid_L27 X ad L v1) (fun s hs => s_X4_mid_L27_b hx hQ  hs) n (v2, v4, I) h
def f_X4_mid (v1 : Int32) (I : StI) (L : StL) : Option (Int32 × StI × StL) :=
  Option.bind (f_X4_isChance v1) (fun t1 => (if t1 = 0 then some ((-1 : Int32), I, L) else (if (I 24 1) = 0 then some ((-4 : Int32), I, L) else f_X4_mid_L27 v1 L k_fu (0 : Int64) (0 : Int32) I)))
set_option maxRecDepth 100000 in
set_option maxHeartbeats 4000000 in
theorem s_X4_mid {l : Launch} {ad : Nat → Nat} {P : Option Value → StI → StL → Prop} {I : StI} {L : StL} {v1 : Int32}  (h : Ho (f_X4_mid v1 I L) (kr_X4_mid P)) : k_Met l ad 5 yX4_mid cX4_mid 5 (some .int) [.ref (ad 0), .int v1] I L P := by
  refine k_enter (by decide +kernel) (Nat.le_of_ble_eq_true rfl) (fun X hl hx hQ => ?_)
  clear hl
  have hx : Ok X cX4_mid RX4 5 (some .int) 5 := hx
  show J X ad 5 I L 0 [(0, .ref (ad 0)), (1, .int v1)] []
  unfold f_X4_mid at h
  refine J_iload_n hx dX4_mid_0 1 rfl ?_
  obtain ⟨t1, e2, h⟩ := Ho_bind h
  refine J_callSi hx lkS_RX4_249 [.int v1] [] rfl rfl (Nat.le_of_ble_eq_true rfl) (Nat.le_of_ble_eq_true rfl) (s_X4_isChance  ⟨t1, e2, ⟨rfl, rfl, rfl⟩⟩) dX4_mid_1 ?_
  refine J_if_ne hx dX4_mid_4 9 (by decide) (fun c3 => ?_) (fun c3 => ?_)
  · have h := Ho_f c3 h
    refine J_aload_n hx dX4_mid_9 0 rfl ?_
    refine J_getR (q := 24) hx fl_RX4_33 (rfl : k_sh 0 = (4, k_N 4)) rfl rfl dX4_mid_10 ?_
    refine J_getI hx fl_RX4_125 (rfl : k_sh 24 = (3, k_N 3)) rfl dX4_mid_13 ?_
    refine J_if_ne hx dX4_mid_16 22 (by decide) (fun c4 => ?_) (fun c4 => ?_)
    · have h := Ho_f c4 h
      refine J_lconst (v := (0 : Int64)) hx dX4_mid_22 (by decide) ?_
      refine J_lstore_n (x := (0 : Int64)) (lv' := [(2, .long (0 : Int64)), (0, .ref (ad 0)), (1, .int v1)]) hx dX4_mid_23 rfl (by decide) rfl ?_
      refine J_iconst (v := (0 : Int32)) hx dX4_mid_24 (by decide) ?_
      refine J_istore (x := (0 : Int32)) (lv' := [(4, .int (0 : Int32)), (2, .long (0 : Int64)), (0, .ref (ad 0)), (1, .int v1)]) hx dX4_mid_25 rfl (by decide) rfl ?_
      refine J_sub (lv' := [(0, .ref (ad 0)), (1, .int v1), (2, .long (0 : Int64)), (4, .int (0 : Int32))]) hx [2, 3, 1, 0] rfl ?_
      exact s_X4_mid_L27 hx hQ  k_fu h
    · have h := Ho_t c4 h
      refine J_bipush (v := (-4 : Int32)) hx dX4_mid_19 (by decide) ?_
      have h := Ho_some h
      exact J_iret hx hQ dX4_mid_21 h
  · have h := Ho_t c3 h
    refine J_iconst (v := (-1 : Int32)) hx dX4_mid_7 (by decide) ?_
    have h := Ho_some h
    exact J_iret hx hQ dX4_mid_8 h
abbrev kr_X4_odds (P : Option Value → StI → StL → Prop) : Int32 × StI × StL → Prop := fun t => P (some (.int t.1)) t.2.1 t.2.2
abbrev g_X4_odds_L37 (X : k_C) (ad : Nat → Nat) (L : StL) (v1 : Int32) (v2 : Int32) : (Int64 × Int32 × StI) → Prop := fun s => J X ad 6 s.2.2 L 37 [(0, .ref (ad 0)), (1, .int v1), (2, .int v2), (3, .long s.1), (5, .int s.2.1)] []
def f_X4_odds_L37_b (v1 : Int32) (v2 : Int32) (v3 : Int64) (v5 : Int32) (I : StI) (L : StL) : Option ((Int64 × Int32 × StI) ⊕ (Int32 × StI × StL)) :=
  (if (64 : Int32) ≤ v5 then Option.bind (f_X4_tellFraction v3 L) (fun t8 => some (.inr ((1 : Int32), I, t8))) else Option.bind (f_X4_answeredWithDowns v5 I) (fun t10 => (if t10.1 < v1 then k_let (v5 + (1 : Int32)) (fun x13 => some (.inl (v3, x13, t10.2))) else Option.bind (f_X4_weightOfDowns v5 v2) (fun t14 => k_let (v3 + t14) (fun x16 => k_let (v5 + (1 : Int32)) (fun x17 => some (.inl (x16, x17, t10.2))))))))
def f_X4_odds_L37 (v1 : Int32) (v2 : Int32) (L : StL) (n : Nat) (v3 : Int64) (v5 : Int32) (I : StI) : Option (Int32 × StI × StL) :=
  k_loop (fun s => f_X4_odds_L37_b v1 v2 s.1 s.2.1 s.2.2 L) n (v3, v5, I)
set_option maxRecDepth 100000 in
set_option maxHeartbeats 4000000 in
theorem s_X4_odds_L37_b {X : k_C} {ad : Nat → Nat} {P : Option Value → StI → StL → Prop} {I : StI} {L : StL} (hx : Ok X cX4_odds RX4 6 (some .int) 5) (hQ : OkQ X ad P)  {v1 : Int32} {v2 : Int32} {v3 : Int64} {v5 : Int32}  (h : Ho (f_X4_odds_L37_b v1 v2 v3 v5 I L) (Sum.elim (g_X4_odds_L37 X ad L v1 v2) (kr_X4_odds P))) : J X ad 6 I L 37 [(0, .ref (ad 0)), (1, .int v1), (2, .int v2), (3, .long v3), (5, .int v5)] [] := by
  unfold f_X4_odds_L37_b at h
  refine J_iload hx dX4_odds_37 4 rfl ?_
  refine J_bipush (v := (64 : Int32)) hx dX4_odds_39 (by decide) ?_
  refine J_ic_ge hx dX4_odds_41 69 (by decide) (fun c7 => ?_) (fun c7 => ?_)
  · have h := Ho_t c7 h
    refine J_aload_n hx dX4_odds_69 0 rfl ?_
    refine J_lload_n hx dX4_odds_70 3 rfl ?_
    obtain ⟨t8, e9, h⟩ := Ho_bind h
    refine J_callVv hx lkV_RX4_259 (rfl : k_sh 0 = (4, k_N 4)) [.long v3] [] rfl rfl (Nat.le_of_ble_eq_true rfl) (Nat.le_of_ble_eq_true rfl) (s_X4_tellFraction  ⟨t8, e9, ⟨rfl, rfl, rfl⟩⟩) dX4_odds_71 ?_
    refine J_iconst (v := (1 : Int32)) hx dX4_odds_74 (by decide) ?_
    have h := Ho_some h
    exact J_iret hx hQ dX4_odds_75 h
  · have h := Ho_f c7 h
    refine J_aload_n hx dX4_odds_44 0 rfl ?_
    refine J_iload hx dX4_odds_45 4 rfl ?_
    obtain ⟨t10, e11, h⟩ := Ho_bind h
    refine J_callVi hx lkV_RX4_252 (rfl : k_sh 0 = (4, k_N 4)) [.int v5] [] rfl rfl (Nat.le_of_ble_eq_true rfl) (Nat.le_of_ble_eq_true rfl) (s_X4_answeredWithDowns  ⟨t10, e11, ⟨rfl, rfl, rfl⟩⟩) dX4_odds_47 ?_
    refine J_iload_n hx dX4_odds_50 1 rfl ?_
    refine J_ic_lt hx dX4_odds_51 63 (by decide) (fun c12 => ?_) (fun c12 => ?_)
    · have h := Ho_t c12 h
      obtain ⟨x13, hx13, h⟩ := Ho_let h
      refine J_iinc (x := x13) (lv' := [(5, .int x13), (0, .ref (ad 0)), (1, .int v1), (2, .int v2), (3, .long v3)]) hx dX4_odds_63 4 rfl (by rw [hx13]; rfl) (by decide) rfl ?_
      refine J_goto hx dX4_odds_66 37 (by decide) ?_
      refine J_sub (lv' := [(0, .ref (ad 0)), (1, .int v1), (2, .int v2), (3, .long v3), (5, .int x13)]) hx [1, 2, 3, 4, 0] rfl ?_
      have h := Ho_some h
      exact h
    · have h := Ho_f c12 h
      refine J_lload_n hx dX4_odds_54 3 rfl ?_
      refine J_iload hx dX4_odds_55 4 rfl ?_
      refine J_iload_n hx dX4_odds_57 2 rfl ?_
      obtain ⟨t14, e15, h⟩ := Ho_bind h
      refine J_callSl hx lkS_RX4_255 [.int v5, .int v2] [.long v3] rfl rfl (Nat.le_of_ble_eq_true rfl) (Nat.le_of_ble_eq_true rfl) (s_X4_weightOfDowns  ⟨t14, e15, ⟨rfl, rfl, rfl⟩⟩) dX4_odds_58 ?_
      refine J_ladd hx dX4_odds_61 ?_
      obtain ⟨x16, hx16, h⟩ := Ho_let h
      refine J_lstore_n (x := x16) (lv' := [(3, .long x16), (0, .ref (ad 0)), (1, .int v1), (2, .int v2), (5, .int v5)]) hx dX4_odds_62 hx16 (by decide) rfl ?_
      obtain ⟨x17, hx17, h⟩ := Ho_let h
      refine J_iinc (x := x17) (lv' := [(5, .int x17), (3, .long x16), (0, .ref (ad 0)), (1, .int v1), (2, .int v2)]) hx dX4_odds_63 4 rfl (by rw [hx17]; rfl) (by decide) rfl ?_
      refine J_goto hx dX4_odds_66 37 (by decide) ?_
      refine J_sub (lv' := [(0, .ref (ad 0)), (1, .int v1), (2, .int v2), (3, .long x16), (5, .int x17)]) hx [2, 3, 4, 1, 0] rfl ?_
      have h := Ho_some h
      exact h
set_option maxRecDepth 100000 in
set_option maxHeartbeats 4000000 in
theorem s_X4_odds_L37 {X : k_C} {ad : Nat → Nat} {P : Option Value → StI → StL → Prop} {I : StI} {L : StL} (hx : Ok X cX4_odds RX4 6 (some .int) 5) (hQ : OkQ X ad P)  {v1 : Int32} {v2 : Int32} {v3 : Int64} {v5 : Int32}  (n : Nat) (h : Ho (f_X4_odds_L37 v1 v2 L n v3 v5 I) (kr_X4_odds P)) : J X ad 6 I L 37 [(0, .ref (ad 0)), (1, .int v1), (2, .int v2), (3, .long v3), (5, .int v5)] [] := by
  exact k_loop_ho (G := g_X4_odds_L37 X ad L v1 v2) (fun s hs => s_X4_odds_L37_b hx hQ  hs) n (v3, v5, I) h
def f_X4_odds (v1 : Int32) (v2 : Int32) (I : StI) (L : StL) : Option (Int32 × StI × StL) :=
  (if v1 < 0 then some ((-1 : Int32), I, L) else (if (42 : Int32) < v1 then some ((-1 : Int32), I, L) else Option.bind (f_X4_isChance v2) (fun t3 => (if t3 = 0 then some ((-1 : Int32), I, L) else (if (I 24 1) = 0 then some ((-4 : Int32), I, L) else f_X4_odds_L37 v1 v2 L k_fu (0 : Int64) (0 : Int32) I)))))
set_option maxRecDepth 100000 in
set_option maxHeartbeats 4000000 in
theorem s_X4_odds {l : Launch} {ad : Nat → Nat} {P : Option Value → StI → StL → Prop} {I : StI} {L : StL} {v1 : Int32} {v2 : Int32}  (h : Ho (f_X4_odds v1 v2 I L) (kr_X4_odds P)) : k_Met l ad 5 yX4_odds cX4_odds 6 (some .int) [.ref (ad 0), .int v1, .int v2] I L P := by
  refine k_enter (by decide +kernel) (Nat.le_of_ble_eq_true rfl) (fun X hl hx hQ => ?_)
  clear hl
  have hx : Ok X cX4_odds RX4 6 (some .int) 5 := hx
  show J X ad 6 I L 0 [(0, .ref (ad 0)), (1, .int v1), (2, .int v2)] []
  unfold f_X4_odds at h
  refine J_iload_n hx dX4_odds_0 1 rfl ?_
  refine J_if_lt hx dX4_odds_1 17 (by decide) (fun c1 => ?_) (fun c1 => ?_)
  · have h := Ho_t c1 h
    refine J_iconst (v := (-1 : Int32)) hx dX4_odds_17 (by decide) ?_
    have h := Ho_some h
    exact J_iret hx hQ dX4_odds_18 h
  · have h := Ho_f c1 h
    refine J_iload_n hx dX4_odds_4 1 rfl ?_
    refine J_bipush (v := (42 : Int32)) hx dX4_odds_5 (by decide) ?_
    refine J_ic_gt hx dX4_odds_7 17 (by decide) (fun c2 => ?_) (fun c2 => ?_)
    · have h := Ho_t c2 h
      refine J_iconst (v := (-1 : Int32)) hx dX4_odds_17 (by decide) ?_
      have h := Ho_some h
      exact J_iret hx hQ dX4_odds_18 h
    · have h := Ho_f c2 h
      refine J_iload_n hx dX4_odds_10 2 rfl ?_
      obtain ⟨t3, e4, h⟩ := Ho_bind h
      refine J_callSi hx lkS_RX4_249 [.int v2] [] rfl rfl (Nat.le_of_ble_eq_true rfl) (Nat.le_of_ble_eq_true rfl) (s_X4_isChance  ⟨t3, e4, ⟨rfl, rfl, rfl⟩⟩) dX4_odds_11 ?_
      refine J_if_ne hx dX4_odds_14 19 (by decide) (fun c5 => ?_) (fun c5 => ?_)
      · have h := Ho_f c5 h
        refine J_aload_n hx dX4_odds_19 0 rfl ?_
        refine J_getR (q := 24) hx fl_RX4_33 (rfl : k_sh 0 = (4, k_N 4)) rfl rfl dX4_odds_20 ?_
        refine J_getI hx fl_RX4_125 (rfl : k_sh 24 = (3, k_N 3)) rfl dX4_odds_23 ?_
        refine J_if_ne hx dX4_odds_26 32 (by decide) (fun c6 => ?_) (fun c6 => ?_)
        · have h := Ho_f c6 h
          refine J_lconst (v := (0 : Int64)) hx dX4_odds_32 (by decide) ?_
          refine J_lstore_n (x := (0 : Int64)) (lv' := [(3, .long (0 : Int64)), (0, .ref (ad 0)), (1, .int v1), (2, .int v2)]) hx dX4_odds_33 rfl (by decide) rfl ?_
          refine J_iconst (v := (0 : Int32)) hx dX4_odds_34 (by decide) ?_
          refine J_istore (x := (0 : Int32)) (lv' := [(5, .int (0 : Int32)), (3, .long (0 : Int64)), (0, .ref (ad 0)), (1, .int v1), (2, .int v2)]) hx dX4_odds_35 rfl (by decide) rfl ?_
          refine J_sub (lv' := [(0, .ref (ad 0)), (1, .int v1), (2, .int v2), (3, .long (0 : Int64)), (5, .int (0 : Int32))]) hx [2, 3, 4, 1, 0] rfl ?_
          exact s_X4_odds_L37 hx hQ  k_fu h
        · have h := Ho_t c6 h
          refine J_bipush (v := (-4 : Int32)) hx dX4_odds_29 (by decide) ?_
          have h := Ho_some h
          exact J_iret hx hQ dX4_odds_31 h
      · have h := Ho_t c5 h
        refine J_iconst (v := (-1 : Int32)) hx dX4_odds_17 (by decide) ?_
        have h := Ho_some h
        exact J_iret hx hQ dX4_odds_18 h
abbrev kr_X4_on (P : Option Value → StI → StL → Prop) (L : StL) : Int32 × StI → Prop := fun t => P (some (.int t.1)) t.2 L
def f_X4_on (v1 : Int32) (I : StI) : Option (Int32 × StI) :=
  Option.bind (f_X4_isKeptPlace v1) (fun t1 => (if t1 = 0 then some ((-1 : Int32), I) else k_gd v1 3 ((if (I (k_dq v1.toNatClampNeg) 3) = (-1 : Int32) then Option.bind (f_X4_found (1 : Int32) I) (fun t11 => some (t11.1, t11.2)) else k_gd v1 3 (Option.bind (f_X2_become 42 (k_dq v1.toNatClampNeg) I) (fun t7 => Option.bind (f_X4_doAllAgain t7) (fun t9 => some ((t9 42 3), t9))))))))
set_option maxRecDepth 100000 in
set_option maxHeartbeats 4000000 in
theorem s_X4_on {l : Launch} {ad : Nat → Nat} {P : Option Value → StI → StL → Prop} {I : StI} {L : StL} {v1 : Int32}  (h : Ho (f_X4_on v1 I) (kr_X4_on P L)) : k_Met l ad 6 yX4_on cX4_on 2 (some .int) [.ref (ad 0), .int v1] I L P := by
  refine k_enter (by decide +kernel) (Nat.le_of_ble_eq_true rfl) (fun X hl hx hQ => ?_)
  clear hl
  have hx : Ok X cX4_on RX4 2 (some .int) 6 := hx
  show J X ad 2 I L 0 [(0, .ref (ad 0)), (1, .int v1)] []
  unfold f_X4_on at h
  refine J_iload_n hx dX4_on_0 1 rfl ?_
  obtain ⟨t1, e2, h⟩ := Ho_bind h
  refine J_callSi hx lkS_RX4_183 [.int v1] [] rfl rfl (Nat.le_of_ble_eq_true rfl) (Nat.le_of_ble_eq_true rfl) (s_X4_isKeptPlace  ⟨t1, e2, ⟨rfl, rfl, rfl⟩⟩) dX4_on_1 ?_
  refine J_if_ne hx dX4_on_4 9 (by decide) (fun c3 => ?_) (fun c3 => ?_)
  · have h := Ho_f c3 h
    refine J_aload_n hx dX4_on_9 0 rfl ?_
    refine J_getR (q := 46) hx fl_RX4_46 (rfl : k_sh 0 = (4, k_N 4)) rfl rfl dX4_on_10 ?_
    refine J_iload_n hx dX4_on_13 1 rfl ?_
    obtain ⟨b4, h⟩ := Ho_gd h
    refine J_aald (q := (k_dq v1.toNatClampNeg)) hx (rfl : k_sh 46 = (14, 3)) (by decide) (by decide) b4 k_Dqr dX4_on_14 ?_
    refine J_getI hx fl_RX4_86 (k_D0 (k_Dq b4)) rfl dX4_on_15 ?_
    refine J_iconst (v := (-1 : Int32)) hx dX4_on_18 (by decide) ?_
    refine J_ic_ne hx dX4_on_19 28 (by decide) (fun c5 => ?_) (fun c5 => ?_)
    · have h := Ho_f c5 h
      refine J_aload_n hx dX4_on_28 0 rfl ?_
      refine J_getR (q := 42) hx fl_RX4_42 (rfl : k_sh 0 = (4, k_N 4)) rfl rfl dX4_on_29 ?_
      refine J_aload_n hx dX4_on_32 0 rfl ?_
      refine J_getR (q := 46) hx fl_RX4_46 (rfl : k_sh 0 = (4, k_N 4)) rfl rfl dX4_on_33 ?_
      refine J_iload_n hx dX4_on_36 1 rfl ?_
      obtain ⟨b6, h⟩ := Ho_gd h
      refine J_aald (q := (k_dq v1.toNatClampNeg)) hx (rfl : k_sh 46 = (14, 3)) (by decide) (by decide) b6 k_Dqr dX4_on_37 ?_
      obtain ⟨t7, e8, h⟩ := Ho_bind h
      refine J_callVv hx lkV_RX4_186 (rfl : k_sh 42 = (2, k_N 2)) [.ref (ad (k_dq v1.toNatClampNeg))] [] rfl rfl (Nat.le_of_ble_eq_true rfl) (Nat.le_of_ble_eq_true rfl) (s_X2_become k_D42 (k_Dq b6) ⟨t7, e8, ⟨rfl, rfl, rfl⟩⟩) dX4_on_38 ?_
      refine J_aload_n hx dX4_on_41 0 rfl ?_
      obtain ⟨t9, e10, h⟩ := Ho_bind h
      refine J_callVv hx lkV_RX4_180 (rfl : k_sh 0 = (4, k_N 4)) [] [] rfl rfl (Nat.le_of_ble_eq_true rfl) (Nat.le_of_ble_eq_true rfl) (s_X4_doAllAgain  ⟨t9, e10, ⟨rfl, rfl, rfl⟩⟩) dX4_on_42 ?_
      refine J_aload_n hx dX4_on_45 0 rfl ?_
      refine J_getR (q := 42) hx fl_RX4_42 (rfl : k_sh 0 = (4, k_N 4)) rfl rfl dX4_on_46 ?_
      refine J_getI hx fl_RX4_86 (rfl : k_sh 42 = (2, k_N 2)) rfl dX4_on_49 ?_
      have h := Ho_some h
      exact J_iret hx hQ dX4_on_52 h
    · have h := Ho_t c5 h
      refine J_aload_n hx dX4_on_22 0 rfl ?_
      refine J_iconst (v := (1 : Int32)) hx dX4_on_23 (by decide) ?_
      obtain ⟨t11, e12, h⟩ := Ho_bind h
      refine J_callVi hx lkV_RX4_93 (rfl : k_sh 0 = (4, k_N 4)) [.int (1 : Int32)] [] rfl rfl (Nat.le_of_ble_eq_true rfl) (Nat.le_of_ble_eq_true rfl) (s_X4_found  ⟨t11, e12, ⟨rfl, rfl, rfl⟩⟩) dX4_on_24 ?_
      have h := Ho_some h
      exact J_iret hx hQ dX4_on_27 h
  · have h := Ho_t c3 h
    refine J_iconst (v := (-1 : Int32)) hx dX4_on_7 (by decide) ?_
    have h := Ho_some h
    exact J_iret hx hQ dX4_on_8 h
abbrev kr_X4_patterns (P : Option Value → StI → StL → Prop) (L : StL) : Int32 × StI → Prop := fun t => P (some (.int t.1)) t.2 L
abbrev g_X4_patterns_L48 (X : k_C) (ad : Nat → Nat) (L : StL) (v1 : Int32) : (Int32 × Int32 × Int32 × StI) → Prop := fun s => J X ad 6 s.2.2.2 L 48 [(0, .ref (ad 0)), (1, .int v1), (3, .int s.1), (4, .int s.2.1), (5, .int s.2.2.1)] []
def f_X4_patterns_L48_b (v1 : Int32) (v3 : Int32) (v4 : Int32) (v5 : Int32) (I : StI) : Option ((Int32 × Int32 × Int32 × StI) ⊕ (Int32 × StI)) :=
  (if v5 < 0 then (if v3 = 0 then some (.inr ((-9 : Int32), I)) else k_let (k_up I 0 9 v4) (fun I10 => some (.inr (v3, I10)))) else Option.bind (f_X3_become 33 24 I) (fun t11 => k_let (k_up t11 33 3 v5) (fun I13 => Option.bind (f_X4_goesAsSeen v1 I13) (fun t14 => (if t14.1 = 0 then k_let (v5 + (-1 : Int32)) (fun x17 => some (.inl (v3, v4, x17, t14.2))) else k_let (v3 + (1 : Int32)) (fun x18 => k_let (v5 + (-1 : Int32)) (fun x19 => some (.inl (x18, v5, x19, t14.2)))))))))
def f_X4_patterns_L48 (v1 : Int32) (n : Nat) (v3 : Int32) (v4 : Int32) (v5 : Int32) (I : StI) : Option (Int32 × StI) :=
  k_loop (fun s => f_X4_patterns_L48_b v1 s.1 s.2.1 s.2.2.1 s.2.2.2) n (v3, v4, v5, I)
set_option maxRecDepth 100000 in
set_option maxHeartbeats 4000000 in
theorem s_X4_patterns_L48_b {X : k_C} {ad : Nat → Nat} {P : Option Value → StI → StL → Prop} {I : StI} {L : StL} (hx : Ok X cX4_patterns RX4 6 (some .int) 5) (hQ : OkQ X ad P)  {v1 : Int32} {v3 : Int32} {v4 : Int32} {v5 : Int32}  (h : Ho (f_X4_patterns_L48_b v1 v3 v4 v5 I) (Sum.elim (g_X4_patterns_L48 X ad L v1) (kr_X4_patterns P L))) : J X ad 6 I L 48 [(0, .ref (ad 0)), (1, .int v1), (3, .int v3), (4, .int v4), (5, .int v5)] [] := by
  unfold f_X4_patterns_L48_b at h
  refine J_iload hx dX4_patterns_48 4 rfl ?_
  refine J_if_lt hx dX4_patterns_50 94 (by decide) (fun c8 => ?_) (fun c8 => ?_)
  · have h := Ho_t c8 h
    refine J_iload_n hx dX4_patterns_94 2 rfl ?_
    refine J_if_ne hx dX4_patterns_95 101 (by decide) (fun c9 => ?_) (fun c9 => ?_)
    · have h := Ho_f c9 h
      refine J_aload_n hx dX4_patterns_101 0 rfl ?_
      refine J_iload hx dX4_patterns_102 3 rfl ?_
      obtain ⟨I10, hI10, h⟩ := Ho_let h
      refine J_putI hx flW_RX4_50 (rfl : k_sh 0 = (4, k_N 4)) rfl dX4_patterns_104 hI10 ?_
      refine J_iload_n hx dX4_patterns_107 2 rfl ?_
      have h := Ho_some h
      exact J_iret hx hQ dX4_patterns_108 h
    · have h := Ho_t c9 h
      refine J_bipush (v := (-9 : Int32)) hx dX4_patterns_98 (by decide) ?_
      have h := Ho_some h
      exact J_iret hx hQ dX4_patterns_100 h
  · have h := Ho_f c8 h
    refine J_aload_n hx dX4_patterns_53 0 rfl ?_
    refine J_getR (q := 33) hx fl_RX4_36 (rfl : k_sh 0 = (4, k_N 4)) rfl rfl dX4_patterns_54 ?_
    refine J_aload_n hx dX4_patterns_57 0 rfl ?_
    refine J_getR (q := 24) hx fl_RX4_33 (rfl : k_sh 0 = (4, k_N 4)) rfl rfl dX4_patterns_58 ?_
    obtain ⟨t11, e12, h⟩ := Ho_bind h
    refine J_callVv hx lkV_RX4_121 (rfl : k_sh 33 = (3, k_N 3)) [.ref (ad 24)] [] rfl rfl (Nat.le_of_ble_eq_true rfl) (Nat.le_of_ble_eq_true rfl) (s_X3_become k_H33 k_H24 ⟨t11, e12, ⟨rfl, rfl, rfl⟩⟩) dX4_patterns_61 ?_
    refine J_aload_n hx dX4_patterns_64 0 rfl ?_
    refine J_getR (q := 33) hx fl_RX4_36 (rfl : k_sh 0 = (4, k_N 4)) rfl rfl dX4_patterns_65 ?_
    refine J_iload hx dX4_patterns_68 4 rfl ?_
    obtain ⟨I13, hI13, h⟩ := Ho_let h
    refine J_putI hx flW_RX4_160 (rfl : k_sh 33 = (3, k_N 3)) rfl dX4_patterns_70 hI13 ?_
    refine J_aload_n hx dX4_patterns_73 0 rfl ?_
    refine J_iload_n hx dX4_patterns_74 1 rfl ?_
    obtain ⟨t14, e15, h⟩ := Ho_bind h
    refine J_callVi hx lkV_RX4_233 (rfl : k_sh 0 = (4, k_N 4)) [.int v1] [] rfl rfl (Nat.le_of_ble_eq_true rfl) (Nat.le_of_ble_eq_true rfl) (s_X4_goesAsSeen  ⟨t14, e15, ⟨rfl, rfl, rfl⟩⟩) dX4_patterns_75 ?_
    refine J_if_eq hx dX4_patterns_78 88 (by decide) (fun c16 => ?_) (fun c16 => ?_)
    · have h := Ho_t c16 h
      obtain ⟨x17, hx17, h⟩ := Ho_let h
      refine J_iinc (x := x17) (lv' := [(5, .int x17), (0, .ref (ad 0)), (1, .int v1), (3, .int v3), (4, .int v4)]) hx dX4_patterns_88 4 rfl (by rw [hx17]; rfl) (by decide) rfl ?_
      refine J_goto hx dX4_patterns_91 48 (by decide) ?_
      refine J_sub (lv' := [(0, .ref (ad 0)), (1, .int v1), (3, .int v3), (4, .int v4), (5, .int x17)]) hx [1, 2, 3, 4, 0] rfl ?_
      have h := Ho_some h
      exact h
    · have h := Ho_f c16 h
      obtain ⟨x18, hx18, h⟩ := Ho_let h
      refine J_iinc (x := x18) (lv' := [(3, .int x18), (0, .ref (ad 0)), (1, .int v1), (4, .int v4), (5, .int v5)]) hx dX4_patterns_81 2 rfl (by rw [hx18]; rfl) (by decide) rfl ?_
      refine J_iload hx dX4_patterns_84 4 rfl ?_
      refine J_istore (x := v5) (lv' := [(4, .int v5), (3, .int x18), (0, .ref (ad 0)), (1, .int v1), (5, .int v5)]) hx dX4_patterns_86 rfl (by decide) rfl ?_
      obtain ⟨x19, hx19, h⟩ := Ho_let h
      refine J_iinc (x := x19) (lv' := [(5, .int x19), (4, .int v5), (3, .int x18), (0, .ref (ad 0)), (1, .int v1)]) hx dX4_patterns_88 4 rfl (by rw [hx19]; rfl) (by decide) rfl ?_
      refine J_goto hx dX4_patterns_91 48 (by decide) ?_
      refine J_sub (lv' := [(0, .ref (ad 0)), (1, .int v1), (3, .int x18), (4, .int v5), (5, .int x19)]) hx [3, 4, 2, 1, 0] rfl ?_
      have h := Ho_some h
      exact h
set_option maxRecDepth 100000 in
set_option maxHeartbeats 4000000 in
theorem s_X4_patterns_L48 {X : k_C} {ad : Nat → Nat} {P : Option Value → StI → StL → Prop} {I : StI} {L : StL} (hx : Ok X cX4_patterns RX4 6 (some .int) 5) (hQ : OkQ X ad P)  {v1 : Int32} {v3 : Int32} {v4 : Int32} {v5 : Int32}  (n : Nat) (h : Ho (f_X4_patterns_L48 v1 n v3 v4 v5 I) (kr_X4_patterns P L)) : J X ad 6 I L 48 [(0, .ref (ad 0)), (1, .int v1), (3, .int v3), (4, .int v4), (5, .int v5)] [] := by
  exact k_loop_ho (G := g_X4_patterns_L48 X ad L v1) (fun s hs => s_X4_patterns_L48_b hx hQ  hs) n (v3, v4, v5, I) h
def f_X4_patterns (v1 : Int32) (I : StI) : Option (Int32 × StI) :=
  Option.bind (f_X4_isRow v1) (fun t1 => (if t1 = 0 then some ((-1 : Int32), I) else (if (I 24 1) = 0 then some ((-4 : Int32), I) else Option.bind (f_X4_findingOfSeen v1 I) (fun t5 => (if t5 = 0 then f_X4_patterns_L48 v1 k_fu (0 : Int32) (0 : Int32) (255 : Int32) I else Option.bind (f_X4_found t5 I) (fun t20 => some (t20.1, t20.2)))))))
set_option maxRecDepth 100000 in
set_option maxHeartbeats 4000000 in
theorem s_X4_patterns {l : Launch} {ad : Nat → Nat} {P : Option Value → StI → StL → Prop} {I : StI} {L : StL} {v1 : Int32}  (h : Ho (f_X4_patterns v1 I) (kr_X4_patterns P L)) : k_Met l ad 5 yX4_patterns cX4_patterns 6 (some .int) [.ref (ad 0), .int v1] I L P := by
  refine k_enter (by decide +kernel) (Nat.le_of_ble_eq_true rfl) (fun X hl hx hQ => ?_)
  clear hl
  have hx : Ok X cX4_patterns RX4 6 (some .int) 5 := hx
  show J X ad 6 I L 0 [(0, .ref (ad 0)), (1, .int v1)] []
  unfold f_X4_patterns at h
  refine J_iload_n hx dX4_patterns_0 1 rfl ?_
  obtain ⟨t1, e2, h⟩ := Ho_bind h
  refine J_callSi hx lkS_RX4_89 [.int v1] [] rfl rfl (Nat.le_of_ble_eq_true rfl) (Nat.le_of_ble_eq_true rfl) (s_X4_isRow  ⟨t1, e2, ⟨rfl, rfl, rfl⟩⟩) dX4_patterns_1 ?_
  refine J_if_ne hx dX4_patterns_4 9 (by decide) (fun c3 => ?_) (fun c3 => ?_)
  · have h := Ho_f c3 h
    refine J_aload_n hx dX4_patterns_9 0 rfl ?_
    refine J_getR (q := 24) hx fl_RX4_33 (rfl : k_sh 0 = (4, k_N 4)) rfl rfl dX4_patterns_10 ?_
    refine J_getI hx fl_RX4_125 (rfl : k_sh 24 = (3, k_N 3)) rfl dX4_patterns_13 ?_
    refine J_if_ne hx dX4_patterns_16 22 (by decide) (fun c4 => ?_) (fun c4 => ?_)
    · have h := Ho_f c4 h
      refine J_aload_n hx dX4_patterns_22 0 rfl ?_
      refine J_iload_n hx dX4_patterns_23 1 rfl ?_
      obtain ⟨t5, e6, h⟩ := Ho_bind h
      refine J_callVi hx lkV_RX4_230 (rfl : k_sh 0 = (4, k_N 4)) [.int v1] [] rfl rfl (Nat.le_of_ble_eq_true rfl) (Nat.le_of_ble_eq_true rfl) (s_X4_findingOfSeen  ⟨t5, e6, ⟨rfl, rfl, rfl⟩⟩) dX4_patterns_24 ?_
      refine J_istore_n (x := t5) (lv' := [(2, .int t5), (0, .ref (ad 0)), (1, .int v1)]) hx dX4_patterns_27 rfl (by decide) rfl ?_
      refine J_iload_n hx dX4_patterns_28 0 rfl ?_
      refine J_if_eq hx dX4_patterns_29 38 (by decide) (fun c7 => ?_) (fun c7 => ?_)
      · have h := Ho_t c7 h
        refine J_iconst (v := (0 : Int32)) hx dX4_patterns_38 (by decide) ?_
        refine J_istore_n (x := (0 : Int32)) (lv' := [(3, .int (0 : Int32)), (2, .int t5), (0, .ref (ad 0)), (1, .int v1)]) hx dX4_patterns_39 rfl (by decide) rfl ?_
        refine J_iconst (v := (0 : Int32)) hx dX4_patterns_40 (by decide) ?_
        refine J_istore (x := (0 : Int32)) (lv' := [(4, .int (0 : Int32)), (3, .int (0 : Int32)), (2, .int t5), (0, .ref (ad 0)), (1, .int v1)]) hx dX4_patterns_41 rfl (by decide) rfl ?_
        refine J_sipush (v := (255 : Int32)) hx dX4_patterns_43 (by decide) ?_
        refine J_istore (x := (255 : Int32)) (lv' := [(5, .int (255 : Int32)), (4, .int (0 : Int32)), (3, .int (0 : Int32)), (2, .int t5), (0, .ref (ad 0)), (1, .int v1)]) hx dX4_patterns_46 rfl (by decide) rfl ?_
        refine J_sub (lv' := [(0, .ref (ad 0)), (1, .int v1), (3, .int (0 : Int32)), (4, .int (0 : Int32)), (5, .int (255 : Int32))]) hx [4, 5, 2, 1, 0] rfl ?_
        exact s_X4_patterns_L48 hx hQ  k_fu h
      · have h := Ho_f c7 h
        refine J_aload_n hx dX4_patterns_32 1 rfl ?_
        refine J_iload_n hx dX4_patterns_33 0 rfl ?_
        obtain ⟨t20, e21, h⟩ := Ho_bind h
        refine J_callVi hx lkV_RX4_93 (rfl : k_sh 0 = (4, k_N 4)) [.int t5] [] rfl rfl (Nat.le_of_ble_eq_true rfl) (Nat.le_of_ble_eq_true rfl) (s_X4_found  ⟨t20, e21, ⟨rfl, rfl, rfl⟩⟩) dX4_patterns_34 ?_
        have h := Ho_some h
        exact J_iret hx hQ dX4_patterns_37 h
    · have h := Ho_t c4 h
      refine J_bipush (v := (-4 : Int32)) hx dX4_patterns_19 (by decide) ?_
      have h := Ho_some h
      exact J_iret hx hQ dX4_patterns_21 h
  · have h := Ho_t c3 h
    refine J_iconst (v := (-1 : Int32)) hx dX4_patterns_7 (by decide) ?_
    have h := Ho_some h
    exact J_iret hx hQ dX4_patterns_8 h
abbrev kr_X4_put (P : Option Value → StI → StL → Prop) (L : StL) : Int32 × StI → Prop := fun t => P (some (.int t.1)) t.2 L
def f_X4_put (v1 : Int32) (v2 : Int32) (v3 : Int32) (I : StI) : Option (Int32 × StI) :=
  Option.bind (f_X4_isText v1) (fun t1 => (if t1 = 0 then some ((-1 : Int32), I) else k_gd v1 4 (Option.bind (f_X4_findingOfPlace (I 14 v1.toNatClampNeg) v2) (fun t5 => (if t5 = 0 then k_gd v1 4 (k_gd v2 60 (k_let (I (k_tq v1.toNatClampNeg) v2.toNatClampNeg) (fun x10 => k_gd v1 4 (k_gd v2 60 (k_let (k_up I (k_tq v1.toNatClampNeg) v2.toNatClampNeg (vp_nar .byte (v3).toInt8.toInt32)) (fun I13 => some ((x10 + (1000 : Int32)), I13))))))) else Option.bind (f_X4_found t5 I) (fun t14 => some (t14.1, t14.2)))))))
set_option maxRecDepth 100000 in
set_option maxHeartbeats 4000000 in
theorem s_X4_put {l : Launch} {ad : Nat → Nat} {P : Option Value → StI → StL → Prop} {I : StI} {L : StL} {v1 : Int32} {v2 : Int32} {v3 : Int32}  (h : Ho (f_X4_put v1 v2 v3 I) (kr_X4_put P L)) : k_Met l ad 2 yX4_put cX4_put 6 (some .int) [.ref (ad 0), .int v1, .int v2, .int v3] I L P := by
  refine k_enter (by decide +kernel) (Nat.le_of_ble_eq_true rfl) (fun X hl hx hQ => ?_)
  clear hl
  have hx : Ok X cX4_put RX4 6 (some .int) 2 := hx
  show J X ad 6 I L 0 [(0, .ref (ad 0)), (1, .int v1), (2, .int v2), (3, .int v3)] []
  unfold f_X4_put at h
  refine J_iload_n hx dX4_put_0 1 rfl ?_
  obtain ⟨t1, e2, h⟩ := Ho_bind h
  refine J_callSi hx lkS_RX4_111 [.int v1] [] rfl rfl (Nat.le_of_ble_eq_true rfl) (Nat.le_of_ble_eq_true rfl) (s_X4_isText  ⟨t1, e2, ⟨rfl, rfl, rfl⟩⟩) dX4_put_1 ?_
  refine J_if_ne hx dX4_put_4 9 (by decide) (fun c3 => ?_) (fun c3 => ?_)
  · have h := Ho_f c3 h
    refine J_aload_n hx dX4_put_9 0 rfl ?_
    refine J_getR (q := 14) hx fl_RX4_23 (rfl : k_sh 0 = (4, k_N 4)) rfl rfl dX4_put_10 ?_
    refine J_iload_n hx dX4_put_13 1 rfl ?_
    obtain ⟨b4, h⟩ := Ho_gd h
    refine J_iald hx (rfl : k_sh 14 = (10, 4)) b4 dX4_put_14 ?_
    refine J_iload_n hx dX4_put_15 2 rfl ?_
    obtain ⟨t5, e6, h⟩ := Ho_bind h
    refine J_callSi hx lkS_RX4_97 [.int (I 14 v1.toNatClampNeg), .int v2] [] rfl rfl (Nat.le_of_ble_eq_true rfl) (Nat.le_of_ble_eq_true rfl) (s_X4_findingOfPlace  ⟨t5, e6, ⟨rfl, rfl, rfl⟩⟩) dX4_put_16 ?_
    refine J_istore (x := t5) (lv' := [(4, .int t5), (0, .ref (ad 0)), (1, .int v1), (2, .int v2), (3, .int v3)]) hx dX4_put_19 rfl (by decide) rfl ?_
    refine J_iload hx dX4_put_21 0 rfl ?_
    refine J_if_eq hx dX4_put_23 33 (by decide) (fun c7 => ?_) (fun c7 => ?_)
    · have h := Ho_t c7 h
      refine J_aload_n hx dX4_put_33 1 rfl ?_
      refine J_getR (q := 9) hx fl_RX4_20 (rfl : k_sh 0 = (4, k_N 4)) rfl rfl dX4_put_34 ?_
      refine J_iload_n hx dX4_put_37 2 rfl ?_
      obtain ⟨b8, h⟩ := Ho_gd h
      refine J_aald (q := (k_tq v1.toNatClampNeg)) hx (rfl : k_sh 9 = (16, 4)) (by decide) (by decide) b8 k_Tr dX4_put_38 ?_
      refine J_iload_n hx dX4_put_39 3 rfl ?_
      obtain ⟨b9, h⟩ := Ho_gd h
      refine J_bald hx (k_Tq b8) b9 dX4_put_40 ?_
      obtain ⟨x10, hx10, h⟩ := Ho_let h
      refine J_istore (x := x10) (lv' := [(5, .int x10), (4, .int t5), (0, .ref (ad 0)), (1, .int v1), (2, .int v2), (3, .int v3)]) hx dX4_put_41 hx10 (by decide) rfl ?_
      refine J_aload_n hx dX4_put_43 2 rfl ?_
      refine J_getR (q := 9) hx fl_RX4_20 (rfl : k_sh 0 = (4, k_N 4)) rfl rfl dX4_put_44 ?_
      refine J_iload_n hx dX4_put_47 3 rfl ?_
      obtain ⟨b11, h⟩ := Ho_gd h
      refine J_aald (q := (k_tq v1.toNatClampNeg)) hx (rfl : k_sh 9 = (16, 4)) (by decide) (by decide) b11 k_Tr dX4_put_48 ?_
      refine J_iload_n hx dX4_put_49 4 rfl ?_
      refine J_iload_n hx dX4_put_50 5 rfl ?_
      refine J_i2b hx dX4_put_51 ?_
      obtain ⟨b12, h⟩ := Ho_gd h
      obtain ⟨I13, hI13, h⟩ := Ho_let h
      refine J_bast hx (k_Tq b11) b12 dX4_put_52 hI13 ?_
      refine J_iload hx dX4_put_53 0 rfl ?_
      refine J_sipush (v := (1000 : Int32)) hx dX4_put_55 (by decide) ?_
      refine J_iadd hx dX4_put_58 ?_
      have h := Ho_some h
      exact J_iret hx hQ dX4_put_59 h
    · have h := Ho_f c7 h
      refine J_aload_n hx dX4_put_26 1 rfl ?_
      refine J_iload hx dX4_put_27 0 rfl ?_
      obtain ⟨t14, e15, h⟩ := Ho_bind h
      refine J_callVi hx lkV_RX4_93 (rfl : k_sh 0 = (4, k_N 4)) [.int t5] [] rfl rfl (Nat.le_of_ble_eq_true rfl) (Nat.le_of_ble_eq_true rfl) (s_X4_found  ⟨t14, e15, ⟨rfl, rfl, rfl⟩⟩) dX4_put_29 ?_
      have h := Ho_some h
      exact J_iret hx hQ dX4_put_32 h
  · have h := Ho_t c3 h
    refine J_iconst (v := (-1 : Int32)) hx dX4_put_7 (by decide) ?_
    have h := Ho_some h
    exact J_iret hx hQ dX4_put_8 h
abbrev kr_X4_reset (P : Option Value → StI → StL → Prop) (L : StL) : Int32 × StI → Prop := fun t => P (some (.int t.1)) t.2 L
def f_X4_reset (v1 : Int32) (I : StI) : Option (Int32 × StI) :=
  Option.bind (f_X4_isCaller v1 I) (fun t1 => (if t1 = 0 then some ((-1 : Int32), I) else Option.bind (f_X4_isFullWith (1 : Int32) I) (fun t4 => (if t4 = 0 then k_gd v1 7 (k_let (I (k_cq 24 v1.toNatClampNeg) 3) (fun x8 => Option.bind (f_X4_doDeed (5 : Int32) v1 (0 : Int32) I) (fun t9 => some (x8, t9)))) else some ((-2 : Int32), I)))))
set_option maxRecDepth 100000 in
set_option maxHeartbeats 4000000 in
theorem s_X4_reset {l : Launch} {ad : Nat → Nat} {P : Option Value → StI → StL → Prop} {I : StI} {L : StL} {v1 : Int32}  (h : Ho (f_X4_reset v1 I) (kr_X4_reset P L)) : k_Met l ad 6 yX4_reset cX4_reset 3 (some .int) [.ref (ad 0), .int v1] I L P := by
  refine k_enter (by decide +kernel) (Nat.le_of_ble_eq_true rfl) (fun X hl hx hQ => ?_)
  clear hl
  have hx : Ok X cX4_reset RX4 3 (some .int) 6 := hx
  show J X ad 3 I L 0 [(0, .ref (ad 0)), (1, .int v1)] []
  unfold f_X4_reset at h
  refine J_aload_n hx dX4_reset_0 0 rfl ?_
  refine J_iload_n hx dX4_reset_1 1 rfl ?_
  obtain ⟨t1, e2, h⟩ := Ho_bind h
  refine J_callVi hx lkV_RX4_126 (rfl : k_sh 0 = (4, k_N 4)) [.int v1] [] rfl rfl (Nat.le_of_ble_eq_true rfl) (Nat.le_of_ble_eq_true rfl) (s_X4_isCaller  ⟨t1, e2, ⟨rfl, rfl, rfl⟩⟩) dX4_reset_2 ?_
  refine J_if_ne hx dX4_reset_5 10 (by decide) (fun c3 => ?_) (fun c3 => ?_)
  · have h := Ho_f c3 h
    refine J_aload_n hx dX4_reset_10 0 rfl ?_
    refine J_iconst (v := (1 : Int32)) hx dX4_reset_11 (by decide) ?_
    obtain ⟨t4, e5, h⟩ := Ho_bind h
    refine J_callVi hx lkV_RX4_150 (rfl : k_sh 0 = (4, k_N 4)) [.int (1 : Int32)] [] rfl rfl (Nat.le_of_ble_eq_true rfl) (Nat.le_of_ble_eq_true rfl) (s_X4_isFullWith  ⟨t4, e5, ⟨rfl, rfl, rfl⟩⟩) dX4_reset_12 ?_
    refine J_if_eq hx dX4_reset_15 21 (by decide) (fun c6 => ?_) (fun c6 => ?_)
    · have h := Ho_t c6 h
      refine J_aload_n hx dX4_reset_21 0 rfl ?_
      refine J_getR (q := 24) hx fl_RX4_33 (rfl : k_sh 0 = (4, k_N 4)) rfl rfl dX4_reset_22 ?_
      refine J_getR (q := 25) hx fl_RX4_129 (rfl : k_sh 24 = (3, k_N 3)) rfl rfl dX4_reset_25 ?_
      refine J_iload_n hx dX4_reset_28 1 rfl ?_
      obtain ⟨b7, h⟩ := Ho_gd h
      refine J_aald (q := (k_cq 24 v1.toNatClampNeg)) hx (rfl : k_sh 25 = (13, 7)) (by decide) (by decide) b7 (k_Hr k_H24) dX4_reset_29 ?_
      refine J_getI hx fl_RX4_177 (k_H2 k_H24 b7) rfl dX4_reset_30 ?_
      obtain ⟨x8, hx8, h⟩ := Ho_let h
      refine J_istore_n (x := x8) (lv' := [(2, .int x8), (0, .ref (ad 0)), (1, .int v1)]) hx dX4_reset_33 hx8 (by decide) rfl ?_
      refine J_aload_n hx dX4_reset_34 1 rfl ?_
      refine J_iconst (v := (5 : Int32)) hx dX4_reset_35 (by decide) ?_
      refine J_iload_n hx dX4_reset_36 2 rfl ?_
      refine J_iconst (v := (0 : Int32)) hx dX4_reset_37 (by decide) ?_
      obtain ⟨t9, e10, h⟩ := Ho_bind h
      refine J_callVv hx lkV_RX4_156 (rfl : k_sh 0 = (4, k_N 4)) [.int (5 : Int32), .int v1, .int (0 : Int32)] [] rfl rfl (Nat.le_of_ble_eq_true rfl) (Nat.le_of_ble_eq_true rfl) (s_X4_doDeed  ⟨t9, e10, ⟨rfl, rfl, rfl⟩⟩) dX4_reset_38 ?_
      refine J_iload_n hx dX4_reset_41 0 rfl ?_
      have h := Ho_some h
      exact J_iret hx hQ dX4_reset_42 h
    · have h := Ho_f c6 h
      refine J_bipush (v := (-2 : Int32)) hx dX4_reset_18 (by decide) ?_
      have h := Ho_some h
      exact J_iret hx hQ dX4_reset_20 h
  · have h := Ho_t c3 h
    refine J_iconst (v := (-1 : Int32)) hx dX4_reset_8 (by decide) ?_
    have h := Ho_some h
    exact J_iret hx hQ dX4_reset_9 h
abbrev kr_X4_room (P : Option Value → StI → StL → Prop) (L : StL) : Int32 × StI → Prop := fun t => P (some (.int t.1)) t.2 L
def f_X4_room (v1 : Int32) (I : StI) : Option (Int32 × StI) :=
  Option.bind (f_X4_isFigure v1) (fun t1 => (if t1 = 0 then some ((-1 : Int32), I) else (if (I 24 1) = 0 then some ((-4 : Int32), I) else (if (I 24 2) = v1 then some ((-4 : Int32), I) else Option.bind (f_X4_isFullWith (1 : Int32) I) (fun t6 => (if t6 = 0 then k_let (I 24 2) (fun x9 => Option.bind (f_X4_doDeed (3 : Int32) (0 : Int32) v1 I) (fun t10 => some (x9, t10))) else some ((-2 : Int32), I)))))))
set_option maxRecDepth 100000 in
set_option maxHeartbeats 4000000 in
theorem s_X4_room {l : Launch} {ad : Nat → Nat} {P : Option Value → StI → StL → Prop} {I : StI} {L : StL} {v1 : Int32}  (h : Ho (f_X4_room v1 I) (kr_X4_room P L)) : k_Met l ad 6 yX4_room cX4_room 3 (some .int) [.ref (ad 0), .int v1] I L P := by
  refine k_enter (by decide +kernel) (Nat.le_of_ble_eq_true rfl) (fun X hl hx hQ => ?_)
  clear hl
  have hx : Ok X cX4_room RX4 3 (some .int) 6 := hx
  show J X ad 3 I L 0 [(0, .ref (ad 0)), (1, .int v1)] []
  unfold f_X4_room at h
  refine J_iload_n hx dX4_room_0 1 rfl ?_
  obtain ⟨t1, e2, h⟩ := Ho_bind h
  refine J_callSi hx lkS_RX4_168 [.int v1] [] rfl rfl (Nat.le_of_ble_eq_true rfl) (Nat.le_of_ble_eq_true rfl) (s_X4_isFigure  ⟨t1, e2, ⟨rfl, rfl, rfl⟩⟩) dX4_room_1 ?_
  refine J_if_ne hx dX4_room_4 9 (by decide) (fun c3 => ?_) (fun c3 => ?_)
  · have h := Ho_f c3 h
    refine J_aload_n hx dX4_room_9 0 rfl ?_
    refine J_getR (q := 24) hx fl_RX4_33 (rfl : k_sh 0 = (4, k_N 4)) rfl rfl dX4_room_10 ?_
    refine J_getI hx fl_RX4_125 (rfl : k_sh 24 = (3, k_N 3)) rfl dX4_room_13 ?_
    refine J_if_eq hx dX4_room_16 30 (by decide) (fun c4 => ?_) (fun c4 => ?_)
    · have h := Ho_t c4 h
      refine J_bipush (v := (-4 : Int32)) hx dX4_room_30 (by decide) ?_
      have h := Ho_some h
      exact J_iret hx hQ dX4_room_32 h
    · have h := Ho_f c4 h
      refine J_aload_n hx dX4_room_19 0 rfl ?_
      refine J_getR (q := 24) hx fl_RX4_33 (rfl : k_sh 0 = (4, k_N 4)) rfl rfl dX4_room_20 ?_
      refine J_getI hx fl_RX4_171 (rfl : k_sh 24 = (3, k_N 3)) rfl dX4_room_23 ?_
      refine J_iload_n hx dX4_room_26 1 rfl ?_
      refine J_ic_ne hx dX4_room_27 33 (by decide) (fun c5 => ?_) (fun c5 => ?_)
      · have h := Ho_f c5 h
        refine J_aload_n hx dX4_room_33 0 rfl ?_
        refine J_iconst (v := (1 : Int32)) hx dX4_room_34 (by decide) ?_
        obtain ⟨t6, e7, h⟩ := Ho_bind h
        refine J_callVi hx lkV_RX4_150 (rfl : k_sh 0 = (4, k_N 4)) [.int (1 : Int32)] [] rfl rfl (Nat.le_of_ble_eq_true rfl) (Nat.le_of_ble_eq_true rfl) (s_X4_isFullWith  ⟨t6, e7, ⟨rfl, rfl, rfl⟩⟩) dX4_room_35 ?_
        refine J_if_eq hx dX4_room_38 44 (by decide) (fun c8 => ?_) (fun c8 => ?_)
        · have h := Ho_t c8 h
          refine J_aload_n hx dX4_room_44 0 rfl ?_
          refine J_getR (q := 24) hx fl_RX4_33 (rfl : k_sh 0 = (4, k_N 4)) rfl rfl dX4_room_45 ?_
          refine J_getI hx fl_RX4_171 (rfl : k_sh 24 = (3, k_N 3)) rfl dX4_room_48 ?_
          obtain ⟨x9, hx9, h⟩ := Ho_let h
          refine J_istore_n (x := x9) (lv' := [(2, .int x9), (0, .ref (ad 0)), (1, .int v1)]) hx dX4_room_51 hx9 (by decide) rfl ?_
          refine J_aload_n hx dX4_room_52 1 rfl ?_
          refine J_iconst (v := (3 : Int32)) hx dX4_room_53 (by decide) ?_
          refine J_iconst (v := (0 : Int32)) hx dX4_room_54 (by decide) ?_
          refine J_iload_n hx dX4_room_55 2 rfl ?_
          obtain ⟨t10, e11, h⟩ := Ho_bind h
          refine J_callVv hx lkV_RX4_156 (rfl : k_sh 0 = (4, k_N 4)) [.int (3 : Int32), .int (0 : Int32), .int v1] [] rfl rfl (Nat.le_of_ble_eq_true rfl) (Nat.le_of_ble_eq_true rfl) (s_X4_doDeed  ⟨t10, e11, ⟨rfl, rfl, rfl⟩⟩) dX4_room_56 ?_
          refine J_iload_n hx dX4_room_59 0 rfl ?_
          have h := Ho_some h
          exact J_iret hx hQ dX4_room_60 h
        · have h := Ho_f c8 h
          refine J_bipush (v := (-2 : Int32)) hx dX4_room_41 (by decide) ?_
          have h := Ho_some h
          exact J_iret hx hQ dX4_room_43 h
      · have h := Ho_t c5 h
        refine J_bipush (v := (-4 : Int32)) hx dX4_room_30 (by decide) ?_
        have h := Ho_some h
        exact J_iret hx hQ dX4_room_32 h
  · have h := Ho_t c3 h
    refine J_iconst (v := (-1 : Int32)) hx dX4_room_7 (by decide) ?_
    have h := Ho_some h
    exact J_iret hx hQ dX4_room_8 h
abbrev kr_X4_row (P : Option Value → StI → StL → Prop) (L : StL) : Int32 × StI → Prop := fun t => P (some (.int t.1)) t.2 L
def f_X4_row (v1 : Int32) (v2 : Int32) (I : StI) : Option (Int32 × StI) :=
  Option.bind (f_X4_isRow v1) (fun t1 => (if t1 = 0 then some ((-1 : Int32), I) else (if v2 ≤ (40 : Int32) then (if 0 ≤ v2 then k_gd v1 6 (Option.bind (f_J7_fill_53178 (k_rq v1.toNatClampNeg) (0 : Int32) I) (fun t7 => k_gd v1 6 (k_let (k_up t7 8 v1.toNatClampNeg v2) (fun I10 => some (v2, I10))))) else Option.bind (f_X4_found (5 : Int32) I) (fun t11 => some (t11.1, t11.2))) else some ((-1 : Int32), I))))
set_option maxRecDepth 100000 in
set_option maxHeartbeats 4000000 in
theorem s_X4_row {l : Launch} {ad : Nat → Nat} {P : Option Value → StI → StL → Prop} {I : StI} {L : StL} {v1 : Int32} {v2 : Int32}  (h : Ho (f_X4_row v1 v2 I) (kr_X4_row P L)) : k_Met l ad 2 yX4_row cX4_row 3 (some .int) [.ref (ad 0), .int v1, .int v2] I L P := by
  refine k_enter (by decide +kernel) (Nat.le_of_ble_eq_true rfl) (fun X hl hx hQ => ?_)
  clear hl
  have hx : Ok X cX4_row RX4 3 (some .int) 2 := hx
  show J X ad 3 I L 0 [(0, .ref (ad 0)), (1, .int v1), (2, .int v2)] []
  unfold f_X4_row at h
  refine J_iload_n hx dX4_row_0 1 rfl ?_
  obtain ⟨t1, e2, h⟩ := Ho_bind h
  refine J_callSi hx lkS_RX4_89 [.int v1] [] rfl rfl (Nat.le_of_ble_eq_true rfl) (Nat.le_of_ble_eq_true rfl) (s_X4_isRow  ⟨t1, e2, ⟨rfl, rfl, rfl⟩⟩) dX4_row_1 ?_
  refine J_if_eq hx dX4_row_4 13 (by decide) (fun c3 => ?_) (fun c3 => ?_)
  · have h := Ho_t c3 h
    refine J_iconst (v := (-1 : Int32)) hx dX4_row_13 (by decide) ?_
    have h := Ho_some h
    exact J_iret hx hQ dX4_row_14 h
  · have h := Ho_f c3 h
    refine J_iload_n hx dX4_row_7 2 rfl ?_
    refine J_bipush (v := (40 : Int32)) hx dX4_row_8 (by decide) ?_
    refine J_ic_le hx dX4_row_10 15 (by decide) (fun c4 => ?_) (fun c4 => ?_)
    · have h := Ho_t c4 h
      refine J_iload_n hx dX4_row_15 2 rfl ?_
      refine J_if_ge hx dX4_row_16 25 (by decide) (fun c5 => ?_) (fun c5 => ?_)
      · have h := Ho_t c5 h
        refine J_aload_n hx dX4_row_25 0 rfl ?_
        refine J_getR (q := 1) hx fl_RX4_11 (rfl : k_sh 0 = (4, k_N 4)) rfl rfl dX4_row_26 ?_
        refine J_iload_n hx dX4_row_29 1 rfl ?_
        obtain ⟨b6, h⟩ := Ho_gd h
        refine J_aald (q := (k_rq v1.toNatClampNeg)) hx (rfl : k_sh 1 = (15, 6)) (by decide) (by decide) b6 k_Rr dX4_row_30 ?_
        refine J_iconst (v := (0 : Int32)) hx dX4_row_31 (by decide) ?_
        obtain ⟨t7, e8, h⟩ := Ho_bind h
        refine J_callSv hx lkS_RX4_80 [.ref (ad (k_rq v1.toNatClampNeg)), .int (0 : Int32)] [] rfl rfl (Nat.le_of_ble_eq_true rfl) (Nat.le_of_ble_eq_true rfl) (s_J7_fill_53178 (congrArg Prod.fst (k_Rq b6)) ⟨t7, e8, ⟨rfl, rfl, rfl⟩⟩) dX4_row_32 ?_
        refine J_aload_n hx dX4_row_35 0 rfl ?_
        refine J_getR (q := 8) hx fl_RX4_14 (rfl : k_sh 0 = (4, k_N 4)) rfl rfl dX4_row_36 ?_
        refine J_iload_n hx dX4_row_39 1 rfl ?_
        refine J_iload_n hx dX4_row_40 2 rfl ?_
        obtain ⟨b9, h⟩ := Ho_gd h
        obtain ⟨I10, hI10, h⟩ := Ho_let h
        refine J_iast hx (rfl : k_sh 8 = (10, 6)) b9 dX4_row_41 hI10 ?_
        refine J_iload_n hx dX4_row_42 2 rfl ?_
        have h := Ho_some h
        exact J_iret hx hQ dX4_row_43 h
      · have h := Ho_f c5 h
        refine J_aload_n hx dX4_row_19 0 rfl ?_
        refine J_iconst (v := (5 : Int32)) hx dX4_row_20 (by decide) ?_
        obtain ⟨t11, e12, h⟩ := Ho_bind h
        refine J_callVi hx lkV_RX4_93 (rfl : k_sh 0 = (4, k_N 4)) [.int (5 : Int32)] [] rfl rfl (Nat.le_of_ble_eq_true rfl) (Nat.le_of_ble_eq_true rfl) (s_X4_found  ⟨t11, e12, ⟨rfl, rfl, rfl⟩⟩) dX4_row_21 ?_
        have h := Ho_some h
        exact J_iret hx hQ dX4_row_24 h
    · have h := Ho_f c4 h
      refine J_iconst (v := (-1 : Int32)) hx dX4_row_13 (by decide) ?_
      have h := Ho_some h
      exact J_iret hx hQ dX4_row_14 h
abbrev kr_X4_step (P : Option Value → StI → StL → Prop) (L : StL) : Int32 × StI → Prop := fun t => P (some (.int t.1)) t.2 L
def f_X4_step (I : StI) : Option (Int32 × StI) :=
  (if (I 24 1) = 0 then some ((-4 : Int32), I) else (if (I 24 4) < (99 : Int32) then Option.bind (f_X4_isFullWith (1 : Int32) I) (fun t3 => (if t3 = 0 then k_let (I 24 5) (fun x6 => Option.bind (f_X4_doDeed (1 : Int32) (0 : Int32) (0 : Int32) I) (fun t7 => some (((t7 24 5) - x6), t7))) else some ((-2 : Int32), I))) else some ((-4 : Int32), I)))
set_option maxRecDepth 100000 in
set_option maxHeartbeats 4000000 in
theorem s_X4_step {l : Launch} {ad : Nat → Nat} {P : Option Value → StI → StL → Prop} {I : StI} {L : StL}   (h : Ho (f_X4_step I) (kr_X4_step P L)) : k_Met l ad 6 yX4_step cX4_step 2 (some .int) [.ref (ad 0)] I L P := by
  refine k_enter (by decide +kernel) (Nat.le_of_ble_eq_true rfl) (fun X hl hx hQ => ?_)
  clear hl
  have hx : Ok X cX4_step RX4 2 (some .int) 6 := hx
  show J X ad 2 I L 0 [(0, .ref (ad 0))] []
  unfold f_X4_step at h
  refine J_aload_n hx dX4_step_0 0 rfl ?_
  refine J_getR (q := 24) hx fl_RX4_33 (rfl : k_sh 0 = (4, k_N 4)) rfl rfl dX4_step_1 ?_
  refine J_getI hx fl_RX4_125 (rfl : k_sh 24 = (3, k_N 3)) rfl dX4_step_4 ?_
  refine J_if_eq hx dX4_step_7 22 (by decide) (fun c1 => ?_) (fun c1 => ?_)
  · have h := Ho_t c1 h
    refine J_bipush (v := (-4 : Int32)) hx dX4_step_22 (by decide) ?_
    have h := Ho_some h
    exact J_iret hx hQ dX4_step_24 h
  · have h := Ho_f c1 h
    refine J_aload_n hx dX4_step_10 0 rfl ?_
    refine J_getR (q := 24) hx fl_RX4_33 (rfl : k_sh 0 = (4, k_N 4)) rfl rfl dX4_step_11 ?_
    refine J_getI hx fl_RX4_141 (rfl : k_sh 24 = (3, k_N 3)) rfl dX4_step_14 ?_
    refine J_bipush (v := (99 : Int32)) hx dX4_step_17 (by decide) ?_
    refine J_ic_lt hx dX4_step_19 25 (by decide) (fun c2 => ?_) (fun c2 => ?_)
    · have h := Ho_t c2 h
      refine J_aload_n hx dX4_step_25 0 rfl ?_
      refine J_iconst (v := (1 : Int32)) hx dX4_step_26 (by decide) ?_
      obtain ⟨t3, e4, h⟩ := Ho_bind h
      refine J_callVi hx lkV_RX4_150 (rfl : k_sh 0 = (4, k_N 4)) [.int (1 : Int32)] [] rfl rfl (Nat.le_of_ble_eq_true rfl) (Nat.le_of_ble_eq_true rfl) (s_X4_isFullWith  ⟨t3, e4, ⟨rfl, rfl, rfl⟩⟩) dX4_step_27 ?_
      refine J_if_eq hx dX4_step_30 36 (by decide) (fun c5 => ?_) (fun c5 => ?_)
      · have h := Ho_t c5 h
        refine J_aload_n hx dX4_step_36 0 rfl ?_
        refine J_getR (q := 24) hx fl_RX4_33 (rfl : k_sh 0 = (4, k_N 4)) rfl rfl dX4_step_37 ?_
        refine J_getI hx fl_RX4_153 (rfl : k_sh 24 = (3, k_N 3)) rfl dX4_step_40 ?_
        obtain ⟨x6, hx6, h⟩ := Ho_let h
        refine J_istore_n (x := x6) (lv' := [(1, .int x6), (0, .ref (ad 0))]) hx dX4_step_43 hx6 (by decide) rfl ?_
        refine J_aload_n hx dX4_step_44 1 rfl ?_
        refine J_iconst (v := (1 : Int32)) hx dX4_step_45 (by decide) ?_
        refine J_iconst (v := (0 : Int32)) hx dX4_step_46 (by decide) ?_
        refine J_iconst (v := (0 : Int32)) hx dX4_step_47 (by decide) ?_
        obtain ⟨t7, e8, h⟩ := Ho_bind h
        refine J_callVv hx lkV_RX4_156 (rfl : k_sh 0 = (4, k_N 4)) [.int (1 : Int32), .int (0 : Int32), .int (0 : Int32)] [] rfl rfl (Nat.le_of_ble_eq_true rfl) (Nat.le_of_ble_eq_true rfl) (s_X4_doDeed  ⟨t7, e8, ⟨rfl, rfl, rfl⟩⟩) dX4_step_48 ?_
        refine J_aload_n hx dX4_step_51 1 rfl ?_
        refine J_getR (q := 24) hx fl_RX4_33 (rfl : k_sh 0 = (4, k_N 4)) rfl rfl dX4_step_52 ?_
        refine J_getI hx fl_RX4_153 (rfl : k_sh 24 = (3, k_N 3)) rfl dX4_step_55 ?_
        refine J_iload_n hx dX4_step_58 0 rfl ?_
        refine J_isub hx dX4_step_59 ?_
        have h := Ho_some h
        exact J_iret hx hQ dX4_step_60 h
      · have h := Ho_f c5 h
        refine J_bipush (v := (-2 : Int32)) hx dX4_step_33 (by decide) ?_
        have h := Ho_some h
        exact J_iret hx hQ dX4_step_35 h
    · have h := Ho_f c2 h
      refine J_bipush (v := (-4 : Int32)) hx dX4_step_22 (by decide) ?_
      have h := Ho_some h
      exact J_iret hx hQ dX4_step_24 h
abbrev kr_X4_tear (P : Option Value → StI → StL → Prop) (L : StL) : Int32 × StI → Prop := fun t => P (some (.int t.1)) t.2 L
def f_X4_tear (v1 : Int32) (I : StI) : Option (Int32 × StI) :=
  Option.bind (f_X4_isRow v1) (fun t1 => (if t1 = 0 then some ((-1 : Int32), I) else k_gd v1 6 ((if (I 8 v1.toNatClampNeg) = (-1 : Int32) then Option.bind (f_X4_found (1 : Int32) I) (fun t8 => some (t8.1, t8.2)) else k_gd v1 6 (k_let (k_up I 8 v1.toNatClampNeg (-1 : Int32)) (fun I7 => some ((1 : Int32), I7)))))))
set_option maxRecDepth 100000 in
set_option maxHeartbeats 4000000 in
theorem s_X4_tear {l : Launch} {ad : Nat → Nat} {P : Option Value → StI → StL → Prop} {I : StI} {L : StL} {v1 : Int32}  (h : Ho (f_X4_tear v1 I) (kr_X4_tear P L)) : k_Met l ad 2 yX4_tear cX4_tear 2 (some .int) [.ref (ad 0), .int v1] I L P := by
  refine k_enter (by decide +kernel) (Nat.le_of_ble_eq_true rfl) (fun X hl hx hQ => ?_)
  clear hl
  have hx : Ok X cX4_tear RX4 2 (some .int) 2 := hx
  show J X ad 2 I L 0 [(0, .ref (ad 0)), (1, .int v1)] []
  unfold f_X4_tear at h
  refine J_iload_n hx dX4_tear_0 1 rfl ?_
  obtain ⟨t1, e2, h⟩ := Ho_bind h
  refine J_callSi hx lkS_RX4_89 [.int v1] [] rfl rfl (Nat.le_of_ble_eq_true rfl) (Nat.le_of_ble_eq_true rfl) (s_X4_isRow  ⟨t1, e2, ⟨rfl, rfl, rfl⟩⟩) dX4_tear_1 ?_
  refine J_if_ne hx dX4_tear_4 9 (by decide) (fun c3 => ?_) (fun c3 => ?_)
  · have h := Ho_f c3 h
    refine J_aload_n hx dX4_tear_9 0 rfl ?_
    refine J_getR (q := 8) hx fl_RX4_14 (rfl : k_sh 0 = (4, k_N 4)) rfl rfl dX4_tear_10 ?_
    refine J_iload_n hx dX4_tear_13 1 rfl ?_
    obtain ⟨b4, h⟩ := Ho_gd h
    refine J_iald hx (rfl : k_sh 8 = (10, 6)) b4 dX4_tear_14 ?_
    refine J_iconst (v := (-1 : Int32)) hx dX4_tear_15 (by decide) ?_
    refine J_ic_ne hx dX4_tear_16 25 (by decide) (fun c5 => ?_) (fun c5 => ?_)
    · have h := Ho_f c5 h
      refine J_aload_n hx dX4_tear_25 0 rfl ?_
      refine J_getR (q := 8) hx fl_RX4_14 (rfl : k_sh 0 = (4, k_N 4)) rfl rfl dX4_tear_26 ?_
      refine J_iload_n hx dX4_tear_29 1 rfl ?_
      refine J_iconst (v := (-1 : Int32)) hx dX4_tear_30 (by decide) ?_
      obtain ⟨b6, h⟩ := Ho_gd h
      obtain ⟨I7, hI7, h⟩ := Ho_let h
      refine J_iast hx (rfl : k_sh 8 = (10, 6)) b6 dX4_tear_31 hI7 ?_
      refine J_iconst (v := (1 : Int32)) hx dX4_tear_32 (by decide) ?_
      have h := Ho_some h
      exact J_iret hx hQ dX4_tear_33 h
    · have h := Ho_t c5 h
      refine J_aload_n hx dX4_tear_19 0 rfl ?_
      refine J_iconst (v := (1 : Int32)) hx dX4_tear_20 (by decide) ?_
      obtain ⟨t8, e9, h⟩ := Ho_bind h
      refine J_callVi hx lkV_RX4_93 (rfl : k_sh 0 = (4, k_N 4)) [.int (1 : Int32)] [] rfl rfl (Nat.le_of_ble_eq_true rfl) (Nat.le_of_ble_eq_true rfl) (s_X4_found  ⟨t8, e9, ⟨rfl, rfl, rfl⟩⟩) dX4_tear_21 ?_
      have h := Ho_some h
      exact J_iret hx hQ dX4_tear_24 h
  · have h := Ho_t c3 h
    refine J_iconst (v := (-1 : Int32)) hx dX4_tear_7 (by decide) ?_
    have h := Ho_some h
    exact J_iret hx hQ dX4_tear_8 h
abbrev kr_X4_test (P : Option Value → StI → StL → Prop) (L : StL) : Int32 × StI → Prop := fun t => P (some (.int t.1)) t.2 L
abbrev g_X4_test_L67 (X : k_C) (ad : Nat → Nat) (I : StI) (L : StL) : (Int32 × Int32 × Int32) → Prop := fun s => J X ad 9 I L 67 [(0, .ref (ad 0)), (5, .int s.1), (6, .int s.2.1), (7, .int s.2.2)] []
def f_X4_test_L67_b (v5 : Int32) (v6 : Int32) (v7 : Int32) (I : StI) : Option ((Int32 × Int32 × Int32) ⊕ (Int32 × StI)) :=
  (if (20 : Int32) < v7 then k_let (k_up I 0 9 v5) (fun I16 => some (.inr (v6, I16))) else Option.bind (f_X4_greatestPart v7 I) (fun t17 => (if v5 ≤ t17 then k_let (v7 + (1 : Int32)) (fun x20 => some (.inl (v5, v6, x20))) else k_let (v7 + (1 : Int32)) (fun x21 => some (.inl (t17, v7, x21))))))
def f_X4_test_L67 (I : StI) (n : Nat) (v5 : Int32) (v6 : Int32) (v7 : Int32) : Option (Int32 × StI) :=
  k_loop (fun s => f_X4_test_L67_b s.1 s.2.1 s.2.2 I) n (v5, v6, v7)
set_option maxRecDepth 100000 in
set_option maxHeartbeats 4000000 in
theorem s_X4_test_L67_b {X : k_C} {ad : Nat → Nat} {P : Option Value → StI → StL → Prop} {I : StI} {L : StL} (hx : Ok X cX4_test RX4 9 (some .int) 6) (hQ : OkQ X ad P)  {v5 : Int32} {v6 : Int32} {v7 : Int32}  (h : Ho (f_X4_test_L67_b v5 v6 v7 I) (Sum.elim (g_X4_test_L67 X ad I L) (kr_X4_test P L))) : J X ad 9 I L 67 [(0, .ref (ad 0)), (5, .int v5), (6, .int v6), (7, .int v7)] [] := by
  unfold f_X4_test_L67_b at h
  refine J_iload hx dX4_test_67 3 rfl ?_
  refine J_bipush (v := (20 : Int32)) hx dX4_test_69 (by decide) ?_
  refine J_ic_gt hx dX4_test_71 103 (by decide) (fun c15 => ?_) (fun c15 => ?_)
  · have h := Ho_t c15 h
    refine J_aload_n hx dX4_test_103 0 rfl ?_
    refine J_iload hx dX4_test_104 1 rfl ?_
    obtain ⟨I16, hI16, h⟩ := Ho_let h
    refine J_putI hx flW_RX4_50 (rfl : k_sh 0 = (4, k_N 4)) rfl dX4_test_106 hI16 ?_
    refine J_iload hx dX4_test_109 2 rfl ?_
    have h := Ho_some h
    exact J_iret hx hQ dX4_test_111 h
  · have h := Ho_f c15 h
    refine J_aload_n hx dX4_test_74 0 rfl ?_
    refine J_iload hx dX4_test_75 3 rfl ?_
    obtain ⟨t17, e18, h⟩ := Ho_bind h
    refine J_callVi hx lkV_RX4_242 (rfl : k_sh 0 = (4, k_N 4)) [.int v7] [] rfl rfl (Nat.le_of_ble_eq_true rfl) (Nat.le_of_ble_eq_true rfl) (s_X4_greatestPart  ⟨t17, e18, ⟨rfl, rfl, rfl⟩⟩) dX4_test_77 ?_
    refine J_istore (x := t17) (lv' := [(8, .int t17), (0, .ref (ad 0)), (5, .int v5), (6, .int v6), (7, .int v7)]) hx dX4_test_80 rfl (by decide) rfl ?_
    refine J_iload hx dX4_test_82 0 rfl ?_
    refine J_iload hx dX4_test_84 2 rfl ?_
    refine J_ic_ge hx dX4_test_86 97 (by decide) (fun c19 => ?_) (fun c19 => ?_)
    · have h := Ho_t c19 h
      obtain ⟨x20, hx20, h⟩ := Ho_let h
      refine J_iinc (x := x20) (lv' := [(7, .int x20), (8, .int t17), (0, .ref (ad 0)), (5, .int v5), (6, .int v6)]) hx dX4_test_97 4 rfl (by rw [hx20]; rfl) (by decide) rfl ?_
      refine J_goto hx dX4_test_100 67 (by decide) ?_
      refine J_sub (lv' := [(0, .ref (ad 0)), (5, .int v5), (6, .int v6), (7, .int x20)]) hx [2, 3, 4, 0] rfl ?_
      have h := Ho_some h
      exact h
    · have h := Ho_f c19 h
      refine J_iload hx dX4_test_89 0 rfl ?_
      refine J_istore (x := t17) (lv' := [(5, .int t17), (8, .int t17), (0, .ref (ad 0)), (6, .int v6), (7, .int v7)]) hx dX4_test_91 rfl (by decide) rfl ?_
      refine J_iload hx dX4_test_93 4 rfl ?_
      refine J_istore (x := v7) (lv' := [(6, .int v7), (5, .int t17), (8, .int t17), (0, .ref (ad 0)), (7, .int v7)]) hx dX4_test_95 rfl (by decide) rfl ?_
      obtain ⟨x21, hx21, h⟩ := Ho_let h
      refine J_iinc (x := x21) (lv' := [(7, .int x21), (6, .int v7), (5, .int t17), (8, .int t17), (0, .ref (ad 0))]) hx dX4_test_97 4 rfl (by rw [hx21]; rfl) (by decide) rfl ?_
      refine J_goto hx dX4_test_100 67 (by decide) ?_
      refine J_sub (lv' := [(0, .ref (ad 0)), (5, .int t17), (6, .int v7), (7, .int x21)]) hx [4, 2, 1, 0] rfl ?_
      have h := Ho_some h
      exact h
set_option maxRecDepth 100000 in
set_option maxHeartbeats 4000000 in
theorem s_X4_test_L67 {X : k_C} {ad : Nat → Nat} {P : Option Value → StI → StL → Prop} {I : StI} {L : StL} (hx : Ok X cX4_test RX4 9 (some .int) 6) (hQ : OkQ X ad P)  {v5 : Int32} {v6 : Int32} {v7 : Int32}  (n : Nat) (h : Ho (f_X4_test_L67 I n v5 v6 v7) (kr_X4_test P L)) : J X ad 9 I L 67 [(0, .ref (ad 0)), (5, .int v5), (6, .int v6), (7, .int v7)] [] := by
  exact k_loop_ho (G := g_X4_test_L67 X ad I L) (fun s hs => s_X4_test_L67_b hx hQ  hs) n (v5, v6, v7) h
def f_X4_test (v1 : Int32) (v2 : Int32) (I : StI) : Option (Int32 × StI) :=
  Option.bind (f_X4_isCaller v1 I) (fun t1 => (if t1 = 0 then some ((-1 : Int32), I) else Option.bind (f_X4_isRow v2) (fun t4 => (if t4 = 0 then some ((-1 : Int32), I) else Option.bind (f_X4_findingOfSeen v2 I) (fun t7 => (if t7 = 0 then Option.bind (f_X4_kindsAsSeen v1 v2 I) (fun t10 => (if t10.1 = 0 then some ((-9 : Int32), t10.2) else Option.bind (f_X4_countAlike v1 t10.1 t10.2) (fun t13 => f_X4_test_L67 t13 k_fu (7 : Int32) (-9 : Int32) (1 : Int32)))) else Option.bind (f_X4_found t7 I) (fun t22 => some (t22.1, t22.2))))))))
set_option maxRecDepth 100000 in
set_option maxHeartbeats 4000000 in
theorem s_X4_test {l : Launch} {ad : Nat → Nat} {P : Option Value → StI → StL → Prop} {I : StI} {L : StL} {v1 : Int32} {v2 : Int32}  (h : Ho (f_X4_test v1 v2 I) (kr_X4_test P L)) : k_Met l ad 6 yX4_test cX4_test 9 (some .int) [.ref (ad 0), .int v1, .int v2] I L P := by
  refine k_enter (by decide +kernel) (Nat.le_of_ble_eq_true rfl) (fun X hl hx hQ => ?_)
  clear hl
  have hx : Ok X cX4_test RX4 9 (some .int) 6 := hx
  show J X ad 9 I L 0 [(0, .ref (ad 0)), (1, .int v1), (2, .int v2)] []
  unfold f_X4_test at h
  refine J_aload_n hx dX4_test_0 0 rfl ?_
  refine J_iload_n hx dX4_test_1 1 rfl ?_
  obtain ⟨t1, e2, h⟩ := Ho_bind h
  refine J_callVi hx lkV_RX4_126 (rfl : k_sh 0 = (4, k_N 4)) [.int v1] [] rfl rfl (Nat.le_of_ble_eq_true rfl) (Nat.le_of_ble_eq_true rfl) (s_X4_isCaller  ⟨t1, e2, ⟨rfl, rfl, rfl⟩⟩) dX4_test_2 ?_
  refine J_if_eq hx dX4_test_5 15 (by decide) (fun c3 => ?_) (fun c3 => ?_)
  · have h := Ho_t c3 h
    refine J_iconst (v := (-1 : Int32)) hx dX4_test_15 (by decide) ?_
    have h := Ho_some h
    exact J_iret hx hQ dX4_test_16 h
  · have h := Ho_f c3 h
    refine J_iload_n hx dX4_test_8 2 rfl ?_
    obtain ⟨t4, e5, h⟩ := Ho_bind h
    refine J_callSi hx lkS_RX4_89 [.int v2] [] rfl rfl (Nat.le_of_ble_eq_true rfl) (Nat.le_of_ble_eq_true rfl) (s_X4_isRow  ⟨t4, e5, ⟨rfl, rfl, rfl⟩⟩) dX4_test_9 ?_
    refine J_if_ne hx dX4_test_12 17 (by decide) (fun c6 => ?_) (fun c6 => ?_)
    · have h := Ho_f c6 h
      refine J_aload_n hx dX4_test_17 0 rfl ?_
      refine J_iload_n hx dX4_test_18 2 rfl ?_
      obtain ⟨t7, e8, h⟩ := Ho_bind h
      refine J_callVi hx lkV_RX4_230 (rfl : k_sh 0 = (4, k_N 4)) [.int v2] [] rfl rfl (Nat.le_of_ble_eq_true rfl) (Nat.le_of_ble_eq_true rfl) (s_X4_findingOfSeen  ⟨t7, e8, ⟨rfl, rfl, rfl⟩⟩) dX4_test_19 ?_
      refine J_istore_n (x := t7) (lv' := [(3, .int t7), (0, .ref (ad 0)), (1, .int v1), (2, .int v2)]) hx dX4_test_22 rfl (by decide) rfl ?_
      refine J_iload_n hx dX4_test_23 0 rfl ?_
      refine J_if_eq hx dX4_test_24 33 (by decide) (fun c9 => ?_) (fun c9 => ?_)
      · have h := Ho_t c9 h
        refine J_aload_n hx dX4_test_33 1 rfl ?_
        refine J_iload_n hx dX4_test_34 2 rfl ?_
        refine J_iload_n hx dX4_test_35 3 rfl ?_
        obtain ⟨t10, e11, h⟩ := Ho_bind h
        refine J_callVi hx lkV_RX4_236 (rfl : k_sh 0 = (4, k_N 4)) [.int v1, .int v2] [] rfl rfl (Nat.le_of_ble_eq_true rfl) (Nat.le_of_ble_eq_true rfl) (s_X4_kindsAsSeen  ⟨t10, e11, ⟨rfl, rfl, rfl⟩⟩) dX4_test_36 ?_
        refine J_istore (x := t10.1) (lv' := [(4, .int t10.1), (3, .int t7), (0, .ref (ad 0)), (1, .int v1), (2, .int v2)]) hx dX4_test_39 rfl (by decide) rfl ?_
        refine J_iload hx dX4_test_41 0 rfl ?_
        refine J_if_ne hx dX4_test_43 49 (by decide) (fun c12 => ?_) (fun c12 => ?_)
        · have h := Ho_f c12 h
          refine J_aload_n hx dX4_test_49 2 rfl ?_
          refine J_iload_n hx dX4_test_50 3 rfl ?_
          refine J_iload hx dX4_test_51 0 rfl ?_
          obtain ⟨t13, e14, h⟩ := Ho_bind h
          refine J_callVv hx lkV_RX4_239 (rfl : k_sh 0 = (4, k_N 4)) [.int v1, .int t10.1] [] rfl rfl (Nat.le_of_ble_eq_true rfl) (Nat.le_of_ble_eq_true rfl) (s_X4_countAlike  ⟨t13, e14, ⟨rfl, rfl, rfl⟩⟩) dX4_test_53 ?_
          refine J_bipush (v := (7 : Int32)) hx dX4_test_56 (by decide) ?_
          refine J_istore (x := (7 : Int32)) (lv' := [(5, .int (7 : Int32)), (4, .int t10.1), (3, .int t7), (0, .ref (ad 0)), (1, .int v1), (2, .int v2)]) hx dX4_test_58 rfl (by decide) rfl ?_
          refine J_bipush (v := (-9 : Int32)) hx dX4_test_60 (by decide) ?_
          refine J_istore (x := (-9 : Int32)) (lv' := [(6, .int (-9 : Int32)), (5, .int (7 : Int32)), (4, .int t10.1), (3, .int t7), (0, .ref (ad 0)), (1, .int v1), (2, .int v2)]) hx dX4_test_62 rfl (by decide) rfl ?_
          refine J_iconst (v := (1 : Int32)) hx dX4_test_64 (by decide) ?_
          refine J_istore (x := (1 : Int32)) (lv' := [(7, .int (1 : Int32)), (6, .int (-9 : Int32)), (5, .int (7 : Int32)), (4, .int t10.1), (3, .int t7), (0, .ref (ad 0)), (1, .int v1), (2, .int v2)]) hx dX4_test_65 rfl (by decide) rfl ?_
          refine J_sub (lv' := [(0, .ref (ad 0)), (5, .int (7 : Int32)), (6, .int (-9 : Int32)), (7, .int (1 : Int32))]) hx [5, 2, 1, 0] rfl ?_
          exact s_X4_test_L67 hx hQ  k_fu h
        · have h := Ho_t c12 h
          refine J_bipush (v := (-9 : Int32)) hx dX4_test_46 (by decide) ?_
          have h := Ho_some h
          exact J_iret hx hQ dX4_test_48 h
      · have h := Ho_f c9 h
        refine J_aload_n hx dX4_test_27 1 rfl ?_
        refine J_iload_n hx dX4_test_28 0 rfl ?_
        obtain ⟨t22, e23, h⟩ := Ho_bind h
        refine J_callVi hx lkV_RX4_93 (rfl : k_sh 0 = (4, k_N 4)) [.int t7] [] rfl rfl (Nat.le_of_ble_eq_true rfl) (Nat.le_of_ble_eq_true rfl) (s_X4_found  ⟨t22, e23, ⟨rfl, rfl, rfl⟩⟩) dX4_test_29 ?_
        have h := Ho_some h
        exact J_iret hx hQ dX4_test_32 h
    · have h := Ho_t c6 h
      refine J_iconst (v := (-1 : Int32)) hx dX4_test_15 (by decide) ?_
      have h := Ho_some h
      exact J_iret hx hQ dX4_test_16 h
abbrev kr_X4_text (P : Option Value → StI → StL → Prop) (L : StL) : Int32 × StI → Prop := fun t => P (some (.int t.1)) t.2 L
def f_X4_text (v1 : Int32) (v2 : Int32) (I : StI) : Option (Int32 × StI) :=
  Option.bind (f_X4_isText v1) (fun t1 => (if t1 = 0 then some ((-1 : Int32), I) else (if v2 ≤ (60 : Int32) then (if 0 ≤ v2 then k_gd v1 4 (Option.bind (f_J7_fill_031fb (k_tq v1.toNatClampNeg) (32 : Int32) I) (fun t7 => k_gd v1 4 (k_let (k_up t7 14 v1.toNatClampNeg v2) (fun I10 => some (v2, I10))))) else Option.bind (f_X4_found (5 : Int32) I) (fun t11 => some (t11.1, t11.2))) else some ((-1 : Int32), I))))
set_option maxRecDepth 100000 in
set_option maxHeartbeats 4000000 in
theorem s_X4_text {l : Launch} {ad : Nat → Nat} {P : Option Value → StI → StL → Prop} {I : StI} {L : StL} {v1 : Int32} {v2 : Int32}  (h : Ho (f_X4_text v1 v2 I) (kr_X4_text P L)) : k_Met l ad 2 yX4_text cX4_text 3 (some .int) [.ref (ad 0), .int v1, .int v2] I L P := by
  refine k_enter (by decide +kernel) (Nat.le_of_ble_eq_true rfl) (fun X hl hx hQ => ?_)
  clear hl
  have hx : Ok X cX4_text RX4 3 (some .int) 2 := hx
  show J X ad 3 I L 0 [(0, .ref (ad 0)), (1, .int v1), (2, .int v2)] []
  unfold f_X4_text at h
  refine J_iload_n hx dX4_text_0 1 rfl ?_
  obtain ⟨t1, e2, h⟩ := Ho_bind h
  refine J_callSi hx lkS_RX4_111 [.int v1] [] rfl rfl (Nat.le_of_ble_eq_true rfl) (Nat.le_of_ble_eq_true rfl) (s_X4_isText  ⟨t1, e2, ⟨rfl, rfl, rfl⟩⟩) dX4_text_1 ?_
  refine J_if_eq hx dX4_text_4 13 (by decide) (fun c3 => ?_) (fun c3 => ?_)
  · have h := Ho_t c3 h
    refine J_iconst (v := (-1 : Int32)) hx dX4_text_13 (by decide) ?_
    have h := Ho_some h
    exact J_iret hx hQ dX4_text_14 h
  · have h := Ho_f c3 h
    refine J_iload_n hx dX4_text_7 2 rfl ?_
    refine J_bipush (v := (60 : Int32)) hx dX4_text_8 (by decide) ?_
    refine J_ic_le hx dX4_text_10 15 (by decide) (fun c4 => ?_) (fun c4 => ?_)
    · have h := Ho_t c4 h
      refine J_iload_n hx dX4_text_15 2 rfl ?_
      refine J_if_ge hx dX4_text_16 25 (by decide) (fun c5 => ?_) (fun c5 => ?_)
      · have h := Ho_t c5 h
        refine J_aload_n hx dX4_text_25 0 rfl ?_
        refine J_getR (q := 9) hx fl_RX4_20 (rfl : k_sh 0 = (4, k_N 4)) rfl rfl dX4_text_26 ?_
        refine J_iload_n hx dX4_text_29 1 rfl ?_
        obtain ⟨b6, h⟩ := Ho_gd h
        refine J_aald (q := (k_tq v1.toNatClampNeg)) hx (rfl : k_sh 9 = (16, 4)) (by decide) (by decide) b6 k_Tr dX4_text_30 ?_
        refine J_bipush (v := (32 : Int32)) hx dX4_text_31 (by decide) ?_
        obtain ⟨t7, e8, h⟩ := Ho_bind h
        refine J_callSv hx lkS_RX4_114 [.ref (ad (k_tq v1.toNatClampNeg)), .int (32 : Int32)] [] rfl rfl (Nat.le_of_ble_eq_true rfl) (Nat.le_of_ble_eq_true rfl) (s_J7_fill_031fb (congrArg Prod.fst (k_Tq b6)) ⟨t7, e8, ⟨rfl, rfl, rfl⟩⟩) dX4_text_33 ?_
        refine J_aload_n hx dX4_text_36 0 rfl ?_
        refine J_getR (q := 14) hx fl_RX4_23 (rfl : k_sh 0 = (4, k_N 4)) rfl rfl dX4_text_37 ?_
        refine J_iload_n hx dX4_text_40 1 rfl ?_
        refine J_iload_n hx dX4_text_41 2 rfl ?_
        obtain ⟨b9, h⟩ := Ho_gd h
        obtain ⟨I10, hI10, h⟩ := Ho_let h
        refine J_iast hx (rfl : k_sh 14 = (10, 4)) b9 dX4_text_42 hI10 ?_
        refine J_iload_n hx dX4_text_43 2 rfl ?_
        have h := Ho_some h
        exact J_iret hx hQ dX4_text_44 h
      · have h := Ho_f c5 h
        refine J_aload_n hx dX4_text_19 0 rfl ?_
        refine J_iconst (v := (5 : Int32)) hx dX4_text_20 (by decide) ?_
        obtain ⟨t11, e12, h⟩ := Ho_bind h
        refine J_callVi hx lkV_RX4_93 (rfl : k_sh 0 = (4, k_N 4)) [.int (5 : Int32)] [] rfl rfl (Nat.le_of_ble_eq_true rfl) (Nat.le_of_ble_eq_true rfl) (s_X4_found  ⟨t11, e12, ⟨rfl, rfl, rfl⟩⟩) dX4_text_21 ?_
        have h := Ho_some h
        exact J_iret hx hQ dX4_text_24 h
    · have h := Ho_f c4 h
      refine J_iconst (v := (-1 : Int32)) hx dX4_text_13 (by decide) ?_
      have h := Ho_some h
      exact J_iret hx hQ dX4_text_14 h
abbrev kr_X4_trips (P : Option Value → StI → StL → Prop) (L : StL) : Int32 × StI → Prop := fun t => P (some (.int t.1)) t.2 L
abbrev g_X4_trips_L36 (X : k_C) (ad : Nat → Nat) (L : StL) (v2 : Nat) : (Int32 × Int32 × StI) → Prop := fun s => J X ad 7 s.2.2 L 36 [(0, .ref (ad 0)), (2, .ref (ad v2)), (3, .int s.1), (4, .int s.2.1)] []
def f_X4_trips_j101 (v2 : Nat) (v3 : Int32) (v4 : Int32) (v5 : Int32) (v6 : Int32) (I : StI) : Option ((Int32 × Int32 × StI) ⊕ (Int32 × StI)) :=
  (if v5 = 0 then k_let (v4 + (1 : Int32)) (fun x17 => some (.inl (v3, x17, I))) else (if v6 = 0 then k_let (v4 + (1 : Int32)) (fun x19 => some (.inl (v3, x19, I))) else k_let (v3 + (1 : Int32)) (fun x20 => k_let (v4 + (1 : Int32)) (fun x21 => some (.inl (x20, x21, I))))))
set_option maxRecDepth 100000 in
set_option maxHeartbeats 4000000 in
theorem s_X4_trips_j101 {X : k_C} {ad : Nat → Nat} {P : Option Value → StI → StL → Prop} {I : StI} {L : StL} (hx : Ok X cX4_trips RX4 7 (some .int) 4) (hQ : OkQ X ad P)  {v2 : Nat} {v3 : Int32} {v4 : Int32} {v5 : Int32} {v6 : Int32} (hv2 : k_sh v2 = (0, k_N 0)) (h : Ho (f_X4_trips_j101 v2 v3 v4 v5 v6 I) (Sum.elim (g_X4_trips_L36 X ad L v2) (kr_X4_trips P L))) : J X ad 7 I L 101 [(0, .ref (ad 0)), (2, .ref (ad v2)), (3, .int v3), (4, .int v4), (5, .int v5), (6, .int v6)] [] := by
  unfold f_X4_trips_j101 at h
  refine J_iload hx dX4_trips_101 4 rfl ?_
  refine J_if_eq hx dX4_trips_103 114 (by decide) (fun c16 => ?_) (fun c16 => ?_)
  · have h := Ho_t c16 h
    obtain ⟨x17, hx17, h⟩ := Ho_let h
    refine J_iinc (x := x17) (lv' := [(4, .int x17), (0, .ref (ad 0)), (2, .ref (ad v2)), (3, .int v3), (5, .int v5), (6, .int v6)]) hx dX4_trips_114 3 rfl (by rw [hx17]; rfl) (by decide) rfl ?_
    refine J_goto hx dX4_trips_117 36 (by decide) ?_
    refine J_sub (lv' := [(0, .ref (ad 0)), (2, .ref (ad v2)), (3, .int v3), (4, .int x17)]) hx [1, 2, 3, 0] rfl ?_
    have h := Ho_some h
    exact h
  · have h := Ho_f c16 h
    refine J_iload hx dX4_trips_106 5 rfl ?_
    refine J_if_eq hx dX4_trips_108 114 (by decide) (fun c18 => ?_) (fun c18 => ?_)
    · have h := Ho_t c18 h
      obtain ⟨x19, hx19, h⟩ := Ho_let h
      refine J_iinc (x := x19) (lv' := [(4, .int x19), (0, .ref (ad 0)), (2, .ref (ad v2)), (3, .int v3), (5, .int v5), (6, .int v6)]) hx dX4_trips_114 3 rfl (by rw [hx19]; rfl) (by decide) rfl ?_
      refine J_goto hx dX4_trips_117 36 (by decide) ?_
      refine J_sub (lv' := [(0, .ref (ad 0)), (2, .ref (ad v2)), (3, .int v3), (4, .int x19)]) hx [1, 2, 3, 0] rfl ?_
      have h := Ho_some h
      exact h
    · have h := Ho_f c18 h
      obtain ⟨x20, hx20, h⟩ := Ho_let h
      refine J_iinc (x := x20) (lv' := [(3, .int x20), (0, .ref (ad 0)), (2, .ref (ad v2)), (4, .int v4), (5, .int v5), (6, .int v6)]) hx dX4_trips_111 2 rfl (by rw [hx20]; rfl) (by decide) rfl ?_
      obtain ⟨x21, hx21, h⟩ := Ho_let h
      refine J_iinc (x := x21) (lv' := [(4, .int x21), (3, .int x20), (0, .ref (ad 0)), (2, .ref (ad v2)), (5, .int v5), (6, .int v6)]) hx dX4_trips_114 3 rfl (by rw [hx21]; rfl) (by decide) rfl ?_
      refine J_goto hx dX4_trips_117 36 (by decide) ?_
      refine J_sub (lv' := [(0, .ref (ad 0)), (2, .ref (ad v2)), (3, .int x20), (4, .int x21)]) hx [2, 3, 1, 0] rfl ?_
      have h := Ho_some h
      exact h
def f_X4_trips_j78 (v2 : Nat) (v3 : Int32) (v4 : Int32) (v5 : Int32) (s0 : Int32) (I : StI) : Option ((Int32 × Int32 × StI) ⊕ (Int32 × StI)) :=
  (if v5 = 0 then f_X4_trips_j101 v2 v3 v4 v5 s0 I else (if (I v2 3) = (1 : Int32) then k_let (k_up I 0 9 v3) (fun I23 => some (.inr (v4, I23))) else f_X4_trips_j101 v2 v3 v4 v5 s0 I))
set_option maxRecDepth 100000 in
set_option maxHeartbeats 4000000 in
theorem s_X4_trips_j78 {X : k_C} {ad : Nat → Nat} {P : Option Value → StI → StL → Prop} {I : StI} {L : StL} (hx : Ok X cX4_trips RX4 7 (some .int) 4) (hQ : OkQ X ad P)  {v2 : Nat} {v3 : Int32} {v4 : Int32} {v5 : Int32} {s0 : Int32} (hv2 : k_sh v2 = (0, k_N 0)) (h : Ho (f_X4_trips_j78 v2 v3 v4 v5 s0 I) (Sum.elim (g_X4_trips_L36 X ad L v2) (kr_X4_trips P L))) : J X ad 7 I L 78 [(0, .ref (ad 0)), (2, .ref (ad v2)), (3, .int v3), (4, .int v4), (5, .int v5)] [.int s0] := by
  unfold f_X4_trips_j78 at h
  refine J_istore (x := s0) (lv' := [(6, .int s0), (0, .ref (ad 0)), (2, .ref (ad v2)), (3, .int v3), (4, .int v4), (5, .int v5)]) hx dX4_trips_78 rfl (by decide) rfl ?_
  refine J_iload hx dX4_trips_80 5 rfl ?_
  refine J_if_eq hx dX4_trips_82 101 (by decide) (fun c15 => ?_) (fun c15 => ?_)
  · have h := Ho_t c15 h
    refine J_sub (lv' := [(0, .ref (ad 0)), (2, .ref (ad v2)), (3, .int v3), (4, .int v4), (5, .int v5), (6, .int s0)]) hx [1, 2, 3, 4, 5, 0] rfl ?_
    exact s_X4_trips_j101 hx hQ hv2 h
  · have h := Ho_f c15 h
    refine J_aload_n hx dX4_trips_85 2 rfl ?_
    refine J_getI hx fl_RX4_177 hv2 rfl dX4_trips_86 ?_
    refine J_iconst (v := (1 : Int32)) hx dX4_trips_89 (by decide) ?_
    refine J_ic_ne hx dX4_trips_90 101 (by decide) (fun c22 => ?_) (fun c22 => ?_)
    · have h := Ho_f c22 h
      refine J_sub (lv' := [(0, .ref (ad 0)), (2, .ref (ad v2)), (3, .int v3), (4, .int v4), (5, .int v5), (6, .int s0)]) hx [1, 2, 3, 4, 5, 0] rfl ?_
      exact s_X4_trips_j101 hx hQ hv2 h
    · have h := Ho_t c22 h
      refine J_aload_n hx dX4_trips_93 1 rfl ?_
      refine J_iload_n hx dX4_trips_94 3 rfl ?_
      obtain ⟨I23, hI23, h⟩ := Ho_let h
      refine J_putI hx flW_RX4_50 (rfl : k_sh 0 = (4, k_N 4)) rfl dX4_trips_95 hI23 ?_
      refine J_iload hx dX4_trips_98 4 rfl ?_
      have h := Ho_some h
      exact J_iret hx hQ dX4_trips_100 h
def f_X4_trips_L36_b (v2 : Nat) (v3 : Int32) (v4 : Int32) (I : StI) : Option ((Int32 × Int32 × StI) ⊕ (Int32 × StI)) :=
  (if (60 : Int32) < v4 then some (.inr ((-9 : Int32), I)) else Option.bind (f_X0_callsIn v2 (I 33 4) I) (fun t8 => Option.bind (f_X3_isUp 33 I) (fun t10 => Option.bind (f_X3_pass 33 t10 I) (fun t12 => (if t12.1 ≤ 0 then f_X4_trips_j78 v2 v3 v4 t8 (0 : Int32) t12.2 else f_X4_trips_j78 v2 v3 v4 t8 (1 : Int32) t12.2)))))
def f_X4_trips_L36 (v2 : Nat) (n : Nat) (v3 : Int32) (v4 : Int32) (I : StI) : Option (Int32 × StI) :=
  k_loop (fun s => f_X4_trips_L36_b v2 s.1 s.2.1 s.2.2) n (v3, v4, I)
set_option maxRecDepth 100000 in
set_option maxHeartbeats 4000000 in
theorem s_X4_trips_L36_b {X : k_C} {ad : Nat → Nat} {P : Option Value → StI → StL → Prop} {I : StI} {L : StL} (hx : Ok X cX4_trips RX4 7 (some .int) 4) (hQ : OkQ X ad P)  {v2 : Nat} {v3 : Int32} {v4 : Int32} (hv2 : k_sh v2 = (0, k_N 0)) (h : Ho (f_X4_trips_L36_b v2 v3 v4 I) (Sum.elim (g_X4_trips_L36 X ad L v2) (kr_X4_trips P L))) : J X ad 7 I L 36 [(0, .ref (ad 0)), (2, .ref (ad v2)), (3, .int v3), (4, .int v4)] [] := by
  unfold f_X4_trips_L36_b at h
  refine J_iload hx dX4_trips_36 3 rfl ?_
  refine J_bipush (v := (60 : Int32)) hx dX4_trips_38 (by decide) ?_
  refine J_ic_gt hx dX4_trips_40 120 (by decide) (fun c7 => ?_) (fun c7 => ?_)
  · have h := Ho_t c7 h
    refine J_bipush (v := (-9 : Int32)) hx dX4_trips_120 (by decide) ?_
    have h := Ho_some h
    exact J_iret hx hQ dX4_trips_122 h
  · have h := Ho_f c7 h
    refine J_aload_n hx dX4_trips_43 1 rfl ?_
    refine J_aload_n hx dX4_trips_44 0 rfl ?_
    refine J_getR (q := 33) hx fl_RX4_36 (rfl : k_sh 0 = (4, k_N 4)) rfl rfl dX4_trips_45 ?_
    refine J_getI hx fl_RX4_141 (rfl : k_sh 33 = (3, k_N 3)) rfl dX4_trips_48 ?_
    obtain ⟨t8, e9, h⟩ := Ho_bind h
    refine J_callVi hx lkV_RX4_200 hv2 [.int (I 33 4)] [] rfl rfl (Nat.le_of_ble_eq_true rfl) (Nat.le_of_ble_eq_true rfl) (s_X0_callsIn hv2 ⟨t8, e9, ⟨rfl, rfl, rfl⟩⟩) dX4_trips_51 ?_
    refine J_istore (x := t8) (lv' := [(5, .int t8), (0, .ref (ad 0)), (2, .ref (ad v2)), (3, .int v3), (4, .int v4)]) hx dX4_trips_54 rfl (by decide) rfl ?_
    refine J_aload_n hx dX4_trips_56 1 rfl ?_
    refine J_getR (q := 33) hx fl_RX4_36 (rfl : k_sh 0 = (4, k_N 4)) rfl rfl dX4_trips_57 ?_
    refine J_aload_n hx dX4_trips_60 1 rfl ?_
    refine J_getR (q := 33) hx fl_RX4_36 (rfl : k_sh 0 = (4, k_N 4)) rfl rfl dX4_trips_61 ?_
    obtain ⟨t10, e11, h⟩ := Ho_bind h
    refine J_callVi hx lkV_RX4_203 (rfl : k_sh 33 = (3, k_N 3)) [] [.ref (ad 33)] rfl rfl (Nat.le_of_ble_eq_true rfl) (Nat.le_of_ble_eq_true rfl) (s_X3_isUp k_H33 ⟨t10, e11, ⟨rfl, rfl, rfl⟩⟩) dX4_trips_64 ?_
    obtain ⟨t12, e13, h⟩ := Ho_bind h
    refine J_callVi hx lkV_RX4_206 (rfl : k_sh 33 = (3, k_N 3)) [.int t10] [] rfl rfl (Nat.le_of_ble_eq_true rfl) (Nat.le_of_ble_eq_true rfl) (s_X3_pass k_H33 ⟨t12, e13, ⟨rfl, rfl, rfl⟩⟩) dX4_trips_67 ?_
    refine J_if_le hx dX4_trips_70 77 (by decide) (fun c14 => ?_) (fun c14 => ?_)
    · have h := Ho_t c14 h
      refine J_iconst (v := (0 : Int32)) hx dX4_trips_77 (by decide) ?_
      refine J_sub (lv' := [(0, .ref (ad 0)), (2, .ref (ad v2)), (3, .int v3), (4, .int v4), (5, .int t8)]) hx [1, 2, 3, 4, 0] rfl ?_
      exact s_X4_trips_j78 hx hQ hv2 h
    · have h := Ho_f c14 h
      refine J_iconst (v := (1 : Int32)) hx dX4_trips_73 (by decide) ?_
      refine J_goto hx dX4_trips_74 78 (by decide) ?_
      refine J_sub (lv' := [(0, .ref (ad 0)), (2, .ref (ad v2)), (3, .int v3), (4, .int v4), (5, .int t8)]) hx [1, 2, 3, 4, 0] rfl ?_
      exact s_X4_trips_j78 hx hQ hv2 h
set_option maxRecDepth 100000 in
set_option maxHeartbeats 4000000 in
theorem s_X4_trips_L36 {X : k_C} {ad : Nat → Nat} {P : Option Value → StI → StL → Prop} {I : StI} {L : StL} (hx : Ok X cX4_trips RX4 7 (some .int) 4) (hQ : OkQ X ad P)  {v2 : Nat} {v3 : Int32} {v4 : Int32} (hv2 : k_sh v2 = (0, k_N 0)) (n : Nat) (h : Ho (f_X4_trips_L36 v2 n v3 v4 I) (kr_X4_trips P L)) : J X ad 7 I L 36 [(0, .ref (ad 0)), (2, .ref (ad v2)), (3, .int v3), (4, .int v4)] [] := by
  exact k_loop_ho (G := g_X4_trips_L36 X ad L v2) (fun s hs => s_X4_trips_L36_b hx hQ hv2 hs) n (v3, v4, I) h
def f_X4_trips (v1 : Int32) (I : StI) : Option (Int32 × StI) :=
  Option.bind (f_X4_isCaller v1 I) (fun t1 => (if t1 = 0 then some ((-1 : Int32), I) else Option.bind (f_X3_become 33 24 I) (fun t4 => k_gd v1 7 (f_X4_trips_L36 (k_cq 33 v1.toNatClampNeg) k_fu (0 : Int32) (1 : Int32) t4))))
set_option maxRecDepth 100000 in
set_option maxHeartbeats 4000000 in
theorem s_X4_trips {l : Launch} {ad : Nat → Nat} {P : Option Value → StI → StL → Prop} {I : StI} {L : StL} {v1 : Int32}  (h : Ho (f_X4_trips v1 I) (kr_X4_trips P L)) : k_Met l ad 4 yX4_trips cX4_trips 7 (some .int) [.ref (ad 0), .int v1] I L P := by
  refine k_enter (by decide +kernel) (Nat.le_of_ble_eq_true rfl) (fun X hl hx hQ => ?_)
  clear hl
  have hx : Ok X cX4_trips RX4 7 (some .int) 4 := hx
  show J X ad 7 I L 0 [(0, .ref (ad 0)), (1, .int v1)] []
  unfold f_X4_trips at h
  refine J_aload_n hx dX4_trips_0 0 rfl ?_
  refine J_iload_n hx dX4_trips_1 1 rfl ?_
  obtain ⟨t1, e2, h⟩ := Ho_bind h
  refine J_callVi hx lkV_RX4_126 (rfl : k_sh 0 = (4, k_N 4)) [.int v1] [] rfl rfl (Nat.le_of_ble_eq_true rfl) (Nat.le_of_ble_eq_true rfl) (s_X4_isCaller  ⟨t1, e2, ⟨rfl, rfl, rfl⟩⟩) dX4_trips_2 ?_
  refine J_if_ne hx dX4_trips_5 10 (by decide) (fun c3 => ?_) (fun c3 => ?_)
  · have h := Ho_f c3 h
    refine J_aload_n hx dX4_trips_10 0 rfl ?_
    refine J_getR (q := 33) hx fl_RX4_36 (rfl : k_sh 0 = (4, k_N 4)) rfl rfl dX4_trips_11 ?_
    refine J_aload_n hx dX4_trips_14 0 rfl ?_
    refine J_getR (q := 24) hx fl_RX4_33 (rfl : k_sh 0 = (4, k_N 4)) rfl rfl dX4_trips_15 ?_
    obtain ⟨t4, e5, h⟩ := Ho_bind h
    refine J_callVv hx lkV_RX4_121 (rfl : k_sh 33 = (3, k_N 3)) [.ref (ad 24)] [] rfl rfl (Nat.le_of_ble_eq_true rfl) (Nat.le_of_ble_eq_true rfl) (s_X3_become k_H33 k_H24 ⟨t4, e5, ⟨rfl, rfl, rfl⟩⟩) dX4_trips_18 ?_
    refine J_aload_n hx dX4_trips_21 0 rfl ?_
    refine J_getR (q := 33) hx fl_RX4_36 (rfl : k_sh 0 = (4, k_N 4)) rfl rfl dX4_trips_22 ?_
    refine J_getR (q := 34) hx fl_RX4_129 (rfl : k_sh 33 = (3, k_N 3)) rfl rfl dX4_trips_25 ?_
    refine J_iload_n hx dX4_trips_28 1 rfl ?_
    obtain ⟨b6, h⟩ := Ho_gd h
    refine J_aald (q := (k_cq 33 v1.toNatClampNeg)) hx (rfl : k_sh 34 = (13, 7)) (by decide) (by decide) b6 (k_Hr k_H33) dX4_trips_29 ?_
    refine J_astore_n (x := ad (k_cq 33 v1.toNatClampNeg)) (lv' := [(2, .ref (ad (k_cq 33 v1.toNatClampNeg))), (0, .ref (ad 0)), (1, .int v1)]) hx dX4_trips_30 rfl (by decide) rfl ?_
    refine J_iconst (v := (0 : Int32)) hx dX4_trips_31 (by decide) ?_
    refine J_istore_n (x := (0 : Int32)) (lv' := [(3, .int (0 : Int32)), (2, .ref (ad (k_cq 33 v1.toNatClampNeg))), (0, .ref (ad 0)), (1, .int v1)]) hx dX4_trips_32 rfl (by decide) rfl ?_
    refine J_iconst (v := (1 : Int32)) hx dX4_trips_33 (by decide) ?_
    refine J_istore (x := (1 : Int32)) (lv' := [(4, .int (1 : Int32)), (3, .int (0 : Int32)), (2, .ref (ad (k_cq 33 v1.toNatClampNeg))), (0, .ref (ad 0)), (1, .int v1)]) hx dX4_trips_34 rfl (by decide) rfl ?_
    refine J_sub (lv' := [(0, .ref (ad 0)), (2, .ref (ad (k_cq 33 v1.toNatClampNeg))), (3, .int (0 : Int32)), (4, .int (1 : Int32))]) hx [3, 2, 1, 0] rfl ?_
    exact s_X4_trips_L36 hx hQ (k_H2 k_H33 b6) k_fu h
  · have h := Ho_t c3 h
    refine J_iconst (v := (-1 : Int32)) hx dX4_trips_8 (by decide) ?_
    have h := Ho_some h
    exact J_iret hx hQ dX4_trips_9 h
abbrev kr_X4_tune (P : Option Value → StI → StL → Prop) (L : StL) : Int32 × StI → Prop := fun t => P (some (.int t.1)) t.2 L
abbrev g_X4_tune_L31 (X : k_C) (ad : Nat → Nat) (L : StL) (v1 : Int32) (v2 : Int32) : (Int32 × StI) → Prop := fun s => J X ad 4 s.2 L 31 [(0, .ref (ad 0)), (1, .int v1), (2, .int v2), (3, .int s.1)] []
def f_X4_tune_L31_b (v1 : Int32) (v2 : Int32) (v3 : Int32) (I : StI) : Option ((Int32 × StI) ⊕ (Int32 × StI)) :=
  (if (9 : Int32) < v3 then k_let (k_up I 0 9 (I 48 0)) (fun I9 => some (.inr ((I9 48 1), I9))) else Option.bind (f_X3_become 33 24 I) (fun t10 => k_gd v1 7 (k_let (k_up t10 (k_cq 33 v1.toNatClampNeg) 1 v3) (fun I13 => Option.bind (f_X3_answeredIn 33 v2 I13) (fun t14 => Option.bind (f_X1_offer v3 t14.1 t14.2) (fun t16 => k_let (v3 + (1 : Int32)) (fun x18 => some (.inl (x18, t16)))))))))
def f_X4_tune_L31 (v1 : Int32) (v2 : Int32) (n : Nat) (v3 : Int32) (I : StI) : Option (Int32 × StI) :=
  k_loop (fun s => f_X4_tune_L31_b v1 v2 s.1 s.2) n (v3, I)
set_option maxRecDepth 100000 in
set_option maxHeartbeats 4000000 in
theorem s_X4_tune_L31_b {X : k_C} {ad : Nat → Nat} {P : Option Value → StI → StL → Prop} {I : StI} {L : StL} (hx : Ok X cX4_tune RX4 4 (some .int) 5) (hQ : OkQ X ad P)  {v1 : Int32} {v2 : Int32} {v3 : Int32}  (h : Ho (f_X4_tune_L31_b v1 v2 v3 I) (Sum.elim (g_X4_tune_L31 X ad L v1 v2) (kr_X4_tune P L))) : J X ad 4 I L 31 [(0, .ref (ad 0)), (1, .int v1), (2, .int v2), (3, .int v3)] [] := by
  unfold f_X4_tune_L31_b at h
  refine J_iload_n hx dX4_tune_31 3 rfl ?_
  refine J_bipush (v := (9 : Int32)) hx dX4_tune_32 (by decide) ?_
  refine J_ic_gt hx dX4_tune_34 83 (by decide) (fun c8 => ?_) (fun c8 => ?_)
  · have h := Ho_t c8 h
    refine J_aload_n hx dX4_tune_83 0 rfl ?_
    refine J_aload_n hx dX4_tune_84 0 rfl ?_
    refine J_getR (q := 48) hx fl_RX4_70 (rfl : k_sh 0 = (4, k_N 4)) rfl rfl dX4_tune_85 ?_
    refine J_getI hx fl_RX4_221 (rfl : k_sh 48 = (1, k_N 1)) rfl dX4_tune_88 ?_
    obtain ⟨I9, hI9, h⟩ := Ho_let h
    refine J_putI hx flW_RX4_50 (rfl : k_sh 0 = (4, k_N 4)) rfl dX4_tune_91 hI9 ?_
    refine J_aload_n hx dX4_tune_94 0 rfl ?_
    refine J_getR (q := 48) hx fl_RX4_70 (rfl : k_sh 0 = (4, k_N 4)) rfl rfl dX4_tune_95 ?_
    refine J_getI hx fl_RX4_224 (rfl : k_sh 48 = (1, k_N 1)) rfl dX4_tune_98 ?_
    have h := Ho_some h
    exact J_iret hx hQ dX4_tune_101 h
  · have h := Ho_f c8 h
    refine J_aload_n hx dX4_tune_37 0 rfl ?_
    refine J_getR (q := 33) hx fl_RX4_36 (rfl : k_sh 0 = (4, k_N 4)) rfl rfl dX4_tune_38 ?_
    refine J_aload_n hx dX4_tune_41 0 rfl ?_
    refine J_getR (q := 24) hx fl_RX4_33 (rfl : k_sh 0 = (4, k_N 4)) rfl rfl dX4_tune_42 ?_
    obtain ⟨t10, e11, h⟩ := Ho_bind h
    refine J_callVv hx lkV_RX4_121 (rfl : k_sh 33 = (3, k_N 3)) [.ref (ad 24)] [] rfl rfl (Nat.le_of_ble_eq_true rfl) (Nat.le_of_ble_eq_true rfl) (s_X3_become k_H33 k_H24 ⟨t10, e11, ⟨rfl, rfl, rfl⟩⟩) dX4_tune_45 ?_
    refine J_aload_n hx dX4_tune_48 0 rfl ?_
    refine J_getR (q := 33) hx fl_RX4_36 (rfl : k_sh 0 = (4, k_N 4)) rfl rfl dX4_tune_49 ?_
    refine J_getR (q := 34) hx fl_RX4_129 (rfl : k_sh 33 = (3, k_N 3)) rfl rfl dX4_tune_52 ?_
    refine J_iload_n hx dX4_tune_55 1 rfl ?_
    obtain ⟨b12, h⟩ := Ho_gd h
    refine J_aald (q := (k_cq 33 v1.toNatClampNeg)) hx (rfl : k_sh 34 = (13, 7)) (by decide) (by decide) b12 (k_Hr k_H33) dX4_tune_56 ?_
    refine J_iload_n hx dX4_tune_57 3 rfl ?_
    obtain ⟨I13, hI13, h⟩ := Ho_let h
    refine J_putI hx flW_RX4_174 (k_H2 k_H33 b12) rfl dX4_tune_58 hI13 ?_
    refine J_aload_n hx dX4_tune_61 0 rfl ?_
    refine J_getR (q := 48) hx fl_RX4_70 (rfl : k_sh 0 = (4, k_N 4)) rfl rfl dX4_tune_62 ?_
    refine J_iload_n hx dX4_tune_65 3 rfl ?_
    refine J_aload_n hx dX4_tune_66 0 rfl ?_
    refine J_getR (q := 33) hx fl_RX4_36 (rfl : k_sh 0 = (4, k_N 4)) rfl rfl dX4_tune_67 ?_
    refine J_iload_n hx dX4_tune_70 2 rfl ?_
    obtain ⟨t14, e15, h⟩ := Ho_bind h
    refine J_callVi hx lkV_RX4_197 (rfl : k_sh 33 = (3, k_N 3)) [.int v2] [.int v3, .ref (ad 48)] rfl rfl (Nat.le_of_ble_eq_true rfl) (Nat.le_of_ble_eq_true rfl) (s_X3_answeredIn k_H33 ⟨t14, e15, ⟨rfl, rfl, rfl⟩⟩) dX4_tune_71 ?_
    obtain ⟨t16, e17, h⟩ := Ho_bind h
    refine J_callVv hx lkV_RX4_217 (rfl : k_sh 48 = (1, k_N 1)) [.int v3, .int t14.1] [] rfl rfl (Nat.le_of_ble_eq_true rfl) (Nat.le_of_ble_eq_true rfl) (s_X1_offer  ⟨t16, e17, ⟨rfl, rfl, rfl⟩⟩) dX4_tune_74 ?_
    obtain ⟨x18, hx18, h⟩ := Ho_let h
    refine J_iinc (x := x18) (lv' := [(3, .int x18), (0, .ref (ad 0)), (1, .int v1), (2, .int v2)]) hx dX4_tune_77 3 rfl (by rw [hx18]; rfl) (by decide) rfl ?_
    refine J_goto hx dX4_tune_80 31 (by decide) ?_
    refine J_sub (lv' := [(0, .ref (ad 0)), (1, .int v1), (2, .int v2), (3, .int x18)]) hx [1, 2, 3, 0] rfl ?_
    have h := Ho_some h
    exact h
set_option maxRecDepth 100000 in
set_option maxHeartbeats 4000000 in
theorem s_X4_tune_L31 {X : k_C} {ad : Nat → Nat} {P : Option Value → StI → StL → Prop} {I : StI} {L : StL} (hx : Ok X cX4_tune RX4 4 (some .int) 5) (hQ : OkQ X ad P)  {v1 : Int32} {v2 : Int32} {v3 : Int32}  (n : Nat) (h : Ho (f_X4_tune_L31 v1 v2 n v3 I) (kr_X4_tune P L)) : J X ad 4 I L 31 [(0, .ref (ad 0)), (1, .int v1), (2, .int v2), (3, .int v3)] [] := by
  exact k_loop_ho (G := g_X4_tune_L31 X ad L v1 v2) (fun s hs => s_X4_tune_L31_b hx hQ  hs) n (v3, I) h
def f_X4_tune (v1 : Int32) (v2 : Int32) (I : StI) : Option (Int32 × StI) :=
  Option.bind (f_X4_isCaller v1 I) (fun t1 => (if t1 = 0 then some ((-1 : Int32), I) else (if v2 < (1 : Int32) then some ((-1 : Int32), I) else (if v2 ≤ (40 : Int32) then Option.bind (f_X1_begin (-1 : Int32) I) (fun t6 => f_X4_tune_L31 v1 v2 k_fu (1 : Int32) t6) else some ((-1 : Int32), I)))))
set_option maxRecDepth 100000 in
set_option maxHeartbeats 4000000 in
theorem s_X4_tune {l : Launch} {ad : Nat → Nat} {P : Option Value → StI → StL → Prop} {I : StI} {L : StL} {v1 : Int32} {v2 : Int32}  (h : Ho (f_X4_tune v1 v2 I) (kr_X4_tune P L)) : k_Met l ad 5 yX4_tune cX4_tune 4 (some .int) [.ref (ad 0), .int v1, .int v2] I L P := by
  refine k_enter (by decide +kernel) (Nat.le_of_ble_eq_true rfl) (fun X hl hx hQ => ?_)
  clear hl
  have hx : Ok X cX4_tune RX4 4 (some .int) 5 := hx
  show J X ad 4 I L 0 [(0, .ref (ad 0)), (1, .int v1), (2, .int v2)] []
  unfold f_X4_tune at h
  refine J_aload_n hx dX4_tune_0 0 rfl ?_
  refine J_iload_n hx dX4_tune_1 1 rfl ?_
  obtain ⟨t1, e2, h⟩ := Ho_bind h
  refine J_callVi hx lkV_RX4_126 (rfl : k_sh 0 = (4, k_N 4)) [.int v1] [] rfl rfl (Nat.le_of_ble_eq_true rfl) (Nat.le_of_ble_eq_true rfl) (s_X4_isCaller  ⟨t1, e2, ⟨rfl, rfl, rfl⟩⟩) dX4_tune_2 ?_
  refine J_if_eq hx dX4_tune_5 19 (by decide) (fun c3 => ?_) (fun c3 => ?_)
  · have h := Ho_t c3 h
    refine J_iconst (v := (-1 : Int32)) hx dX4_tune_19 (by decide) ?_
    have h := Ho_some h
    exact J_iret hx hQ dX4_tune_20 h
  · have h := Ho_f c3 h
    refine J_iload_n hx dX4_tune_8 2 rfl ?_
    refine J_iconst (v := (1 : Int32)) hx dX4_tune_9 (by decide) ?_
    refine J_ic_lt hx dX4_tune_10 19 (by decide) (fun c4 => ?_) (fun c4 => ?_)
    · have h := Ho_t c4 h
      refine J_iconst (v := (-1 : Int32)) hx dX4_tune_19 (by decide) ?_
      have h := Ho_some h
      exact J_iret hx hQ dX4_tune_20 h
    · have h := Ho_f c4 h
      refine J_iload_n hx dX4_tune_13 2 rfl ?_
      refine J_bipush (v := (40 : Int32)) hx dX4_tune_14 (by decide) ?_
      refine J_ic_le hx dX4_tune_16 21 (by decide) (fun c5 => ?_) (fun c5 => ?_)
      · have h := Ho_t c5 h
        refine J_aload_n hx dX4_tune_21 0 rfl ?_
        refine J_getR (q := 48) hx fl_RX4_70 (rfl : k_sh 0 = (4, k_N 4)) rfl rfl dX4_tune_22 ?_
        refine J_iconst (v := (-1 : Int32)) hx dX4_tune_25 (by decide) ?_
        obtain ⟨t6, e7, h⟩ := Ho_bind h
        refine J_callVv hx lkV_RX4_213 (rfl : k_sh 48 = (1, k_N 1)) [.int (-1 : Int32)] [] rfl rfl (Nat.le_of_ble_eq_true rfl) (Nat.le_of_ble_eq_true rfl) (s_X1_begin  ⟨t6, e7, ⟨rfl, rfl, rfl⟩⟩) dX4_tune_26 ?_
        refine J_iconst (v := (1 : Int32)) hx dX4_tune_29 (by decide) ?_
        refine J_istore_n (x := (1 : Int32)) (lv' := [(3, .int (1 : Int32)), (0, .ref (ad 0)), (1, .int v1), (2, .int v2)]) hx dX4_tune_30 rfl (by decide) rfl ?_
        refine J_sub (lv' := [(0, .ref (ad 0)), (1, .int v1), (2, .int v2), (3, .int (1 : Int32))]) hx [1, 2, 3, 0] rfl ?_
        exact s_X4_tune_L31 hx hQ  k_fu h
      · have h := Ho_f c5 h
        refine J_iconst (v := (-1 : Int32)) hx dX4_tune_19 (by decide) ?_
        have h := Ho_some h
        exact J_iret hx hQ dX4_tune_20 h
abbrev kr_X4_undo (P : Option Value → StI → StL → Prop) (L : StL) : Int32 × StI → Prop := fun t => P (some (.int t.1)) t.2 L
def f_X4_undo (v1 : Int32) (I : StI) : Option (Int32 × StI) :=
  (if v1 < 0 then some ((-1 : Int32), I) else (if v1 ≤ (I 42 3) then k_let ((I 42 3) - v1) (fun x3 => k_let (k_up I 42 3 v1) (fun I4 => Option.bind (f_X4_doAllAgain I4) (fun t5 => some (x3, t5)))) else some ((-1 : Int32), I)))
set_option maxRecDepth 100000 in
set_option maxHeartbeats 4000000 in
theorem s_X4_undo {l : Launch} {ad : Nat → Nat} {P : Option Value → StI → StL → Prop} {I : StI} {L : StL} {v1 : Int32}  (h : Ho (f_X4_undo v1 I) (kr_X4_undo P L)) : k_Met l ad 6 yX4_undo cX4_undo 3 (some .int) [.ref (ad 0), .int v1] I L P := by
  refine k_enter (by decide +kernel) (Nat.le_of_ble_eq_true rfl) (fun X hl hx hQ => ?_)
  clear hl
  have hx : Ok X cX4_undo RX4 3 (some .int) 6 := hx
  show J X ad 3 I L 0 [(0, .ref (ad 0)), (1, .int v1)] []
  unfold f_X4_undo at h
  refine J_iload_n hx dX4_undo_0 1 rfl ?_
  refine J_if_lt hx dX4_undo_1 15 (by decide) (fun c1 => ?_) (fun c1 => ?_)
  · have h := Ho_t c1 h
    refine J_iconst (v := (-1 : Int32)) hx dX4_undo_15 (by decide) ?_
    have h := Ho_some h
    exact J_iret hx hQ dX4_undo_16 h
  · have h := Ho_f c1 h
    refine J_iload_n hx dX4_undo_4 1 rfl ?_
    refine J_aload_n hx dX4_undo_5 0 rfl ?_
    refine J_getR (q := 42) hx fl_RX4_42 (rfl : k_sh 0 = (4, k_N 4)) rfl rfl dX4_undo_6 ?_
    refine J_getI hx fl_RX4_86 (rfl : k_sh 42 = (2, k_N 2)) rfl dX4_undo_9 ?_
    refine J_ic_le hx dX4_undo_12 17 (by decide) (fun c2 => ?_) (fun c2 => ?_)
    · have h := Ho_t c2 h
      refine J_aload_n hx dX4_undo_17 0 rfl ?_
      refine J_getR (q := 42) hx fl_RX4_42 (rfl : k_sh 0 = (4, k_N 4)) rfl rfl dX4_undo_18 ?_
      refine J_getI hx fl_RX4_86 (rfl : k_sh 42 = (2, k_N 2)) rfl dX4_undo_21 ?_
      refine J_iload_n hx dX4_undo_24 1 rfl ?_
      refine J_isub hx dX4_undo_25 ?_
      obtain ⟨x3, hx3, h⟩ := Ho_let h
      refine J_istore_n (x := x3) (lv' := [(2, .int x3), (0, .ref (ad 0)), (1, .int v1)]) hx dX4_undo_26 hx3 (by decide) rfl ?_
      refine J_aload_n hx dX4_undo_27 1 rfl ?_
      refine J_getR (q := 42) hx fl_RX4_42 (rfl : k_sh 0 = (4, k_N 4)) rfl rfl dX4_undo_28 ?_
      refine J_iload_n hx dX4_undo_31 2 rfl ?_
      obtain ⟨I4, hI4, h⟩ := Ho_let h
      refine J_putI hx flW_RX4_86 (rfl : k_sh 42 = (2, k_N 2)) rfl dX4_undo_32 hI4 ?_
      refine J_aload_n hx dX4_undo_35 1 rfl ?_
      obtain ⟨t5, e6, h⟩ := Ho_bind h
      refine J_callVv hx lkV_RX4_180 (rfl : k_sh 0 = (4, k_N 4)) [] [] rfl rfl (Nat.le_of_ble_eq_true rfl) (Nat.le_of_ble_eq_true rfl) (s_X4_doAllAgain  ⟨t5, e6, ⟨rfl, rfl, rfl⟩⟩) dX4_undo_36 ?_
      refine J_iload_n hx dX4_undo_39 0 rfl ?_
      have h := Ho_some h
      exact J_iret hx hQ dX4_undo_40 h
    · have h := Ho_f c2 h
      refine J_iconst (v := (-1 : Int32)) hx dX4_undo_15 (by decide) ?_
      have h := Ho_some h
      exact J_iret hx hQ dX4_undo_16 h
abbrev kr_X4_up (P : Option Value → StI → StL → Prop) (I : StI) (L : StL) : Int32 → Prop := fun t => P (some (.int t)) I L
def f_X4_up (v1 : Int32) (I : StI) : Option (Int32) :=
  (if v1 < 0 then some ((-1 : Int32)) else (if v1 ≤ (199 : Int32) then Option.bind (f_X3_isUpIn 24 v1 I) (fun t3 => (if t3 = 0 then some ((0 : Int32)) else some ((1 : Int32)))) else some ((-1 : Int32))))
set_option maxRecDepth 100000 in
set_option maxHeartbeats 4000000 in
theorem s_X4_up {l : Launch} {ad : Nat → Nat} {P : Option Value → StI → StL → Prop} {I : StI} {L : StL} {v1 : Int32}  (h : Ho (f_X4_up v1 I) (kr_X4_up P I L)) : k_Met l ad 3 yX4_up cX4_up 2 (some .int) [.ref (ad 0), .int v1] I L P := by
  refine k_enter (by decide +kernel) (Nat.le_of_ble_eq_true rfl) (fun X hl hx hQ => ?_)
  clear hl
  have hx : Ok X cX4_up RX4 2 (some .int) 3 := hx
  show J X ad 2 I L 0 [(0, .ref (ad 0)), (1, .int v1)] []
  unfold f_X4_up at h
  refine J_iload_n hx dX4_up_0 1 rfl ?_
  refine J_if_lt hx dX4_up_1 11 (by decide) (fun c1 => ?_) (fun c1 => ?_)
  · have h := Ho_t c1 h
    refine J_iconst (v := (-1 : Int32)) hx dX4_up_11 (by decide) ?_
    have h := Ho_some h
    exact J_iret hx hQ dX4_up_12 h
  · have h := Ho_f c1 h
    refine J_iload_n hx dX4_up_4 1 rfl ?_
    refine J_sipush (v := (199 : Int32)) hx dX4_up_5 (by decide) ?_
    refine J_ic_le hx dX4_up_8 13 (by decide) (fun c2 => ?_) (fun c2 => ?_)
    · have h := Ho_t c2 h
      refine J_aload_n hx dX4_up_13 0 rfl ?_
      refine J_getR (q := 24) hx fl_RX4_33 (rfl : k_sh 0 = (4, k_N 4)) rfl rfl dX4_up_14 ?_
      refine J_iload_n hx dX4_up_17 1 rfl ?_
      obtain ⟨t3, e4, h⟩ := Ho_bind h
      refine J_callVi hx lkV_RX4_147 (rfl : k_sh 24 = (3, k_N 3)) [.int v1] [] rfl rfl (Nat.le_of_ble_eq_true rfl) (Nat.le_of_ble_eq_true rfl) (s_X3_isUpIn k_H24 ⟨t3, e4, ⟨rfl, rfl, rfl⟩⟩) dX4_up_18 ?_
      refine J_if_eq hx dX4_up_21 28 (by decide) (fun c5 => ?_) (fun c5 => ?_)
      · have h := Ho_t c5 h
        refine J_iconst (v := (0 : Int32)) hx dX4_up_28 (by decide) ?_
        have h := Ho_some h
        exact J_iret hx hQ dX4_up_29 h
      · have h := Ho_f c5 h
        refine J_iconst (v := (1 : Int32)) hx dX4_up_24 (by decide) ?_
        refine J_goto hx dX4_up_25 29 (by decide) ?_
        have h := Ho_some h
        exact J_iret hx hQ dX4_up_29 h
    · have h := Ho_f c2 h
      refine J_iconst (v := (-1 : Int32)) hx dX4_up_11 (by decide) ?_
      have h := Ho_some h
      exact J_iret hx hQ dX4_up_12 h
abbrev kr_X4_upper (P : Option Value → StI → StL → Prop) (I : StI) (L : StL) : Int64 → Prop := fun t => P (some (.long t)) I L
def f_X4_upper (L : StL) : Option (Int64) :=
  some ((L 0 10))
set_option maxRecDepth 100000 in
set_option maxHeartbeats 4000000 in
theorem s_X4_upper {l : Launch} {ad : Nat → Nat} {P : Option Value → StI → StL → Prop} {I : StI} {L : StL}   (h : Ho (f_X4_upper L) (kr_X4_upper P I L)) : k_Met l ad 1 yX4_upper cX4_upper 1 (some .long) [.ref (ad 0)] I L P := by
  refine k_enter (by decide +kernel) (Nat.le_of_ble_eq_true rfl) (fun X hl hx hQ => ?_)
  clear hl
  have hx : Ok X cX4_upper RX4 1 (some .long) 1 := hx
  show J X ad 1 I L 0 [(0, .ref (ad 0))] []
  unfold f_X4_upper at h
  refine J_aload_n hx dX4_upper_0 0 rfl ?_
  refine J_getL hx fl_RX4_54 (rfl : k_sh 0 = (4, k_N 4)) rfl dX4_upper_1 ?_
  have h := Ho_some h
  exact J_lret hx hQ dX4_upper_4 h
abbrev kr_X4_worst (P : Option Value → StI → StL → Prop) (L : StL) : Int32 × StI → Prop := fun t => P (some (.int t.1)) t.2 L
abbrev g_X4_worst_L36 (X : k_C) (ad : Nat → Nat) (L : StL) : (Int32 × Int32 × Int32 × StI) → Prop := fun s => J X ad 4 s.2.2.2 L 36 [(0, .ref (ad 0)), (1, .int s.1), (2, .int s.2.1), (3, .int s.2.2.1)] []
def f_X4_worst_L36_b (v1 : Int32) (v2 : Int32) (v3 : Int32) (I : StI) : Option ((Int32 × Int32 × Int32 × StI) ⊕ (Int32 × StI)) :=
  (if (60 : Int32) < v3 then k_let (k_up I 0 9 v1) (fun I7 => some (.inr (v2, I7))) else Option.bind (f_X3_isUp 33 I) (fun t8 => Option.bind (f_X3_pass 33 t8 I) (fun t10 => Option.bind (f_X3_notOpen 33 t10.2) (fun t12 => (if v1 ≤ t12 then k_let (v3 + (1 : Int32)) (fun x15 => some (.inl (v1, v2, x15, t10.2))) else Option.bind (f_X3_notOpen 33 t10.2) (fun t16 => k_let (v3 + (1 : Int32)) (fun x18 => some (.inl (t16, v3, x18, t10.2)))))))))
def f_X4_worst_L36  (n : Nat) (v1 : Int32) (v2 : Int32) (v3 : Int32) (I : StI) : Option (Int32 × StI) :=
  k_loop (fun s => f_X4_worst_L36_b s.1 s.2.1 s.2.2.1 s.2.2.2) n (v1, v2, v3, I)
set_option maxRecDepth 100000 in
set_option maxHeartbeats 4000000 in
theorem s_X4_worst_L36_b {X : k_C} {ad : Nat → Nat} {P : Option Value → StI → StL → Prop} {I : StI} {L : StL} (hx : Ok X cX4_worst RX4 4 (some .int) 4) (hQ : OkQ X ad P)  {v1 : Int32} {v2 : Int32} {v3 : Int32}  (h : Ho (f_X4_worst_L36_b v1 v2 v3 I) (Sum.elim (g_X4_worst_L36 X ad L) (kr_X4_worst P L))) : J X ad 4 I L 36 [(0, .ref (ad 0)), (1, .int v1), (2, .int v2), (3, .int v3)] [] := by
  unfold f_X4_worst_L36_b at h
  refine J_iload_n hx dX4_worst_36 3 rfl ?_
  refine J_bipush (v := (60 : Int32)) hx dX4_worst_37 (by decide) ?_
  refine J_ic_gt hx dX4_worst_39 84 (by decide) (fun c6 => ?_) (fun c6 => ?_)
  · have h := Ho_t c6 h
    refine J_aload_n hx dX4_worst_84 0 rfl ?_
    refine J_iload_n hx dX4_worst_85 1 rfl ?_
    obtain ⟨I7, hI7, h⟩ := Ho_let h
    refine J_putI hx flW_RX4_50 (rfl : k_sh 0 = (4, k_N 4)) rfl dX4_worst_86 hI7 ?_
    refine J_iload_n hx dX4_worst_89 2 rfl ?_
    have h := Ho_some h
    exact J_iret hx hQ dX4_worst_90 h
  · have h := Ho_f c6 h
    refine J_aload_n hx dX4_worst_42 0 rfl ?_
    refine J_getR (q := 33) hx fl_RX4_36 (rfl : k_sh 0 = (4, k_N 4)) rfl rfl dX4_worst_43 ?_
    refine J_aload_n hx dX4_worst_46 0 rfl ?_
    refine J_getR (q := 33) hx fl_RX4_36 (rfl : k_sh 0 = (4, k_N 4)) rfl rfl dX4_worst_47 ?_
    obtain ⟨t8, e9, h⟩ := Ho_bind h
    refine J_callVi hx lkV_RX4_203 (rfl : k_sh 33 = (3, k_N 3)) [] [.ref (ad 33)] rfl rfl (Nat.le_of_ble_eq_true rfl) (Nat.le_of_ble_eq_true rfl) (s_X3_isUp k_H33 ⟨t8, e9, ⟨rfl, rfl, rfl⟩⟩) dX4_worst_50 ?_
    obtain ⟨t10, e11, h⟩ := Ho_bind h
    refine J_callVi hx lkV_RX4_206 (rfl : k_sh 33 = (3, k_N 3)) [.int t8] [] rfl rfl (Nat.le_of_ble_eq_true rfl) (Nat.le_of_ble_eq_true rfl) (s_X3_pass k_H33 ⟨t10, e11, ⟨rfl, rfl, rfl⟩⟩) dX4_worst_53 ?_
    refine J_pop hx dX4_worst_56 rfl ?_
    refine J_aload_n hx dX4_worst_57 0 rfl ?_
    refine J_getR (q := 33) hx fl_RX4_36 (rfl : k_sh 0 = (4, k_N 4)) rfl rfl dX4_worst_58 ?_
    obtain ⟨t12, e13, h⟩ := Ho_bind h
    refine J_callVi hx lkV_RX4_210 (rfl : k_sh 33 = (3, k_N 3)) [] [] rfl rfl (Nat.le_of_ble_eq_true rfl) (Nat.le_of_ble_eq_true rfl) (s_X3_notOpen k_H33 ⟨t12, e13, ⟨rfl, rfl, rfl⟩⟩) dX4_worst_61 ?_
    refine J_iload_n hx dX4_worst_64 1 rfl ?_
    refine J_ic_ge hx dX4_worst_65 78 (by decide) (fun c14 => ?_) (fun c14 => ?_)
    · have h := Ho_t c14 h
      obtain ⟨x15, hx15, h⟩ := Ho_let h
      refine J_iinc (x := x15) (lv' := [(3, .int x15), (0, .ref (ad 0)), (1, .int v1), (2, .int v2)]) hx dX4_worst_78 3 rfl (by rw [hx15]; rfl) (by decide) rfl ?_
      refine J_goto hx dX4_worst_81 36 (by decide) ?_
      refine J_sub (lv' := [(0, .ref (ad 0)), (1, .int v1), (2, .int v2), (3, .int x15)]) hx [1, 2, 3, 0] rfl ?_
      have h := Ho_some h
      exact h
    · have h := Ho_f c14 h
      refine J_aload_n hx dX4_worst_68 0 rfl ?_
      refine J_getR (q := 33) hx fl_RX4_36 (rfl : k_sh 0 = (4, k_N 4)) rfl rfl dX4_worst_69 ?_
      obtain ⟨t16, e17, h⟩ := Ho_bind h
      refine J_callVi hx lkV_RX4_210 (rfl : k_sh 33 = (3, k_N 3)) [] [] rfl rfl (Nat.le_of_ble_eq_true rfl) (Nat.le_of_ble_eq_true rfl) (s_X3_notOpen k_H33 ⟨t16, e17, ⟨rfl, rfl, rfl⟩⟩) dX4_worst_72 ?_
      refine J_istore_n (x := t16) (lv' := [(1, .int t16), (0, .ref (ad 0)), (2, .int v2), (3, .int v3)]) hx dX4_worst_75 rfl (by decide) rfl ?_
      refine J_iload_n hx dX4_worst_76 3 rfl ?_
      refine J_istore_n (x := v3) (lv' := [(2, .int v3), (1, .int t16), (0, .ref (ad 0)), (3, .int v3)]) hx dX4_worst_77 rfl (by decide) rfl ?_
      obtain ⟨x18, hx18, h⟩ := Ho_let h
      refine J_iinc (x := x18) (lv' := [(3, .int x18), (2, .int v3), (1, .int t16), (0, .ref (ad 0))]) hx dX4_worst_78 3 rfl (by rw [hx18]; rfl) (by decide) rfl ?_
      refine J_goto hx dX4_worst_81 36 (by decide) ?_
      refine J_sub (lv' := [(0, .ref (ad 0)), (1, .int t16), (2, .int v3), (3, .int x18)]) hx [3, 2, 1, 0] rfl ?_
      have h := Ho_some h
      exact h
set_option maxRecDepth 100000 in
set_option maxHeartbeats 4000000 in
theorem s_X4_worst_L36 {X : k_C} {ad : Nat → Nat} {P : Option Value → StI → StL → Prop} {I : StI} {L : StL} (hx : Ok X cX4_worst RX4 4 (some .int) 4) (hQ : OkQ X ad P)  {v1 : Int32} {v2 : Int32} {v3 : Int32}  (n : Nat) (h : Ho (f_X4_worst_L36  n v1 v2 v3 I) (kr_X4_worst P L)) : J X ad 4 I L 36 [(0, .ref (ad 0)), (1, .int v1), (2, .int v2), (3, .int v3)] [] := by
  exact k_loop_ho (G := g_X4_worst_L36 X ad L) (fun s hs => s_X4_worst_L36_b hx hQ  hs) n (v1, v2, v3, I) h
def f_X4_worst (I : StI) : Option (Int32 × StI) :=
  (if (I 24 1) = 0 then some ((-4 : Int32), I) else Option.bind (f_X3_become 33 24 I) (fun t2 => Option.bind (f_X3_notOpen 33 t2) (fun t4 => f_X4_worst_L36  k_fu t4 (0 : Int32) (1 : Int32) t2)))
set_option maxRecDepth 100000 in
set_option maxHeartbeats 4000000 in
theorem s_X4_worst {l : Launch} {ad : Nat → Nat} {P : Option Value → StI → StL → Prop} {I : StI} {L : StL}   (h : Ho (f_X4_worst I) (kr_X4_worst P L)) : k_Met l ad 4 yX4_worst cX4_worst 4 (some .int) [.ref (ad 0)] I L P := by
  refine k_enter (by decide +kernel) (Nat.le_of_ble_eq_true rfl) (fun X hl hx hQ => ?_)
  clear hl
  have hx : Ok X cX4_worst RX4 4 (some .int) 4 := hx
  show J X ad 4 I L 0 [(0, .ref (ad 0))] []
  unfold f_X4_worst at h
  refine J_aload_n hx dX4_worst_0 0 rfl ?_
  refine J_getR (q := 24) hx fl_RX4_33 (rfl : k_sh 0 = (4, k_N 4)) rfl rfl dX4_worst_1 ?_
  refine J_getI hx fl_RX4_125 (rfl : k_sh 24 = (3, k_N 3)) rfl dX4_worst_4 ?_
  refine J_if_ne hx dX4_worst_7 13 (by decide) (fun c1 => ?_) (fun c1 => ?_)
  · have h := Ho_f c1 h
    refine J_aload_n hx dX4_worst_13 0 rfl ?_
    refine J_getR (q := 33) hx fl_RX4_36 (rfl : k_sh 0 = (4, k_N 4)) rfl rfl dX4_worst_14 ?_
    refine J_aload_n hx dX4_worst_17 0 rfl ?_
    refine J_getR (q := 24) hx fl_RX4_33 (rfl : k_sh 0 = (4, k_N 4)) rfl rfl dX4_worst_18 ?_
    obtain ⟨t2, e3, h⟩ := Ho_bind h
    refine J_callVv hx lkV_RX4_121 (rfl : k_sh 33 = (3, k_N 3)) [.ref (ad 24)] [] rfl rfl (Nat.le_of_ble_eq_true rfl) (Nat.le_of_ble_eq_true rfl) (s_X3_become k_H33 k_H24 ⟨t2, e3, ⟨rfl, rfl, rfl⟩⟩) dX4_worst_21 ?_
    refine J_aload_n hx dX4_worst_24 0 rfl ?_
    refine J_getR (q := 33) hx fl_RX4_36 (rfl : k_sh 0 = (4, k_N 4)) rfl rfl dX4_worst_25 ?_
    obtain ⟨t4, e5, h⟩ := Ho_bind h
    refine J_callVi hx lkV_RX4_210 (rfl : k_sh 33 = (3, k_N 3)) [] [] rfl rfl (Nat.le_of_ble_eq_true rfl) (Nat.le_of_ble_eq_true rfl) (s_X3_notOpen k_H33 ⟨t4, e5, ⟨rfl, rfl, rfl⟩⟩) dX4_worst_28 ?_
    refine J_istore_n (x := t4) (lv' := [(1, .int t4), (0, .ref (ad 0))]) hx dX4_worst_31 rfl (by decide) rfl ?_
    refine J_iconst (v := (0 : Int32)) hx dX4_worst_32 (by decide) ?_
    refine J_istore_n (x := (0 : Int32)) (lv' := [(2, .int (0 : Int32)), (1, .int t4), (0, .ref (ad 0))]) hx dX4_worst_33 rfl (by decide) rfl ?_
    refine J_iconst (v := (1 : Int32)) hx dX4_worst_34 (by decide) ?_
    refine J_istore_n (x := (1 : Int32)) (lv' := [(3, .int (1 : Int32)), (2, .int (0 : Int32)), (1, .int t4), (0, .ref (ad 0))]) hx dX4_worst_35 rfl (by decide) rfl ?_
    refine J_sub (lv' := [(0, .ref (ad 0)), (1, .int t4), (2, .int (0 : Int32)), (3, .int (1 : Int32))]) hx [3, 2, 1, 0] rfl ?_
    exact s_X4_worst_L36 hx hQ  k_fu h
  · have h := Ho_t c1 h
    refine J_bipush (v := (-4 : Int32)) hx dX4_worst_10 (by decide) ?_
    have h := Ho_some h
    exact J_iret hx hQ dX4_worst_12 h
