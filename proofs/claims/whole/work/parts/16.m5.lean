abbrev kr_X4_answeredWithDowns (P : Option Value → StI → StL → Prop) (L : StL) : Int32 × StI → Prop := fun t => P (some (.int t.1)) t.2 L
abbrev g_X4_answeredWithDowns_L15 (X : k_C) (ad : Nat → Nat) (L : StL) (v1 : Int32) : (Int32 × Int32 × StI) → Prop := fun s => J X ad 5 s.2.2 L 15 [(0, .ref (ad 0)), (1, .int v1), (2, .int s.1), (3, .int s.2.1)] []
def f_X4_answeredWithDowns_j62 (v1 : Int32) (v3 : Int32) (s0 : Int32) (s2 : Int32) (I : StI) : Option ((Int32 × Int32 × StI) ⊕ (Int32 × StI)) :=
  Option.bind (f_X3_pass 33 s2 I) (fun t6 => k_let (s0 + t6.1) (fun x8 => k_let (v3 + (1 : Int32)) (fun x9 => some (.inl (x8, x9, t6.2)))))
set_option maxRecDepth 100000 in
set_option maxHeartbeats 4000000 in
theorem s_X4_answeredWithDowns_j62 {X : k_C} {ad : Nat → Nat} {P : Option Value → StI → StL → Prop} {I : StI} {L : StL} (hx : Ok X cX4_answeredWithDowns RX4 5 (some .int) 4) (hQ : OkQ X ad P)  {v1 : Int32} {v3 : Int32} {s0 : Int32} {s2 : Int32}  (h : Ho (f_X4_answeredWithDowns_j62 v1 v3 s0 s2 I) (Sum.elim (g_X4_answeredWithDowns_L15 X ad L v1) (kr_X4_answeredWithDowns P L))) : J X ad 5 I L 62 [(0, .ref (ad 0)), (1, .int v1), (3, .int v3)] [.int s2, .ref (ad 33), .int s0] := by
  unfold f_X4_answeredWithDowns_j62 at h
  obtain ⟨t6, e7, h⟩ := Ho_bind h
  refine J_callVi hx lkV_RX4_206 (rfl : k_sh 33 = (3, k_N 3)) [.int s2] [.int s0] rfl rfl (Nat.le_of_ble_eq_true rfl) (Nat.le_of_ble_eq_true rfl) (s_X3_pass k_H33 ⟨t6, e7, ⟨rfl, rfl, rfl⟩⟩) dX4_answeredWithDowns_62 ?_
  refine J_iadd hx dX4_answeredWithDowns_65 ?_
  obtain ⟨x8, hx8, h⟩ := Ho_let h
  refine J_istore_n (x := x8) (lv' := [(2, .int x8), (0, .ref (ad 0)), (1, .int v1), (3, .int v3)]) hx dX4_answeredWithDowns_66 hx8 (by decide) rfl ?_
  obtain ⟨x9, hx9, h⟩ := Ho_let h
  refine J_iinc (x := x9) (lv' := [(3, .int x9), (2, .int x8), (0, .ref (ad 0)), (1, .int v1)]) hx dX4_answeredWithDowns_67 3 rfl (by rw [hx9]; rfl) (by decide) rfl ?_
  refine J_goto hx dX4_answeredWithDowns_70 15 (by decide) ?_
  refine J_sub (lv' := [(0, .ref (ad 0)), (1, .int v1), (2, .int x8), (3, .int x9)]) hx [2, 3, 1, 0] rfl ?_
  have h := Ho_some h
  exact h
def f_X4_answeredWithDowns_j61 (v1 : Int32) (v3 : Int32) (s0 : Int32) (I : StI) : Option ((Int32 × Int32 × StI) ⊕ (Int32 × StI)) :=
  f_X4_answeredWithDowns_j62 v1 v3 s0 (0 : Int32) I
set_option maxRecDepth 100000 in
set_option maxHeartbeats 4000000 in
theorem s_X4_answeredWithDowns_j61 {X : k_C} {ad : Nat → Nat} {P : Option Value → StI → StL → Prop} {I : StI} {L : StL} (hx : Ok X cX4_answeredWithDowns RX4 5 (some .int) 4) (hQ : OkQ X ad P)  {v1 : Int32} {v3 : Int32} {s0 : Int32}  (h : Ho (f_X4_answeredWithDowns_j61 v1 v3 s0 I) (Sum.elim (g_X4_answeredWithDowns_L15 X ad L v1) (kr_X4_answeredWithDowns P L))) : J X ad 5 I L 61 [(0, .ref (ad 0)), (1, .int v1), (3, .int v3)] [.ref (ad 33), .int s0] := by
  unfold f_X4_answeredWithDowns_j61 at h
  refine J_iconst (v := (0 : Int32)) hx dX4_answeredWithDowns_61 (by decide) ?_
  refine J_sub (lv' := [(0, .ref (ad 0)), (1, .int v1), (3, .int v3)]) hx [0, 1, 2] rfl ?_
  exact s_X4_answeredWithDowns_j62 hx hQ  h
def f_X4_answeredWithDowns_j35 (v1 : Int32) (v2 : Int32) (v3 : Int32) (s0 : Int32) (I : StI) : Option ((Int32 × Int32 × StI) ⊕ (Int32 × StI)) :=
  (if s0 = 0 then Option.bind (f_X3_isUp 33 I) (fun t10 => (if t10 = 0 then f_X4_answeredWithDowns_j61 v1 v3 v2 I else f_X4_answeredWithDowns_j62 v1 v3 v2 (1 : Int32) I)) else f_X4_answeredWithDowns_j61 v1 v3 v2 I)
set_option maxRecDepth 100000 in
set_option maxHeartbeats 4000000 in
theorem s_X4_answeredWithDowns_j35 {X : k_C} {ad : Nat → Nat} {P : Option Value → StI → StL → Prop} {I : StI} {L : StL} (hx : Ok X cX4_answeredWithDowns RX4 5 (some .int) 4) (hQ : OkQ X ad P)  {v1 : Int32} {v2 : Int32} {v3 : Int32} {s0 : Int32}  (h : Ho (f_X4_answeredWithDowns_j35 v1 v2 v3 s0 I) (Sum.elim (g_X4_answeredWithDowns_L15 X ad L v1) (kr_X4_answeredWithDowns P L))) : J X ad 5 I L 35 [(0, .ref (ad 0)), (1, .int v1), (2, .int v2), (3, .int v3)] [.int s0] := by
  unfold f_X4_answeredWithDowns_j35 at h
  refine J_istore (x := s0) (lv' := [(4, .int s0), (0, .ref (ad 0)), (1, .int v1), (2, .int v2), (3, .int v3)]) hx dX4_answeredWithDowns_35 rfl (by decide) rfl ?_
  refine J_iload_n hx dX4_answeredWithDowns_37 3 rfl ?_
  refine J_aload_n hx dX4_answeredWithDowns_38 1 rfl ?_
  refine J_getR (q := 33) hx fl_RX4_36 (rfl : k_sh 0 = (4, k_N 4)) rfl rfl dX4_answeredWithDowns_39 ?_
  refine J_iload hx dX4_answeredWithDowns_42 0 rfl ?_
  refine J_if_ne hx dX4_answeredWithDowns_44 61 (by decide) (fun c5 => ?_) (fun c5 => ?_)
  · have h := Ho_f c5 h
    refine J_sub (lv' := [(0, .ref (ad 0)), (1, .int v1), (3, .int v3)]) hx [1, 2, 4] rfl ?_
    exact s_X4_answeredWithDowns_j61 hx hQ  h
  · have h := Ho_t c5 h
    refine J_aload_n hx dX4_answeredWithDowns_47 1 rfl ?_
    refine J_getR (q := 33) hx fl_RX4_36 (rfl : k_sh 0 = (4, k_N 4)) rfl rfl dX4_answeredWithDowns_48 ?_
    obtain ⟨t10, e11, h⟩ := Ho_bind h
    refine J_callVi hx lkV_RX4_203 (rfl : k_sh 33 = (3, k_N 3)) [] [.ref (ad 33), .int v2] rfl rfl (Nat.le_of_ble_eq_true rfl) (Nat.le_of_ble_eq_true rfl) (s_X3_isUp k_H33 ⟨t10, e11, ⟨rfl, rfl, rfl⟩⟩) dX4_answeredWithDowns_51 ?_
    refine J_if_eq hx dX4_answeredWithDowns_54 61 (by decide) (fun c12 => ?_) (fun c12 => ?_)
    · have h := Ho_t c12 h
      refine J_sub (lv' := [(0, .ref (ad 0)), (1, .int v1), (3, .int v3)]) hx [1, 2, 4] rfl ?_
      exact s_X4_answeredWithDowns_j61 hx hQ  h
    · have h := Ho_f c12 h
      refine J_iconst (v := (1 : Int32)) hx dX4_answeredWithDowns_57 (by decide) ?_
      refine J_goto hx dX4_answeredWithDowns_58 62 (by decide) ?_
      refine J_sub (lv' := [(0, .ref (ad 0)), (1, .int v1), (3, .int v3)]) hx [1, 2, 4] rfl ?_
      exact s_X4_answeredWithDowns_j62 hx hQ  h
def f_X4_answeredWithDowns_L15_b (v1 : Int32) (v2 : Int32) (v3 : Int32) (I : StI) : Option ((Int32 × Int32 × StI) ⊕ (Int32 × StI)) :=
  (if (6 : Int32) ≤ v3 then some (.inr (v2, I)) else (if ((v1 >>> (v3 &&& 31)) &&& (1 : Int32)) = (1 : Int32) then f_X4_answeredWithDowns_j35 v1 v2 v3 (1 : Int32) I else f_X4_answeredWithDowns_j35 v1 v2 v3 (0 : Int32) I))
def f_X4_answeredWithDowns_L15 (v1 : Int32) (n : Nat) (v2 : Int32) (v3 : Int32) (I : StI) : Option (Int32 × StI) :=
  k_loop (fun s => f_X4_answeredWithDowns_L15_b v1 s.1 s.2.1 s.2.2) n (v2, v3, I)
set_option maxRecDepth 100000 in
set_option maxHeartbeats 4000000 in
theorem s_X4_answeredWithDowns_L15_b {X : k_C} {ad : Nat → Nat} {P : Option Value → StI → StL → Prop} {I : StI} {L : StL} (hx : Ok X cX4_answeredWithDowns RX4 5 (some .int) 4) (hQ : OkQ X ad P)  {v1 : Int32} {v2 : Int32} {v3 : Int32}  (h : Ho (f_X4_answeredWithDowns_L15_b v1 v2 v3 I) (Sum.elim (g_X4_answeredWithDowns_L15 X ad L v1) (kr_X4_answeredWithDowns P L))) : J X ad 5 I L 15 [(0, .ref (ad 0)), (1, .int v1), (2, .int v2), (3, .int v3)] [] := by
  unfold f_X4_answeredWithDowns_L15_b at h
  refine J_iload_n hx dX4_answeredWithDowns_15 3 rfl ?_
  refine J_bipush (v := (6 : Int32)) hx dX4_answeredWithDowns_16 (by decide) ?_
  refine J_ic_ge hx dX4_answeredWithDowns_18 73 (by decide) (fun c3 => ?_) (fun c3 => ?_)
  · have h := Ho_t c3 h
    refine J_iload_n hx dX4_answeredWithDowns_73 2 rfl ?_
    have h := Ho_some h
    exact J_iret hx hQ dX4_answeredWithDowns_74 h
  · have h := Ho_f c3 h
    refine J_iload_n hx dX4_answeredWithDowns_21 1 rfl ?_
    refine J_iload_n hx dX4_answeredWithDowns_22 3 rfl ?_
    refine J_ishr hx dX4_answeredWithDowns_23 ?_
    refine J_iconst (v := (1 : Int32)) hx dX4_answeredWithDowns_24 (by decide) ?_
    refine J_iand hx dX4_answeredWithDowns_25 ?_
    refine J_iconst (v := (1 : Int32)) hx dX4_answeredWithDowns_26 (by decide) ?_
    refine J_ic_ne hx dX4_answeredWithDowns_27 34 (by decide) (fun c4 => ?_) (fun c4 => ?_)
    · have h := Ho_f c4 h
      refine J_iconst (v := (0 : Int32)) hx dX4_answeredWithDowns_34 (by decide) ?_
      refine J_sub (lv' := [(0, .ref (ad 0)), (1, .int v1), (2, .int v2), (3, .int v3)]) hx [0, 1, 2, 3] rfl ?_
      exact s_X4_answeredWithDowns_j35 hx hQ  h
    · have h := Ho_t c4 h
      refine J_iconst (v := (1 : Int32)) hx dX4_answeredWithDowns_30 (by decide) ?_
      refine J_goto hx dX4_answeredWithDowns_31 35 (by decide) ?_
      refine J_sub (lv' := [(0, .ref (ad 0)), (1, .int v1), (2, .int v2), (3, .int v3)]) hx [0, 1, 2, 3] rfl ?_
      exact s_X4_answeredWithDowns_j35 hx hQ  h
set_option maxRecDepth 100000 in
set_option maxHeartbeats 4000000 in
theorem s_X4_answeredWithDowns_L15 {X : k_C} {ad : Nat → Nat} {P : Option Value → StI → StL → Prop} {I : StI} {L : StL} (hx : Ok X cX4_answeredWithDowns RX4 5 (some .int) 4) (hQ : OkQ X ad P)  {v1 : Int32} {v2 : Int32} {v3 : Int32}  (n : Nat) (h : Ho (f_X4_answeredWithDowns_L15 v1 n v2 v3 I) (kr_X4_answeredWithDowns P L)) : J X ad 5 I L 15 [(0, .ref (ad 0)), (1, .int v1), (2, .int v2), (3, .int v3)] [] := by
  exact k_loop_ho (G := g_X4_answeredWithDowns_L15 X ad L v1) (fun s hs => s_X4_answeredWithDowns_L15_b hx hQ  hs) n (v2, v3, I) h
def f_X4_answeredWithDowns (v1 : Int32) (I : StI) : Option (Int32 × StI) :=
  Option.bind (f_X3_become 33 24 I) (fun t1 => f_X4_answeredWithDowns_L15 v1 k_fu (0 : Int32) (0 : Int32) t1)
set_option maxRecDepth 100000 in
set_option maxHeartbeats 4000000 in
theorem s_X4_answeredWithDowns {l : Launch} {ad : Nat → Nat} {P : Option Value → StI → StL → Prop} {I : StI} {L : StL} {v1 : Int32}  (h : Ho (f_X4_answeredWithDowns v1 I) (kr_X4_answeredWithDowns P L)) : k_Met l ad 4 yX4_answeredWithDowns cX4_answeredWithDowns 5 (some .int) [.ref (ad 0), .int v1] I L P := by
  refine k_enter (by decide +kernel) (Nat.le_of_ble_eq_true rfl) (fun X hl hx hQ => ?_)
  clear hl
  have hx : Ok X cX4_answeredWithDowns RX4 5 (some .int) 4 := hx
  show J X ad 5 I L 0 [(0, .ref (ad 0)), (1, .int v1)] []
  unfold f_X4_answeredWithDowns at h
  refine J_aload_n hx dX4_answeredWithDowns_0 0 rfl ?_
  refine J_getR (q := 33) hx fl_RX4_36 (rfl : k_sh 0 = (4, k_N 4)) rfl rfl dX4_answeredWithDowns_1 ?_
  refine J_aload_n hx dX4_answeredWithDowns_4 0 rfl ?_
  refine J_getR (q := 24) hx fl_RX4_33 (rfl : k_sh 0 = (4, k_N 4)) rfl rfl dX4_answeredWithDowns_5 ?_
  obtain ⟨t1, e2, h⟩ := Ho_bind h
  refine J_callVv hx lkV_RX4_121 (rfl : k_sh 33 = (3, k_N 3)) [.ref (ad 24)] [] rfl rfl (Nat.le_of_ble_eq_true rfl) (Nat.le_of_ble_eq_true rfl) (s_X3_become k_H33 k_H24 ⟨t1, e2, ⟨rfl, rfl, rfl⟩⟩) dX4_answeredWithDowns_8 ?_
  refine J_iconst (v := (0 : Int32)) hx dX4_answeredWithDowns_11 (by decide) ?_
  refine J_istore_n (x := (0 : Int32)) (lv' := [(2, .int (0 : Int32)), (0, .ref (ad 0)), (1, .int v1)]) hx dX4_answeredWithDowns_12 rfl (by decide) rfl ?_
  refine J_iconst (v := (0 : Int32)) hx dX4_answeredWithDowns_13 (by decide) ?_
  refine J_istore_n (x := (0 : Int32)) (lv' := [(3, .int (0 : Int32)), (2, .int (0 : Int32)), (0, .ref (ad 0)), (1, .int v1)]) hx dX4_answeredWithDowns_14 rfl (by decide) rfl ?_
  refine J_sub (lv' := [(0, .ref (ad 0)), (1, .int v1), (2, .int (0 : Int32)), (3, .int (0 : Int32))]) hx [2, 3, 1, 0] rfl ?_
  exact s_X4_answeredWithDowns_L15 hx hQ  k_fu h
abbrev kr_X4_asked (P : Option Value → StI → StL → Prop) (I : StI) (L : StL) : Int32 → Prop := fun t => P (some (.int t)) I L
def f_X4_asked (I : StI) : Option (Int32) :=
  some ((I 0 9))
set_option maxRecDepth 100000 in
set_option maxHeartbeats 4000000 in
theorem s_X4_asked {l : Launch} {ad : Nat → Nat} {P : Option Value → StI → StL → Prop} {I : StI} {L : StL}   (h : Ho (f_X4_asked I) (kr_X4_asked P I L)) : k_Met l ad 1 yX4_asked cX4_asked 1 (some .int) [.ref (ad 0)] I L P := by
  refine k_enter (by decide +kernel) (Nat.le_of_ble_eq_true rfl) (fun X hl hx hQ => ?_)
  clear hl
  have hx : Ok X cX4_asked RX4 1 (some .int) 1 := hx
  show J X ad 1 I L 0 [(0, .ref (ad 0))] []
  unfold f_X4_asked at h
  refine J_aload_n hx dX4_asked_0 0 rfl ?_
  refine J_getI hx fl_RX4_50 (rfl : k_sh 0 = (4, k_N 4)) rfl dX4_asked_1 ?_
  have h := Ho_some h
  exact J_iret hx hQ dX4_asked_4 h
abbrev kr_X4_isRow (P : Option Value → StI → StL → Prop) (I : StI) (L : StL) : Int32 → Prop := fun t => P (some (.int t)) I L
def f_X4_isRow (v0 : Int32) : Option (Int32) :=
  (if v0 < 0 then some ((0 : Int32)) else (if (6 : Int32) ≤ v0 then some ((0 : Int32)) else some ((1 : Int32))))
set_option maxRecDepth 100000 in
set_option maxHeartbeats 4000000 in
theorem s_X4_isRow {l : Launch} {ad : Nat → Nat} {P : Option Value → StI → StL → Prop} {I : StI} {L : StL} {v0 : Int32}  (h : Ho (f_X4_isRow v0) (kr_X4_isRow P I L)) : k_Met l ad 1 yX4_isRow cX4_isRow 1 (some .boolean) [.int v0] I L P := by
  refine k_enter (by decide +kernel) (Nat.le_of_ble_eq_true rfl) (fun X hl hx hQ => ?_)
  clear hl
  have hx : Ok X cX4_isRow RX4 1 (some .boolean) 1 := hx
  show J X ad 1 I L 0 [(0, .int v0)] []
  unfold f_X4_isRow at h
  refine J_iload_n hx dX4_isRow_0 0 rfl ?_
  refine J_if_lt hx dX4_isRow_1 14 (by decide) (fun c1 => ?_) (fun c1 => ?_)
  · have h := Ho_t c1 h
    refine J_iconst (v := (0 : Int32)) hx dX4_isRow_14 (by decide) ?_
    have h := Ho_some h
    exact J_zret hx hQ dX4_isRow_15 rfl h
  · have h := Ho_f c1 h
    refine J_iload_n hx dX4_isRow_4 0 rfl ?_
    refine J_bipush (v := (6 : Int32)) hx dX4_isRow_5 (by decide) ?_
    refine J_ic_ge hx dX4_isRow_7 14 (by decide) (fun c2 => ?_) (fun c2 => ?_)
    · have h := Ho_t c2 h
      refine J_iconst (v := (0 : Int32)) hx dX4_isRow_14 (by decide) ?_
      have h := Ho_some h
      exact J_zret hx hQ dX4_isRow_15 rfl h
    · have h := Ho_f c2 h
      refine J_iconst (v := (1 : Int32)) hx dX4_isRow_10 (by decide) ?_
      refine J_goto hx dX4_isRow_11 15 (by decide) ?_
      have h := Ho_some h
      exact J_zret hx hQ dX4_isRow_15 rfl h
abbrev kr_X4_findingOfPlace (P : Option Value → StI → StL → Prop) (I : StI) (L : StL) : Int32 → Prop := fun t => P (some (.int t)) I L
def f_X4_findingOfPlace (v0 : Int32) (v1 : Int32) : Option (Int32) :=
  (if v0 = (-1 : Int32) then some ((1 : Int32)) else (if v1 < 0 then some ((2 : Int32)) else (if v1 < v0 then some ((0 : Int32)) else some ((2 : Int32)))))
set_option maxRecDepth 100000 in
set_option maxHeartbeats 4000000 in
theorem s_X4_findingOfPlace {l : Launch} {ad : Nat → Nat} {P : Option Value → StI → StL → Prop} {I : StI} {L : StL} {v0 : Int32} {v1 : Int32}  (h : Ho (f_X4_findingOfPlace v0 v1) (kr_X4_findingOfPlace P I L)) : k_Met l ad 1 yX4_findingOfPlace cX4_findingOfPlace 2 (some .int) [.int v0, .int v1] I L P := by
  refine k_enter (by decide +kernel) (Nat.le_of_ble_eq_true rfl) (fun X hl hx hQ => ?_)
  clear hl
  have hx : Ok X cX4_findingOfPlace RX4 2 (some .int) 1 := hx
  show J X ad 2 I L 0 [(0, .int v0), (1, .int v1)] []
  unfold f_X4_findingOfPlace at h
  refine J_iload_n hx dX4_findingOfPlace_0 0 rfl ?_
  refine J_iconst (v := (-1 : Int32)) hx dX4_findingOfPlace_1 (by decide) ?_
  refine J_ic_ne hx dX4_findingOfPlace_2 7 (by decide) (fun c1 => ?_) (fun c1 => ?_)
  · have h := Ho_f c1 h
    refine J_iload_n hx dX4_findingOfPlace_7 1 rfl ?_
    refine J_if_lt hx dX4_findingOfPlace_8 16 (by decide) (fun c2 => ?_) (fun c2 => ?_)
    · have h := Ho_t c2 h
      refine J_iconst (v := (2 : Int32)) hx dX4_findingOfPlace_16 (by decide) ?_
      refine J_goto hx dX4_findingOfPlace_17 21 (by decide) ?_
      have h := Ho_some h
      exact J_iret hx hQ dX4_findingOfPlace_21 h
    · have h := Ho_f c2 h
      refine J_iload_n hx dX4_findingOfPlace_11 1 rfl ?_
      refine J_iload_n hx dX4_findingOfPlace_12 0 rfl ?_
      refine J_ic_lt hx dX4_findingOfPlace_13 20 (by decide) (fun c3 => ?_) (fun c3 => ?_)
      · have h := Ho_t c3 h
        refine J_iconst (v := (0 : Int32)) hx dX4_findingOfPlace_20 (by decide) ?_
        have h := Ho_some h
        exact J_iret hx hQ dX4_findingOfPlace_21 h
      · have h := Ho_f c3 h
        refine J_iconst (v := (2 : Int32)) hx dX4_findingOfPlace_16 (by decide) ?_
        refine J_goto hx dX4_findingOfPlace_17 21 (by decide) ?_
        have h := Ho_some h
        exact J_iret hx hQ dX4_findingOfPlace_21 h
  · have h := Ho_t c1 h
    refine J_iconst (v := (1 : Int32)) hx dX4_findingOfPlace_5 (by decide) ?_
    have h := Ho_some h
    exact J_iret hx hQ dX4_findingOfPlace_6 h
abbrev kr_X4_found (P : Option Value → StI → StL → Prop) (L : StL) : Int32 × StI → Prop := fun t => P (some (.int t.1)) t.2 L
def f_X4_found (v1 : Int32) (I : StI) : Option (Int32 × StI) :=
  k_let (k_up I 0 12 v1) (fun I1 => k_gd v1 6 (k_gd v1 6 (k_let (k_up I1 47 v1.toNatClampNeg ((I1 47 v1.toNatClampNeg) + (1 : Int32))) (fun I4 => some ((-3 : Int32), I4)))))
set_option maxRecDepth 100000 in
set_option maxHeartbeats 4000000 in
theorem s_X4_found {l : Launch} {ad : Nat → Nat} {P : Option Value → StI → StL → Prop} {I : StI} {L : StL} {v1 : Int32}  (h : Ho (f_X4_found v1 I) (kr_X4_found P L)) : k_Met l ad 1 yX4_found cX4_found 2 (some .int) [.ref (ad 0), .int v1] I L P := by
  refine k_enter (by decide +kernel) (Nat.le_of_ble_eq_true rfl) (fun X hl hx hQ => ?_)
  clear hl
  have hx : Ok X cX4_found RX4 2 (some .int) 1 := hx
  show J X ad 2 I L 0 [(0, .ref (ad 0)), (1, .int v1)] []
  unfold f_X4_found at h
  refine J_aload_n hx dX4_found_0 0 rfl ?_
  refine J_iload_n hx dX4_found_1 1 rfl ?_
  obtain ⟨I1, hI1, h⟩ := Ho_let h
  refine J_putI hx flW_RX4_61 (rfl : k_sh 0 = (4, k_N 4)) rfl dX4_found_2 hI1 ?_
  refine J_aload_n hx dX4_found_5 0 rfl ?_
  refine J_getR (q := 47) hx fl_RX4_64 (rfl : k_sh 0 = (4, k_N 4)) rfl rfl dX4_found_6 ?_
  refine J_iload_n hx dX4_found_9 1 rfl ?_
  refine J_dup2 hx dX4_found_10 rfl rfl ?_
  obtain ⟨b2, h⟩ := Ho_gd h
  refine J_iald hx (rfl : k_sh 47 = (10, 6)) b2 dX4_found_11 ?_
  refine J_iconst (v := (1 : Int32)) hx dX4_found_12 (by decide) ?_
  refine J_iadd hx dX4_found_13 ?_
  obtain ⟨b3, h⟩ := Ho_gd h
  obtain ⟨I4, hI4, h⟩ := Ho_let h
  refine J_iast hx (rfl : k_sh 47 = (10, 6)) b3 dX4_found_14 hI4 ?_
  refine J_bipush (v := (-3 : Int32)) hx dX4_found_15 (by decide) ?_
  have h := Ho_some h
  exact J_iret hx hQ dX4_found_17 h
abbrev kr_X4_at (P : Option Value → StI → StL → Prop) (L : StL) : Int32 × StI → Prop := fun t => P (some (.int t.1)) t.2 L
def f_X4_at (v1 : Int32) (v2 : Int32) (I : StI) : Option (Int32 × StI) :=
  Option.bind (f_X4_isRow v1) (fun t1 => (if t1 = 0 then some ((-1 : Int32), I) else k_gd v1 6 (Option.bind (f_X4_findingOfPlace (I 8 v1.toNatClampNeg) v2) (fun t5 => (if t5 = 0 then k_gd v1 6 (k_gd v2 40 (k_let (k_up I 0 9 (I (k_rq v1.toNatClampNeg) v2.toNatClampNeg)) (fun I10 => some ((1 : Int32), I10)))) else Option.bind (f_X4_found t5 I) (fun t11 => some (t11.1, t11.2)))))))
set_option maxRecDepth 100000 in
set_option maxHeartbeats 4000000 in
theorem s_X4_at {l : Launch} {ad : Nat → Nat} {P : Option Value → StI → StL → Prop} {I : StI} {L : StL} {v1 : Int32} {v2 : Int32}  (h : Ho (f_X4_at v1 v2 I) (kr_X4_at P L)) : k_Met l ad 2 yX4_at cX4_at 4 (some .int) [.ref (ad 0), .int v1, .int v2] I L P := by
  refine k_enter (by decide +kernel) (Nat.le_of_ble_eq_true rfl) (fun X hl hx hQ => ?_)
  clear hl
  have hx : Ok X cX4_at RX4 4 (some .int) 2 := hx
  show J X ad 4 I L 0 [(0, .ref (ad 0)), (1, .int v1), (2, .int v2)] []
  unfold f_X4_at at h
  refine J_iload_n hx dX4_at_0 1 rfl ?_
  obtain ⟨t1, e2, h⟩ := Ho_bind h
  refine J_callSi hx lkS_RX4_89 [.int v1] [] rfl rfl (Nat.le_of_ble_eq_true rfl) (Nat.le_of_ble_eq_true rfl) (s_X4_isRow  ⟨t1, e2, ⟨rfl, rfl, rfl⟩⟩) dX4_at_1 ?_
  refine J_if_ne hx dX4_at_4 9 (by decide) (fun c3 => ?_) (fun c3 => ?_)
  · have h := Ho_f c3 h
    refine J_aload_n hx dX4_at_9 0 rfl ?_
    refine J_getR (q := 8) hx fl_RX4_14 (rfl : k_sh 0 = (4, k_N 4)) rfl rfl dX4_at_10 ?_
    refine J_iload_n hx dX4_at_13 1 rfl ?_
    obtain ⟨b4, h⟩ := Ho_gd h
    refine J_iald hx (rfl : k_sh 8 = (10, 6)) b4 dX4_at_14 ?_
    refine J_iload_n hx dX4_at_15 2 rfl ?_
    obtain ⟨t5, e6, h⟩ := Ho_bind h
    refine J_callSi hx lkS_RX4_97 [.int (I 8 v1.toNatClampNeg), .int v2] [] rfl rfl (Nat.le_of_ble_eq_true rfl) (Nat.le_of_ble_eq_true rfl) (s_X4_findingOfPlace  ⟨t5, e6, ⟨rfl, rfl, rfl⟩⟩) dX4_at_16 ?_
    refine J_istore_n (x := t5) (lv' := [(3, .int t5), (0, .ref (ad 0)), (1, .int v1), (2, .int v2)]) hx dX4_at_19 rfl (by decide) rfl ?_
    refine J_iload_n hx dX4_at_20 0 rfl ?_
    refine J_if_eq hx dX4_at_21 30 (by decide) (fun c7 => ?_) (fun c7 => ?_)
    · have h := Ho_t c7 h
      refine J_aload_n hx dX4_at_30 1 rfl ?_
      refine J_aload_n hx dX4_at_31 1 rfl ?_
      refine J_getR (q := 1) hx fl_RX4_11 (rfl : k_sh 0 = (4, k_N 4)) rfl rfl dX4_at_32 ?_
      refine J_iload_n hx dX4_at_35 2 rfl ?_
      obtain ⟨b8, h⟩ := Ho_gd h
      refine J_aald (q := (k_rq v1.toNatClampNeg)) hx (rfl : k_sh 1 = (15, 6)) (by decide) (by decide) b8 k_Rr dX4_at_36 ?_
      refine J_iload_n hx dX4_at_37 3 rfl ?_
      obtain ⟨b9, h⟩ := Ho_gd h
      refine J_iald hx (k_Rq b8) b9 dX4_at_38 ?_
      obtain ⟨I10, hI10, h⟩ := Ho_let h
      refine J_putI hx flW_RX4_50 (rfl : k_sh 0 = (4, k_N 4)) rfl dX4_at_39 hI10 ?_
      refine J_iconst (v := (1 : Int32)) hx dX4_at_42 (by decide) ?_
      have h := Ho_some h
      exact J_iret hx hQ dX4_at_43 h
    · have h := Ho_f c7 h
      refine J_aload_n hx dX4_at_24 1 rfl ?_
      refine J_iload_n hx dX4_at_25 0 rfl ?_
      obtain ⟨t11, e12, h⟩ := Ho_bind h
      refine J_callVi hx lkV_RX4_93 (rfl : k_sh 0 = (4, k_N 4)) [.int t5] [] rfl rfl (Nat.le_of_ble_eq_true rfl) (Nat.le_of_ble_eq_true rfl) (s_X4_found  ⟨t11, e12, ⟨rfl, rfl, rfl⟩⟩) dX4_at_26 ?_
      have h := Ho_some h
      exact J_iret hx hQ dX4_at_29 h
  · have h := Ho_t c3 h
    refine J_iconst (v := (-1 : Int32)) hx dX4_at_7 (by decide) ?_
    have h := Ho_some h
    exact J_iret hx hQ dX4_at_8 h
abbrev kr_X4_best (P : Option Value → StI → StL → Prop) (L : StL) : Int32 × StI → Prop := fun t => P (some (.int t.1)) t.2 L
abbrev g_X4_best_L36 (X : k_C) (ad : Nat → Nat) (L : StL) (v1 : Int32) : (Int32 × StI) → Prop := fun s => J X ad 3 s.2 L 36 [(0, .ref (ad 0)), (1, .int v1), (2, .int s.1)] []
def f_X4_best_L36_b (v1 : Int32) (v2 : Int32) (I : StI) : Option ((Int32 × StI) ⊕ (Int32 × StI)) :=
  (if (9 : Int32) < v2 then k_let (k_up I 0 9 (I 48 0)) (fun I7 => some (.inr ((I7 48 1), I7))) else Option.bind (f_X3_become 33 24 I) (fun t8 => k_let (k_up t8 33 2 v2) (fun I10 => Option.bind (f_X3_answeredIn 33 v1 I10) (fun t11 => Option.bind (f_X1_offer v2 t11.1 t11.2) (fun t13 => k_let (v2 + (1 : Int32)) (fun x15 => some (.inl (x15, t13))))))))
def f_X4_best_L36 (v1 : Int32) (n : Nat) (v2 : Int32) (I : StI) : Option (Int32 × StI) :=
  k_loop (fun s => f_X4_best_L36_b v1 s.1 s.2) n (v2, I)
set_option maxRecDepth 100000 in
set_option maxHeartbeats 4000000 in
theorem s_X4_best_L36_b {X : k_C} {ad : Nat → Nat} {P : Option Value → StI → StL → Prop} {I : StI} {L : StL} (hx : Ok X cX4_best RX4 3 (some .int) 5) (hQ : OkQ X ad P)  {v1 : Int32} {v2 : Int32}  (h : Ho (f_X4_best_L36_b v1 v2 I) (Sum.elim (g_X4_best_L36 X ad L v1) (kr_X4_best P L))) : J X ad 3 I L 36 [(0, .ref (ad 0)), (1, .int v1), (2, .int v2)] [] := by
  unfold f_X4_best_L36_b at h
  refine J_iload_n hx dX4_best_36 2 rfl ?_
  refine J_bipush (v := (9 : Int32)) hx dX4_best_37 (by decide) ?_
  refine J_ic_gt hx dX4_best_39 83 (by decide) (fun c6 => ?_) (fun c6 => ?_)
  · have h := Ho_t c6 h
    refine J_aload_n hx dX4_best_83 0 rfl ?_
    refine J_aload_n hx dX4_best_84 0 rfl ?_
    refine J_getR (q := 48) hx fl_RX4_70 (rfl : k_sh 0 = (4, k_N 4)) rfl rfl dX4_best_85 ?_
    refine J_getI hx fl_RX4_221 (rfl : k_sh 48 = (1, k_N 1)) rfl dX4_best_88 ?_
    obtain ⟨I7, hI7, h⟩ := Ho_let h
    refine J_putI hx flW_RX4_50 (rfl : k_sh 0 = (4, k_N 4)) rfl dX4_best_91 hI7 ?_
    refine J_aload_n hx dX4_best_94 0 rfl ?_
    refine J_getR (q := 48) hx fl_RX4_70 (rfl : k_sh 0 = (4, k_N 4)) rfl rfl dX4_best_95 ?_
    refine J_getI hx fl_RX4_224 (rfl : k_sh 48 = (1, k_N 1)) rfl dX4_best_98 ?_
    have h := Ho_some h
    exact J_iret hx hQ dX4_best_101 h
  · have h := Ho_f c6 h
    refine J_aload_n hx dX4_best_42 0 rfl ?_
    refine J_getR (q := 33) hx fl_RX4_36 (rfl : k_sh 0 = (4, k_N 4)) rfl rfl dX4_best_43 ?_
    refine J_aload_n hx dX4_best_46 0 rfl ?_
    refine J_getR (q := 24) hx fl_RX4_33 (rfl : k_sh 0 = (4, k_N 4)) rfl rfl dX4_best_47 ?_
    obtain ⟨t8, e9, h⟩ := Ho_bind h
    refine J_callVv hx lkV_RX4_121 (rfl : k_sh 33 = (3, k_N 3)) [.ref (ad 24)] [] rfl rfl (Nat.le_of_ble_eq_true rfl) (Nat.le_of_ble_eq_true rfl) (s_X3_become k_H33 k_H24 ⟨t8, e9, ⟨rfl, rfl, rfl⟩⟩) dX4_best_50 ?_
    refine J_aload_n hx dX4_best_53 0 rfl ?_
    refine J_getR (q := 33) hx fl_RX4_36 (rfl : k_sh 0 = (4, k_N 4)) rfl rfl dX4_best_54 ?_
    refine J_iload_n hx dX4_best_57 2 rfl ?_
    obtain ⟨I10, hI10, h⟩ := Ho_let h
    refine J_putI hx flW_RX4_171 (rfl : k_sh 33 = (3, k_N 3)) rfl dX4_best_58 hI10 ?_
    refine J_aload_n hx dX4_best_61 0 rfl ?_
    refine J_getR (q := 48) hx fl_RX4_70 (rfl : k_sh 0 = (4, k_N 4)) rfl rfl dX4_best_62 ?_
    refine J_iload_n hx dX4_best_65 2 rfl ?_
    refine J_aload_n hx dX4_best_66 0 rfl ?_
    refine J_getR (q := 33) hx fl_RX4_36 (rfl : k_sh 0 = (4, k_N 4)) rfl rfl dX4_best_67 ?_
    refine J_iload_n hx dX4_best_70 1 rfl ?_
    obtain ⟨t11, e12, h⟩ := Ho_bind h
    refine J_callVi hx lkV_RX4_197 (rfl : k_sh 33 = (3, k_N 3)) [.int v1] [.int v2, .ref (ad 48)] rfl rfl (Nat.le_of_ble_eq_true rfl) (Nat.le_of_ble_eq_true rfl) (s_X3_answeredIn k_H33 ⟨t11, e12, ⟨rfl, rfl, rfl⟩⟩) dX4_best_71 ?_
    obtain ⟨t13, e14, h⟩ := Ho_bind h
    refine J_callVv hx lkV_RX4_217 (rfl : k_sh 48 = (1, k_N 1)) [.int v2, .int t11.1] [] rfl rfl (Nat.le_of_ble_eq_true rfl) (Nat.le_of_ble_eq_true rfl) (s_X1_offer  ⟨t13, e14, ⟨rfl, rfl, rfl⟩⟩) dX4_best_74 ?_
    obtain ⟨x15, hx15, h⟩ := Ho_let h
    refine J_iinc (x := x15) (lv' := [(2, .int x15), (0, .ref (ad 0)), (1, .int v1)]) hx dX4_best_77 2 rfl (by rw [hx15]; rfl) (by decide) rfl ?_
    refine J_goto hx dX4_best_80 36 (by decide) ?_
    refine J_sub (lv' := [(0, .ref (ad 0)), (1, .int v1), (2, .int x15)]) hx [1, 2, 0] rfl ?_
    have h := Ho_some h
    exact h
set_option maxRecDepth 100000 in
set_option maxHeartbeats 4000000 in
theorem s_X4_best_L36 {X : k_C} {ad : Nat → Nat} {P : Option Value → StI → StL → Prop} {I : StI} {L : StL} (hx : Ok X cX4_best RX4 3 (some .int) 5) (hQ : OkQ X ad P)  {v1 : Int32} {v2 : Int32}  (n : Nat) (h : Ho (f_X4_best_L36 v1 n v2 I) (kr_X4_best P L)) : J X ad 3 I L 36 [(0, .ref (ad 0)), (1, .int v1), (2, .int v2)] [] := by
  exact k_loop_ho (G := g_X4_best_L36 X ad L v1) (fun s hs => s_X4_best_L36_b hx hQ  hs) n (v2, I) h
def f_X4_best (v1 : Int32) (I : StI) : Option (Int32 × StI) :=
  (if v1 < (1 : Int32) then some ((-1 : Int32), I) else (if v1 ≤ (40 : Int32) then (if (I 24 1) = 0 then some ((-4 : Int32), I) else Option.bind (f_X1_begin (-1 : Int32) I) (fun t4 => f_X4_best_L36 v1 k_fu (1 : Int32) t4)) else some ((-1 : Int32), I)))
set_option maxRecDepth 100000 in
set_option maxHeartbeats 4000000 in
theorem s_X4_best {l : Launch} {ad : Nat → Nat} {P : Option Value → StI → StL → Prop} {I : StI} {L : StL} {v1 : Int32}  (h : Ho (f_X4_best v1 I) (kr_X4_best P L)) : k_Met l ad 5 yX4_best cX4_best 3 (some .int) [.ref (ad 0), .int v1] I L P := by
  refine k_enter (by decide +kernel) (Nat.le_of_ble_eq_true rfl) (fun X hl hx hQ => ?_)
  clear hl
  have hx : Ok X cX4_best RX4 3 (some .int) 5 := hx
  show J X ad 3 I L 0 [(0, .ref (ad 0)), (1, .int v1)] []
  unfold f_X4_best at h
  refine J_iload_n hx dX4_best_0 1 rfl ?_
  refine J_iconst (v := (1 : Int32)) hx dX4_best_1 (by decide) ?_
  refine J_ic_lt hx dX4_best_2 11 (by decide) (fun c1 => ?_) (fun c1 => ?_)
  · have h := Ho_t c1 h
    refine J_iconst (v := (-1 : Int32)) hx dX4_best_11 (by decide) ?_
    have h := Ho_some h
    exact J_iret hx hQ dX4_best_12 h
  · have h := Ho_f c1 h
    refine J_iload_n hx dX4_best_5 1 rfl ?_
    refine J_bipush (v := (40 : Int32)) hx dX4_best_6 (by decide) ?_
    refine J_ic_le hx dX4_best_8 13 (by decide) (fun c2 => ?_) (fun c2 => ?_)
    · have h := Ho_t c2 h
      refine J_aload_n hx dX4_best_13 0 rfl ?_
      refine J_getR (q := 24) hx fl_RX4_33 (rfl : k_sh 0 = (4, k_N 4)) rfl rfl dX4_best_14 ?_
      refine J_getI hx fl_RX4_125 (rfl : k_sh 24 = (3, k_N 3)) rfl dX4_best_17 ?_
      refine J_if_ne hx dX4_best_20 26 (by decide) (fun c3 => ?_) (fun c3 => ?_)
      · have h := Ho_f c3 h
        refine J_aload_n hx dX4_best_26 0 rfl ?_
        refine J_getR (q := 48) hx fl_RX4_70 (rfl : k_sh 0 = (4, k_N 4)) rfl rfl dX4_best_27 ?_
        refine J_iconst (v := (-1 : Int32)) hx dX4_best_30 (by decide) ?_
        obtain ⟨t4, e5, h⟩ := Ho_bind h
        refine J_callVv hx lkV_RX4_213 (rfl : k_sh 48 = (1, k_N 1)) [.int (-1 : Int32)] [] rfl rfl (Nat.le_of_ble_eq_true rfl) (Nat.le_of_ble_eq_true rfl) (s_X1_begin  ⟨t4, e5, ⟨rfl, rfl, rfl⟩⟩) dX4_best_31 ?_
        refine J_iconst (v := (1 : Int32)) hx dX4_best_34 (by decide) ?_
        refine J_istore_n (x := (1 : Int32)) (lv' := [(2, .int (1 : Int32)), (0, .ref (ad 0)), (1, .int v1)]) hx dX4_best_35 rfl (by decide) rfl ?_
        refine J_sub (lv' := [(0, .ref (ad 0)), (1, .int v1), (2, .int (1 : Int32))]) hx [1, 2, 0] rfl ?_
        exact s_X4_best_L36 hx hQ  k_fu h
      · have h := Ho_t c3 h
        refine J_bipush (v := (-4 : Int32)) hx dX4_best_23 (by decide) ?_
        have h := Ho_some h
        exact J_iret hx hQ dX4_best_25 h
    · have h := Ho_f c2 h
      refine J_iconst (v := (-1 : Int32)) hx dX4_best_11 (by decide) ?_
      have h := Ho_some h
      exact J_iret hx hQ dX4_best_12 h
abbrev kr_X4_isCaller (P : Option Value → StI → StL → Prop) (I : StI) (L : StL) : Int32 → Prop := fun t => P (some (.int t)) I L
def f_X4_isCaller (v1 : Int32) (I : StI) : Option (Int32) :=
  (if v1 < 0 then some ((0 : Int32)) else (if (I 24 1) ≤ v1 then some ((0 : Int32)) else some ((1 : Int32))))
set_option maxRecDepth 100000 in
set_option maxHeartbeats 4000000 in
theorem s_X4_isCaller {l : Launch} {ad : Nat → Nat} {P : Option Value → StI → StL → Prop} {I : StI} {L : StL} {v1 : Int32}  (h : Ho (f_X4_isCaller v1 I) (kr_X4_isCaller P I L)) : k_Met l ad 1 yX4_isCaller cX4_isCaller 2 (some .boolean) [.ref (ad 0), .int v1] I L P := by
  refine k_enter (by decide +kernel) (Nat.le_of_ble_eq_true rfl) (fun X hl hx hQ => ?_)
  clear hl
  have hx : Ok X cX4_isCaller RX4 2 (some .boolean) 1 := hx
  show J X ad 2 I L 0 [(0, .ref (ad 0)), (1, .int v1)] []
  unfold f_X4_isCaller at h
  refine J_iload_n hx dX4_isCaller_0 1 rfl ?_
  refine J_if_lt hx dX4_isCaller_1 19 (by decide) (fun c1 => ?_) (fun c1 => ?_)
  · have h := Ho_t c1 h
    refine J_iconst (v := (0 : Int32)) hx dX4_isCaller_19 (by decide) ?_
    have h := Ho_some h
    exact J_zret hx hQ dX4_isCaller_20 rfl h
  · have h := Ho_f c1 h
    refine J_iload_n hx dX4_isCaller_4 1 rfl ?_
    refine J_aload_n hx dX4_isCaller_5 0 rfl ?_
    refine J_getR (q := 24) hx fl_RX4_33 (rfl : k_sh 0 = (4, k_N 4)) rfl rfl dX4_isCaller_6 ?_
    refine J_getI hx fl_RX4_125 (rfl : k_sh 24 = (3, k_N 3)) rfl dX4_isCaller_9 ?_
    refine J_ic_ge hx dX4_isCaller_12 19 (by decide) (fun c2 => ?_) (fun c2 => ?_)
    · have h := Ho_t c2 h
      refine J_iconst (v := (0 : Int32)) hx dX4_isCaller_19 (by decide) ?_
      have h := Ho_some h
      exact J_zret hx hQ dX4_isCaller_20 rfl h
    · have h := Ho_f c2 h
      refine J_iconst (v := (1 : Int32)) hx dX4_isCaller_15 (by decide) ?_
      refine J_goto hx dX4_isCaller_16 20 (by decide) ?_
      have h := Ho_some h
      exact J_zret hx hQ dX4_isCaller_20 rfl h
abbrev kr_X4_caller (P : Option Value → StI → StL → Prop) (L : StL) : Int32 × StI → Prop := fun t => P (some (.int t.1)) t.2 L
def f_X4_caller (v1 : Int32) (v2 : Int32) (I : StI) : Option (Int32 × StI) :=
  Option.bind (f_X4_isCaller v1 I) (fun t1 => (if t1 = 0 then some ((-1 : Int32), I) else (if v2 < 0 then some ((-1 : Int32), I) else (if v2 < (7 : Int32) then k_gd v1 7 (Option.bind (f_X0_tell (k_cq 24 v1.toNatClampNeg) v2 I) (fun t7 => k_let (k_up I 0 9 t7) (fun I9 => some ((1 : Int32), I9)))) else some ((-1 : Int32), I)))))
set_option maxRecDepth 100000 in
set_option maxHeartbeats 4000000 in
theorem s_X4_caller {l : Launch} {ad : Nat → Nat} {P : Option Value → StI → StL → Prop} {I : StI} {L : StL} {v1 : Int32} {v2 : Int32}  (h : Ho (f_X4_caller v1 v2 I) (kr_X4_caller P L)) : k_Met l ad 2 yX4_caller cX4_caller 3 (some .int) [.ref (ad 0), .int v1, .int v2] I L P := by
  refine k_enter (by decide +kernel) (Nat.le_of_ble_eq_true rfl) (fun X hl hx hQ => ?_)
  clear hl
  have hx : Ok X cX4_caller RX4 3 (some .int) 2 := hx
  show J X ad 3 I L 0 [(0, .ref (ad 0)), (1, .int v1), (2, .int v2)] []
  unfold f_X4_caller at h
  refine J_aload_n hx dX4_caller_0 0 rfl ?_
  refine J_iload_n hx dX4_caller_1 1 rfl ?_
  obtain ⟨t1, e2, h⟩ := Ho_bind h
  refine J_callVi hx lkV_RX4_126 (rfl : k_sh 0 = (4, k_N 4)) [.int v1] [] rfl rfl (Nat.le_of_ble_eq_true rfl) (Nat.le_of_ble_eq_true rfl) (s_X4_isCaller  ⟨t1, e2, ⟨rfl, rfl, rfl⟩⟩) dX4_caller_2 ?_
  refine J_if_eq hx dX4_caller_5 18 (by decide) (fun c3 => ?_) (fun c3 => ?_)
  · have h := Ho_t c3 h
    refine J_iconst (v := (-1 : Int32)) hx dX4_caller_18 (by decide) ?_
    have h := Ho_some h
    exact J_iret hx hQ dX4_caller_19 h
  · have h := Ho_f c3 h
    refine J_iload_n hx dX4_caller_8 2 rfl ?_
    refine J_if_lt hx dX4_caller_9 18 (by decide) (fun c4 => ?_) (fun c4 => ?_)
    · have h := Ho_t c4 h
      refine J_iconst (v := (-1 : Int32)) hx dX4_caller_18 (by decide) ?_
      have h := Ho_some h
      exact J_iret hx hQ dX4_caller_19 h
    · have h := Ho_f c4 h
      refine J_iload_n hx dX4_caller_12 2 rfl ?_
      refine J_bipush (v := (7 : Int32)) hx dX4_caller_13 (by decide) ?_
      refine J_ic_lt hx dX4_caller_15 20 (by decide) (fun c5 => ?_) (fun c5 => ?_)
      · have h := Ho_t c5 h
        refine J_aload_n hx dX4_caller_20 0 rfl ?_
        refine J_aload_n hx dX4_caller_21 0 rfl ?_
        refine J_getR (q := 24) hx fl_RX4_33 (rfl : k_sh 0 = (4, k_N 4)) rfl rfl dX4_caller_22 ?_
        refine J_getR (q := 25) hx fl_RX4_129 (rfl : k_sh 24 = (3, k_N 3)) rfl rfl dX4_caller_25 ?_
        refine J_iload_n hx dX4_caller_28 1 rfl ?_
        obtain ⟨b6, h⟩ := Ho_gd h
        refine J_aald (q := (k_cq 24 v1.toNatClampNeg)) hx (rfl : k_sh 25 = (13, 7)) (by decide) (by decide) b6 (k_Hr k_H24) dX4_caller_29 ?_
        refine J_iload_n hx dX4_caller_30 2 rfl ?_
        obtain ⟨t7, e8, h⟩ := Ho_bind h
        refine J_callVi hx lkV_RX4_133 (k_H2 k_H24 b6) [.int v2] [.ref (ad 0)] rfl rfl (Nat.le_of_ble_eq_true rfl) (Nat.le_of_ble_eq_true rfl) (s_X0_tell (k_H2 k_H24 b6) ⟨t7, e8, ⟨rfl, rfl, rfl⟩⟩) dX4_caller_31 ?_
        obtain ⟨I9, hI9, h⟩ := Ho_let h
        refine J_putI hx flW_RX4_50 (rfl : k_sh 0 = (4, k_N 4)) rfl dX4_caller_34 hI9 ?_
        refine J_iconst (v := (1 : Int32)) hx dX4_caller_37 (by decide) ?_
        have h := Ho_some h
        exact J_iret hx hQ dX4_caller_38 h
      · have h := Ho_f c5 h
        refine J_iconst (v := (-1 : Int32)) hx dX4_caller_18 (by decide) ?_
        have h := Ho_some h
        exact J_iret hx hQ dX4_caller_19 h
abbrev kr_X4_calls (P : Option Value → StI → StL → Prop) (L : StL) : Int32 × StI → Prop := fun t => P (some (.int t.1)) t.2 L
def f_X4_calls_j16 (s1 : Int32) (I : StI) : Option (Int32 × StI) :=
  k_let (k_up I 0 9 s1) (fun I4 => Option.bind (f_X3_calling 24 I4) (fun t5 => some (t5, I4)))
set_option maxRecDepth 100000 in
set_option maxHeartbeats 4000000 in
theorem s_X4_calls_j16 {X : k_C} {ad : Nat → Nat} {P : Option Value → StI → StL → Prop} {I : StI} {L : StL} (hx : Ok X cX4_calls RX4 1 (some .int) 5) (hQ : OkQ X ad P)  {s1 : Int32}  (h : Ho (f_X4_calls_j16 s1 I) (kr_X4_calls P L)) : J X ad 1 I L 16 [(0, .ref (ad 0))] [.int s1, .ref (ad 0)] := by
  unfold f_X4_calls_j16 at h
  obtain ⟨I4, hI4, h⟩ := Ho_let h
  refine J_putI hx flW_RX4_50 (rfl : k_sh 0 = (4, k_N 4)) rfl dX4_calls_16 hI4 ?_
  refine J_aload_n hx dX4_calls_19 0 rfl ?_
  refine J_getR (q := 24) hx fl_RX4_33 (rfl : k_sh 0 = (4, k_N 4)) rfl rfl dX4_calls_20 ?_
  obtain ⟨t5, e6, h⟩ := Ho_bind h
  refine J_callVi hx lkV_RX4_193 (rfl : k_sh 24 = (3, k_N 3)) [] [] rfl rfl (Nat.le_of_ble_eq_true rfl) (Nat.le_of_ble_eq_true rfl) (s_X3_calling k_H24 ⟨t5, e6, ⟨rfl, rfl, rfl⟩⟩) dX4_calls_23 ?_
  have h := Ho_some h
  exact J_iret hx hQ dX4_calls_26 h
def f_X4_calls (I : StI) : Option (Int32 × StI) :=
  Option.bind (f_X3_wouldAnswer 24 I) (fun t1 => (if t1 = 0 then f_X4_calls_j16 (0 : Int32) I else f_X4_calls_j16 (1 : Int32) I))
set_option maxRecDepth 100000 in
set_option maxHeartbeats 4000000 in
theorem s_X4_calls {l : Launch} {ad : Nat → Nat} {P : Option Value → StI → StL → Prop} {I : StI} {L : StL}   (h : Ho (f_X4_calls I) (kr_X4_calls P L)) : k_Met l ad 5 yX4_calls cX4_calls 1 (some .int) [.ref (ad 0)] I L P := by
  refine k_enter (by decide +kernel) (Nat.le_of_ble_eq_true rfl) (fun X hl hx hQ => ?_)
  clear hl
  have hx : Ok X cX4_calls RX4 1 (some .int) 5 := hx
  show J X ad 1 I L 0 [(0, .ref (ad 0))] []
  unfold f_X4_calls at h
  refine J_aload_n hx dX4_calls_0 0 rfl ?_
  refine J_aload_n hx dX4_calls_1 0 rfl ?_
  refine J_getR (q := 24) hx fl_RX4_33 (rfl : k_sh 0 = (4, k_N 4)) rfl rfl dX4_calls_2 ?_
  obtain ⟨t1, e2, h⟩ := Ho_bind h
  refine J_callVi hx lkV_RX4_189 (rfl : k_sh 24 = (3, k_N 3)) [] [.ref (ad 0)] rfl rfl (Nat.le_of_ble_eq_true rfl) (Nat.le_of_ble_eq_true rfl) (s_X3_wouldAnswer k_H24 ⟨t1, e2, ⟨rfl, rfl, rfl⟩⟩) dX4_calls_5 ?_
  refine J_if_eq hx dX4_calls_8 15 (by decide) (fun c3 => ?_) (fun c3 => ?_)
  · have h := Ho_t c3 h
    refine J_iconst (v := (0 : Int32)) hx dX4_calls_15 (by decide) ?_
    refine J_sub (lv' := [(0, .ref (ad 0))]) hx [0] rfl ?_
    exact s_X4_calls_j16 hx hQ  h
  · have h := Ho_f c3 h
    refine J_iconst (v := (1 : Int32)) hx dX4_calls_11 (by decide) ?_
    refine J_goto hx dX4_calls_12 16 (by decide) ?_
    refine J_sub (lv' := [(0, .ref (ad 0))]) hx [0] rfl ?_
    exact s_X4_calls_j16 hx hQ  h
abbrev kr_X4_commonDivisor (P : Option Value → StI → StL → Prop) (I : StI) (L : StL) : Int64 → Prop := fun t => P (some (.long t)) I L
abbrev g_X4_commonDivisor_L9 (X : k_C) (ad : Nat → Nat) (I : StI) (L : StL) : (Int64 × Int64 × Int32) → Prop := fun s => J X ad 11 I L 9 [(4, .long s.1), (6, .long s.2.1), (8, .int s.2.2)] []
def f_X4_commonDivisor_j45 (v4 : Int64) : Option (Int64) :=
  Option.bind (f_J9_max_f86c9 (1 : Int64) v4) (fun t2 => some (t2))
set_option maxRecDepth 100000 in
set_option maxHeartbeats 4000000 in
theorem s_X4_commonDivisor_j45 {X : k_C} {ad : Nat → Nat} {P : Option Value → StI → StL → Prop} {I : StI} {L : StL} (hx : Ok X cX4_commonDivisor RX4 11 (some .long) 2) (hQ : OkQ X ad P)  {v4 : Int64}  (h : Ho (f_X4_commonDivisor_j45 v4) (kr_X4_commonDivisor P I L)) : J X ad 11 I L 45 [(4, .long v4)] [] := by
  unfold f_X4_commonDivisor_j45 at h
  refine J_lconst (v := (1 : Int64)) hx dX4_commonDivisor_45 (by decide) ?_
  refine J_lload hx dX4_commonDivisor_46 0 rfl ?_
  obtain ⟨t2, e3, h⟩ := Ho_bind h
  refine J_callSl hx lkS_RX4_322 [.long (1 : Int64), .long v4] [] rfl rfl (Nat.le_of_ble_eq_true rfl) (Nat.le_of_ble_eq_true rfl) (s_J9_max_f86c9  ⟨t2, e3, ⟨rfl, rfl, rfl⟩⟩) dX4_commonDivisor_48 ?_
  have h := Ho_some h
  exact J_lret hx hQ dX4_commonDivisor_51 h
def f_X4_commonDivisor_L9_b (v4 : Int64) (v6 : Int64) (v8 : Int32) : Option ((Int64 × Int64 × Int32) ⊕ (Int64)) :=
  (if (128 : Int32) ≤ v8 then Option.map Sum.inr (f_X4_commonDivisor_j45 v4) else (if (lg_cmp v6 (0 : Int64)) ≤ 0 then Option.map Sum.inr (f_X4_commonDivisor_j45 v4) else k_nzL v6 (k_let (v4 - v4 / v6 * v6) (fun x6 => k_let (v8 + (1 : Int32)) (fun x7 => some (.inl (v6, x6, x7)))))))
def f_X4_commonDivisor_L9  (n : Nat) (v4 : Int64) (v6 : Int64) (v8 : Int32) : Option (Int64) :=
  k_loop (fun s => f_X4_commonDivisor_L9_b s.1 s.2.1 s.2.2) n (v4, v6, v8)
set_option maxRecDepth 100000 in
set_option maxHeartbeats 4000000 in
theorem s_X4_commonDivisor_L9_b {X : k_C} {ad : Nat → Nat} {P : Option Value → StI → StL → Prop} {I : StI} {L : StL} (hx : Ok X cX4_commonDivisor RX4 11 (some .long) 2) (hQ : OkQ X ad P)  {v4 : Int64} {v6 : Int64} {v8 : Int32}  (h : Ho (f_X4_commonDivisor_L9_b v4 v6 v8) (Sum.elim (g_X4_commonDivisor_L9 X ad I L) (kr_X4_commonDivisor P I L))) : J X ad 11 I L 9 [(4, .long v4), (6, .long v6), (8, .int v8)] [] := by
  unfold f_X4_commonDivisor_L9_b at h
  refine J_iload hx dX4_commonDivisor_9 2 rfl ?_
  refine J_sipush (v := (128 : Int32)) hx dX4_commonDivisor_11 (by decide) ?_
  refine J_ic_ge hx dX4_commonDivisor_14 45 (by decide) (fun c1 => ?_) (fun c1 => ?_)
  · have h := Ho_t c1 h
    refine J_sub (lv' := [(4, .long v4)]) hx [0] rfl ?_
    have h := Ho_map h
    exact s_X4_commonDivisor_j45 hx hQ  h
  · have h := Ho_f c1 h
    refine J_lload hx dX4_commonDivisor_17 1 rfl ?_
    refine J_lconst (v := (0 : Int64)) hx dX4_commonDivisor_19 (by decide) ?_
    refine J_lcmp hx dX4_commonDivisor_20 ?_
    refine J_if_le hx dX4_commonDivisor_21 45 (by decide) (fun c4 => ?_) (fun c4 => ?_)
    · have h := Ho_t c4 h
      refine J_sub (lv' := [(4, .long v4)]) hx [0] rfl ?_
      have h := Ho_map h
      exact s_X4_commonDivisor_j45 hx hQ  h
    · have h := Ho_f c4 h
      refine J_lload hx dX4_commonDivisor_24 0 rfl ?_
      refine J_lload hx dX4_commonDivisor_26 1 rfl ?_
      obtain ⟨hz5, h⟩ := Ho_nzL h
      refine J_lrem hx hz5 dX4_commonDivisor_28 ?_
      obtain ⟨x6, hx6, h⟩ := Ho_let h
      refine J_lstore (x := x6) (lv' := [(9, .long x6), (4, .long v4), (6, .long v6), (8, .int v8)]) hx dX4_commonDivisor_29 hx6 (by decide) rfl ?_
      refine J_lload hx dX4_commonDivisor_31 2 rfl ?_
      refine J_lstore (x := v6) (lv' := [(4, .long v6), (9, .long x6), (6, .long v6), (8, .int v8)]) hx dX4_commonDivisor_33 rfl (by decide) rfl ?_
      refine J_lload hx dX4_commonDivisor_35 1 rfl ?_
      refine J_lstore (x := x6) (lv' := [(6, .long x6), (4, .long v6), (9, .long x6), (8, .int v8)]) hx dX4_commonDivisor_37 rfl (by decide) rfl ?_
      obtain ⟨x7, hx7, h⟩ := Ho_let h
      refine J_iinc (x := x7) (lv' := [(8, .int x7), (6, .long x6), (4, .long v6), (9, .long x6)]) hx dX4_commonDivisor_39 3 rfl (by rw [hx7]; rfl) (by decide) rfl ?_
      refine J_goto hx dX4_commonDivisor_42 9 (by decide) ?_
      refine J_sub (lv' := [(4, .long v6), (6, .long x6), (8, .int x7)]) hx [2, 1, 0] rfl ?_
      have h := Ho_some h
      exact h
set_option maxRecDepth 100000 in
set_option maxHeartbeats 4000000 in
theorem s_X4_commonDivisor_L9 {X : k_C} {ad : Nat → Nat} {P : Option Value → StI → StL → Prop} {I : StI} {L : StL} (hx : Ok X cX4_commonDivisor RX4 11 (some .long) 2) (hQ : OkQ X ad P)  {v4 : Int64} {v6 : Int64} {v8 : Int32}  (n : Nat) (h : Ho (f_X4_commonDivisor_L9  n v4 v6 v8) (kr_X4_commonDivisor P I L)) : J X ad 11 I L 9 [(4, .long v4), (6, .long v6), (8, .int v8)] [] := by
  exact k_loop_ho (G := g_X4_commonDivisor_L9 X ad I L) (fun s hs => s_X4_commonDivisor_L9_b hx hQ  hs) n (v4, v6, v8) h
def f_X4_commonDivisor (v0 : Int64) (v2 : Int64) : Option (Int64) :=
  f_X4_commonDivisor_L9  k_fu v0 v2 (0 : Int32)
set_option maxRecDepth 100000 in
set_option maxHeartbeats 4000000 in
theorem s_X4_commonDivisor {l : Launch} {ad : Nat → Nat} {P : Option Value → StI → StL → Prop} {I : StI} {L : StL} {v0 : Int64} {v2 : Int64}  (h : Ho (f_X4_commonDivisor v0 v2) (kr_X4_commonDivisor P I L)) : k_Met l ad 2 yX4_commonDivisor cX4_commonDivisor 11 (some .long) [.long v0, .long v2] I L P := by
  refine k_enter (by decide +kernel) (Nat.le_of_ble_eq_true rfl) (fun X hl hx hQ => ?_)
  clear hl
  have hx : Ok X cX4_commonDivisor RX4 11 (some .long) 2 := hx
  show J X ad 11 I L 0 [(0, .long v0), (2, .long v2)] []
  unfold f_X4_commonDivisor at h
  refine J_lload_n hx dX4_commonDivisor_0 0 rfl ?_
  refine J_lstore (x := v0) (lv' := [(4, .long v0), (0, .long v0), (2, .long v2)]) hx dX4_commonDivisor_1 rfl (by decide) rfl ?_
  refine J_lload_n hx dX4_commonDivisor_3 2 rfl ?_
  refine J_lstore (x := v2) (lv' := [(6, .long v2), (4, .long v0), (0, .long v0), (2, .long v2)]) hx dX4_commonDivisor_4 rfl (by decide) rfl ?_
  refine J_iconst (v := (0 : Int32)) hx dX4_commonDivisor_6 (by decide) ?_
  refine J_istore (x := (0 : Int32)) (lv' := [(8, .int (0 : Int32)), (6, .long v2), (4, .long v0), (0, .long v0), (2, .long v2)]) hx dX4_commonDivisor_7 rfl (by decide) rfl ?_
  refine J_sub (lv' := [(4, .long v0), (6, .long v2), (8, .int (0 : Int32))]) hx [2, 1, 0] rfl ?_
  exact s_X4_commonDivisor_L9 hx hQ  k_fu h
abbrev kr_X4_hasPlaces (P : Option Value → StI → StL → Prop) (I : StI) (L : StL) : Int32 → Prop := fun t => P (some (.int t)) I L
def f_X4_hasPlaces (v0 : Int32) (v1 : Int32) (v2 : Int32) : Option (Int32) :=
  (if v1 < 0 then some ((0 : Int32)) else (if v0 < v1 then some ((0 : Int32)) else (if (v0 - v1) < v2 then some ((0 : Int32)) else some ((1 : Int32)))))
set_option maxRecDepth 100000 in
set_option maxHeartbeats 4000000 in
theorem s_X4_hasPlaces {l : Launch} {ad : Nat → Nat} {P : Option Value → StI → StL → Prop} {I : StI} {L : StL} {v0 : Int32} {v1 : Int32} {v2 : Int32}  (h : Ho (f_X4_hasPlaces v0 v1 v2) (kr_X4_hasPlaces P I L)) : k_Met l ad 1 yX4_hasPlaces cX4_hasPlaces 3 (some .boolean) [.int v0, .int v1, .int v2] I L P := by
  refine k_enter (by decide +kernel) (Nat.le_of_ble_eq_true rfl) (fun X hl hx hQ => ?_)
  clear hl
  have hx : Ok X cX4_hasPlaces RX4 3 (some .boolean) 1 := hx
  show J X ad 3 I L 0 [(0, .int v0), (1, .int v1), (2, .int v2)] []
  unfold f_X4_hasPlaces at h
  refine J_iload_n hx dX4_hasPlaces_0 1 rfl ?_
  refine J_if_lt hx dX4_hasPlaces_1 20 (by decide) (fun c1 => ?_) (fun c1 => ?_)
  · have h := Ho_t c1 h
    refine J_iconst (v := (0 : Int32)) hx dX4_hasPlaces_20 (by decide) ?_
    have h := Ho_some h
    exact J_zret hx hQ dX4_hasPlaces_21 rfl h
  · have h := Ho_f c1 h
    refine J_iload_n hx dX4_hasPlaces_4 1 rfl ?_
    refine J_iload_n hx dX4_hasPlaces_5 0 rfl ?_
    refine J_ic_gt hx dX4_hasPlaces_6 20 (by decide) (fun c2 => ?_) (fun c2 => ?_)
    · have h := Ho_t c2 h
      refine J_iconst (v := (0 : Int32)) hx dX4_hasPlaces_20 (by decide) ?_
      have h := Ho_some h
      exact J_zret hx hQ dX4_hasPlaces_21 rfl h
    · have h := Ho_f c2 h
      refine J_iload_n hx dX4_hasPlaces_9 2 rfl ?_
      refine J_iload_n hx dX4_hasPlaces_10 0 rfl ?_
      refine J_iload_n hx dX4_hasPlaces_11 1 rfl ?_
      refine J_isub hx dX4_hasPlaces_12 ?_
      refine J_ic_gt hx dX4_hasPlaces_13 20 (by decide) (fun c3 => ?_) (fun c3 => ?_)
      · have h := Ho_t c3 h
        refine J_iconst (v := (0 : Int32)) hx dX4_hasPlaces_20 (by decide) ?_
        have h := Ho_some h
        exact J_zret hx hQ dX4_hasPlaces_21 rfl h
      · have h := Ho_f c3 h
        refine J_iconst (v := (1 : Int32)) hx dX4_hasPlaces_16 (by decide) ?_
        refine J_goto hx dX4_hasPlaces_17 21 (by decide) ?_
        have h := Ho_some h
        exact J_zret hx hQ dX4_hasPlaces_21 rfl h
abbrev kr_X4_copy (P : Option Value → StI → StL → Prop) (L : StL) : Int32 × StI → Prop := fun t => P (some (.int t.1)) t.2 L
def f_X4_copy_j84 (I : StI) : Option (Int32 × StI) :=
  Option.bind (f_X4_found (2 : Int32) I) (fun t18 => some (t18.1, t18.2))
set_option maxRecDepth 100000 in
set_option maxHeartbeats 4000000 in
theorem s_X4_copy_j84 {X : k_C} {ad : Nat → Nat} {P : Option Value → StI → StL → Prop} {I : StI} {L : StL} (hx : Ok X cX4_copy RX4 6 (some .int) 2) (hQ : OkQ X ad P)    (h : Ho (f_X4_copy_j84 I) (kr_X4_copy P L)) : J X ad 6 I L 84 [(0, .ref (ad 0))] [] := by
  unfold f_X4_copy_j84 at h
  refine J_aload_n hx dX4_copy_84 0 rfl ?_
  refine J_iconst (v := (2 : Int32)) hx dX4_copy_85 (by decide) ?_
  obtain ⟨t18, e19, h⟩ := Ho_bind h
  refine J_callVi hx lkV_RX4_93 (rfl : k_sh 0 = (4, k_N 4)) [.int (2 : Int32)] [] rfl rfl (Nat.le_of_ble_eq_true rfl) (Nat.le_of_ble_eq_true rfl) (s_X4_found  ⟨t18, e19, ⟨rfl, rfl, rfl⟩⟩) dX4_copy_86 ?_
  have h := Ho_some h
  exact J_iret hx hQ dX4_copy_89 h
def f_X4_copy_j47 (I : StI) : Option (Int32 × StI) :=
  Option.bind (f_X4_found (1 : Int32) I) (fun t10 => some (t10.1, t10.2))
set_option maxRecDepth 100000 in
set_option maxHeartbeats 4000000 in
theorem s_X4_copy_j47 {X : k_C} {ad : Nat → Nat} {P : Option Value → StI → StL → Prop} {I : StI} {L : StL} (hx : Ok X cX4_copy RX4 6 (some .int) 2) (hQ : OkQ X ad P)    (h : Ho (f_X4_copy_j47 I) (kr_X4_copy P L)) : J X ad 6 I L 47 [(0, .ref (ad 0))] [] := by
  unfold f_X4_copy_j47 at h
  refine J_aload_n hx dX4_copy_47 0 rfl ?_
  refine J_iconst (v := (1 : Int32)) hx dX4_copy_48 (by decide) ?_
  obtain ⟨t10, e11, h⟩ := Ho_bind h
  refine J_callVi hx lkV_RX4_93 (rfl : k_sh 0 = (4, k_N 4)) [.int (1 : Int32)] [] rfl rfl (Nat.le_of_ble_eq_true rfl) (Nat.le_of_ble_eq_true rfl) (s_X4_found  ⟨t10, e11, ⟨rfl, rfl, rfl⟩⟩) dX4_copy_49 ?_
  have h := Ho_some h
  exact J_iret hx hQ dX4_copy_52 h
def f_X4_copy (v1 : Int32) (v2 : Int32) (v3 : Int32) (v4 : Int32) (v5 : Int32) (I : StI) : Option (Int32 × StI) :=
  Option.bind (f_X4_isRow v1) (fun t1 => (if t1 = 0 then some ((-1 : Int32), I) else Option.bind (f_X4_isRow v3) (fun t4 => (if t4 = 0 then some ((-1 : Int32), I) else (if 0 ≤ v5 then k_gd v1 6 ((if (I 8 v1.toNatClampNeg) = (-1 : Int32) then f_X4_copy_j47 I else k_gd v3 6 ((if (I 8 v3.toNatClampNeg) = (-1 : Int32) then f_X4_copy_j47 I else k_gd v1 6 (Option.bind (f_X4_hasPlaces (I 8 v1.toNatClampNeg) v2 v5) (fun t15 => (if t15 = 0 then f_X4_copy_j84 I else k_gd v3 6 (Option.bind (f_X4_hasPlaces (I 8 v3.toNatClampNeg) v4 v5) (fun t21 => (if t21 = 0 then f_X4_copy_j84 I else k_gd v1 6 (k_gd v3 6 (k_acp v2 v4 v5 40 40 (k_let (k_cpA I (k_rq v1.toNatClampNeg) (k_rq v3.toNatClampNeg) v2.toNatClampNeg v4.toNatClampNeg v5.toNatClampNeg) (fun I26 => some ((1 : Int32), I26))))))))))))))) else Option.bind (f_X4_found (5 : Int32) I) (fun t28 => some (t28.1, t28.2)))))))
set_option maxRecDepth 100000 in
set_option maxHeartbeats 4000000 in
theorem s_X4_copy {l : Launch} {ad : Nat → Nat} {P : Option Value → StI → StL → Prop} {I : StI} {L : StL} {v1 : Int32} {v2 : Int32} {v3 : Int32} {v4 : Int32} {v5 : Int32}  (h : Ho (f_X4_copy v1 v2 v3 v4 v5 I) (kr_X4_copy P L)) : k_Met l ad 2 yX4_copy cX4_copy 6 (some .int) [.ref (ad 0), .int v1, .int v2, .int v3, .int v4, .int v5] I L P := by
  refine k_enter (by decide +kernel) (Nat.le_of_ble_eq_true rfl) (fun X hl hx hQ => ?_)
  clear hl
  have hx : Ok X cX4_copy RX4 6 (some .int) 2 := hx
  show J X ad 6 I L 0 [(0, .ref (ad 0)), (1, .int v1), (2, .int v2), (3, .int v3), (4, .int v4), (5, .int v5)] []
  unfold f_X4_copy at h
  refine J_iload_n hx dX4_copy_0 1 rfl ?_
  obtain ⟨t1, e2, h⟩ := Ho_bind h
  refine J_callSi hx lkS_RX4_89 [.int v1] [] rfl rfl (Nat.le_of_ble_eq_true rfl) (Nat.le_of_ble_eq_true rfl) (s_X4_isRow  ⟨t1, e2, ⟨rfl, rfl, rfl⟩⟩) dX4_copy_1 ?_
  refine J_if_eq hx dX4_copy_4 14 (by decide) (fun c3 => ?_) (fun c3 => ?_)
  · have h := Ho_t c3 h
    refine J_iconst (v := (-1 : Int32)) hx dX4_copy_14 (by decide) ?_
    have h := Ho_some h
    exact J_iret hx hQ dX4_copy_15 h
  · have h := Ho_f c3 h
    refine J_iload_n hx dX4_copy_7 3 rfl ?_
    obtain ⟨t4, e5, h⟩ := Ho_bind h
    refine J_callSi hx lkS_RX4_89 [.int v3] [] rfl rfl (Nat.le_of_ble_eq_true rfl) (Nat.le_of_ble_eq_true rfl) (s_X4_isRow  ⟨t4, e5, ⟨rfl, rfl, rfl⟩⟩) dX4_copy_8 ?_
    refine J_if_ne hx dX4_copy_11 16 (by decide) (fun c6 => ?_) (fun c6 => ?_)
    · have h := Ho_f c6 h
      refine J_iload hx dX4_copy_16 5 rfl ?_
      refine J_if_ge hx dX4_copy_18 27 (by decide) (fun c7 => ?_) (fun c7 => ?_)
      · have h := Ho_t c7 h
        refine J_aload_n hx dX4_copy_27 0 rfl ?_
        refine J_getR (q := 8) hx fl_RX4_14 (rfl : k_sh 0 = (4, k_N 4)) rfl rfl dX4_copy_28 ?_
        refine J_iload_n hx dX4_copy_31 1 rfl ?_
        obtain ⟨b8, h⟩ := Ho_gd h
        refine J_iald hx (rfl : k_sh 8 = (10, 6)) b8 dX4_copy_32 ?_
        refine J_iconst (v := (-1 : Int32)) hx dX4_copy_33 (by decide) ?_
        refine J_ic_eq hx dX4_copy_34 47 (by decide) (fun c9 => ?_) (fun c9 => ?_)
        · have h := Ho_t c9 h
          refine J_sub (lv' := [(0, .ref (ad 0))]) hx [0] rfl ?_
          exact s_X4_copy_j47 hx hQ  h
        · have h := Ho_f c9 h
          refine J_aload_n hx dX4_copy_37 0 rfl ?_
          refine J_getR (q := 8) hx fl_RX4_14 (rfl : k_sh 0 = (4, k_N 4)) rfl rfl dX4_copy_38 ?_
          refine J_iload_n hx dX4_copy_41 3 rfl ?_
          obtain ⟨b12, h⟩ := Ho_gd h
          refine J_iald hx (rfl : k_sh 8 = (10, 6)) b12 dX4_copy_42 ?_
          refine J_iconst (v := (-1 : Int32)) hx dX4_copy_43 (by decide) ?_
          refine J_ic_ne hx dX4_copy_44 53 (by decide) (fun c13 => ?_) (fun c13 => ?_)
          · have h := Ho_f c13 h
            refine J_aload_n hx dX4_copy_53 0 rfl ?_
            refine J_getR (q := 8) hx fl_RX4_14 (rfl : k_sh 0 = (4, k_N 4)) rfl rfl dX4_copy_54 ?_
            refine J_iload_n hx dX4_copy_57 1 rfl ?_
            obtain ⟨b14, h⟩ := Ho_gd h
            refine J_iald hx (rfl : k_sh 8 = (10, 6)) b14 dX4_copy_58 ?_
            refine J_iload_n hx dX4_copy_59 2 rfl ?_
            refine J_iload hx dX4_copy_60 5 rfl ?_
            obtain ⟨t15, e16, h⟩ := Ho_bind h
            refine J_callSi hx lkS_RX4_101 [.int (I 8 v1.toNatClampNeg), .int v2, .int v5] [] rfl rfl (Nat.le_of_ble_eq_true rfl) (Nat.le_of_ble_eq_true rfl) (s_X4_hasPlaces  ⟨t15, e16, ⟨rfl, rfl, rfl⟩⟩) dX4_copy_62 ?_
            refine J_if_eq hx dX4_copy_65 84 (by decide) (fun c17 => ?_) (fun c17 => ?_)
            · have h := Ho_t c17 h
              refine J_sub (lv' := [(0, .ref (ad 0))]) hx [0] rfl ?_
              exact s_X4_copy_j84 hx hQ  h
            · have h := Ho_f c17 h
              refine J_aload_n hx dX4_copy_68 0 rfl ?_
              refine J_getR (q := 8) hx fl_RX4_14 (rfl : k_sh 0 = (4, k_N 4)) rfl rfl dX4_copy_69 ?_
              refine J_iload_n hx dX4_copy_72 3 rfl ?_
              obtain ⟨b20, h⟩ := Ho_gd h
              refine J_iald hx (rfl : k_sh 8 = (10, 6)) b20 dX4_copy_73 ?_
              refine J_iload hx dX4_copy_74 4 rfl ?_
              refine J_iload hx dX4_copy_76 5 rfl ?_
              obtain ⟨t21, e22, h⟩ := Ho_bind h
              refine J_callSi hx lkS_RX4_101 [.int (I 8 v3.toNatClampNeg), .int v4, .int v5] [] rfl rfl (Nat.le_of_ble_eq_true rfl) (Nat.le_of_ble_eq_true rfl) (s_X4_hasPlaces  ⟨t21, e22, ⟨rfl, rfl, rfl⟩⟩) dX4_copy_78 ?_
              refine J_if_ne hx dX4_copy_81 90 (by decide) (fun c23 => ?_) (fun c23 => ?_)
              · have h := Ho_f c23 h
                refine J_aload_n hx dX4_copy_90 0 rfl ?_
                refine J_getR (q := 1) hx fl_RX4_11 (rfl : k_sh 0 = (4, k_N 4)) rfl rfl dX4_copy_91 ?_
                refine J_iload_n hx dX4_copy_94 1 rfl ?_
                obtain ⟨b24, h⟩ := Ho_gd h
                refine J_aald (q := (k_rq v1.toNatClampNeg)) hx (rfl : k_sh 1 = (15, 6)) (by decide) (by decide) b24 k_Rr dX4_copy_95 ?_
                refine J_iload_n hx dX4_copy_96 2 rfl ?_
                refine J_aload_n hx dX4_copy_97 0 rfl ?_
                refine J_getR (q := 1) hx fl_RX4_11 (rfl : k_sh 0 = (4, k_N 4)) rfl rfl dX4_copy_98 ?_
                refine J_iload_n hx dX4_copy_101 3 rfl ?_
                obtain ⟨b25, h⟩ := Ho_gd h
                refine J_aald (q := (k_rq v3.toNatClampNeg)) hx (rfl : k_sh 1 = (15, 6)) (by decide) (by decide) b25 k_Rr dX4_copy_102 ?_
                refine J_iload hx dX4_copy_103 4 rfl ?_
                refine J_iload hx dX4_copy_105 5 rfl ?_
                obtain ⟨⟨b271, b272, b273, b274, b275⟩, h⟩ := Ho_acp h
                obtain ⟨I26, hI26, h⟩ := Ho_let h
                refine J_acopy hx wacp (k_Rq b24) (k_Rq b25) b271 b272 b273 b274 b275 (Nat.le_of_ble_eq_true rfl) dX4_copy_107 hI26 ?_
                refine J_iconst (v := (1 : Int32)) hx dX4_copy_110 (by decide) ?_
                have h := Ho_some h
                exact J_iret hx hQ dX4_copy_111 h
              · have h := Ho_t c23 h
                refine J_sub (lv' := [(0, .ref (ad 0))]) hx [0] rfl ?_
                exact s_X4_copy_j84 hx hQ  h
          · have h := Ho_t c13 h
            refine J_sub (lv' := [(0, .ref (ad 0))]) hx [0] rfl ?_
            exact s_X4_copy_j47 hx hQ  h
      · have h := Ho_f c7 h
        refine J_aload_n hx dX4_copy_21 0 rfl ?_
        refine J_iconst (v := (5 : Int32)) hx dX4_copy_22 (by decide) ?_
        obtain ⟨t28, e29, h⟩ := Ho_bind h
        refine J_callVi hx lkV_RX4_93 (rfl : k_sh 0 = (4, k_N 4)) [.int (5 : Int32)] [] rfl rfl (Nat.le_of_ble_eq_true rfl) (Nat.le_of_ble_eq_true rfl) (s_X4_found  ⟨t28, e29, ⟨rfl, rfl, rfl⟩⟩) dX4_copy_23 ?_
        have h := Ho_some h
        exact J_iret hx hQ dX4_copy_26 h
    · have h := Ho_t c6 h
      refine J_iconst (v := (-1 : Int32)) hx dX4_copy_14 (by decide) ?_
      have h := Ho_some h
      exact J_iret hx hQ dX4_copy_15 h
abbrev kr_X4_thereOf (P : Option Value → StI → StL → Prop) (I : StI) (L : StL) : Int32 → Prop := fun t => P (some (.int t)) I L
abbrev g_X4_thereOf_L10 (X : k_C) (ad : Nat → Nat) (I : StI) (L : StL) (v2 : Nat) (v3 : Int32) : (Int32 × Int32) → Prop := fun s => J X ad 6 I L 10 [(1, .int s.1), (2, .ref (ad v2)), (3, .int v3), (4, .int s.2)] []
def f_X4_thereOf_L10_b (v1 : Int32) (v2 : Nat) (v3 : Int32) (v4 : Int32) (I : StI) : Option ((Int32 × Int32) ⊕ (Int32)) :=
  (if v3 ≤ v4 then some (.inr (v1)) else k_gd v4 (k_sh v2).2 (k_let (I v2 v4.toNatClampNeg) (fun x4 => (if x4 = (-1 : Int32) then k_let (v4 + (1 : Int32)) (fun x6 => some (.inl (v1, x6))) else k_let (v1 + (1 : Int32)) (fun x7 => k_let (v4 + (1 : Int32)) (fun x8 => some (.inl (x7, x8))))))))
def f_X4_thereOf_L10 (v2 : Nat) (v3 : Int32) (I : StI) (n : Nat) (v1 : Int32) (v4 : Int32) : Option (Int32) :=
  k_loop (fun s => f_X4_thereOf_L10_b s.1 v2 v3 s.2 I) n (v1, v4)
set_option maxRecDepth 100000 in
set_option maxHeartbeats 4000000 in
theorem s_X4_thereOf_L10_b {X : k_C} {ad : Nat → Nat} {P : Option Value → StI → StL → Prop} {I : StI} {L : StL} (hx : Ok X cX4_thereOf RX4 6 (some .int) 1) (hQ : OkQ X ad P)  {v1 : Int32} {v2 : Nat} {v3 : Int32} {v4 : Int32} (hv2 : (k_sh v2).1 = 10) (h : Ho (f_X4_thereOf_L10_b v1 v2 v3 v4 I) (Sum.elim (g_X4_thereOf_L10 X ad I L v2 v3) (kr_X4_thereOf P I L))) : J X ad 6 I L 10 [(1, .int v1), (2, .ref (ad v2)), (3, .int v3), (4, .int v4)] [] := by
  unfold f_X4_thereOf_L10_b at h
  refine J_iload hx dX4_thereOf_10 3 rfl ?_
  refine J_iload_n hx dX4_thereOf_12 2 rfl ?_
  refine J_ic_ge hx dX4_thereOf_13 37 (by decide) (fun c2 => ?_) (fun c2 => ?_)
  · have h := Ho_t c2 h
    refine J_iload_n hx dX4_thereOf_37 0 rfl ?_
    have h := Ho_some h
    exact J_iret hx hQ dX4_thereOf_38 h
  · have h := Ho_f c2 h
    refine J_aload_n hx dX4_thereOf_16 1 rfl ?_
    refine J_iload hx dX4_thereOf_17 3 rfl ?_
    obtain ⟨b3, h⟩ := Ho_gd h
    refine J_iald hx (k_shA hv2) b3 dX4_thereOf_19 ?_
    obtain ⟨x4, hx4, h⟩ := Ho_let h
    refine J_istore (x := x4) (lv' := [(5, .int x4), (1, .int v1), (2, .ref (ad v2)), (3, .int v3), (4, .int v4)]) hx dX4_thereOf_20 hx4 (by decide) rfl ?_
    refine J_iload hx dX4_thereOf_22 0 rfl ?_
    refine J_iconst (v := (-1 : Int32)) hx dX4_thereOf_24 (by decide) ?_
    refine J_ic_eq hx dX4_thereOf_25 31 (by decide) (fun c5 => ?_) (fun c5 => ?_)
    · have h := Ho_t c5 h
      obtain ⟨x6, hx6, h⟩ := Ho_let h
      refine J_iinc (x := x6) (lv' := [(4, .int x6), (5, .int x4), (1, .int v1), (2, .ref (ad v2)), (3, .int v3)]) hx dX4_thereOf_31 4 rfl (by rw [hx6]; rfl) (by decide) rfl ?_
      refine J_goto hx dX4_thereOf_34 10 (by decide) ?_
      refine J_sub (lv' := [(1, .int v1), (2, .ref (ad v2)), (3, .int v3), (4, .int x6)]) hx [2, 3, 4, 0] rfl ?_
      have h := Ho_some h
      exact h
    · have h := Ho_f c5 h
      obtain ⟨x7, hx7, h⟩ := Ho_let h
      refine J_iinc (x := x7) (lv' := [(1, .int x7), (5, .int x4), (2, .ref (ad v2)), (3, .int v3), (4, .int v4)]) hx dX4_thereOf_28 1 rfl (by rw [hx7]; rfl) (by decide) rfl ?_
      obtain ⟨x8, hx8, h⟩ := Ho_let h
      refine J_iinc (x := x8) (lv' := [(4, .int x8), (1, .int x7), (5, .int x4), (2, .ref (ad v2)), (3, .int v3)]) hx dX4_thereOf_31 4 rfl (by rw [hx8]; rfl) (by decide) rfl ?_
      refine J_goto hx dX4_thereOf_34 10 (by decide) ?_
      refine J_sub (lv' := [(1, .int x7), (2, .ref (ad v2)), (3, .int v3), (4, .int x8)]) hx [1, 3, 4, 0] rfl ?_
      have h := Ho_some h
      exact h
set_option maxRecDepth 100000 in
set_option maxHeartbeats 4000000 in
theorem s_X4_thereOf_L10 {X : k_C} {ad : Nat → Nat} {P : Option Value → StI → StL → Prop} {I : StI} {L : StL} (hx : Ok X cX4_thereOf RX4 6 (some .int) 1) (hQ : OkQ X ad P)  {v1 : Int32} {v2 : Nat} {v3 : Int32} {v4 : Int32} (hv2 : (k_sh v2).1 = 10) (n : Nat) (h : Ho (f_X4_thereOf_L10 v2 v3 I n v1 v4) (kr_X4_thereOf P I L)) : J X ad 6 I L 10 [(1, .int v1), (2, .ref (ad v2)), (3, .int v3), (4, .int v4)] [] := by
  exact k_loop_ho (G := g_X4_thereOf_L10 X ad I L v2 v3) (fun s hs => s_X4_thereOf_L10_b hx hQ hv2 hs) n (v1, v4) h
def f_X4_thereOf (v0 : Nat) (I : StI) : Option (Int32) :=
  k_let (Int32.ofNat (k_sh v0).2) (fun x1 => f_X4_thereOf_L10 v0 x1 I k_fu (0 : Int32) (0 : Int32))
set_option maxRecDepth 100000 in
set_option maxHeartbeats 4000000 in
theorem s_X4_thereOf {l : Launch} {ad : Nat → Nat} {P : Option Value → StI → StL → Prop} {I : StI} {L : StL} {v0 : Nat} (hv0 : (k_sh v0).1 = 10) (h : Ho (f_X4_thereOf v0 I) (kr_X4_thereOf P I L)) : k_Met l ad 1 yX4_thereOf cX4_thereOf 6 (some .int) [.ref (ad v0)] I L P := by
  refine k_enter (by decide +kernel) (Nat.le_of_ble_eq_true rfl) (fun X hl hx hQ => ?_)
  clear hl
  have hx : Ok X cX4_thereOf RX4 6 (some .int) 1 := hx
  show J X ad 6 I L 0 [(0, .ref (ad v0))] []
  unfold f_X4_thereOf at h
  refine J_iconst (v := (0 : Int32)) hx dX4_thereOf_0 (by decide) ?_
  refine J_istore_n (x := (0 : Int32)) (lv' := [(1, .int (0 : Int32)), (0, .ref (ad v0))]) hx dX4_thereOf_1 rfl (by decide) rfl ?_
  refine J_aload_n hx dX4_thereOf_2 1 rfl ?_
  refine J_astore_n (x := ad v0) (lv' := [(2, .ref (ad v0)), (1, .int (0 : Int32)), (0, .ref (ad v0))]) hx dX4_thereOf_3 rfl (by decide) rfl ?_
  refine J_aload_n hx dX4_thereOf_4 0 rfl ?_
  refine J_alen hx (k_shA hv0) rfl dX4_thereOf_5 ?_
  obtain ⟨x1, hx1, h⟩ := Ho_let h
  refine J_istore_n (x := x1) (lv' := [(3, .int x1), (2, .ref (ad v0)), (1, .int (0 : Int32)), (0, .ref (ad v0))]) hx dX4_thereOf_6 hx1 (by decide) rfl ?_
  refine J_iconst (v := (0 : Int32)) hx dX4_thereOf_7 (by decide) ?_
  refine J_istore (x := (0 : Int32)) (lv' := [(4, .int (0 : Int32)), (3, .int x1), (2, .ref (ad v0)), (1, .int (0 : Int32)), (0, .ref (ad v0))]) hx dX4_thereOf_8 rfl (by decide) rfl ?_
  refine J_sub (lv' := [(1, .int (0 : Int32)), (2, .ref (ad v0)), (3, .int x1), (4, .int (0 : Int32))]) hx [3, 2, 1, 0] rfl ?_
  exact s_X4_thereOf_L10 hx hQ (congrArg Prod.fst (k_shA hv0)) k_fu h
abbrev kr_X4_keptHouses (P : Option Value → StI → StL → Prop) (I : StI) (L : StL) : Int32 → Prop := fun t => P (some (.int t)) I L
abbrev g_X4_keptHouses_L4 (X : k_C) (ad : Nat → Nat) (I : StI) (L : StL) : (Int32 × Int32) → Prop := fun s => J X ad 3 I L 4 [(0, .ref (ad 0)), (1, .int s.1), (2, .int s.2)] []
def f_X4_keptHouses_L4_b (v1 : Int32) (v2 : Int32) (I : StI) : Option ((Int32 × Int32) ⊕ (Int32)) :=
  (if (3 : Int32) ≤ v2 then some (.inr (v1)) else k_gd v2 3 ((if (I (k_dq v2.toNatClampNeg) 3) = (-1 : Int32) then k_let (v2 + (1 : Int32)) (fun x4 => some (.inl (v1, x4))) else k_let (v1 + (1 : Int32)) (fun x5 => k_let (v2 + (1 : Int32)) (fun x6 => some (.inl (x5, x6)))))))
def f_X4_keptHouses_L4 (I : StI) (n : Nat) (v1 : Int32) (v2 : Int32) : Option (Int32) :=
  k_loop (fun s => f_X4_keptHouses_L4_b s.1 s.2 I) n (v1, v2)
set_option maxRecDepth 100000 in
set_option maxHeartbeats 4000000 in
theorem s_X4_keptHouses_L4_b {X : k_C} {ad : Nat → Nat} {P : Option Value → StI → StL → Prop} {I : StI} {L : StL} (hx : Ok X cX4_keptHouses RX4 3 (some .int) 1) (hQ : OkQ X ad P)  {v1 : Int32} {v2 : Int32}  (h : Ho (f_X4_keptHouses_L4_b v1 v2 I) (Sum.elim (g_X4_keptHouses_L4 X ad I L) (kr_X4_keptHouses P I L))) : J X ad 3 I L 4 [(0, .ref (ad 0)), (1, .int v1), (2, .int v2)] [] := by
  unfold f_X4_keptHouses_L4_b at h
  refine J_iload_n hx dX4_keptHouses_4 2 rfl ?_
  refine J_iconst (v := (3 : Int32)) hx dX4_keptHouses_5 (by decide) ?_
  refine J_ic_ge hx dX4_keptHouses_6 31 (by decide) (fun c1 => ?_) (fun c1 => ?_)
  · have h := Ho_t c1 h
    refine J_iload_n hx dX4_keptHouses_31 1 rfl ?_
    have h := Ho_some h
    exact J_iret hx hQ dX4_keptHouses_32 h
  · have h := Ho_f c1 h
    refine J_aload_n hx dX4_keptHouses_9 0 rfl ?_
    refine J_getR (q := 46) hx fl_RX4_46 (rfl : k_sh 0 = (4, k_N 4)) rfl rfl dX4_keptHouses_10 ?_
    refine J_iload_n hx dX4_keptHouses_13 2 rfl ?_
    obtain ⟨b2, h⟩ := Ho_gd h
    refine J_aald (q := (k_dq v2.toNatClampNeg)) hx (rfl : k_sh 46 = (14, 3)) (by decide) (by decide) b2 k_Dqr dX4_keptHouses_14 ?_
    refine J_getI hx fl_RX4_86 (k_D0 (k_Dq b2)) rfl dX4_keptHouses_15 ?_
    refine J_iconst (v := (-1 : Int32)) hx dX4_keptHouses_18 (by decide) ?_
    refine J_ic_eq hx dX4_keptHouses_19 25 (by decide) (fun c3 => ?_) (fun c3 => ?_)
    · have h := Ho_t c3 h
      obtain ⟨x4, hx4, h⟩ := Ho_let h
      refine J_iinc (x := x4) (lv' := [(2, .int x4), (0, .ref (ad 0)), (1, .int v1)]) hx dX4_keptHouses_25 2 rfl (by rw [hx4]; rfl) (by decide) rfl ?_
      refine J_goto hx dX4_keptHouses_28 4 (by decide) ?_
      refine J_sub (lv' := [(0, .ref (ad 0)), (1, .int v1), (2, .int x4)]) hx [1, 2, 0] rfl ?_
      have h := Ho_some h
      exact h
    · have h := Ho_f c3 h
      obtain ⟨x5, hx5, h⟩ := Ho_let h
      refine J_iinc (x := x5) (lv' := [(1, .int x5), (0, .ref (ad 0)), (2, .int v2)]) hx dX4_keptHouses_22 1 rfl (by rw [hx5]; rfl) (by decide) rfl ?_
      obtain ⟨x6, hx6, h⟩ := Ho_let h
      refine J_iinc (x := x6) (lv' := [(2, .int x6), (1, .int x5), (0, .ref (ad 0))]) hx dX4_keptHouses_25 2 rfl (by rw [hx6]; rfl) (by decide) rfl ?_
      refine J_goto hx dX4_keptHouses_28 4 (by decide) ?_
      refine J_sub (lv' := [(0, .ref (ad 0)), (1, .int x5), (2, .int x6)]) hx [2, 1, 0] rfl ?_
      have h := Ho_some h
      exact h
set_option maxRecDepth 100000 in
set_option maxHeartbeats 4000000 in
theorem s_X4_keptHouses_L4 {X : k_C} {ad : Nat → Nat} {P : Option Value → StI → StL → Prop} {I : StI} {L : StL} (hx : Ok X cX4_keptHouses RX4 3 (some .int) 1) (hQ : OkQ X ad P)  {v1 : Int32} {v2 : Int32}  (n : Nat) (h : Ho (f_X4_keptHouses_L4 I n v1 v2) (kr_X4_keptHouses P I L)) : J X ad 3 I L 4 [(0, .ref (ad 0)), (1, .int v1), (2, .int v2)] [] := by
  exact k_loop_ho (G := g_X4_keptHouses_L4 X ad I L) (fun s hs => s_X4_keptHouses_L4_b hx hQ  hs) n (v1, v2) h
def f_X4_keptHouses (I : StI) : Option (Int32) :=
  f_X4_keptHouses_L4 I k_fu (0 : Int32) (0 : Int32)
set_option maxRecDepth 100000 in
set_option maxHeartbeats 4000000 in
theorem s_X4_keptHouses {l : Launch} {ad : Nat → Nat} {P : Option Value → StI → StL → Prop} {I : StI} {L : StL}   (h : Ho (f_X4_keptHouses I) (kr_X4_keptHouses P I L)) : k_Met l ad 1 yX4_keptHouses cX4_keptHouses 3 (some .int) [.ref (ad 0)] I L P := by
  refine k_enter (by decide +kernel) (Nat.le_of_ble_eq_true rfl) (fun X hl hx hQ => ?_)
  clear hl
  have hx : Ok X cX4_keptHouses RX4 3 (some .int) 1 := hx
  show J X ad 3 I L 0 [(0, .ref (ad 0))] []
  unfold f_X4_keptHouses at h
  refine J_iconst (v := (0 : Int32)) hx dX4_keptHouses_0 (by decide) ?_
  refine J_istore_n (x := (0 : Int32)) (lv' := [(1, .int (0 : Int32)), (0, .ref (ad 0))]) hx dX4_keptHouses_1 rfl (by decide) rfl ?_
  refine J_iconst (v := (0 : Int32)) hx dX4_keptHouses_2 (by decide) ?_
  refine J_istore_n (x := (0 : Int32)) (lv' := [(2, .int (0 : Int32)), (1, .int (0 : Int32)), (0, .ref (ad 0))]) hx dX4_keptHouses_3 rfl (by decide) rfl ?_
  refine J_sub (lv' := [(0, .ref (ad 0)), (1, .int (0 : Int32)), (2, .int (0 : Int32))]) hx [2, 1, 0] rfl ?_
  exact s_X4_keptHouses_L4 hx hQ  k_fu h
abbrev kr_X4_countOf (P : Option Value → StI → StL → Prop) (I : StI) (L : StL) : Int32 → Prop := fun t => P (some (.int t)) I L
def f_X4_countOf (v1 : Int32) (I : StI) : Option (Int32) :=
  (if v1 = (0 : Int32) then some ((I 24 1)) else (if v1 = (1 : Int32) then some ((I 24 4)) else (if v1 = (2 : Int32) then some ((I 42 3)) else (if v1 = (3 : Int32) then some ((I 24 5)) else (if v1 = (4 : Int32) then some ((I 24 6)) else (if v1 = (5 : Int32) then some ((I 24 3)) else (if v1 = (6 : Int32) then some ((I 24 2)) else (if v1 = (7 : Int32) then Option.bind (f_X3_open 24 I) (fun t9 => some (t9)) else (if v1 = (8 : Int32) then Option.bind (f_X4_thereOf 8 I) (fun t12 => some (t12)) else (if v1 = (9 : Int32) then Option.bind (f_X4_thereOf 14 I) (fun t15 => some (t15)) else (if v1 = (10 : Int32) then Option.bind (f_X4_keptHouses I) (fun t18 => some (t18)) else (if v1 = (11 : Int32) then Option.bind (f_X3_callersOf 24 (1 : Int32) I) (fun t21 => some (t21)) else (if v1 = (12 : Int32) then Option.bind (f_X3_callersOf 24 (2 : Int32) I) (fun t24 => some (t24)) else some ((0 : Int32)))))))))))))))
set_option maxRecDepth 100000 in
set_option maxHeartbeats 4000000 in
theorem s_X4_countOf {l : Launch} {ad : Nat → Nat} {P : Option Value → StI → StL → Prop} {I : StI} {L : StL} {v1 : Int32}  (h : Ho (f_X4_countOf v1 I) (kr_X4_countOf P I L)) : k_Met l ad 3 yX4_countOf cX4_countOf 2 (some .int) [.ref (ad 0), .int v1] I L P := by
  refine k_enter (by decide +kernel) (Nat.le_of_ble_eq_true rfl) (fun X hl hx hQ => ?_)
  clear hl
  have hx : Ok X cX4_countOf RX4 2 (some .int) 3 := hx
  show J X ad 2 I L 0 [(0, .ref (ad 0)), (1, .int v1)] []
  unfold f_X4_countOf at h
  refine J_iload_n hx dX4_countOf_0 1 rfl ?_
  by_cases c1 : v1 = (0 : Int32)
  · have h := Ho_t c1 h
    refine J_tIn (x' := (0 : Int32)) (off := 67) hx dX4_countOf_1 c1 (by decide) (by decide) (by decide) 68 (by decide) ?_
    refine J_aload_n hx dX4_countOf_68 0 rfl ?_
    refine J_getR (q := 24) hx fl_RX4_33 (rfl : k_sh 0 = (4, k_N 4)) rfl rfl dX4_countOf_69 ?_
    refine J_getI hx fl_RX4_125 (rfl : k_sh 24 = (3, k_N 3)) rfl dX4_countOf_72 ?_
    have h := Ho_some h
    exact J_iret hx hQ dX4_countOf_75 h
  have h := Ho_f c1 h
  by_cases c2 : v1 = (1 : Int32)
  · have h := Ho_t c2 h
    refine J_tIn (x' := (1 : Int32)) (off := 75) hx dX4_countOf_1 c2 (by decide) (by decide) (by decide) 76 (by decide) ?_
    refine J_aload_n hx dX4_countOf_76 0 rfl ?_
    refine J_getR (q := 24) hx fl_RX4_33 (rfl : k_sh 0 = (4, k_N 4)) rfl rfl dX4_countOf_77 ?_
    refine J_getI hx fl_RX4_141 (rfl : k_sh 24 = (3, k_N 3)) rfl dX4_countOf_80 ?_
    have h := Ho_some h
    exact J_iret hx hQ dX4_countOf_83 h
  have h := Ho_f c2 h
  by_cases c3 : v1 = (2 : Int32)
  · have h := Ho_t c3 h
    refine J_tIn (x' := (2 : Int32)) (off := 83) hx dX4_countOf_1 c3 (by decide) (by decide) (by decide) 84 (by decide) ?_
    refine J_aload_n hx dX4_countOf_84 0 rfl ?_
    refine J_getR (q := 42) hx fl_RX4_42 (rfl : k_sh 0 = (4, k_N 4)) rfl rfl dX4_countOf_85 ?_
    refine J_getI hx fl_RX4_86 (rfl : k_sh 42 = (2, k_N 2)) rfl dX4_countOf_88 ?_
    have h := Ho_some h
    exact J_iret hx hQ dX4_countOf_91 h
  have h := Ho_f c3 h
  by_cases c4 : v1 = (3 : Int32)
  · have h := Ho_t c4 h
    refine J_tIn (x' := (3 : Int32)) (off := 91) hx dX4_countOf_1 c4 (by decide) (by decide) (by decide) 92 (by decide) ?_
    refine J_aload_n hx dX4_countOf_92 0 rfl ?_
    refine J_getR (q := 24) hx fl_RX4_33 (rfl : k_sh 0 = (4, k_N 4)) rfl rfl dX4_countOf_93 ?_
    refine J_getI hx fl_RX4_153 (rfl : k_sh 24 = (3, k_N 3)) rfl dX4_countOf_96 ?_
    have h := Ho_some h
    exact J_iret hx hQ dX4_countOf_99 h
  have h := Ho_f c4 h
  by_cases c5 : v1 = (4 : Int32)
  · have h := Ho_t c5 h
    refine J_tIn (x' := (4 : Int32)) (off := 99) hx dX4_countOf_1 c5 (by decide) (by decide) (by decide) 100 (by decide) ?_
    refine J_aload_n hx dX4_countOf_100 0 rfl ?_
    refine J_getR (q := 24) hx fl_RX4_33 (rfl : k_sh 0 = (4, k_N 4)) rfl rfl dX4_countOf_101 ?_
    refine J_getI hx fl_RX4_324 (rfl : k_sh 24 = (3, k_N 3)) rfl dX4_countOf_104 ?_
    have h := Ho_some h
    exact J_iret hx hQ dX4_countOf_107 h
  have h := Ho_f c5 h
  by_cases c6 : v1 = (5 : Int32)
  · have h := Ho_t c6 h
    refine J_tIn (x' := (5 : Int32)) (off := 107) hx dX4_countOf_1 c6 (by decide) (by decide) (by decide) 108 (by decide) ?_
    refine J_aload_n hx dX4_countOf_108 0 rfl ?_
    refine J_getR (q := 24) hx fl_RX4_33 (rfl : k_sh 0 = (4, k_N 4)) rfl rfl dX4_countOf_109 ?_
    refine J_getI hx fl_RX4_160 (rfl : k_sh 24 = (3, k_N 3)) rfl dX4_countOf_112 ?_
    have h := Ho_some h
    exact J_iret hx hQ dX4_countOf_115 h
  have h := Ho_f c6 h
  by_cases c7 : v1 = (6 : Int32)
  · have h := Ho_t c7 h
    refine J_tIn (x' := (6 : Int32)) (off := 115) hx dX4_countOf_1 c7 (by decide) (by decide) (by decide) 116 (by decide) ?_
    refine J_aload_n hx dX4_countOf_116 0 rfl ?_
    refine J_getR (q := 24) hx fl_RX4_33 (rfl : k_sh 0 = (4, k_N 4)) rfl rfl dX4_countOf_117 ?_
    refine J_getI hx fl_RX4_171 (rfl : k_sh 24 = (3, k_N 3)) rfl dX4_countOf_120 ?_
    have h := Ho_some h
    exact J_iret hx hQ dX4_countOf_123 h
  have h := Ho_f c7 h
  by_cases c8 : v1 = (7 : Int32)
  · have h := Ho_t c8 h
    refine J_tIn (x' := (7 : Int32)) (off := 123) hx dX4_countOf_1 c8 (by decide) (by decide) (by decide) 124 (by decide) ?_
    refine J_aload_n hx dX4_countOf_124 0 rfl ?_
    refine J_getR (q := 24) hx fl_RX4_33 (rfl : k_sh 0 = (4, k_N 4)) rfl rfl dX4_countOf_125 ?_
    obtain ⟨t9, e10, h⟩ := Ho_bind h
    refine J_callVi hx lkV_RX4_327 (rfl : k_sh 24 = (3, k_N 3)) [] [] rfl rfl (Nat.le_of_ble_eq_true rfl) (Nat.le_of_ble_eq_true rfl) (s_X3_open k_H24 ⟨t9, e10, ⟨rfl, rfl, rfl⟩⟩) dX4_countOf_128 ?_
    have h := Ho_some h
    exact J_iret hx hQ dX4_countOf_131 h
  have h := Ho_f c8 h
  by_cases c11 : v1 = (8 : Int32)
  · have h := Ho_t c11 h
    refine J_tIn (x' := (8 : Int32)) (off := 131) hx dX4_countOf_1 c11 (by decide) (by decide) (by decide) 132 (by decide) ?_
    refine J_aload_n hx dX4_countOf_132 0 rfl ?_
    refine J_getR (q := 8) hx fl_RX4_14 (rfl : k_sh 0 = (4, k_N 4)) rfl rfl dX4_countOf_133 ?_
    obtain ⟨t12, e13, h⟩ := Ho_bind h
    refine J_callSi hx lkS_RX4_330 [.ref (ad 8)] [] rfl rfl (Nat.le_of_ble_eq_true rfl) (Nat.le_of_ble_eq_true rfl) (s_X4_thereOf (congrArg Prod.fst (rfl : k_sh 8 = (10, 6))) ⟨t12, e13, ⟨rfl, rfl, rfl⟩⟩) dX4_countOf_136 ?_
    have h := Ho_some h
    exact J_iret hx hQ dX4_countOf_139 h
  have h := Ho_f c11 h
  by_cases c14 : v1 = (9 : Int32)
  · have h := Ho_t c14 h
    refine J_tIn (x' := (9 : Int32)) (off := 139) hx dX4_countOf_1 c14 (by decide) (by decide) (by decide) 140 (by decide) ?_
    refine J_aload_n hx dX4_countOf_140 0 rfl ?_
    refine J_getR (q := 14) hx fl_RX4_23 (rfl : k_sh 0 = (4, k_N 4)) rfl rfl dX4_countOf_141 ?_
    obtain ⟨t15, e16, h⟩ := Ho_bind h
    refine J_callSi hx lkS_RX4_330 [.ref (ad 14)] [] rfl rfl (Nat.le_of_ble_eq_true rfl) (Nat.le_of_ble_eq_true rfl) (s_X4_thereOf (congrArg Prod.fst (rfl : k_sh 14 = (10, 4))) ⟨t15, e16, ⟨rfl, rfl, rfl⟩⟩) dX4_countOf_144 ?_
    have h := Ho_some h
    exact J_iret hx hQ dX4_countOf_147 h
  have h := Ho_f c14 h
  by_cases c17 : v1 = (10 : Int32)
  · have h := Ho_t c17 h
    refine J_tIn (x' := (10 : Int32)) (off := 147) hx dX4_countOf_1 c17 (by decide) (by decide) (by decide) 148 (by decide) ?_
    refine J_aload_n hx dX4_countOf_148 0 rfl ?_
    obtain ⟨t18, e19, h⟩ := Ho_bind h
    refine J_callVi hx lkV_RX4_334 (rfl : k_sh 0 = (4, k_N 4)) [] [] rfl rfl (Nat.le_of_ble_eq_true rfl) (Nat.le_of_ble_eq_true rfl) (s_X4_keptHouses  ⟨t18, e19, ⟨rfl, rfl, rfl⟩⟩) dX4_countOf_149 ?_
    have h := Ho_some h
    exact J_iret hx hQ dX4_countOf_152 h
  have h := Ho_f c17 h
  by_cases c20 : v1 = (11 : Int32)
  · have h := Ho_t c20 h
    refine J_tIn (x' := (11 : Int32)) (off := 152) hx dX4_countOf_1 c20 (by decide) (by decide) (by decide) 153 (by decide) ?_
    refine J_aload_n hx dX4_countOf_153 0 rfl ?_
    refine J_getR (q := 24) hx fl_RX4_33 (rfl : k_sh 0 = (4, k_N 4)) rfl rfl dX4_countOf_154 ?_
    refine J_iconst (v := (1 : Int32)) hx dX4_countOf_157 (by decide) ?_
    obtain ⟨t21, e22, h⟩ := Ho_bind h
    refine J_callVi hx lkV_RX4_337 (rfl : k_sh 24 = (3, k_N 3)) [.int (1 : Int32)] [] rfl rfl (Nat.le_of_ble_eq_true rfl) (Nat.le_of_ble_eq_true rfl) (s_X3_callersOf k_H24 ⟨t21, e22, ⟨rfl, rfl, rfl⟩⟩) dX4_countOf_158 ?_
    have h := Ho_some h
    exact J_iret hx hQ dX4_countOf_161 h
  have h := Ho_f c20 h
  by_cases c23 : v1 = (12 : Int32)
  · have h := Ho_t c23 h
    refine J_tIn (x' := (12 : Int32)) (off := 161) hx dX4_countOf_1 c23 (by decide) (by decide) (by decide) 162 (by decide) ?_
    refine J_aload_n hx dX4_countOf_162 0 rfl ?_
    refine J_getR (q := 24) hx fl_RX4_33 (rfl : k_sh 0 = (4, k_N 4)) rfl rfl dX4_countOf_163 ?_
    refine J_iconst (v := (2 : Int32)) hx dX4_countOf_166 (by decide) ?_
    obtain ⟨t24, e25, h⟩ := Ho_bind h
    refine J_callVi hx lkV_RX4_337 (rfl : k_sh 24 = (3, k_N 3)) [.int (2 : Int32)] [] rfl rfl (Nat.le_of_ble_eq_true rfl) (Nat.le_of_ble_eq_true rfl) (s_X3_callersOf k_H24 ⟨t24, e25, ⟨rfl, rfl, rfl⟩⟩) dX4_countOf_167 ?_
    have h := Ho_some h
    exact J_iret hx hQ dX4_countOf_170 h
  have h := Ho_f c23 h
  refine J_tDef hx dX4_countOf_1 [(0 : Int32), (1 : Int32), (2 : Int32), (3 : Int32), (4 : Int32), (5 : Int32), (6 : Int32), (7 : Int32), (8 : Int32), (9 : Int32), (10 : Int32), (11 : Int32), (12 : Int32)] (List.forall_mem_cons.mpr ⟨c1, List.forall_mem_cons.mpr ⟨c2, List.forall_mem_cons.mpr ⟨c3, List.forall_mem_cons.mpr ⟨c4, List.forall_mem_cons.mpr ⟨c5, List.forall_mem_cons.mpr ⟨c6, List.forall_mem_cons.mpr ⟨c7, List.forall_mem_cons.mpr ⟨c8, List.forall_mem_cons.mpr ⟨c11, List.forall_mem_cons.mpr ⟨c14, List.forall_mem_cons.mpr ⟨c17, List.forall_mem_cons.mpr ⟨c20, List.forall_mem_cons.mpr ⟨c23, fun _ z => absurd z List.not_mem_nil⟩⟩⟩⟩⟩⟩⟩⟩⟩⟩⟩⟩⟩) (by decide) (by decide) 171 (by decide) ?_
  refine J_iconst (v := (0 : Int32)) hx dX4_countOf_171 (by decide) ?_
  have h := Ho_some h
  exact J_iret hx hQ dX4_countOf_172 h
abbrev kr_X4_count (P : Option Value → StI → StL → Prop) (I : StI) (L : StL) : Int32 → Prop := fun t => P (some (.int t)) I L
def f_X4_count (v1 : Int32) (I : StI) : Option (Int32) :=
  (if v1 < 0 then some ((-1 : Int32)) else (if v1 < (13 : Int32) then Option.bind (f_X4_countOf v1 I) (fun t3 => some (t3)) else some ((-1 : Int32))))
set_option maxRecDepth 100000 in
set_option maxHeartbeats 4000000 in
theorem s_X4_count {l : Launch} {ad : Nat → Nat} {P : Option Value → StI → StL → Prop} {I : StI} {L : StL} {v1 : Int32}  (h : Ho (f_X4_count v1 I) (kr_X4_count P I L)) : k_Met l ad 4 yX4_count cX4_count 2 (some .int) [.ref (ad 0), .int v1] I L P := by
  refine k_enter (by decide +kernel) (Nat.le_of_ble_eq_true rfl) (fun X hl hx hQ => ?_)
  clear hl
  have hx : Ok X cX4_count RX4 2 (some .int) 4 := hx
  show J X ad 2 I L 0 [(0, .ref (ad 0)), (1, .int v1)] []
  unfold f_X4_count at h
  refine J_iload_n hx dX4_count_0 1 rfl ?_
  refine J_if_lt hx dX4_count_1 10 (by decide) (fun c1 => ?_) (fun c1 => ?_)
  · have h := Ho_t c1 h
    refine J_iconst (v := (-1 : Int32)) hx dX4_count_10 (by decide) ?_
    have h := Ho_some h
    exact J_iret hx hQ dX4_count_11 h
  · have h := Ho_f c1 h
    refine J_iload_n hx dX4_count_4 1 rfl ?_
    refine J_bipush (v := (13 : Int32)) hx dX4_count_5 (by decide) ?_
    refine J_ic_lt hx dX4_count_7 12 (by decide) (fun c2 => ?_) (fun c2 => ?_)
    · have h := Ho_t c2 h
      refine J_aload_n hx dX4_count_12 0 rfl ?_
      refine J_iload_n hx dX4_count_13 1 rfl ?_
      obtain ⟨t3, e4, h⟩ := Ho_bind h
      refine J_callVi hx lkV_RX4_270 (rfl : k_sh 0 = (4, k_N 4)) [.int v1] [] rfl rfl (Nat.le_of_ble_eq_true rfl) (Nat.le_of_ble_eq_true rfl) (s_X4_countOf  ⟨t3, e4, ⟨rfl, rfl, rfl⟩⟩) dX4_count_14 ?_
      have h := Ho_some h
      exact J_iret hx hQ dX4_count_17 h
    · have h := Ho_f c2 h
      refine J_iconst (v := (-1 : Int32)) hx dX4_count_10 (by decide) ?_
      have h := Ho_some h
      exact J_iret hx hQ dX4_count_11 h
abbrev kr_X4_countAlike (P : Option Value → StI → StL → Prop) (L : StL) : StI → Prop := fun t => P none t L
abbrev g_X4_countAlike_L54 (X : k_C) (ad : Nat → Nat) (L : StL) (v1 : Int32) (v2 : Int32) (v3 : Int32) : (Int32 × StI) → Prop := fun s => J X ad 5 s.2 L 54 [(0, .ref (ad 0)), (1, .int v1), (2, .int v2), (3, .int v3), (4, .int s.1)] []
abbrev g_X4_countAlike_L10 (X : k_C) (ad : Nat → Nat) (L : StL) (v1 : Int32) (v2 : Int32) : (Int32 × StI) → Prop := fun s => J X ad 5 s.2 L 10 [(0, .ref (ad 0)), (1, .int v1), (2, .int v2), (3, .int s.1)] []
def f_X4_countAlike_L54_b (v1 : Int32) (v2 : Int32) (v3 : Int32) (v4 : Int32) (I : StI) : Option ((Int32 × StI) ⊕ ((Int32 × StI) ⊕ (StI))) :=
  (if (20 : Int32) ≤ v4 then k_let (v3 + (1 : Int32)) (fun x10 => some (.inr (.inl (x10, I)))) else Option.bind (f_X3_isUp 33 I) (fun t11 => Option.bind (f_X3_pass 33 t11 I) (fun t13 => k_gd v1 7 (k_gd ((v4 * (3 : Int32)) + (t13.2 (k_cq 33 v1.toNatClampNeg) 3)) 60 (k_gd ((v4 * (3 : Int32)) + (t13.2 (k_cq 33 v1.toNatClampNeg) 3)) 60 (k_let (k_up t13.2 50 ((v4 * (3 : Int32)) + (t13.2 (k_cq 33 v1.toNatClampNeg) 3)).toNatClampNeg ((t13.2 50 ((v4 * (3 : Int32)) + (t13.2 (k_cq 33 v1.toNatClampNeg) 3)).toNatClampNeg) + (1 : Int32))) (fun I18 => k_let (v4 + (1 : Int32)) (fun x19 => some (.inl (x19, I18))))))))))
def f_X4_countAlike_L54 (v1 : Int32) (v2 : Int32) (v3 : Int32) (n : Nat) (v4 : Int32) (I : StI) : Option ((Int32 × StI) ⊕ (StI)) :=
  k_loop (fun s => f_X4_countAlike_L54_b v1 v2 v3 s.1 s.2) n (v4, I)
set_option maxRecDepth 100000 in
set_option maxHeartbeats 4000000 in
theorem s_X4_countAlike_L54_b {X : k_C} {ad : Nat → Nat} {P : Option Value → StI → StL → Prop} {I : StI} {L : StL} (hx : Ok X cX4_countAlike RX4 5 none 4) (hQ : OkQ X ad P)  {v1 : Int32} {v2 : Int32} {v3 : Int32} {v4 : Int32}  (h : Ho (f_X4_countAlike_L54_b v1 v2 v3 v4 I) (Sum.elim (g_X4_countAlike_L54 X ad L v1 v2 v3) (Sum.elim (g_X4_countAlike_L10 X ad L v1 v2) (kr_X4_countAlike P L)))) : J X ad 5 I L 54 [(0, .ref (ad 0)), (1, .int v1), (2, .int v2), (3, .int v3), (4, .int v4)] [] := by
  unfold f_X4_countAlike_L54_b at h
  refine J_iload hx dX4_countAlike_54 4 rfl ?_
  refine J_bipush (v := (20 : Int32)) hx dX4_countAlike_56 (by decide) ?_
  refine J_ic_ge hx dX4_countAlike_58 108 (by decide) (fun c9 => ?_) (fun c9 => ?_)
  · have h := Ho_t c9 h
    obtain ⟨x10, hx10, h⟩ := Ho_let h
    refine J_iinc (x := x10) (lv' := [(3, .int x10), (0, .ref (ad 0)), (1, .int v1), (2, .int v2), (4, .int v4)]) hx dX4_countAlike_108 3 rfl (by rw [hx10]; rfl) (by decide) rfl ?_
    refine J_goto hx dX4_countAlike_111 10 (by decide) ?_
    refine J_sub (lv' := [(0, .ref (ad 0)), (1, .int v1), (2, .int v2), (3, .int x10)]) hx [1, 2, 3, 0] rfl ?_
    have h := Ho_some h
    exact h
  · have h := Ho_f c9 h
    refine J_aload_n hx dX4_countAlike_61 0 rfl ?_
    refine J_getR (q := 33) hx fl_RX4_36 (rfl : k_sh 0 = (4, k_N 4)) rfl rfl dX4_countAlike_62 ?_
    refine J_aload_n hx dX4_countAlike_65 0 rfl ?_
    refine J_getR (q := 33) hx fl_RX4_36 (rfl : k_sh 0 = (4, k_N 4)) rfl rfl dX4_countAlike_66 ?_
    obtain ⟨t11, e12, h⟩ := Ho_bind h
    refine J_callVi hx lkV_RX4_203 (rfl : k_sh 33 = (3, k_N 3)) [] [.ref (ad 33)] rfl rfl (Nat.le_of_ble_eq_true rfl) (Nat.le_of_ble_eq_true rfl) (s_X3_isUp k_H33 ⟨t11, e12, ⟨rfl, rfl, rfl⟩⟩) dX4_countAlike_69 ?_
    obtain ⟨t13, e14, h⟩ := Ho_bind h
    refine J_callVi hx lkV_RX4_206 (rfl : k_sh 33 = (3, k_N 3)) [.int t11] [] rfl rfl (Nat.le_of_ble_eq_true rfl) (Nat.le_of_ble_eq_true rfl) (s_X3_pass k_H33 ⟨t13, e14, ⟨rfl, rfl, rfl⟩⟩) dX4_countAlike_72 ?_
    refine J_pop hx dX4_countAlike_75 rfl ?_
    refine J_aload_n hx dX4_countAlike_76 0 rfl ?_
    refine J_getR (q := 50) hx fl_RX4_77 (rfl : k_sh 0 = (4, k_N 4)) rfl rfl dX4_countAlike_77 ?_
    refine J_iload hx dX4_countAlike_80 4 rfl ?_
    refine J_iconst (v := (3 : Int32)) hx dX4_countAlike_82 (by decide) ?_
    refine J_imul hx dX4_countAlike_83 ?_
    refine J_aload_n hx dX4_countAlike_84 0 rfl ?_
    refine J_getR (q := 33) hx fl_RX4_36 (rfl : k_sh 0 = (4, k_N 4)) rfl rfl dX4_countAlike_85 ?_
    refine J_getR (q := 34) hx fl_RX4_129 (rfl : k_sh 33 = (3, k_N 3)) rfl rfl dX4_countAlike_88 ?_
    refine J_iload_n hx dX4_countAlike_91 1 rfl ?_
    obtain ⟨b15, h⟩ := Ho_gd h
    refine J_aald (q := (k_cq 33 v1.toNatClampNeg)) hx (rfl : k_sh 34 = (13, 7)) (by decide) (by decide) b15 (k_Hr k_H33) dX4_countAlike_92 ?_
    refine J_getI hx fl_RX4_177 (k_H2 k_H33 b15) rfl dX4_countAlike_93 ?_
    refine J_iadd hx dX4_countAlike_96 ?_
    refine J_dup2 hx dX4_countAlike_97 rfl rfl ?_
    obtain ⟨b16, h⟩ := Ho_gd h
    refine J_iald hx (rfl : k_sh 50 = (10, 60)) b16 dX4_countAlike_98 ?_
    refine J_iconst (v := (1 : Int32)) hx dX4_countAlike_99 (by decide) ?_
    refine J_iadd hx dX4_countAlike_100 ?_
    obtain ⟨b17, h⟩ := Ho_gd h
    obtain ⟨I18, hI18, h⟩ := Ho_let h
    refine J_iast hx (rfl : k_sh 50 = (10, 60)) b17 dX4_countAlike_101 hI18 ?_
    obtain ⟨x19, hx19, h⟩ := Ho_let h
    refine J_iinc (x := x19) (lv' := [(4, .int x19), (0, .ref (ad 0)), (1, .int v1), (2, .int v2), (3, .int v3)]) hx dX4_countAlike_102 4 rfl (by rw [hx19]; rfl) (by decide) rfl ?_
    refine J_goto hx dX4_countAlike_105 54 (by decide) ?_
    refine J_sub (lv' := [(0, .ref (ad 0)), (1, .int v1), (2, .int v2), (3, .int v3), (4, .int x19)]) hx [1, 2, 3, 4, 0] rfl ?_
    have h := Ho_some h
    exact h
set_option maxRecDepth 100000 in
set_option maxHeartbeats 4000000 in
theorem s_X4_countAlike_L54 {X : k_C} {ad : Nat → Nat} {P : Option Value → StI → StL → Prop} {I : StI} {L : StL} (hx : Ok X cX4_countAlike RX4 5 none 4) (hQ : OkQ X ad P)  {v1 : Int32} {v2 : Int32} {v3 : Int32} {v4 : Int32}  (n : Nat) (h : Ho (f_X4_countAlike_L54 v1 v2 v3 n v4 I) (Sum.elim (g_X4_countAlike_L10 X ad L v1 v2) (kr_X4_countAlike P L))) : J X ad 5 I L 54 [(0, .ref (ad 0)), (1, .int v1), (2, .int v2), (3, .int v3), (4, .int v4)] [] := by
  exact k_loop_ho (G := g_X4_countAlike_L54 X ad L v1 v2 v3) (fun s hs => s_X4_countAlike_L54_b hx hQ  hs) n (v4, I) h
def f_X4_countAlike_L10_b (v1 : Int32) (v2 : Int32) (v3 : Int32) (I : StI) : Option ((Int32 × StI) ⊕ (StI)) :=
  (if (6 : Int32) ≤ v3 then some (.inr (I)) else (if ((v2 >>> (v3 &&& 31)) &&& (1 : Int32)) = 0 then k_let (v3 + (1 : Int32)) (fun x20 => some (.inl (x20, I))) else Option.bind (f_X3_become 33 24 I) (fun t5 => k_gd v1 7 (k_let (k_up t5 (k_cq 33 v1.toNatClampNeg) 0 v3) (fun I8 => f_X4_countAlike_L54 v1 v2 v3 k_fu (0 : Int32) I8)))))
def f_X4_countAlike_L10 (v1 : Int32) (v2 : Int32) (n : Nat) (v3 : Int32) (I : StI) : Option (StI) :=
  k_loop (fun s => f_X4_countAlike_L10_b v1 v2 s.1 s.2) n (v3, I)
set_option maxRecDepth 100000 in
set_option maxHeartbeats 4000000 in
theorem s_X4_countAlike_L10_b {X : k_C} {ad : Nat → Nat} {P : Option Value → StI → StL → Prop} {I : StI} {L : StL} (hx : Ok X cX4_countAlike RX4 5 none 4) (hQ : OkQ X ad P)  {v1 : Int32} {v2 : Int32} {v3 : Int32}  (h : Ho (f_X4_countAlike_L10_b v1 v2 v3 I) (Sum.elim (g_X4_countAlike_L10 X ad L v1 v2) (kr_X4_countAlike P L))) : J X ad 5 I L 10 [(0, .ref (ad 0)), (1, .int v1), (2, .int v2), (3, .int v3)] [] := by
  unfold f_X4_countAlike_L10_b at h
  refine J_iload_n hx dX4_countAlike_10 3 rfl ?_
  refine J_bipush (v := (6 : Int32)) hx dX4_countAlike_11 (by decide) ?_
  refine J_ic_ge hx dX4_countAlike_13 114 (by decide) (fun c3 => ?_) (fun c3 => ?_)
  · have h := Ho_t c3 h
    have h := Ho_some h
    exact J_vret hx hQ dX4_countAlike_114 h
  · have h := Ho_f c3 h
    refine J_iload_n hx dX4_countAlike_16 2 rfl ?_
    refine J_iload_n hx dX4_countAlike_17 3 rfl ?_
    refine J_ishr hx dX4_countAlike_18 ?_
    refine J_iconst (v := (1 : Int32)) hx dX4_countAlike_19 (by decide) ?_
    refine J_iand hx dX4_countAlike_20 ?_
    refine J_if_ne hx dX4_countAlike_21 27 (by decide) (fun c4 => ?_) (fun c4 => ?_)
    · have h := Ho_f c4 h
      refine J_aload_n hx dX4_countAlike_27 0 rfl ?_
      refine J_getR (q := 33) hx fl_RX4_36 (rfl : k_sh 0 = (4, k_N 4)) rfl rfl dX4_countAlike_28 ?_
      refine J_aload_n hx dX4_countAlike_31 0 rfl ?_
      refine J_getR (q := 24) hx fl_RX4_33 (rfl : k_sh 0 = (4, k_N 4)) rfl rfl dX4_countAlike_32 ?_
      obtain ⟨t5, e6, h⟩ := Ho_bind h
      refine J_callVv hx lkV_RX4_121 (rfl : k_sh 33 = (3, k_N 3)) [.ref (ad 24)] [] rfl rfl (Nat.le_of_ble_eq_true rfl) (Nat.le_of_ble_eq_true rfl) (s_X3_become k_H33 k_H24 ⟨t5, e6, ⟨rfl, rfl, rfl⟩⟩) dX4_countAlike_35 ?_
      refine J_aload_n hx dX4_countAlike_38 0 rfl ?_
      refine J_getR (q := 33) hx fl_RX4_36 (rfl : k_sh 0 = (4, k_N 4)) rfl rfl dX4_countAlike_39 ?_
      refine J_getR (q := 34) hx fl_RX4_129 (rfl : k_sh 33 = (3, k_N 3)) rfl rfl dX4_countAlike_42 ?_
      refine J_iload_n hx dX4_countAlike_45 1 rfl ?_
      obtain ⟨b7, h⟩ := Ho_gd h
      refine J_aald (q := (k_cq 33 v1.toNatClampNeg)) hx (rfl : k_sh 34 = (13, 7)) (by decide) (by decide) b7 (k_Hr k_H33) dX4_countAlike_46 ?_
      refine J_iload_n hx dX4_countAlike_47 3 rfl ?_
      obtain ⟨I8, hI8, h⟩ := Ho_let h
      refine J_putI hx flW_RX4_302 (k_H2 k_H33 b7) rfl dX4_countAlike_48 hI8 ?_
      refine J_iconst (v := (0 : Int32)) hx dX4_countAlike_51 (by decide) ?_
      refine J_istore (x := (0 : Int32)) (lv' := [(4, .int (0 : Int32)), (0, .ref (ad 0)), (1, .int v1), (2, .int v2), (3, .int v3)]) hx dX4_countAlike_52 rfl (by decide) rfl ?_
      refine J_sub (lv' := [(0, .ref (ad 0)), (1, .int v1), (2, .int v2), (3, .int v3), (4, .int (0 : Int32))]) hx [1, 2, 3, 4, 0] rfl ?_
      exact s_X4_countAlike_L54 hx hQ  k_fu h
    · have h := Ho_t c4 h
      refine J_goto hx dX4_countAlike_24 108 (by decide) ?_
      obtain ⟨x20, hx20, h⟩ := Ho_let h
      refine J_iinc (x := x20) (lv' := [(3, .int x20), (0, .ref (ad 0)), (1, .int v1), (2, .int v2)]) hx dX4_countAlike_108 3 rfl (by rw [hx20]; rfl) (by decide) rfl ?_
      refine J_goto hx dX4_countAlike_111 10 (by decide) ?_
      refine J_sub (lv' := [(0, .ref (ad 0)), (1, .int v1), (2, .int v2), (3, .int x20)]) hx [1, 2, 3, 0] rfl ?_
      have h := Ho_some h
      exact h
set_option maxRecDepth 100000 in
set_option maxHeartbeats 4000000 in
theorem s_X4_countAlike_L10 {X : k_C} {ad : Nat → Nat} {P : Option Value → StI → StL → Prop} {I : StI} {L : StL} (hx : Ok X cX4_countAlike RX4 5 none 4) (hQ : OkQ X ad P)  {v1 : Int32} {v2 : Int32} {v3 : Int32}  (n : Nat) (h : Ho (f_X4_countAlike_L10 v1 v2 n v3 I) (kr_X4_countAlike P L)) : J X ad 5 I L 10 [(0, .ref (ad 0)), (1, .int v1), (2, .int v2), (3, .int v3)] [] := by
  exact k_loop_ho (G := g_X4_countAlike_L10 X ad L v1 v2) (fun s hs => s_X4_countAlike_L10_b hx hQ  hs) n (v3, I) h
def f_X4_countAlike (v1 : Int32) (v2 : Int32) (I : StI) : Option (StI) :=
  Option.bind (f_J7_fill_53178 50 (0 : Int32) I) (fun t1 => f_X4_countAlike_L10 v1 v2 k_fu (0 : Int32) t1)
set_option maxRecDepth 100000 in
set_option maxHeartbeats 4000000 in
theorem s_X4_countAlike {l : Launch} {ad : Nat → Nat} {P : Option Value → StI → StL → Prop} {I : StI} {L : StL} {v1 : Int32} {v2 : Int32}  (h : Ho (f_X4_countAlike v1 v2 I) (kr_X4_countAlike P L)) : k_Met l ad 4 yX4_countAlike cX4_countAlike 5 none [.ref (ad 0), .int v1, .int v2] I L P := by
  refine k_enter (by decide +kernel) (Nat.le_of_ble_eq_true rfl) (fun X hl hx hQ => ?_)
  clear hl
  have hx : Ok X cX4_countAlike RX4 5 none 4 := hx
  show J X ad 5 I L 0 [(0, .ref (ad 0)), (1, .int v1), (2, .int v2)] []
  unfold f_X4_countAlike at h
  refine J_aload_n hx dX4_countAlike_0 0 rfl ?_
  refine J_getR (q := 50) hx fl_RX4_77 (rfl : k_sh 0 = (4, k_N 4)) rfl rfl dX4_countAlike_1 ?_
  refine J_iconst (v := (0 : Int32)) hx dX4_countAlike_4 (by decide) ?_
  obtain ⟨t1, e2, h⟩ := Ho_bind h
  refine J_callSv hx lkS_RX4_80 [.ref (ad 50), .int (0 : Int32)] [] rfl rfl (Nat.le_of_ble_eq_true rfl) (Nat.le_of_ble_eq_true rfl) (s_J7_fill_53178 (congrArg Prod.fst (rfl : k_sh 50 = (10, 60))) ⟨t1, e2, ⟨rfl, rfl, rfl⟩⟩) dX4_countAlike_5 ?_
  refine J_iconst (v := (0 : Int32)) hx dX4_countAlike_8 (by decide) ?_
  refine J_istore_n (x := (0 : Int32)) (lv' := [(3, .int (0 : Int32)), (0, .ref (ad 0)), (1, .int v1), (2, .int v2)]) hx dX4_countAlike_9 rfl (by decide) rfl ?_
  refine J_sub (lv' := [(0, .ref (ad 0)), (1, .int v1), (2, .int v2), (3, .int (0 : Int32))]) hx [1, 2, 3, 0] rfl ?_
  exact s_X4_countAlike_L10 hx hQ  k_fu h
abbrev kr_X4_digestRows (P : Option Value → StI → StL → Prop) (I : StI) (L : StL) : Int64 → Prop := fun t => P (some (.long t)) I L
abbrev g_X4_digestRows_L30 (X : k_C) (ad : Nat → Nat) (I : StI) (L : StL) (v5 : Int32) : (Int64 × Int32) → Prop := fun s => J X ad 7 I L 30 [(0, .ref (ad 0)), (3, .long s.1), (5, .int v5), (6, .int s.2)] []
abbrev g_X4_digestRows_L5 (X : k_C) (ad : Nat → Nat) (I : StI) (L : StL) : (Int64 × Int32) → Prop := fun s => J X ad 7 I L 5 [(0, .ref (ad 0)), (3, .long s.1), (5, .int s.2)] []
def f_X4_digestRows_L30_b (v3 : Int64) (v5 : Int32) (v6 : Int32) (I : StI) : Option ((Int64 × Int32) ⊕ ((Int64 × Int32) ⊕ (Int64))) :=
  k_gd v5 6 ((if (I 8 v5.toNatClampNeg) ≤ v6 then k_let (v5 + (1 : Int32)) (fun x6 => some (.inr (.inl (v3, x6)))) else k_gd v5 6 (k_gd v6 40 (k_let (((31 : Int64) * v3) + ((I (k_rq v5.toNatClampNeg) v6.toNatClampNeg)).toInt64) (fun x9 => k_let (v6 + (1 : Int32)) (fun x10 => some (.inl (x9, x10))))))))
def f_X4_digestRows_L30 (v5 : Int32) (I : StI) (n : Nat) (v3 : Int64) (v6 : Int32) : Option ((Int64 × Int32) ⊕ (Int64)) :=
  k_loop (fun s => f_X4_digestRows_L30_b s.1 v5 s.2 I) n (v3, v6)
set_option maxRecDepth 100000 in
set_option maxHeartbeats 4000000 in
theorem s_X4_digestRows_L30_b {X : k_C} {ad : Nat → Nat} {P : Option Value → StI → StL → Prop} {I : StI} {L : StL} (hx : Ok X cX4_digestRows RX4 7 (some .long) 1) (hQ : OkQ X ad P)  {v3 : Int64} {v5 : Int32} {v6 : Int32}  (h : Ho (f_X4_digestRows_L30_b v3 v5 v6 I) (Sum.elim (g_X4_digestRows_L30 X ad I L v5) (Sum.elim (g_X4_digestRows_L5 X ad I L) (kr_X4_digestRows P I L)))) : J X ad 7 I L 30 [(0, .ref (ad 0)), (3, .long v3), (5, .int v5), (6, .int v6)] [] := by
  unfold f_X4_digestRows_L30_b at h
  refine J_iload hx dX4_digestRows_30 3 rfl ?_
  refine J_aload_n hx dX4_digestRows_32 0 rfl ?_
  refine J_getR (q := 8) hx fl_RX4_14 (rfl : k_sh 0 = (4, k_N 4)) rfl rfl dX4_digestRows_33 ?_
  refine J_iload hx dX4_digestRows_36 2 rfl ?_
  obtain ⟨b4, h⟩ := Ho_gd h
  refine J_iald hx (rfl : k_sh 8 = (10, 6)) b4 dX4_digestRows_38 ?_
  refine J_ic_ge hx dX4_digestRows_39 66 (by decide) (fun c5 => ?_) (fun c5 => ?_)
  · have h := Ho_t c5 h
    obtain ⟨x6, hx6, h⟩ := Ho_let h
    refine J_iinc (x := x6) (lv' := [(5, .int x6), (0, .ref (ad 0)), (3, .long v3), (6, .int v6)]) hx dX4_digestRows_66 2 rfl (by rw [hx6]; rfl) (by decide) rfl ?_
    refine J_goto hx dX4_digestRows_69 5 (by decide) ?_
    refine J_sub (lv' := [(0, .ref (ad 0)), (3, .long v3), (5, .int x6)]) hx [1, 2, 0] rfl ?_
    have h := Ho_some h
    exact h
  · have h := Ho_f c5 h
    refine J_ldc2 hx cn_RX4_275 dX4_digestRows_42 ?_
    refine J_lload_n hx dX4_digestRows_45 1 rfl ?_
    refine J_lmul hx dX4_digestRows_46 ?_
    refine J_aload_n hx dX4_digestRows_47 0 rfl ?_
    refine J_getR (q := 1) hx fl_RX4_11 (rfl : k_sh 0 = (4, k_N 4)) rfl rfl dX4_digestRows_48 ?_
    refine J_iload hx dX4_digestRows_51 2 rfl ?_
    obtain ⟨b7, h⟩ := Ho_gd h
    refine J_aald (q := (k_rq v5.toNatClampNeg)) hx (rfl : k_sh 1 = (15, 6)) (by decide) (by decide) b7 k_Rr dX4_digestRows_53 ?_
    refine J_iload hx dX4_digestRows_54 3 rfl ?_
    obtain ⟨b8, h⟩ := Ho_gd h
    refine J_iald hx (k_Rq b7) b8 dX4_digestRows_56 ?_
    refine J_i2l hx dX4_digestRows_57 ?_
    refine J_ladd hx dX4_digestRows_58 ?_
    obtain ⟨x9, hx9, h⟩ := Ho_let h
    refine J_lstore_n (x := x9) (lv' := [(3, .long x9), (0, .ref (ad 0)), (5, .int v5), (6, .int v6)]) hx dX4_digestRows_59 hx9 (by decide) rfl ?_
    obtain ⟨x10, hx10, h⟩ := Ho_let h
    refine J_iinc (x := x10) (lv' := [(6, .int x10), (3, .long x9), (0, .ref (ad 0)), (5, .int v5)]) hx dX4_digestRows_60 3 rfl (by rw [hx10]; rfl) (by decide) rfl ?_
    refine J_goto hx dX4_digestRows_63 30 (by decide) ?_
    refine J_sub (lv' := [(0, .ref (ad 0)), (3, .long x9), (5, .int v5), (6, .int x10)]) hx [2, 1, 3, 0] rfl ?_
    have h := Ho_some h
    exact h
set_option maxRecDepth 100000 in
set_option maxHeartbeats 4000000 in
theorem s_X4_digestRows_L30 {X : k_C} {ad : Nat → Nat} {P : Option Value → StI → StL → Prop} {I : StI} {L : StL} (hx : Ok X cX4_digestRows RX4 7 (some .long) 1) (hQ : OkQ X ad P)  {v3 : Int64} {v5 : Int32} {v6 : Int32}  (n : Nat) (h : Ho (f_X4_digestRows_L30 v5 I n v3 v6) (Sum.elim (g_X4_digestRows_L5 X ad I L) (kr_X4_digestRows P I L))) : J X ad 7 I L 30 [(0, .ref (ad 0)), (3, .long v3), (5, .int v5), (6, .int v6)] [] := by
  exact k_loop_ho (G := g_X4_digestRows_L30 X ad I L v5) (fun s hs => s_X4_digestRows_L30_b hx hQ  hs) n (v3, v6) h
def f_X4_digestRows_L5_b (v3 : Int64) (v5 : Int32) (I : StI) : Option ((Int64 × Int32) ⊕ (Int64)) :=
  (if (6 : Int32) ≤ v5 then some (.inr (v3)) else k_gd v5 6 (k_let (((31 : Int64) * v3) + ((I 8 v5.toNatClampNeg)).toInt64) (fun x3 => f_X4_digestRows_L30 v5 I k_fu x3 (0 : Int32))))
def f_X4_digestRows_L5 (I : StI) (n : Nat) (v3 : Int64) (v5 : Int32) : Option (Int64) :=
  k_loop (fun s => f_X4_digestRows_L5_b s.1 s.2 I) n (v3, v5)
set_option maxRecDepth 100000 in
set_option maxHeartbeats 4000000 in
theorem s_X4_digestRows_L5_b {X : k_C} {ad : Nat → Nat} {P : Option Value → StI → StL → Prop} {I : StI} {L : StL} (hx : Ok X cX4_digestRows RX4 7 (some .long) 1) (hQ : OkQ X ad P)  {v3 : Int64} {v5 : Int32}  (h : Ho (f_X4_digestRows_L5_b v3 v5 I) (Sum.elim (g_X4_digestRows_L5 X ad I L) (kr_X4_digestRows P I L))) : J X ad 7 I L 5 [(0, .ref (ad 0)), (3, .long v3), (5, .int v5)] [] := by
  unfold f_X4_digestRows_L5_b at h
  refine J_iload hx dX4_digestRows_5 2 rfl ?_
  refine J_bipush (v := (6 : Int32)) hx dX4_digestRows_7 (by decide) ?_
  refine J_ic_ge hx dX4_digestRows_9 72 (by decide) (fun c1 => ?_) (fun c1 => ?_)
  · have h := Ho_t c1 h
    refine J_lload_n hx dX4_digestRows_72 1 rfl ?_
    have h := Ho_some h
    exact J_lret hx hQ dX4_digestRows_73 h
  · have h := Ho_f c1 h
    refine J_ldc2 hx cn_RX4_275 dX4_digestRows_12 ?_
    refine J_lload_n hx dX4_digestRows_15 1 rfl ?_
    refine J_lmul hx dX4_digestRows_16 ?_
    refine J_aload_n hx dX4_digestRows_17 0 rfl ?_
    refine J_getR (q := 8) hx fl_RX4_14 (rfl : k_sh 0 = (4, k_N 4)) rfl rfl dX4_digestRows_18 ?_
    refine J_iload hx dX4_digestRows_21 2 rfl ?_
    obtain ⟨b2, h⟩ := Ho_gd h
    refine J_iald hx (rfl : k_sh 8 = (10, 6)) b2 dX4_digestRows_23 ?_
    refine J_i2l hx dX4_digestRows_24 ?_
    refine J_ladd hx dX4_digestRows_25 ?_
    obtain ⟨x3, hx3, h⟩ := Ho_let h
    refine J_lstore_n (x := x3) (lv' := [(3, .long x3), (0, .ref (ad 0)), (5, .int v5)]) hx dX4_digestRows_26 hx3 (by decide) rfl ?_
    refine J_iconst (v := (0 : Int32)) hx dX4_digestRows_27 (by decide) ?_
    refine J_istore (x := (0 : Int32)) (lv' := [(6, .int (0 : Int32)), (3, .long x3), (0, .ref (ad 0)), (5, .int v5)]) hx dX4_digestRows_28 rfl (by decide) rfl ?_
    refine J_sub (lv' := [(0, .ref (ad 0)), (3, .long x3), (5, .int v5), (6, .int (0 : Int32))]) hx [2, 1, 3, 0] rfl ?_
    exact s_X4_digestRows_L30 hx hQ  k_fu h
set_option maxRecDepth 100000 in
set_option maxHeartbeats 4000000 in
theorem s_X4_digestRows_L5 {X : k_C} {ad : Nat → Nat} {P : Option Value → StI → StL → Prop} {I : StI} {L : StL} (hx : Ok X cX4_digestRows RX4 7 (some .long) 1) (hQ : OkQ X ad P)  {v3 : Int64} {v5 : Int32}  (n : Nat) (h : Ho (f_X4_digestRows_L5 I n v3 v5) (kr_X4_digestRows P I L)) : J X ad 7 I L 5 [(0, .ref (ad 0)), (3, .long v3), (5, .int v5)] [] := by
  exact k_loop_ho (G := g_X4_digestRows_L5 X ad I L) (fun s hs => s_X4_digestRows_L5_b hx hQ  hs) n (v3, v5) h
def f_X4_digestRows (v1 : Int64) (I : StI) : Option (Int64) :=
  f_X4_digestRows_L5 I k_fu v1 (0 : Int32)
set_option maxRecDepth 100000 in
set_option maxHeartbeats 4000000 in
theorem s_X4_digestRows {l : Launch} {ad : Nat → Nat} {P : Option Value → StI → StL → Prop} {I : StI} {L : StL} {v1 : Int64}  (h : Ho (f_X4_digestRows v1 I) (kr_X4_digestRows P I L)) : k_Met l ad 1 yX4_digestRows cX4_digestRows 7 (some .long) [.ref (ad 0), .long v1] I L P := by
  refine k_enter (by decide +kernel) (Nat.le_of_ble_eq_true rfl) (fun X hl hx hQ => ?_)
  clear hl
  have hx : Ok X cX4_digestRows RX4 7 (some .long) 1 := hx
  show J X ad 7 I L 0 [(0, .ref (ad 0)), (1, .long v1)] []
  unfold f_X4_digestRows at h
  refine J_lload_n hx dX4_digestRows_0 1 rfl ?_
  refine J_lstore_n (x := v1) (lv' := [(3, .long v1), (0, .ref (ad 0)), (1, .long v1)]) hx dX4_digestRows_1 rfl (by decide) rfl ?_
  refine J_iconst (v := (0 : Int32)) hx dX4_digestRows_2 (by decide) ?_
  refine J_istore (x := (0 : Int32)) (lv' := [(5, .int (0 : Int32)), (3, .long v1), (0, .ref (ad 0)), (1, .long v1)]) hx dX4_digestRows_3 rfl (by decide) rfl ?_
  refine J_sub (lv' := [(0, .ref (ad 0)), (3, .long v1), (5, .int (0 : Int32))]) hx [2, 1, 0] rfl ?_
  exact s_X4_digestRows_L5 hx hQ  k_fu h
abbrev kr_X4_digestTexts (P : Option Value → StI → StL → Prop) (I : StI) (L : StL) : Int64 → Prop := fun t => P (some (.long t)) I L
abbrev g_X4_digestTexts_L29 (X : k_C) (ad : Nat → Nat) (I : StI) (L : StL) (v5 : Int32) : (Int64 × Int32) → Prop := fun s => J X ad 7 I L 29 [(0, .ref (ad 0)), (3, .long s.1), (5, .int v5), (6, .int s.2)] []
abbrev g_X4_digestTexts_L5 (X : k_C) (ad : Nat → Nat) (I : StI) (L : StL) : (Int64 × Int32) → Prop := fun s => J X ad 7 I L 5 [(0, .ref (ad 0)), (3, .long s.1), (5, .int s.2)] []
def f_X4_digestTexts_L29_b (v3 : Int64) (v5 : Int32) (v6 : Int32) (I : StI) : Option ((Int64 × Int32) ⊕ ((Int64 × Int32) ⊕ (Int64))) :=
  k_gd v5 4 ((if (I 14 v5.toNatClampNeg) ≤ v6 then k_let (v5 + (1 : Int32)) (fun x6 => some (.inr (.inl (v3, x6)))) else k_gd v5 4 (k_gd v6 60 (k_let (((31 : Int64) * v3) + ((I (k_tq v5.toNatClampNeg) v6.toNatClampNeg)).toInt64) (fun x9 => k_let (v6 + (1 : Int32)) (fun x10 => some (.inl (x9, x10))))))))
def f_X4_digestTexts_L29 (v5 : Int32) (I : StI) (n : Nat) (v3 : Int64) (v6 : Int32) : Option ((Int64 × Int32) ⊕ (Int64)) :=
  k_loop (fun s => f_X4_digestTexts_L29_b s.1 v5 s.2 I) n (v3, v6)
set_option maxRecDepth 100000 in
set_option maxHeartbeats 4000000 in
theorem s_X4_digestTexts_L29_b {X : k_C} {ad : Nat → Nat} {P : Option Value → StI → StL → Prop} {I : StI} {L : StL} (hx : Ok X cX4_digestTexts RX4 7 (some .long) 1) (hQ : OkQ X ad P)  {v3 : Int64} {v5 : Int32} {v6 : Int32}  (h : Ho (f_X4_digestTexts_L29_b v3 v5 v6 I) (Sum.elim (g_X4_digestTexts_L29 X ad I L v5) (Sum.elim (g_X4_digestTexts_L5 X ad I L) (kr_X4_digestTexts P I L)))) : J X ad 7 I L 29 [(0, .ref (ad 0)), (3, .long v3), (5, .int v5), (6, .int v6)] [] := by
  unfold f_X4_digestTexts_L29_b at h
  refine J_iload hx dX4_digestTexts_29 3 rfl ?_
  refine J_aload_n hx dX4_digestTexts_31 0 rfl ?_
  refine J_getR (q := 14) hx fl_RX4_23 (rfl : k_sh 0 = (4, k_N 4)) rfl rfl dX4_digestTexts_32 ?_
  refine J_iload hx dX4_digestTexts_35 2 rfl ?_
  obtain ⟨b4, h⟩ := Ho_gd h
  refine J_iald hx (rfl : k_sh 14 = (10, 4)) b4 dX4_digestTexts_37 ?_
  refine J_ic_ge hx dX4_digestTexts_38 65 (by decide) (fun c5 => ?_) (fun c5 => ?_)
  · have h := Ho_t c5 h
    obtain ⟨x6, hx6, h⟩ := Ho_let h
    refine J_iinc (x := x6) (lv' := [(5, .int x6), (0, .ref (ad 0)), (3, .long v3), (6, .int v6)]) hx dX4_digestTexts_65 2 rfl (by rw [hx6]; rfl) (by decide) rfl ?_
    refine J_goto hx dX4_digestTexts_68 5 (by decide) ?_
    refine J_sub (lv' := [(0, .ref (ad 0)), (3, .long v3), (5, .int x6)]) hx [1, 2, 0] rfl ?_
    have h := Ho_some h
    exact h
  · have h := Ho_f c5 h
    refine J_ldc2 hx cn_RX4_275 dX4_digestTexts_41 ?_
    refine J_lload_n hx dX4_digestTexts_44 1 rfl ?_
    refine J_lmul hx dX4_digestTexts_45 ?_
    refine J_aload_n hx dX4_digestTexts_46 0 rfl ?_
    refine J_getR (q := 9) hx fl_RX4_20 (rfl : k_sh 0 = (4, k_N 4)) rfl rfl dX4_digestTexts_47 ?_
    refine J_iload hx dX4_digestTexts_50 2 rfl ?_
    obtain ⟨b7, h⟩ := Ho_gd h
    refine J_aald (q := (k_tq v5.toNatClampNeg)) hx (rfl : k_sh 9 = (16, 4)) (by decide) (by decide) b7 k_Tr dX4_digestTexts_52 ?_
    refine J_iload hx dX4_digestTexts_53 3 rfl ?_
    obtain ⟨b8, h⟩ := Ho_gd h
    refine J_bald hx (k_Tq b7) b8 dX4_digestTexts_55 ?_
    refine J_i2l hx dX4_digestTexts_56 ?_
    refine J_ladd hx dX4_digestTexts_57 ?_
    obtain ⟨x9, hx9, h⟩ := Ho_let h
    refine J_lstore_n (x := x9) (lv' := [(3, .long x9), (0, .ref (ad 0)), (5, .int v5), (6, .int v6)]) hx dX4_digestTexts_58 hx9 (by decide) rfl ?_
    obtain ⟨x10, hx10, h⟩ := Ho_let h
    refine J_iinc (x := x10) (lv' := [(6, .int x10), (3, .long x9), (0, .ref (ad 0)), (5, .int v5)]) hx dX4_digestTexts_59 3 rfl (by rw [hx10]; rfl) (by decide) rfl ?_
    refine J_goto hx dX4_digestTexts_62 29 (by decide) ?_
    refine J_sub (lv' := [(0, .ref (ad 0)), (3, .long x9), (5, .int v5), (6, .int x10)]) hx [2, 1, 3, 0] rfl ?_
    have h := Ho_some h
    exact h
set_option maxRecDepth 100000 in
set_option maxHeartbeats 4000000 in
theorem s_X4_digestTexts_L29 {X : k_C} {ad : Nat → Nat} {P : Option Value → StI → StL → Prop} {I : StI} {L : StL} (hx : Ok X cX4_digestTexts RX4 7 (some .long) 1) (hQ : OkQ X ad P)  {v3 : Int64} {v5 : Int32} {v6 : Int32}  (n : Nat) (h : Ho (f_X4_digestTexts_L29 v5 I n v3 v6) (Sum.elim (g_X4_digestTexts_L5 X ad I L) (kr_X4_digestTexts P I L))) : J X ad 7 I L 29 [(0, .ref (ad 0)), (3, .long v3), (5, .int v5), (6, .int v6)] [] := by
  exact k_loop_ho (G := g_X4_digestTexts_L29 X ad I L v5) (fun s hs => s_X4_digestTexts_L29_b hx hQ  hs) n (v3, v6) h
def f_X4_digestTexts_L5_b (v3 : Int64) (v5 : Int32) (I : StI) : Option ((Int64 × Int32) ⊕ (Int64)) :=
  (if (4 : Int32) ≤ v5 then some (.inr (v3)) else k_gd v5 4 (k_let (((31 : Int64) * v3) + ((I 14 v5.toNatClampNeg)).toInt64) (fun x3 => f_X4_digestTexts_L29 v5 I k_fu x3 (0 : Int32))))
def f_X4_digestTexts_L5 (I : StI) (n : Nat) (v3 : Int64) (v5 : Int32) : Option (Int64) :=
  k_loop (fun s => f_X4_digestTexts_L5_b s.1 s.2 I) n (v3, v5)
set_option maxRecDepth 100000 in
set_option maxHeartbeats 4000000 in
theorem s_X4_digestTexts_L5_b {X : k_C} {ad : Nat → Nat} {P : Option Value → StI → StL → Prop} {I : StI} {L : StL} (hx : Ok X cX4_digestTexts RX4 7 (some .long) 1) (hQ : OkQ X ad P)  {v3 : Int64} {v5 : Int32}  (h : Ho (f_X4_digestTexts_L5_b v3 v5 I) (Sum.elim (g_X4_digestTexts_L5 X ad I L) (kr_X4_digestTexts P I L))) : J X ad 7 I L 5 [(0, .ref (ad 0)), (3, .long v3), (5, .int v5)] [] := by
  unfold f_X4_digestTexts_L5_b at h
  refine J_iload hx dX4_digestTexts_5 2 rfl ?_
  refine J_iconst (v := (4 : Int32)) hx dX4_digestTexts_7 (by decide) ?_
  refine J_ic_ge hx dX4_digestTexts_8 71 (by decide) (fun c1 => ?_) (fun c1 => ?_)
  · have h := Ho_t c1 h
    refine J_lload_n hx dX4_digestTexts_71 1 rfl ?_
    have h := Ho_some h
    exact J_lret hx hQ dX4_digestTexts_72 h
  · have h := Ho_f c1 h
    refine J_ldc2 hx cn_RX4_275 dX4_digestTexts_11 ?_
    refine J_lload_n hx dX4_digestTexts_14 1 rfl ?_
    refine J_lmul hx dX4_digestTexts_15 ?_
    refine J_aload_n hx dX4_digestTexts_16 0 rfl ?_
    refine J_getR (q := 14) hx fl_RX4_23 (rfl : k_sh 0 = (4, k_N 4)) rfl rfl dX4_digestTexts_17 ?_
    refine J_iload hx dX4_digestTexts_20 2 rfl ?_
    obtain ⟨b2, h⟩ := Ho_gd h
    refine J_iald hx (rfl : k_sh 14 = (10, 4)) b2 dX4_digestTexts_22 ?_
    refine J_i2l hx dX4_digestTexts_23 ?_
    refine J_ladd hx dX4_digestTexts_24 ?_
    obtain ⟨x3, hx3, h⟩ := Ho_let h
    refine J_lstore_n (x := x3) (lv' := [(3, .long x3), (0, .ref (ad 0)), (5, .int v5)]) hx dX4_digestTexts_25 hx3 (by decide) rfl ?_
    refine J_iconst (v := (0 : Int32)) hx dX4_digestTexts_26 (by decide) ?_
    refine J_istore (x := (0 : Int32)) (lv' := [(6, .int (0 : Int32)), (3, .long x3), (0, .ref (ad 0)), (5, .int v5)]) hx dX4_digestTexts_27 rfl (by decide) rfl ?_
    refine J_sub (lv' := [(0, .ref (ad 0)), (3, .long x3), (5, .int v5), (6, .int (0 : Int32))]) hx [2, 1, 3, 0] rfl ?_
    exact s_X4_digestTexts_L29 hx hQ  k_fu h
set_option maxRecDepth 100000 in
set_option maxHeartbeats 4000000 in
theorem s_X4_digestTexts_L5 {X : k_C} {ad : Nat → Nat} {P : Option Value → StI → StL → Prop} {I : StI} {L : StL} (hx : Ok X cX4_digestTexts RX4 7 (some .long) 1) (hQ : OkQ X ad P)  {v3 : Int64} {v5 : Int32}  (n : Nat) (h : Ho (f_X4_digestTexts_L5 I n v3 v5) (kr_X4_digestTexts P I L)) : J X ad 7 I L 5 [(0, .ref (ad 0)), (3, .long v3), (5, .int v5)] [] := by
  exact k_loop_ho (G := g_X4_digestTexts_L5 X ad I L) (fun s hs => s_X4_digestTexts_L5_b hx hQ  hs) n (v3, v5) h
def f_X4_digestTexts (v1 : Int64) (I : StI) : Option (Int64) :=
  f_X4_digestTexts_L5 I k_fu v1 (0 : Int32)
set_option maxRecDepth 100000 in
set_option maxHeartbeats 4000000 in
theorem s_X4_digestTexts {l : Launch} {ad : Nat → Nat} {P : Option Value → StI → StL → Prop} {I : StI} {L : StL} {v1 : Int64}  (h : Ho (f_X4_digestTexts v1 I) (kr_X4_digestTexts P I L)) : k_Met l ad 1 yX4_digestTexts cX4_digestTexts 7 (some .long) [.ref (ad 0), .long v1] I L P := by
  refine k_enter (by decide +kernel) (Nat.le_of_ble_eq_true rfl) (fun X hl hx hQ => ?_)
  clear hl
  have hx : Ok X cX4_digestTexts RX4 7 (some .long) 1 := hx
  show J X ad 7 I L 0 [(0, .ref (ad 0)), (1, .long v1)] []
  unfold f_X4_digestTexts at h
  refine J_lload_n hx dX4_digestTexts_0 1 rfl ?_
  refine J_lstore_n (x := v1) (lv' := [(3, .long v1), (0, .ref (ad 0)), (1, .long v1)]) hx dX4_digestTexts_1 rfl (by decide) rfl ?_
  refine J_iconst (v := (0 : Int32)) hx dX4_digestTexts_2 (by decide) ?_
  refine J_istore (x := (0 : Int32)) (lv' := [(5, .int (0 : Int32)), (3, .long v1), (0, .ref (ad 0)), (1, .long v1)]) hx dX4_digestTexts_3 rfl (by decide) rfl ?_
  refine J_sub (lv' := [(0, .ref (ad 0)), (3, .long v1), (5, .int (0 : Int32))]) hx [2, 1, 0] rfl ?_
  exact s_X4_digestTexts_L5 hx hQ  k_fu h
abbrev kr_X4_digest (P : Option Value → StI → StL → Prop) (I : StI) (L : StL) : Int64 → Prop := fun t => P (some (.long t)) I L
abbrev g_X4_digest_L90 (X : k_C) (ad : Nat → Nat) (I : StI) (L : StL) : (Int64 × Int32) → Prop := fun s => J X ad 5 I L 90 [(0, .ref (ad 0)), (1, .long s.1), (3, .int s.2)] []
abbrev g_X4_digest_L47 (X : k_C) (ad : Nat → Nat) (I : StI) (L : StL) (v3 : Int32) : (Int64 × Int32) → Prop := fun s => J X ad 5 I L 47 [(0, .ref (ad 0)), (1, .long s.1), (3, .int v3), (4, .int s.2)] []
abbrev g_X4_digest_L33 (X : k_C) (ad : Nat → Nat) (I : StI) (L : StL) : (Int64 × Int32) → Prop := fun s => J X ad 5 I L 33 [(0, .ref (ad 0)), (1, .long s.1), (3, .int s.2)] []
abbrev g_X4_digest_L6 (X : k_C) (ad : Nat → Nat) (I : StI) (L : StL) : (Int64 × Int32) → Prop := fun s => J X ad 5 I L 6 [(0, .ref (ad 0)), (1, .long s.1), (3, .int s.2)] []
def f_X4_digest_L90_b (v1 : Int64) (v3 : Int32) (I : StI) : Option ((Int64 × Int32) ⊕ (Int64)) :=
  (if (3 : Int32) ≤ v3 then Option.bind (f_X4_digestRows v1 I) (fun t4 => Option.bind (f_X4_digestTexts t4 I) (fun t6 => some (.inr (t6)))) else k_gd v3 3 (k_let (((31 : Int64) * v1) + ((I (k_dq v3.toNatClampNeg) 3)).toInt64) (fun x9 => k_let (v3 + (1 : Int32)) (fun x10 => some (.inl (x9, x10))))))
def f_X4_digest_L90 (I : StI) (n : Nat) (v1 : Int64) (v3 : Int32) : Option (Int64) :=
  k_loop (fun s => f_X4_digest_L90_b s.1 s.2 I) n (v1, v3)
set_option maxRecDepth 100000 in
set_option maxHeartbeats 4000000 in
theorem s_X4_digest_L90_b {X : k_C} {ad : Nat → Nat} {P : Option Value → StI → StL → Prop} {I : StI} {L : StL} (hx : Ok X cX4_digest RX4 5 (some .long) 4) (hQ : OkQ X ad P)  {v1 : Int64} {v3 : Int32}  (h : Ho (f_X4_digest_L90_b v1 v3 I) (Sum.elim (g_X4_digest_L90 X ad I L) (kr_X4_digest P I L))) : J X ad 5 I L 90 [(0, .ref (ad 0)), (1, .long v1), (3, .int v3)] [] := by
  unfold f_X4_digest_L90_b at h
  refine J_iload_n hx dX4_digest_90 2 rfl ?_
  refine J_iconst (v := (3 : Int32)) hx dX4_digest_91 (by decide) ?_
  refine J_ic_ge hx dX4_digest_92 118 (by decide) (fun c3 => ?_) (fun c3 => ?_)
  · have h := Ho_t c3 h
    refine J_aload_n hx dX4_digest_118 0 rfl ?_
    refine J_aload_n hx dX4_digest_119 0 rfl ?_
    refine J_lload_n hx dX4_digest_120 1 rfl ?_
    obtain ⟨t4, e5, h⟩ := Ho_bind h
    refine J_callVl hx lkV_RX4_277 (rfl : k_sh 0 = (4, k_N 4)) [.long v1] [.ref (ad 0)] rfl rfl (Nat.le_of_ble_eq_true rfl) (Nat.le_of_ble_eq_true rfl) (s_X4_digestRows  ⟨t4, e5, ⟨rfl, rfl, rfl⟩⟩) dX4_digest_121 ?_
    obtain ⟨t6, e7, h⟩ := Ho_bind h
    refine J_callVl hx lkV_RX4_281 (rfl : k_sh 0 = (4, k_N 4)) [.long t4] [] rfl rfl (Nat.le_of_ble_eq_true rfl) (Nat.le_of_ble_eq_true rfl) (s_X4_digestTexts  ⟨t6, e7, ⟨rfl, rfl, rfl⟩⟩) dX4_digest_124 ?_
    have h := Ho_some h
    exact J_lret hx hQ dX4_digest_127 h
  · have h := Ho_f c3 h
    refine J_ldc2 hx cn_RX4_275 dX4_digest_95 ?_
    refine J_lload_n hx dX4_digest_98 1 rfl ?_
    refine J_lmul hx dX4_digest_99 ?_
    refine J_aload_n hx dX4_digest_100 0 rfl ?_
    refine J_getR (q := 46) hx fl_RX4_46 (rfl : k_sh 0 = (4, k_N 4)) rfl rfl dX4_digest_101 ?_
    refine J_iload_n hx dX4_digest_104 2 rfl ?_
    obtain ⟨b8, h⟩ := Ho_gd h
    refine J_aald (q := (k_dq v3.toNatClampNeg)) hx (rfl : k_sh 46 = (14, 3)) (by decide) (by decide) b8 k_Dqr dX4_digest_105 ?_
    refine J_getI hx fl_RX4_86 (k_D0 (k_Dq b8)) rfl dX4_digest_106 ?_
    refine J_i2l hx dX4_digest_109 ?_
    refine J_ladd hx dX4_digest_110 ?_
    obtain ⟨x9, hx9, h⟩ := Ho_let h
    refine J_lstore_n (x := x9) (lv' := [(1, .long x9), (0, .ref (ad 0)), (3, .int v3)]) hx dX4_digest_111 hx9 (by decide) rfl ?_
    obtain ⟨x10, hx10, h⟩ := Ho_let h
    refine J_iinc (x := x10) (lv' := [(3, .int x10), (1, .long x9), (0, .ref (ad 0))]) hx dX4_digest_112 2 rfl (by rw [hx10]; rfl) (by decide) rfl ?_
    refine J_goto hx dX4_digest_115 90 (by decide) ?_
    refine J_sub (lv' := [(0, .ref (ad 0)), (1, .long x9), (3, .int x10)]) hx [2, 1, 0] rfl ?_
    have h := Ho_some h
    exact h
set_option maxRecDepth 100000 in
set_option maxHeartbeats 4000000 in
theorem s_X4_digest_L90 {X : k_C} {ad : Nat → Nat} {P : Option Value → StI → StL → Prop} {I : StI} {L : StL} (hx : Ok X cX4_digest RX4 5 (some .long) 4) (hQ : OkQ X ad P)  {v1 : Int64} {v3 : Int32}  (n : Nat) (h : Ho (f_X4_digest_L90 I n v1 v3) (kr_X4_digest P I L)) : J X ad 5 I L 90 [(0, .ref (ad 0)), (1, .long v1), (3, .int v3)] [] := by
  exact k_loop_ho (G := g_X4_digest_L90 X ad I L) (fun s hs => s_X4_digest_L90_b hx hQ  hs) n (v1, v3) h
def f_X4_digest_L47_b (v1 : Int64) (v3 : Int32) (v4 : Int32) (I : StI) : Option ((Int64 × Int32) ⊕ ((Int64 × Int32) ⊕ (Int64))) :=
  (if (7 : Int32) ≤ v4 then k_let (v3 + (1 : Int32)) (fun x12 => some (.inr (.inl (v1, x12)))) else k_gd v3 7 (Option.bind (f_X0_tell (k_cq 24 v3.toNatClampNeg) v4 I) (fun t14 => k_let (((31 : Int64) * v1) + (t14).toInt64) (fun x16 => k_let (v4 + (1 : Int32)) (fun x17 => some (.inl (x16, x17)))))))
def f_X4_digest_L47 (v3 : Int32) (I : StI) (n : Nat) (v1 : Int64) (v4 : Int32) : Option ((Int64 × Int32) ⊕ (Int64)) :=
  k_loop (fun s => f_X4_digest_L47_b s.1 v3 s.2 I) n (v1, v4)
set_option maxRecDepth 100000 in
set_option maxHeartbeats 4000000 in
theorem s_X4_digest_L47_b {X : k_C} {ad : Nat → Nat} {P : Option Value → StI → StL → Prop} {I : StI} {L : StL} (hx : Ok X cX4_digest RX4 5 (some .long) 4) (hQ : OkQ X ad P)  {v1 : Int64} {v3 : Int32} {v4 : Int32}  (h : Ho (f_X4_digest_L47_b v1 v3 v4 I) (Sum.elim (g_X4_digest_L47 X ad I L v3) (Sum.elim (g_X4_digest_L33 X ad I L) (kr_X4_digest P I L)))) : J X ad 5 I L 47 [(0, .ref (ad 0)), (1, .long v1), (3, .int v3), (4, .int v4)] [] := by
  unfold f_X4_digest_L47_b at h
  refine J_iload hx dX4_digest_47 3 rfl ?_
  refine J_bipush (v := (7 : Int32)) hx dX4_digest_49 (by decide) ?_
  refine J_ic_ge hx dX4_digest_51 82 (by decide) (fun c11 => ?_) (fun c11 => ?_)
  · have h := Ho_t c11 h
    obtain ⟨x12, hx12, h⟩ := Ho_let h
    refine J_iinc (x := x12) (lv' := [(3, .int x12), (0, .ref (ad 0)), (1, .long v1), (4, .int v4)]) hx dX4_digest_82 2 rfl (by rw [hx12]; rfl) (by decide) rfl ?_
    refine J_goto hx dX4_digest_85 33 (by decide) ?_
    refine J_sub (lv' := [(0, .ref (ad 0)), (1, .long v1), (3, .int x12)]) hx [1, 2, 0] rfl ?_
    have h := Ho_some h
    exact h
  · have h := Ho_f c11 h
    refine J_ldc2 hx cn_RX4_275 dX4_digest_54 ?_
    refine J_lload_n hx dX4_digest_57 1 rfl ?_
    refine J_lmul hx dX4_digest_58 ?_
    refine J_aload_n hx dX4_digest_59 0 rfl ?_
    refine J_getR (q := 24) hx fl_RX4_33 (rfl : k_sh 0 = (4, k_N 4)) rfl rfl dX4_digest_60 ?_
    refine J_getR (q := 25) hx fl_RX4_129 (rfl : k_sh 24 = (3, k_N 3)) rfl rfl dX4_digest_63 ?_
    refine J_iload_n hx dX4_digest_66 2 rfl ?_
    obtain ⟨b13, h⟩ := Ho_gd h
    refine J_aald (q := (k_cq 24 v3.toNatClampNeg)) hx (rfl : k_sh 25 = (13, 7)) (by decide) (by decide) b13 (k_Hr k_H24) dX4_digest_67 ?_
    refine J_iload hx dX4_digest_68 3 rfl ?_
    obtain ⟨t14, e15, h⟩ := Ho_bind h
    refine J_callVi hx lkV_RX4_133 (k_H2 k_H24 b13) [.int v4] [.long ((31 : Int64) * v1)] rfl rfl (Nat.le_of_ble_eq_true rfl) (Nat.le_of_ble_eq_true rfl) (s_X0_tell (k_H2 k_H24 b13) ⟨t14, e15, ⟨rfl, rfl, rfl⟩⟩) dX4_digest_70 ?_
    refine J_i2l hx dX4_digest_73 ?_
    refine J_ladd hx dX4_digest_74 ?_
    obtain ⟨x16, hx16, h⟩ := Ho_let h
    refine J_lstore_n (x := x16) (lv' := [(1, .long x16), (0, .ref (ad 0)), (3, .int v3), (4, .int v4)]) hx dX4_digest_75 hx16 (by decide) rfl ?_
    obtain ⟨x17, hx17, h⟩ := Ho_let h
    refine J_iinc (x := x17) (lv' := [(4, .int x17), (1, .long x16), (0, .ref (ad 0)), (3, .int v3)]) hx dX4_digest_76 3 rfl (by rw [hx17]; rfl) (by decide) rfl ?_
    refine J_goto hx dX4_digest_79 47 (by decide) ?_
    refine J_sub (lv' := [(0, .ref (ad 0)), (1, .long x16), (3, .int v3), (4, .int x17)]) hx [2, 1, 3, 0] rfl ?_
    have h := Ho_some h
    exact h
set_option maxRecDepth 100000 in
set_option maxHeartbeats 4000000 in
theorem s_X4_digest_L47 {X : k_C} {ad : Nat → Nat} {P : Option Value → StI → StL → Prop} {I : StI} {L : StL} (hx : Ok X cX4_digest RX4 5 (some .long) 4) (hQ : OkQ X ad P)  {v1 : Int64} {v3 : Int32} {v4 : Int32}  (n : Nat) (h : Ho (f_X4_digest_L47 v3 I n v1 v4) (Sum.elim (g_X4_digest_L33 X ad I L) (kr_X4_digest P I L))) : J X ad 5 I L 47 [(0, .ref (ad 0)), (1, .long v1), (3, .int v3), (4, .int v4)] [] := by
  exact k_loop_ho (G := g_X4_digest_L47 X ad I L v3) (fun s hs => s_X4_digest_L47_b hx hQ  hs) n (v1, v4) h
def f_X4_digest_L33_b (v1 : Int64) (v3 : Int32) (I : StI) : Option ((Int64 × Int32) ⊕ (Int64)) :=
  (if (I 24 1) ≤ v3 then Option.map Sum.inr (f_X4_digest_L90 I k_fu v1 (0 : Int32)) else f_X4_digest_L47 v3 I k_fu v1 (0 : Int32))
def f_X4_digest_L33 (I : StI) (n : Nat) (v1 : Int64) (v3 : Int32) : Option (Int64) :=
  k_loop (fun s => f_X4_digest_L33_b s.1 s.2 I) n (v1, v3)
set_option maxRecDepth 100000 in
set_option maxHeartbeats 4000000 in
theorem s_X4_digest_L33_b {X : k_C} {ad : Nat → Nat} {P : Option Value → StI → StL → Prop} {I : StI} {L : StL} (hx : Ok X cX4_digest RX4 5 (some .long) 4) (hQ : OkQ X ad P)  {v1 : Int64} {v3 : Int32}  (h : Ho (f_X4_digest_L33_b v1 v3 I) (Sum.elim (g_X4_digest_L33 X ad I L) (kr_X4_digest P I L))) : J X ad 5 I L 33 [(0, .ref (ad 0)), (1, .long v1), (3, .int v3)] [] := by
  unfold f_X4_digest_L33_b at h
  refine J_iload_n hx dX4_digest_33 2 rfl ?_
  refine J_aload_n hx dX4_digest_34 0 rfl ?_
  refine J_getR (q := 24) hx fl_RX4_33 (rfl : k_sh 0 = (4, k_N 4)) rfl rfl dX4_digest_35 ?_
  refine J_getI hx fl_RX4_125 (rfl : k_sh 24 = (3, k_N 3)) rfl dX4_digest_38 ?_
  refine J_ic_ge hx dX4_digest_41 88 (by decide) (fun c2 => ?_) (fun c2 => ?_)
  · have h := Ho_t c2 h
    refine J_iconst (v := (0 : Int32)) hx dX4_digest_88 (by decide) ?_
    refine J_istore_n (x := (0 : Int32)) (lv' := [(3, .int (0 : Int32)), (0, .ref (ad 0)), (1, .long v1)]) hx dX4_digest_89 rfl (by decide) rfl ?_
    refine J_sub (lv' := [(0, .ref (ad 0)), (1, .long v1), (3, .int (0 : Int32))]) hx [1, 2, 0] rfl ?_
    have h := Ho_map h
    exact s_X4_digest_L90 hx hQ  k_fu h
  · have h := Ho_f c2 h
    refine J_iconst (v := (0 : Int32)) hx dX4_digest_44 (by decide) ?_
    refine J_istore (x := (0 : Int32)) (lv' := [(4, .int (0 : Int32)), (0, .ref (ad 0)), (1, .long v1), (3, .int v3)]) hx dX4_digest_45 rfl (by decide) rfl ?_
    refine J_sub (lv' := [(0, .ref (ad 0)), (1, .long v1), (3, .int v3), (4, .int (0 : Int32))]) hx [1, 2, 3, 0] rfl ?_
    exact s_X4_digest_L47 hx hQ  k_fu h
set_option maxRecDepth 100000 in
set_option maxHeartbeats 4000000 in
theorem s_X4_digest_L33 {X : k_C} {ad : Nat → Nat} {P : Option Value → StI → StL → Prop} {I : StI} {L : StL} (hx : Ok X cX4_digest RX4 5 (some .long) 4) (hQ : OkQ X ad P)  {v1 : Int64} {v3 : Int32}  (n : Nat) (h : Ho (f_X4_digest_L33 I n v1 v3) (kr_X4_digest P I L)) : J X ad 5 I L 33 [(0, .ref (ad 0)), (1, .long v1), (3, .int v3)] [] := by
  exact k_loop_ho (G := g_X4_digest_L33 X ad I L) (fun s hs => s_X4_digest_L33_b hx hQ  hs) n (v1, v3) h
def f_X4_digest_L6_b (v1 : Int64) (v3 : Int32) (I : StI) : Option ((Int64 × Int32) ⊕ (Int64)) :=
  (if (13 : Int32) ≤ v3 then Option.map Sum.inr (f_X4_digest_L33 I k_fu v1 (0 : Int32)) else Option.bind (f_X4_countOf v3 I) (fun t18 => k_let (((31 : Int64) * v1) + (t18).toInt64) (fun x20 => k_let (v3 + (1 : Int32)) (fun x21 => some (.inl (x20, x21))))))
def f_X4_digest_L6 (I : StI) (n : Nat) (v1 : Int64) (v3 : Int32) : Option (Int64) :=
  k_loop (fun s => f_X4_digest_L6_b s.1 s.2 I) n (v1, v3)
set_option maxRecDepth 100000 in
set_option maxHeartbeats 4000000 in
theorem s_X4_digest_L6_b {X : k_C} {ad : Nat → Nat} {P : Option Value → StI → StL → Prop} {I : StI} {L : StL} (hx : Ok X cX4_digest RX4 5 (some .long) 4) (hQ : OkQ X ad P)  {v1 : Int64} {v3 : Int32}  (h : Ho (f_X4_digest_L6_b v1 v3 I) (Sum.elim (g_X4_digest_L6 X ad I L) (kr_X4_digest P I L))) : J X ad 5 I L 6 [(0, .ref (ad 0)), (1, .long v1), (3, .int v3)] [] := by
  unfold f_X4_digest_L6_b at h
  refine J_iload_n hx dX4_digest_6 2 rfl ?_
  refine J_bipush (v := (13 : Int32)) hx dX4_digest_7 (by decide) ?_
  refine J_ic_ge hx dX4_digest_9 31 (by decide) (fun c1 => ?_) (fun c1 => ?_)
  · have h := Ho_t c1 h
    refine J_iconst (v := (0 : Int32)) hx dX4_digest_31 (by decide) ?_
    refine J_istore_n (x := (0 : Int32)) (lv' := [(3, .int (0 : Int32)), (0, .ref (ad 0)), (1, .long v1)]) hx dX4_digest_32 rfl (by decide) rfl ?_
    refine J_sub (lv' := [(0, .ref (ad 0)), (1, .long v1), (3, .int (0 : Int32))]) hx [1, 2, 0] rfl ?_
    have h := Ho_map h
    exact s_X4_digest_L33 hx hQ  k_fu h
  · have h := Ho_f c1 h
    refine J_ldc2 hx cn_RX4_275 dX4_digest_12 ?_
    refine J_lload_n hx dX4_digest_15 1 rfl ?_
    refine J_lmul hx dX4_digest_16 ?_
    refine J_aload_n hx dX4_digest_17 0 rfl ?_
    refine J_iload_n hx dX4_digest_18 2 rfl ?_
    obtain ⟨t18, e19, h⟩ := Ho_bind h
    refine J_callVi hx lkV_RX4_270 (rfl : k_sh 0 = (4, k_N 4)) [.int v3] [.long ((31 : Int64) * v1)] rfl rfl (Nat.le_of_ble_eq_true rfl) (Nat.le_of_ble_eq_true rfl) (s_X4_countOf  ⟨t18, e19, ⟨rfl, rfl, rfl⟩⟩) dX4_digest_19 ?_
    refine J_i2l hx dX4_digest_22 ?_
    refine J_ladd hx dX4_digest_23 ?_
    obtain ⟨x20, hx20, h⟩ := Ho_let h
    refine J_lstore_n (x := x20) (lv' := [(1, .long x20), (0, .ref (ad 0)), (3, .int v3)]) hx dX4_digest_24 hx20 (by decide) rfl ?_
    obtain ⟨x21, hx21, h⟩ := Ho_let h
    refine J_iinc (x := x21) (lv' := [(3, .int x21), (1, .long x20), (0, .ref (ad 0))]) hx dX4_digest_25 2 rfl (by rw [hx21]; rfl) (by decide) rfl ?_
    refine J_goto hx dX4_digest_28 6 (by decide) ?_
    refine J_sub (lv' := [(0, .ref (ad 0)), (1, .long x20), (3, .int x21)]) hx [2, 1, 0] rfl ?_
    have h := Ho_some h
    exact h
set_option maxRecDepth 100000 in
set_option maxHeartbeats 4000000 in
theorem s_X4_digest_L6 {X : k_C} {ad : Nat → Nat} {P : Option Value → StI → StL → Prop} {I : StI} {L : StL} (hx : Ok X cX4_digest RX4 5 (some .long) 4) (hQ : OkQ X ad P)  {v1 : Int64} {v3 : Int32}  (n : Nat) (h : Ho (f_X4_digest_L6 I n v1 v3) (kr_X4_digest P I L)) : J X ad 5 I L 6 [(0, .ref (ad 0)), (1, .long v1), (3, .int v3)] [] := by
  exact k_loop_ho (G := g_X4_digest_L6 X ad I L) (fun s hs => s_X4_digest_L6_b hx hQ  hs) n (v1, v3) h
def f_X4_digest (I : StI) : Option (Int64) :=
  f_X4_digest_L6 I k_fu (17 : Int64) (0 : Int32)
set_option maxRecDepth 100000 in
set_option maxHeartbeats 4000000 in
theorem s_X4_digest {l : Launch} {ad : Nat → Nat} {P : Option Value → StI → StL → Prop} {I : StI} {L : StL}   (h : Ho (f_X4_digest I) (kr_X4_digest P I L)) : k_Met l ad 4 yX4_digest cX4_digest 5 (some .long) [.ref (ad 0)] I L P := by
  refine k_enter (by decide +kernel) (Nat.le_of_ble_eq_true rfl) (fun X hl hx hQ => ?_)
  clear hl
  have hx : Ok X cX4_digest RX4 5 (some .long) 4 := hx
  show J X ad 5 I L 0 [(0, .ref (ad 0))] []
  unfold f_X4_digest at h
  refine J_ldc2 hx cn_RX4_273 dX4_digest_0 ?_
  refine J_lstore_n (x := (17 : Int64)) (lv' := [(1, .long (17 : Int64)), (0, .ref (ad 0))]) hx dX4_digest_3 rfl (by decide) rfl ?_
  refine J_iconst (v := (0 : Int32)) hx dX4_digest_4 (by decide) ?_
  refine J_istore_n (x := (0 : Int32)) (lv' := [(3, .int (0 : Int32)), (1, .long (17 : Int64)), (0, .ref (ad 0))]) hx dX4_digest_5 rfl (by decide) rfl ?_
  refine J_sub (lv' := [(0, .ref (ad 0)), (1, .long (17 : Int64)), (3, .int (0 : Int32))]) hx [2, 1, 0] rfl ?_
  exact s_X4_digest_L6 hx hQ  k_fu h
abbrev kr_X4_doAllAgain (P : Option Value → StI → StL → Prop) (L : StL) : StI → Prop := fun t => P none t L
abbrev g_X4_doAllAgain_L13 (X : k_C) (ad : Nat → Nat) (L : StL) : (Int32 × StI) → Prop := fun s => J X ad 2 s.2 L 13 [(0, .ref (ad 0)), (1, .int s.1)] []
def f_X4_doAllAgain_L13_b (v1 : Int32) (I : StI) : Option ((Int32 × StI) ⊕ (StI)) :=
  (if (I 42 3) ≤ v1 then some (.inr (I)) else k_gd v1 40 (k_gd v1 40 (k_gd v1 40 (Option.bind (f_X3_carryOut 24 (I 43 v1.toNatClampNeg) (I 44 v1.toNatClampNeg) (I 45 v1.toNatClampNeg) I) (fun t7 => k_let (v1 + (1 : Int32)) (fun x9 => some (.inl (x9, t7))))))))
def f_X4_doAllAgain_L13  (n : Nat) (v1 : Int32) (I : StI) : Option (StI) :=
  k_loop (fun s => f_X4_doAllAgain_L13_b s.1 s.2) n (v1, I)
set_option maxRecDepth 100000 in
set_option maxHeartbeats 4000000 in
theorem s_X4_doAllAgain_L13_b {X : k_C} {ad : Nat → Nat} {P : Option Value → StI → StL → Prop} {I : StI} {L : StL} (hx : Ok X cX4_doAllAgain RX4 2 none 5) (hQ : OkQ X ad P)  {v1 : Int32}  (h : Ho (f_X4_doAllAgain_L13_b v1 I) (Sum.elim (g_X4_doAllAgain_L13 X ad L) (kr_X4_doAllAgain P L))) : J X ad 2 I L 13 [(0, .ref (ad 0)), (1, .int v1)] [] := by
  unfold f_X4_doAllAgain_L13_b at h
  refine J_iload_n hx dX4_doAllAgain_13 1 rfl ?_
  refine J_aload_n hx dX4_doAllAgain_14 0 rfl ?_
  refine J_getR (q := 42) hx fl_RX4_42 (rfl : k_sh 0 = (4, k_N 4)) rfl rfl dX4_doAllAgain_15 ?_
  refine J_getI hx fl_RX4_86 (rfl : k_sh 42 = (2, k_N 2)) rfl dX4_doAllAgain_18 ?_
  refine J_ic_ge hx dX4_doAllAgain_21 64 (by decide) (fun c3 => ?_) (fun c3 => ?_)
  · have h := Ho_t c3 h
    have h := Ho_some h
    exact J_vret hx hQ dX4_doAllAgain_64 h
  · have h := Ho_f c3 h
    refine J_aload_n hx dX4_doAllAgain_24 0 rfl ?_
    refine J_getR (q := 24) hx fl_RX4_33 (rfl : k_sh 0 = (4, k_N 4)) rfl rfl dX4_doAllAgain_25 ?_
    refine J_aload_n hx dX4_doAllAgain_28 0 rfl ?_
    refine J_getR (q := 42) hx fl_RX4_42 (rfl : k_sh 0 = (4, k_N 4)) rfl rfl dX4_doAllAgain_29 ?_
    refine J_getR (q := 43) hx fl_RX4_290 (rfl : k_sh 42 = (2, k_N 2)) rfl rfl dX4_doAllAgain_32 ?_
    refine J_iload_n hx dX4_doAllAgain_35 1 rfl ?_
    obtain ⟨b4, h⟩ := Ho_gd h
    refine J_iald hx (rfl : k_sh 43 = (10, 40)) b4 dX4_doAllAgain_36 ?_
    refine J_aload_n hx dX4_doAllAgain_37 0 rfl ?_
    refine J_getR (q := 42) hx fl_RX4_42 (rfl : k_sh 0 = (4, k_N 4)) rfl rfl dX4_doAllAgain_38 ?_
    refine J_getR (q := 44) hx fl_RX4_293 (rfl : k_sh 42 = (2, k_N 2)) rfl rfl dX4_doAllAgain_41 ?_
    refine J_iload_n hx dX4_doAllAgain_44 1 rfl ?_
    obtain ⟨b5, h⟩ := Ho_gd h
    refine J_iald hx (rfl : k_sh 44 = (10, 40)) b5 dX4_doAllAgain_45 ?_
    refine J_aload_n hx dX4_doAllAgain_46 0 rfl ?_
    refine J_getR (q := 42) hx fl_RX4_42 (rfl : k_sh 0 = (4, k_N 4)) rfl rfl dX4_doAllAgain_47 ?_
    refine J_getR (q := 45) hx fl_RX4_296 (rfl : k_sh 42 = (2, k_N 2)) rfl rfl dX4_doAllAgain_50 ?_
    refine J_iload_n hx dX4_doAllAgain_53 1 rfl ?_
    obtain ⟨b6, h⟩ := Ho_gd h
    refine J_iald hx (rfl : k_sh 45 = (10, 40)) b6 dX4_doAllAgain_54 ?_
    obtain ⟨t7, e8, h⟩ := Ho_bind h
    refine J_callVv hx lkV_RX4_287 (rfl : k_sh 24 = (3, k_N 3)) [.int (I 43 v1.toNatClampNeg), .int (I 44 v1.toNatClampNeg), .int (I 45 v1.toNatClampNeg)] [] rfl rfl (Nat.le_of_ble_eq_true rfl) (Nat.le_of_ble_eq_true rfl) (s_X3_carryOut k_H24 ⟨t7, e8, ⟨rfl, rfl, rfl⟩⟩) dX4_doAllAgain_55 ?_
    obtain ⟨x9, hx9, h⟩ := Ho_let h
    refine J_iinc (x := x9) (lv' := [(1, .int x9), (0, .ref (ad 0))]) hx dX4_doAllAgain_58 1 rfl (by rw [hx9]; rfl) (by decide) rfl ?_
    refine J_goto hx dX4_doAllAgain_61 13 (by decide) ?_
    refine J_sub (lv' := [(0, .ref (ad 0)), (1, .int x9)]) hx [1, 0] rfl ?_
    have h := Ho_some h
    exact h
set_option maxRecDepth 100000 in
set_option maxHeartbeats 4000000 in
theorem s_X4_doAllAgain_L13 {X : k_C} {ad : Nat → Nat} {P : Option Value → StI → StL → Prop} {I : StI} {L : StL} (hx : Ok X cX4_doAllAgain RX4 2 none 5) (hQ : OkQ X ad P)  {v1 : Int32}  (n : Nat) (h : Ho (f_X4_doAllAgain_L13  n v1 I) (kr_X4_doAllAgain P L)) : J X ad 2 I L 13 [(0, .ref (ad 0)), (1, .int v1)] [] := by
  exact k_loop_ho (G := g_X4_doAllAgain_L13 X ad L) (fun s hs => s_X4_doAllAgain_L13_b hx hQ  hs) n (v1, I) h
def f_X4_doAllAgain (I : StI) : Option (StI) :=
  Option.bind (f_X3_become 24 15 I) (fun t1 => f_X4_doAllAgain_L13  k_fu (0 : Int32) t1)
set_option maxRecDepth 100000 in
set_option maxHeartbeats 4000000 in
theorem s_X4_doAllAgain {l : Launch} {ad : Nat → Nat} {P : Option Value → StI → StL → Prop} {I : StI} {L : StL}   (h : Ho (f_X4_doAllAgain I) (kr_X4_doAllAgain P L)) : k_Met l ad 5 yX4_doAllAgain cX4_doAllAgain 2 none [.ref (ad 0)] I L P := by
  refine k_enter (by decide +kernel) (Nat.le_of_ble_eq_true rfl) (fun X hl hx hQ => ?_)
  clear hl
  have hx : Ok X cX4_doAllAgain RX4 2 none 5 := hx
  show J X ad 2 I L 0 [(0, .ref (ad 0))] []
  unfold f_X4_doAllAgain at h
  refine J_aload_n hx dX4_doAllAgain_0 0 rfl ?_
  refine J_getR (q := 24) hx fl_RX4_33 (rfl : k_sh 0 = (4, k_N 4)) rfl rfl dX4_doAllAgain_1 ?_
  refine J_aload_n hx dX4_doAllAgain_4 0 rfl ?_
  refine J_getR (q := 15) hx fl_RX4_29 (rfl : k_sh 0 = (4, k_N 4)) rfl rfl dX4_doAllAgain_5 ?_
  obtain ⟨t1, e2, h⟩ := Ho_bind h
  refine J_callVv hx lkV_RX4_121 (rfl : k_sh 24 = (3, k_N 3)) [.ref (ad 15)] [] rfl rfl (Nat.le_of_ble_eq_true rfl) (Nat.le_of_ble_eq_true rfl) (s_X3_become k_H24 k_H15 ⟨t1, e2, ⟨rfl, rfl, rfl⟩⟩) dX4_doAllAgain_8 ?_
  refine J_iconst (v := (0 : Int32)) hx dX4_doAllAgain_11 (by decide) ?_
  refine J_istore_n (x := (0 : Int32)) (lv' := [(1, .int (0 : Int32)), (0, .ref (ad 0))]) hx dX4_doAllAgain_12 rfl (by decide) rfl ?_
  refine J_sub (lv' := [(0, .ref (ad 0)), (1, .int (0 : Int32))]) hx [1, 0] rfl ?_
  exact s_X4_doAllAgain_L13 hx hQ  k_fu h
abbrev kr_X4_doDeed (P : Option Value → StI → StL → Prop) (L : StL) : StI → Prop := fun t => P none t L
def f_X4_doDeed (v1 : Int32) (v2 : Int32) (v3 : Int32) (I : StI) : Option (StI) :=
  Option.bind (f_X2_add 42 v1 v2 v3 I) (fun t1 => Option.bind (f_X3_carryOut 24 v1 v2 v3 t1) (fun t3 => some (t3)))
set_option maxRecDepth 100000 in
set_option maxHeartbeats 4000000 in
theorem s_X4_doDeed {l : Launch} {ad : Nat → Nat} {P : Option Value → StI → StL → Prop} {I : StI} {L : StL} {v1 : Int32} {v2 : Int32} {v3 : Int32}  (h : Ho (f_X4_doDeed v1 v2 v3 I) (kr_X4_doDeed P L)) : k_Met l ad 5 yX4_doDeed cX4_doDeed 4 none [.ref (ad 0), .int v1, .int v2, .int v3] I L P := by
  refine k_enter (by decide +kernel) (Nat.le_of_ble_eq_true rfl) (fun X hl hx hQ => ?_)
  clear hl
  have hx : Ok X cX4_doDeed RX4 4 none 5 := hx
  show J X ad 4 I L 0 [(0, .ref (ad 0)), (1, .int v1), (2, .int v2), (3, .int v3)] []
  unfold f_X4_doDeed at h
  refine J_aload_n hx dX4_doDeed_0 0 rfl ?_
  refine J_getR (q := 42) hx fl_RX4_42 (rfl : k_sh 0 = (4, k_N 4)) rfl rfl dX4_doDeed_1 ?_
  refine J_iload_n hx dX4_doDeed_4 1 rfl ?_
  refine J_iload_n hx dX4_doDeed_5 2 rfl ?_
  refine J_iload_n hx dX4_doDeed_6 3 rfl ?_
  obtain ⟨t1, e2, h⟩ := Ho_bind h
  refine J_callVv hx lkV_RX4_284 (rfl : k_sh 42 = (2, k_N 2)) [.int v1, .int v2, .int v3] [] rfl rfl (Nat.le_of_ble_eq_true rfl) (Nat.le_of_ble_eq_true rfl) (s_X2_add k_D42 ⟨t1, e2, ⟨rfl, rfl, rfl⟩⟩) dX4_doDeed_7 ?_
  refine J_aload_n hx dX4_doDeed_10 0 rfl ?_
  refine J_getR (q := 24) hx fl_RX4_33 (rfl : k_sh 0 = (4, k_N 4)) rfl rfl dX4_doDeed_11 ?_
  refine J_iload_n hx dX4_doDeed_14 1 rfl ?_
  refine J_iload_n hx dX4_doDeed_15 2 rfl ?_
  refine J_iload_n hx dX4_doDeed_16 3 rfl ?_
  obtain ⟨t3, e4, h⟩ := Ho_bind h
  refine J_callVv hx lkV_RX4_287 (rfl : k_sh 24 = (3, k_N 3)) [.int v1, .int v2, .int v3] [] rfl rfl (Nat.le_of_ble_eq_true rfl) (Nat.le_of_ble_eq_true rfl) (s_X3_carryOut k_H24 ⟨t3, e4, ⟨rfl, rfl, rfl⟩⟩) dX4_doDeed_17 ?_
  have h := Ho_some h
  exact J_vret hx hQ dX4_doDeed_20 h
abbrev kr_X4_doDeedOfLot (P : Option Value → StI → StL → Prop) (L : StL) : StI → Prop := fun t => P none t L
def f_X4_doDeedOfLot_j60 (I : StI) : Option (StI) :=
  (if (99 : Int32) ≤ (I 24 4) then Option.bind (f_X4_doDeed (0 : Int32) (0 : Int32) (0 : Int32) I) (fun t6 => some (t6)) else Option.bind (f_X4_doDeed (1 : Int32) (0 : Int32) (0 : Int32) I) (fun t8 => some (t8)))
set_option maxRecDepth 100000 in
set_option maxHeartbeats 4000000 in
theorem s_X4_doDeedOfLot_j60 {X : k_C} {ad : Nat → Nat} {P : Option Value → StI → StL → Prop} {I : StI} {L : StL} (hx : Ok X cX4_doDeedOfLot RX4 4 none 6) (hQ : OkQ X ad P)    (h : Ho (f_X4_doDeedOfLot_j60 I) (kr_X4_doDeedOfLot P L)) : J X ad 4 I L 60 [(0, .ref (ad 0))] [] := by
  unfold f_X4_doDeedOfLot_j60 at h
  refine J_aload_n hx dX4_doDeedOfLot_60 0 rfl ?_
  refine J_getR (q := 24) hx fl_RX4_33 (rfl : k_sh 0 = (4, k_N 4)) rfl rfl dX4_doDeedOfLot_61 ?_
  refine J_getI hx fl_RX4_141 (rfl : k_sh 24 = (3, k_N 3)) rfl dX4_doDeedOfLot_64 ?_
  refine J_bipush (v := (99 : Int32)) hx dX4_doDeedOfLot_67 (by decide) ?_
  refine J_ic_ge hx dX4_doDeedOfLot_69 82 (by decide) (fun c5 => ?_) (fun c5 => ?_)
  · have h := Ho_t c5 h
    refine J_aload_n hx dX4_doDeedOfLot_82 0 rfl ?_
    refine J_iconst (v := (0 : Int32)) hx dX4_doDeedOfLot_83 (by decide) ?_
    refine J_iconst (v := (0 : Int32)) hx dX4_doDeedOfLot_84 (by decide) ?_
    refine J_iconst (v := (0 : Int32)) hx dX4_doDeedOfLot_85 (by decide) ?_
    obtain ⟨t6, e7, h⟩ := Ho_bind h
    refine J_callVv hx lkV_RX4_156 (rfl : k_sh 0 = (4, k_N 4)) [.int (0 : Int32), .int (0 : Int32), .int (0 : Int32)] [] rfl rfl (Nat.le_of_ble_eq_true rfl) (Nat.le_of_ble_eq_true rfl) (s_X4_doDeed  ⟨t6, e7, ⟨rfl, rfl, rfl⟩⟩) dX4_doDeedOfLot_86 ?_
    have h := Ho_some h
    exact J_vret hx hQ dX4_doDeedOfLot_89 h
  · have h := Ho_f c5 h
    refine J_aload_n hx dX4_doDeedOfLot_72 0 rfl ?_
    refine J_iconst (v := (1 : Int32)) hx dX4_doDeedOfLot_73 (by decide) ?_
    refine J_iconst (v := (0 : Int32)) hx dX4_doDeedOfLot_74 (by decide) ?_
    refine J_iconst (v := (0 : Int32)) hx dX4_doDeedOfLot_75 (by decide) ?_
    obtain ⟨t8, e9, h⟩ := Ho_bind h
    refine J_callVv hx lkV_RX4_156 (rfl : k_sh 0 = (4, k_N 4)) [.int (1 : Int32), .int (0 : Int32), .int (0 : Int32)] [] rfl rfl (Nat.le_of_ble_eq_true rfl) (Nat.le_of_ble_eq_true rfl) (s_X4_doDeed  ⟨t8, e9, ⟨rfl, rfl, rfl⟩⟩) dX4_doDeedOfLot_76 ?_
    refine J_goto hx dX4_doDeedOfLot_79 89 (by decide) ?_
    have h := Ho_some h
    exact J_vret hx hQ dX4_doDeedOfLot_89 h
def f_X4_doDeedOfLot (v1 : Int32) (I : StI) : Option (StI) :=
  k_let (v1 - v1 / (8 : Int32) * (8 : Int32)) (fun x1 => k_let (v1 / (8 : Int32)) (fun x2 => (if x1 = 0 then Option.bind (f_X4_doDeed (2 : Int32) (x2 - x2 / (8 : Int32) * (8 : Int32)) (0 : Int32) I) (fun t14 => some (t14)) else (if x1 = (1 : Int32) then (if (I 24 1) ≤ 0 then f_X4_doDeedOfLot_j60 I else k_nz (I 24 1) (Option.bind (f_X4_doDeed (5 : Int32) (x2 - x2 / (I 24 1) * (I 24 1)) (0 : Int32) I) (fun t12 => some (t12)))) else f_X4_doDeedOfLot_j60 I))))
set_option maxRecDepth 100000 in
set_option maxHeartbeats 4000000 in
theorem s_X4_doDeedOfLot {l : Launch} {ad : Nat → Nat} {P : Option Value → StI → StL → Prop} {I : StI} {L : StL} {v1 : Int32}  (h : Ho (f_X4_doDeedOfLot v1 I) (kr_X4_doDeedOfLot P L)) : k_Met l ad 6 yX4_doDeedOfLot cX4_doDeedOfLot 4 none [.ref (ad 0), .int v1] I L P := by
  refine k_enter (by decide +kernel) (Nat.le_of_ble_eq_true rfl) (fun X hl hx hQ => ?_)
  clear hl
  have hx : Ok X cX4_doDeedOfLot RX4 4 none 6 := hx
  show J X ad 4 I L 0 [(0, .ref (ad 0)), (1, .int v1)] []
  unfold f_X4_doDeedOfLot at h
  refine J_iload_n hx dX4_doDeedOfLot_0 1 rfl ?_
  refine J_bipush (v := (8 : Int32)) hx dX4_doDeedOfLot_1 (by decide) ?_
  refine J_irem hx (by decide) dX4_doDeedOfLot_3 ?_
  obtain ⟨x1, hx1, h⟩ := Ho_let h
  refine J_istore_n (x := x1) (lv' := [(2, .int x1), (0, .ref (ad 0)), (1, .int v1)]) hx dX4_doDeedOfLot_4 hx1 (by decide) rfl ?_
  refine J_iload_n hx dX4_doDeedOfLot_5 2 rfl ?_
  refine J_bipush (v := (8 : Int32)) hx dX4_doDeedOfLot_6 (by decide) ?_
  refine J_idiv hx (by decide) dX4_doDeedOfLot_8 ?_
  obtain ⟨x2, hx2, h⟩ := Ho_let h
  refine J_istore_n (x := x2) (lv' := [(3, .int x2), (2, .int x1), (0, .ref (ad 0)), (1, .int v1)]) hx dX4_doDeedOfLot_9 hx2 (by decide) rfl ?_
  refine J_iload_n hx dX4_doDeedOfLot_10 1 rfl ?_
  refine J_if_ne hx dX4_doDeedOfLot_11 27 (by decide) (fun c3 => ?_) (fun c3 => ?_)
  · have h := Ho_f c3 h
    refine J_iload_n hx dX4_doDeedOfLot_27 1 rfl ?_
    refine J_iconst (v := (1 : Int32)) hx dX4_doDeedOfLot_28 (by decide) ?_
    refine J_ic_ne hx dX4_doDeedOfLot_29 60 (by decide) (fun c4 => ?_) (fun c4 => ?_)
    · have h := Ho_f c4 h
      refine J_sub (lv' := [(0, .ref (ad 0))]) hx [2] rfl ?_
      exact s_X4_doDeedOfLot_j60 hx hQ  h
    · have h := Ho_t c4 h
      refine J_aload_n hx dX4_doDeedOfLot_32 2 rfl ?_
      refine J_getR (q := 24) hx fl_RX4_33 (rfl : k_sh 0 = (4, k_N 4)) rfl rfl dX4_doDeedOfLot_33 ?_
      refine J_getI hx fl_RX4_125 (rfl : k_sh 24 = (3, k_N 3)) rfl dX4_doDeedOfLot_36 ?_
      refine J_if_le hx dX4_doDeedOfLot_39 60 (by decide) (fun c10 => ?_) (fun c10 => ?_)
      · have h := Ho_t c10 h
        refine J_sub (lv' := [(0, .ref (ad 0))]) hx [2] rfl ?_
        exact s_X4_doDeedOfLot_j60 hx hQ  h
      · have h := Ho_f c10 h
        refine J_aload_n hx dX4_doDeedOfLot_42 2 rfl ?_
        refine J_iconst (v := (5 : Int32)) hx dX4_doDeedOfLot_43 (by decide) ?_
        refine J_iload_n hx dX4_doDeedOfLot_44 0 rfl ?_
        refine J_aload_n hx dX4_doDeedOfLot_45 2 rfl ?_
        refine J_getR (q := 24) hx fl_RX4_33 (rfl : k_sh 0 = (4, k_N 4)) rfl rfl dX4_doDeedOfLot_46 ?_
        refine J_getI hx fl_RX4_125 (rfl : k_sh 24 = (3, k_N 3)) rfl dX4_doDeedOfLot_49 ?_
        obtain ⟨hz11, h⟩ := Ho_nz h
        refine J_irem hx hz11 dX4_doDeedOfLot_52 ?_
        refine J_iconst (v := (0 : Int32)) hx dX4_doDeedOfLot_53 (by decide) ?_
        obtain ⟨t12, e13, h⟩ := Ho_bind h
        refine J_callVv hx lkV_RX4_156 (rfl : k_sh 0 = (4, k_N 4)) [.int (5 : Int32), .int (x2 - x2 / (I 24 1) * (I 24 1)), .int (0 : Int32)] [] rfl rfl (Nat.le_of_ble_eq_true rfl) (Nat.le_of_ble_eq_true rfl) (s_X4_doDeed  ⟨t12, e13, ⟨rfl, rfl, rfl⟩⟩) dX4_doDeedOfLot_54 ?_
        refine J_goto hx dX4_doDeedOfLot_57 89 (by decide) ?_
        have h := Ho_some h
        exact J_vret hx hQ dX4_doDeedOfLot_89 h
  · have h := Ho_t c3 h
    refine J_aload_n hx dX4_doDeedOfLot_14 2 rfl ?_
    refine J_iconst (v := (2 : Int32)) hx dX4_doDeedOfLot_15 (by decide) ?_
    refine J_iload_n hx dX4_doDeedOfLot_16 0 rfl ?_
    refine J_bipush (v := (8 : Int32)) hx dX4_doDeedOfLot_17 (by decide) ?_
    refine J_irem hx (by decide) dX4_doDeedOfLot_19 ?_
    refine J_iconst (v := (0 : Int32)) hx dX4_doDeedOfLot_20 (by decide) ?_
    obtain ⟨t14, e15, h⟩ := Ho_bind h
    refine J_callVv hx lkV_RX4_156 (rfl : k_sh 0 = (4, k_N 4)) [.int (2 : Int32), .int (x2 - x2 / (8 : Int32) * (8 : Int32)), .int (0 : Int32)] [] rfl rfl (Nat.le_of_ble_eq_true rfl) (Nat.le_of_ble_eq_true rfl) (s_X4_doDeed  ⟨t14, e15, ⟨rfl, rfl, rfl⟩⟩) dX4_doDeedOfLot_21 ?_
    refine J_goto hx dX4_doDeedOfLot_24 89 (by decide) ?_
    have h := Ho_some h
    exact J_vret hx hQ dX4_doDeedOfLot_89 h
abbrev kr_X4_duelEnd (P : Option Value → StI → StL → Prop) (L : StL) : Int32 × StI → Prop := fun t => P (some (.int t.1)) t.2 L
def f_X4_duelEnd_j44 (v1 : Int32) (I : StI) : Option (Int32 × StI) :=
  k_gd v1 256 (some ((I 49 v1.toNatClampNeg), I))
set_option maxRecDepth 100000 in
set_option maxHeartbeats 4000000 in
theorem s_X4_duelEnd_j44 {X : k_C} {ad : Nat → Nat} {P : Option Value → StI → StL → Prop} {I : StI} {L : StL} (hx : Ok X cX4_duelEnd RX4 2 (some .int) 5) (hQ : OkQ X ad P)  {v1 : Int32}  (h : Ho (f_X4_duelEnd_j44 v1 I) (kr_X4_duelEnd P L)) : J X ad 2 I L 44 [(0, .ref (ad 0)), (1, .int v1)] [] := by
  unfold f_X4_duelEnd_j44 at h
  refine J_aload_n hx dX4_duelEnd_44 0 rfl ?_
  refine J_getR (q := 49) hx fl_RX4_74 (rfl : k_sh 0 = (4, k_N 4)) rfl rfl dX4_duelEnd_45 ?_
  refine J_iload_n hx dX4_duelEnd_48 1 rfl ?_
  obtain ⟨b3, h⟩ := Ho_gd h
  refine J_iald hx (rfl : k_sh 49 = (10, 256)) b3 dX4_duelEnd_49 ?_
  have h := Ho_some h
  exact J_iret hx hQ dX4_duelEnd_50 h
def f_X4_duelEnd (v1 : Int32) (I : StI) : Option (Int32 × StI) :=
  k_gd v1 256 ((if (I 49 v1.toNatClampNeg) = (-1 : Int32) then Option.bind (f_X3_become 33 24 I) (fun t4 => k_let (k_up t4 33 3 v1) (fun I6 => Option.bind (f_X3_answeredIn 33 (8 : Int32) I6) (fun t7 => k_gd v1 256 (k_let (k_up t7.2 49 v1.toNatClampNeg t7.1) (fun I10 => f_X4_duelEnd_j44 v1 I10))))) else f_X4_duelEnd_j44 v1 I))
set_option maxRecDepth 100000 in
set_option maxHeartbeats 4000000 in
theorem s_X4_duelEnd {l : Launch} {ad : Nat → Nat} {P : Option Value → StI → StL → Prop} {I : StI} {L : StL} {v1 : Int32}  (h : Ho (f_X4_duelEnd v1 I) (kr_X4_duelEnd P L)) : k_Met l ad 5 yX4_duelEnd cX4_duelEnd 2 (some .int) [.ref (ad 0), .int v1] I L P := by
  refine k_enter (by decide +kernel) (Nat.le_of_ble_eq_true rfl) (fun X hl hx hQ => ?_)
  clear hl
  have hx : Ok X cX4_duelEnd RX4 2 (some .int) 5 := hx
  show J X ad 2 I L 0 [(0, .ref (ad 0)), (1, .int v1)] []
  unfold f_X4_duelEnd at h
  refine J_aload_n hx dX4_duelEnd_0 0 rfl ?_
  refine J_getR (q := 49) hx fl_RX4_74 (rfl : k_sh 0 = (4, k_N 4)) rfl rfl dX4_duelEnd_1 ?_
  refine J_iload_n hx dX4_duelEnd_4 1 rfl ?_
  obtain ⟨b1, h⟩ := Ho_gd h
  refine J_iald hx (rfl : k_sh 49 = (10, 256)) b1 dX4_duelEnd_5 ?_
  refine J_iconst (v := (-1 : Int32)) hx dX4_duelEnd_6 (by decide) ?_
  refine J_ic_ne hx dX4_duelEnd_7 44 (by decide) (fun c2 => ?_) (fun c2 => ?_)
  · have h := Ho_f c2 h
    refine J_sub (lv' := [(0, .ref (ad 0)), (1, .int v1)]) hx [0, 1] rfl ?_
    exact s_X4_duelEnd_j44 hx hQ  h
  · have h := Ho_t c2 h
    refine J_aload_n hx dX4_duelEnd_10 0 rfl ?_
    refine J_getR (q := 33) hx fl_RX4_36 (rfl : k_sh 0 = (4, k_N 4)) rfl rfl dX4_duelEnd_11 ?_
    refine J_aload_n hx dX4_duelEnd_14 0 rfl ?_
    refine J_getR (q := 24) hx fl_RX4_33 (rfl : k_sh 0 = (4, k_N 4)) rfl rfl dX4_duelEnd_15 ?_
    obtain ⟨t4, e5, h⟩ := Ho_bind h
    refine J_callVv hx lkV_RX4_121 (rfl : k_sh 33 = (3, k_N 3)) [.ref (ad 24)] [] rfl rfl (Nat.le_of_ble_eq_true rfl) (Nat.le_of_ble_eq_true rfl) (s_X3_become k_H33 k_H24 ⟨t4, e5, ⟨rfl, rfl, rfl⟩⟩) dX4_duelEnd_18 ?_
    refine J_aload_n hx dX4_duelEnd_21 0 rfl ?_
    refine J_getR (q := 33) hx fl_RX4_36 (rfl : k_sh 0 = (4, k_N 4)) rfl rfl dX4_duelEnd_22 ?_
    refine J_iload_n hx dX4_duelEnd_25 1 rfl ?_
    obtain ⟨I6, hI6, h⟩ := Ho_let h
    refine J_putI hx flW_RX4_160 (rfl : k_sh 33 = (3, k_N 3)) rfl dX4_duelEnd_26 hI6 ?_
    refine J_aload_n hx dX4_duelEnd_29 0 rfl ?_
    refine J_getR (q := 49) hx fl_RX4_74 (rfl : k_sh 0 = (4, k_N 4)) rfl rfl dX4_duelEnd_30 ?_
    refine J_iload_n hx dX4_duelEnd_33 1 rfl ?_
    refine J_aload_n hx dX4_duelEnd_34 0 rfl ?_
    refine J_getR (q := 33) hx fl_RX4_36 (rfl : k_sh 0 = (4, k_N 4)) rfl rfl dX4_duelEnd_35 ?_
    refine J_bipush (v := (8 : Int32)) hx dX4_duelEnd_38 (by decide) ?_
    obtain ⟨t7, e8, h⟩ := Ho_bind h
    refine J_callVi hx lkV_RX4_197 (rfl : k_sh 33 = (3, k_N 3)) [.int (8 : Int32)] [.int v1, .ref (ad 49)] rfl rfl (Nat.le_of_ble_eq_true rfl) (Nat.le_of_ble_eq_true rfl) (s_X3_answeredIn k_H33 ⟨t7, e8, ⟨rfl, rfl, rfl⟩⟩) dX4_duelEnd_40 ?_
    obtain ⟨b9, h⟩ := Ho_gd h
    obtain ⟨I10, hI10, h⟩ := Ho_let h
    refine J_iast hx (rfl : k_sh 49 = (10, 256)) b9 dX4_duelEnd_43 hI10 ?_
    refine J_sub (lv' := [(0, .ref (ad 0)), (1, .int v1)]) hx [0, 1] rfl ?_
    exact s_X4_duelEnd_j44 hx hQ  h
abbrev kr_X4_playFrom (P : Option Value → StI → StL → Prop) (L : StL) : Int32 × StI → Prop := fun t => P (some (.int t.1)) t.2 L
abbrev g_X4_playFrom_L34 (X : k_C) (ad : Nat → Nat) (L : StL) (v1 : Int32) (v2 : Int32) (v3 : Int32) : (Int32 × Int32 × StI) → Prop := fun s => J X ad 8 s.2.2 L 34 [(0, .ref (ad 0)), (1, .int v1), (2, .int v2), (3, .int v3), (4, .int s.1), (5, .int s.2.1)] []
def f_X4_playFrom_j87 (rf : Int32 → Int32 → Int32 → StI → Option (Int32 × StI)) (v1 : Int32) (v2 : Int32) (v3 : Int32) (v4 : Int32) (v5 : Int32) (s1 : Int32) (s2 : Int32) (s3 : Int32) (I : StI) : Option ((Int32 × Int32 × StI) ⊕ (Int32 × StI)) :=
  Option.bind (rf s1 s2 s3 I) (fun t11 => (if v3 = 0 then Option.bind (f_J9_max_7cf53 v4 t11.1) (fun t14 => k_let (v5 + (1 : Int32)) (fun x16 => some (.inl (t14, x16, t11.2)))) else Option.bind (f_J9_min_7cf53 v4 t11.1) (fun t17 => k_let (v5 + (1 : Int32)) (fun x19 => some (.inl (t17, x19, t11.2))))))
set_option maxRecDepth 100000 in
set_option maxHeartbeats 4000000 in
theorem s_X4_playFrom_j87 {X : k_C} {ad : Nat → Nat} {dr dd : Nat} {P : Option Value → StI → StL → Prop} {I : StI} {L : StL} (hx : Ok X cX4_playFrom RX4 8 (some .int) dd) (hQ : OkQ X ad P) {rf : Int32 → Int32 → Int32 → StI → Option (Int32 × StI)} (hrf : ∀ (a b c : Int32) (I : StI) (L : StL) (P : Option Value → StI → StL → Prop), Ho (rf a b c I) (kr_X4_playFrom P L) → k_Met (k_lau X) ad dr yX4_playFrom cX4_playFrom 8 (some .int) [.ref (ad 0), .int a, .int b, .int c] I L P) (hd0 : dr + 1 ≤ dd) (hd1 : 5 + 1 ≤ dd)  {v1 : Int32} {v2 : Int32} {v3 : Int32} {v4 : Int32} {v5 : Int32} {s1 : Int32} {s2 : Int32} {s3 : Int32}  (h : Ho (f_X4_playFrom_j87 rf v1 v2 v3 v4 v5 s1 s2 s3 I) (Sum.elim (g_X4_playFrom_L34 X ad L v1 v2 v3) (kr_X4_playFrom P L))) : J X ad 8 I L 87 [(0, .ref (ad 0)), (1, .int v1), (2, .int v2), (3, .int v3), (4, .int v4), (5, .int v5)] [.int s3, .int s2, .int s1, .ref (ad 0)] := by
  unfold f_X4_playFrom_j87 at h
  obtain ⟨t11, e12, h⟩ := Ho_bind h
  refine J_callVi hx lkV_RX4_245 (rfl : k_sh 0 = (4, k_N 4)) [.int s1, .int s2, .int s3] [] rfl rfl (Nat.le_of_ble_eq_true rfl) hd0 (hrf _ _ _ _ _ _ ⟨t11, e12, ⟨rfl, rfl, rfl⟩⟩) dX4_playFrom_87 ?_
  refine J_istore (x := t11.1) (lv' := [(7, .int t11.1), (0, .ref (ad 0)), (1, .int v1), (2, .int v2), (3, .int v3), (4, .int v4), (5, .int v5)]) hx dX4_playFrom_90 rfl (by decide) rfl ?_
  refine J_iload_n hx dX4_playFrom_92 4 rfl ?_
  refine J_if_eq hx dX4_playFrom_93 106 (by decide) (fun c13 => ?_) (fun c13 => ?_)
  · have h := Ho_t c13 h
    refine J_iload hx dX4_playFrom_106 5 rfl ?_
    refine J_iload hx dX4_playFrom_108 0 rfl ?_
    obtain ⟨t14, e15, h⟩ := Ho_bind h
    refine J_callSi hx lkS_RX4_305 [.int v4, .int t11.1] [] rfl rfl (Nat.le_of_ble_eq_true rfl) (Nat.le_trans (Nat.le_of_ble_eq_true rfl) hd1) (s_J9_max_7cf53  ⟨t14, e15, ⟨rfl, rfl, rfl⟩⟩) dX4_playFrom_110 ?_
    refine J_istore (x := t14) (lv' := [(4, .int t14), (7, .int t11.1), (0, .ref (ad 0)), (1, .int v1), (2, .int v2), (3, .int v3), (5, .int v5)]) hx dX4_playFrom_113 rfl (by decide) rfl ?_
    obtain ⟨x16, hx16, h⟩ := Ho_let h
    refine J_iinc (x := x16) (lv' := [(5, .int x16), (4, .int t14), (7, .int t11.1), (0, .ref (ad 0)), (1, .int v1), (2, .int v2), (3, .int v3)]) hx dX4_playFrom_115 6 rfl (by rw [hx16]; rfl) (by decide) rfl ?_
    refine J_goto hx dX4_playFrom_118 34 (by decide) ?_
    refine J_sub (lv' := [(0, .ref (ad 0)), (1, .int v1), (2, .int v2), (3, .int v3), (4, .int t14), (5, .int x16)]) hx [3, 4, 5, 6, 1, 0] rfl ?_
    have h := Ho_some h
    exact h
  · have h := Ho_f c13 h
    refine J_iload hx dX4_playFrom_96 5 rfl ?_
    refine J_iload hx dX4_playFrom_98 0 rfl ?_
    obtain ⟨t17, e18, h⟩ := Ho_bind h
    refine J_callSi hx lkS_RX4_313 [.int v4, .int t11.1] [] rfl rfl (Nat.le_of_ble_eq_true rfl) (Nat.le_trans (Nat.le_of_ble_eq_true rfl) hd1) (s_J9_min_7cf53  ⟨t17, e18, ⟨rfl, rfl, rfl⟩⟩) dX4_playFrom_100 ?_
    refine J_goto hx dX4_playFrom_103 113 (by decide) ?_
    refine J_istore (x := t17) (lv' := [(4, .int t17), (7, .int t11.1), (0, .ref (ad 0)), (1, .int v1), (2, .int v2), (3, .int v3), (5, .int v5)]) hx dX4_playFrom_113 rfl (by decide) rfl ?_
    obtain ⟨x19, hx19, h⟩ := Ho_let h
    refine J_iinc (x := x19) (lv' := [(5, .int x19), (4, .int t17), (7, .int t11.1), (0, .ref (ad 0)), (1, .int v1), (2, .int v2), (3, .int v3)]) hx dX4_playFrom_115 6 rfl (by rw [hx19]; rfl) (by decide) rfl ?_
    refine J_goto hx dX4_playFrom_118 34 (by decide) ?_
    refine J_sub (lv' := [(0, .ref (ad 0)), (1, .int v1), (2, .int v2), (3, .int v3), (4, .int t17), (5, .int x19)]) hx [3, 4, 5, 6, 1, 0] rfl ?_
    have h := Ho_some h
    exact h
def f_X4_playFrom_j60 (rf : Int32 → Int32 → Int32 → StI → Option (Int32 × StI)) (v1 : Int32) (v2 : Int32) (v3 : Int32) (v4 : Int32) (v5 : Int32) (s0 : Int32) (I : StI) : Option ((Int32 × Int32 × StI) ⊕ (Int32 × StI)) :=
  (if s0 = v3 then (if v3 = 0 then f_X4_playFrom_j87 rf v1 v2 v3 v4 v5 (v1 ^^^ ((1 : Int32) <<< (v5 &&& 31))) (v2 - (1 : Int32)) (1 : Int32) I else f_X4_playFrom_j87 rf v1 v2 v3 v4 v5 (v1 ^^^ ((1 : Int32) <<< (v5 &&& 31))) (v2 - (1 : Int32)) (0 : Int32) I) else k_let (v5 + (1 : Int32)) (fun x9 => some (.inl (v4, x9, I))))
set_option maxRecDepth 100000 in
set_option maxHeartbeats 4000000 in
theorem s_X4_playFrom_j60 {X : k_C} {ad : Nat → Nat} {dr dd : Nat} {P : Option Value → StI → StL → Prop} {I : StI} {L : StL} (hx : Ok X cX4_playFrom RX4 8 (some .int) dd) (hQ : OkQ X ad P) {rf : Int32 → Int32 → Int32 → StI → Option (Int32 × StI)} (hrf : ∀ (a b c : Int32) (I : StI) (L : StL) (P : Option Value → StI → StL → Prop), Ho (rf a b c I) (kr_X4_playFrom P L) → k_Met (k_lau X) ad dr yX4_playFrom cX4_playFrom 8 (some .int) [.ref (ad 0), .int a, .int b, .int c] I L P) (hd0 : dr + 1 ≤ dd) (hd1 : 5 + 1 ≤ dd)  {v1 : Int32} {v2 : Int32} {v3 : Int32} {v4 : Int32} {v5 : Int32} {s0 : Int32}  (h : Ho (f_X4_playFrom_j60 rf v1 v2 v3 v4 v5 s0 I) (Sum.elim (g_X4_playFrom_L34 X ad L v1 v2 v3) (kr_X4_playFrom P L))) : J X ad 8 I L 60 [(0, .ref (ad 0)), (1, .int v1), (2, .int v2), (3, .int v3), (4, .int v4), (5, .int v5)] [.int s0] := by
  unfold f_X4_playFrom_j60 at h
  refine J_istore (x := s0) (lv' := [(6, .int s0), (0, .ref (ad 0)), (1, .int v1), (2, .int v2), (3, .int v3), (4, .int v4), (5, .int v5)]) hx dX4_playFrom_60 rfl (by decide) rfl ?_
  refine J_iload hx dX4_playFrom_62 0 rfl ?_
  refine J_iload_n hx dX4_playFrom_64 4 rfl ?_
  refine J_ic_ne hx dX4_playFrom_65 115 (by decide) (fun c8 => ?_) (fun c8 => ?_)
  · have h := Ho_f c8 h
    obtain ⟨x9, hx9, h⟩ := Ho_let h
    refine J_iinc (x := x9) (lv' := [(5, .int x9), (6, .int s0), (0, .ref (ad 0)), (1, .int v1), (2, .int v2), (3, .int v3), (4, .int v4)]) hx dX4_playFrom_115 6 rfl (by rw [hx9]; rfl) (by decide) rfl ?_
    refine J_goto hx dX4_playFrom_118 34 (by decide) ?_
    refine J_sub (lv' := [(0, .ref (ad 0)), (1, .int v1), (2, .int v2), (3, .int v3), (4, .int v4), (5, .int x9)]) hx [2, 3, 4, 5, 6, 0] rfl ?_
    have h := Ho_some h
    exact h
  · have h := Ho_t c8 h
    refine J_aload_n hx dX4_playFrom_68 1 rfl ?_
    refine J_iload_n hx dX4_playFrom_69 2 rfl ?_
    refine J_iconst (v := (1 : Int32)) hx dX4_playFrom_70 (by decide) ?_
    refine J_iload hx dX4_playFrom_71 6 rfl ?_
    refine J_ishl hx dX4_playFrom_73 ?_
    refine J_ixor hx dX4_playFrom_74 ?_
    refine J_iload_n hx dX4_playFrom_75 3 rfl ?_
    refine J_iconst (v := (1 : Int32)) hx dX4_playFrom_76 (by decide) ?_
    refine J_isub hx dX4_playFrom_77 ?_
    refine J_iload_n hx dX4_playFrom_78 4 rfl ?_
    refine J_if_ne hx dX4_playFrom_79 86 (by decide) (fun c10 => ?_) (fun c10 => ?_)
    · have h := Ho_f c10 h
      refine J_iconst (v := (0 : Int32)) hx dX4_playFrom_86 (by decide) ?_
      refine J_sub (lv' := [(0, .ref (ad 0)), (1, .int v1), (2, .int v2), (3, .int v3), (4, .int v4), (5, .int v5)]) hx [1, 2, 3, 4, 5, 6] rfl ?_
      exact s_X4_playFrom_j87 hx hQ hrf hd0 hd1  h
    · have h := Ho_t c10 h
      refine J_iconst (v := (1 : Int32)) hx dX4_playFrom_82 (by decide) ?_
      refine J_goto hx dX4_playFrom_83 87 (by decide) ?_
      refine J_sub (lv' := [(0, .ref (ad 0)), (1, .int v1), (2, .int v2), (3, .int v3), (4, .int v4), (5, .int v5)]) hx [1, 2, 3, 4, 5, 6] rfl ?_
      exact s_X4_playFrom_j87 hx hQ hrf hd0 hd1  h
def f_X4_playFrom_L34_b (rf : Int32 → Int32 → Int32 → StI → Option (Int32 × StI)) (v1 : Int32) (v2 : Int32) (v3 : Int32) (v4 : Int32) (v5 : Int32) (I : StI) : Option ((Int32 × Int32 × StI) ⊕ (Int32 × StI)) :=
  (if (8 : Int32) ≤ v5 then some (.inr (v4, I)) else (if v2 ≤ 0 then some (.inr (v4, I)) else (if ((v1 >>> (v5 &&& 31)) &&& (1 : Int32)) = (1 : Int32) then f_X4_playFrom_j60 rf v1 v2 v3 v4 v5 (1 : Int32) I else f_X4_playFrom_j60 rf v1 v2 v3 v4 v5 (0 : Int32) I)))
def f_X4_playFrom_L34 (rf : Int32 → Int32 → Int32 → StI → Option (Int32 × StI)) (v1 : Int32) (v2 : Int32) (v3 : Int32) (n : Nat) (v4 : Int32) (v5 : Int32) (I : StI) : Option (Int32 × StI) :=
  k_loop (fun s => f_X4_playFrom_L34_b rf v1 v2 v3 s.1 s.2.1 s.2.2) n (v4, v5, I)
set_option maxRecDepth 100000 in
set_option maxHeartbeats 4000000 in
theorem s_X4_playFrom_L34_b {X : k_C} {ad : Nat → Nat} {dr dd : Nat} {P : Option Value → StI → StL → Prop} {I : StI} {L : StL} (hx : Ok X cX4_playFrom RX4 8 (some .int) dd) (hQ : OkQ X ad P) {rf : Int32 → Int32 → Int32 → StI → Option (Int32 × StI)} (hrf : ∀ (a b c : Int32) (I : StI) (L : StL) (P : Option Value → StI → StL → Prop), Ho (rf a b c I) (kr_X4_playFrom P L) → k_Met (k_lau X) ad dr yX4_playFrom cX4_playFrom 8 (some .int) [.ref (ad 0), .int a, .int b, .int c] I L P) (hd0 : dr + 1 ≤ dd) (hd1 : 5 + 1 ≤ dd)  {v1 : Int32} {v2 : Int32} {v3 : Int32} {v4 : Int32} {v5 : Int32}  (h : Ho (f_X4_playFrom_L34_b rf v1 v2 v3 v4 v5 I) (Sum.elim (g_X4_playFrom_L34 X ad L v1 v2 v3) (kr_X4_playFrom P L))) : J X ad 8 I L 34 [(0, .ref (ad 0)), (1, .int v1), (2, .int v2), (3, .int v3), (4, .int v4), (5, .int v5)] [] := by
  unfold f_X4_playFrom_L34_b at h
  refine J_iload hx dX4_playFrom_34 5 rfl ?_
  refine J_bipush (v := (8 : Int32)) hx dX4_playFrom_36 (by decide) ?_
  refine J_ic_ge hx dX4_playFrom_38 121 (by decide) (fun c5 => ?_) (fun c5 => ?_)
  · have h := Ho_t c5 h
    refine J_iload hx dX4_playFrom_121 4 rfl ?_
    have h := Ho_some h
    exact J_iret hx hQ dX4_playFrom_123 h
  · have h := Ho_f c5 h
    refine J_iload_n hx dX4_playFrom_41 2 rfl ?_
    refine J_if_le hx dX4_playFrom_42 121 (by decide) (fun c6 => ?_) (fun c6 => ?_)
    · have h := Ho_t c6 h
      refine J_iload hx dX4_playFrom_121 4 rfl ?_
      have h := Ho_some h
      exact J_iret hx hQ dX4_playFrom_123 h
    · have h := Ho_f c6 h
      refine J_iload_n hx dX4_playFrom_45 1 rfl ?_
      refine J_iload hx dX4_playFrom_46 5 rfl ?_
      refine J_ishr hx dX4_playFrom_48 ?_
      refine J_iconst (v := (1 : Int32)) hx dX4_playFrom_49 (by decide) ?_
      refine J_iand hx dX4_playFrom_50 ?_
      refine J_iconst (v := (1 : Int32)) hx dX4_playFrom_51 (by decide) ?_
      refine J_ic_ne hx dX4_playFrom_52 59 (by decide) (fun c7 => ?_) (fun c7 => ?_)
      · have h := Ho_f c7 h
        refine J_iconst (v := (0 : Int32)) hx dX4_playFrom_59 (by decide) ?_
        refine J_sub (lv' := [(0, .ref (ad 0)), (1, .int v1), (2, .int v2), (3, .int v3), (4, .int v4), (5, .int v5)]) hx [0, 1, 2, 3, 4, 5] rfl ?_
        exact s_X4_playFrom_j60 hx hQ hrf hd0 hd1  h
      · have h := Ho_t c7 h
        refine J_iconst (v := (1 : Int32)) hx dX4_playFrom_55 (by decide) ?_
        refine J_goto hx dX4_playFrom_56 60 (by decide) ?_
        refine J_sub (lv' := [(0, .ref (ad 0)), (1, .int v1), (2, .int v2), (3, .int v3), (4, .int v4), (5, .int v5)]) hx [0, 1, 2, 3, 4, 5] rfl ?_
        exact s_X4_playFrom_j60 hx hQ hrf hd0 hd1  h
set_option maxRecDepth 100000 in
set_option maxHeartbeats 4000000 in
theorem s_X4_playFrom_L34 {X : k_C} {ad : Nat → Nat} {dr dd : Nat} {P : Option Value → StI → StL → Prop} {I : StI} {L : StL} (hx : Ok X cX4_playFrom RX4 8 (some .int) dd) (hQ : OkQ X ad P) {rf : Int32 → Int32 → Int32 → StI → Option (Int32 × StI)} (hrf : ∀ (a b c : Int32) (I : StI) (L : StL) (P : Option Value → StI → StL → Prop), Ho (rf a b c I) (kr_X4_playFrom P L) → k_Met (k_lau X) ad dr yX4_playFrom cX4_playFrom 8 (some .int) [.ref (ad 0), .int a, .int b, .int c] I L P) (hd0 : dr + 1 ≤ dd) (hd1 : 5 + 1 ≤ dd)  {v1 : Int32} {v2 : Int32} {v3 : Int32} {v4 : Int32} {v5 : Int32}  (n : Nat) (h : Ho (f_X4_playFrom_L34 rf v1 v2 v3 n v4 v5 I) (kr_X4_playFrom P L)) : J X ad 8 I L 34 [(0, .ref (ad 0)), (1, .int v1), (2, .int v2), (3, .int v3), (4, .int v4), (5, .int v5)] [] := by
  exact k_loop_ho (G := g_X4_playFrom_L34 X ad L v1 v2 v3) (fun s hs => s_X4_playFrom_L34_b hx hQ hrf hd0 hd1  hs) n (v4, v5, I) h
def f_X4_playFrom_j26 (rf : Int32 → Int32 → Int32 → StI → Option (Int32 × StI)) (v1 : Int32) (v2 : Int32) (v3 : Int32) (s1 : Int32) (s2 : Int32) (s3 : Int32) (I : StI) : Option (Int32 × StI) :=
  Option.bind (rf s1 s2 s3 I) (fun t3 => f_X4_playFrom_L34 rf v1 v2 v3 k_fu t3.1 (0 : Int32) t3.2)
set_option maxRecDepth 100000 in
set_option maxHeartbeats 4000000 in
theorem s_X4_playFrom_j26 {X : k_C} {ad : Nat → Nat} {dr dd : Nat} {P : Option Value → StI → StL → Prop} {I : StI} {L : StL} (hx : Ok X cX4_playFrom RX4 8 (some .int) dd) (hQ : OkQ X ad P) {rf : Int32 → Int32 → Int32 → StI → Option (Int32 × StI)} (hrf : ∀ (a b c : Int32) (I : StI) (L : StL) (P : Option Value → StI → StL → Prop), Ho (rf a b c I) (kr_X4_playFrom P L) → k_Met (k_lau X) ad dr yX4_playFrom cX4_playFrom 8 (some .int) [.ref (ad 0), .int a, .int b, .int c] I L P) (hd0 : dr + 1 ≤ dd) (hd1 : 5 + 1 ≤ dd)  {v1 : Int32} {v2 : Int32} {v3 : Int32} {s1 : Int32} {s2 : Int32} {s3 : Int32}  (h : Ho (f_X4_playFrom_j26 rf v1 v2 v3 s1 s2 s3 I) (kr_X4_playFrom P L)) : J X ad 8 I L 26 [(0, .ref (ad 0)), (1, .int v1), (2, .int v2), (3, .int v3)] [.int s3, .int s2, .int s1, .ref (ad 0)] := by
  unfold f_X4_playFrom_j26 at h
  obtain ⟨t3, e4, h⟩ := Ho_bind h
  refine J_callVi hx lkV_RX4_245 (rfl : k_sh 0 = (4, k_N 4)) [.int s1, .int s2, .int s3] [] rfl rfl (Nat.le_of_ble_eq_true rfl) hd0 (hrf _ _ _ _ _ _ ⟨t3, e4, ⟨rfl, rfl, rfl⟩⟩) dX4_playFrom_26 ?_
  refine J_istore (x := t3.1) (lv' := [(4, .int t3.1), (0, .ref (ad 0)), (1, .int v1), (2, .int v2), (3, .int v3)]) hx dX4_playFrom_29 rfl (by decide) rfl ?_
  refine J_iconst (v := (0 : Int32)) hx dX4_playFrom_31 (by decide) ?_
  refine J_istore (x := (0 : Int32)) (lv' := [(5, .int (0 : Int32)), (4, .int t3.1), (0, .ref (ad 0)), (1, .int v1), (2, .int v2), (3, .int v3)]) hx dX4_playFrom_32 rfl (by decide) rfl ?_
  refine J_sub (lv' := [(0, .ref (ad 0)), (1, .int v1), (2, .int v2), (3, .int v3), (4, .int t3.1), (5, .int (0 : Int32))]) hx [2, 3, 4, 5, 1, 0] rfl ?_
  exact s_X4_playFrom_L34 hx hQ hrf hd0 hd1  k_fu h
def f_X4_playFrom_r (rf : Int32 → Int32 → Int32 → StI → Option (Int32 × StI)) (v1 : Int32) (v2 : Int32) (v3 : Int32) (I : StI) : Option (Int32 × StI) :=
  (if 0 < v2 then (if v3 = 0 then f_X4_playFrom_j26 rf v1 v2 v3 v1 (v2 - (1 : Int32)) (1 : Int32) I else f_X4_playFrom_j26 rf v1 v2 v3 v1 (v2 - (1 : Int32)) (0 : Int32) I) else Option.bind (f_X4_duelEnd v1 I) (fun t20 => f_X4_playFrom_L34 rf v1 v2 v3 k_fu t20.1 (0 : Int32) t20.2))
def f_X4_playFrom : Nat → Int32 → Int32 → Int32 → StI → Option (Int32 × StI)
  | 0, _, _, _, _ => none
  | n + 1, a, b, c, I => f_X4_playFrom_r (f_X4_playFrom n) a b c I
set_option maxRecDepth 100000 in
set_option maxHeartbeats 4000000 in
theorem s_X4_playFrom_r {X : k_C} {ad : Nat → Nat} {dr dd : Nat} {P : Option Value → StI → StL → Prop} {I : StI} {L : StL} (hx : Ok X cX4_playFrom RX4 8 (some .int) dd) (hQ : OkQ X ad P) {rf : Int32 → Int32 → Int32 → StI → Option (Int32 × StI)} (hrf : ∀ (a b c : Int32) (I : StI) (L : StL) (P : Option Value → StI → StL → Prop), Ho (rf a b c I) (kr_X4_playFrom P L) → k_Met (k_lau X) ad dr yX4_playFrom cX4_playFrom 8 (some .int) [.ref (ad 0), .int a, .int b, .int c] I L P) (hd0 : dr + 1 ≤ dd) (hd1 : 5 + 1 ≤ dd)  {v1 : Int32} {v2 : Int32} {v3 : Int32}  (h : Ho (f_X4_playFrom_r rf v1 v2 v3 I) (kr_X4_playFrom P L)) : J X ad 8 I L 0 [(0, .ref (ad 0)), (1, .int v1), (2, .int v2), (3, .int v3)] [] := by
  unfold f_X4_playFrom_r at h
  refine J_iload_n hx dX4_playFrom_0 2 rfl ?_
  refine J_if_gt hx dX4_playFrom_1 12 (by decide) (fun c1 => ?_) (fun c1 => ?_)
  · have h := Ho_t c1 h
    refine J_aload_n hx dX4_playFrom_12 0 rfl ?_
    refine J_iload_n hx dX4_playFrom_13 1 rfl ?_
    refine J_iload_n hx dX4_playFrom_14 2 rfl ?_
    refine J_iconst (v := (1 : Int32)) hx dX4_playFrom_15 (by decide) ?_
    refine J_isub hx dX4_playFrom_16 ?_
    refine J_iload_n hx dX4_playFrom_17 3 rfl ?_
    refine J_if_ne hx dX4_playFrom_18 25 (by decide) (fun c2 => ?_) (fun c2 => ?_)
    · have h := Ho_f c2 h
      refine J_iconst (v := (0 : Int32)) hx dX4_playFrom_25 (by decide) ?_
      refine J_sub (lv' := [(0, .ref (ad 0)), (1, .int v1), (2, .int v2), (3, .int v3)]) hx [0, 1, 2, 3] rfl ?_
      exact s_X4_playFrom_j26 hx hQ hrf hd0 hd1  h
    · have h := Ho_t c2 h
      refine J_iconst (v := (1 : Int32)) hx dX4_playFrom_21 (by decide) ?_
      refine J_goto hx dX4_playFrom_22 26 (by decide) ?_
      refine J_sub (lv' := [(0, .ref (ad 0)), (1, .int v1), (2, .int v2), (3, .int v3)]) hx [0, 1, 2, 3] rfl ?_
      exact s_X4_playFrom_j26 hx hQ hrf hd0 hd1  h
  · have h := Ho_f c1 h
    refine J_aload_n hx dX4_playFrom_4 0 rfl ?_
    refine J_iload_n hx dX4_playFrom_5 1 rfl ?_
    obtain ⟨t20, e21, h⟩ := Ho_bind h
    refine J_callVi hx lkV_RX4_310 (rfl : k_sh 0 = (4, k_N 4)) [.int v1] [] rfl rfl (Nat.le_of_ble_eq_true rfl) (Nat.le_trans (Nat.le_of_ble_eq_true rfl) hd1) (s_X4_duelEnd  ⟨t20, e21, ⟨rfl, rfl, rfl⟩⟩) dX4_playFrom_6 ?_
    refine J_goto hx dX4_playFrom_9 29 (by decide) ?_
    refine J_istore (x := t20.1) (lv' := [(4, .int t20.1), (0, .ref (ad 0)), (1, .int v1), (2, .int v2), (3, .int v3)]) hx dX4_playFrom_29 rfl (by decide) rfl ?_
    refine J_iconst (v := (0 : Int32)) hx dX4_playFrom_31 (by decide) ?_
    refine J_istore (x := (0 : Int32)) (lv' := [(5, .int (0 : Int32)), (4, .int t20.1), (0, .ref (ad 0)), (1, .int v1), (2, .int v2), (3, .int v3)]) hx dX4_playFrom_32 rfl (by decide) rfl ?_
    refine J_sub (lv' := [(0, .ref (ad 0)), (1, .int v1), (2, .int v2), (3, .int v3), (4, .int t20.1), (5, .int (0 : Int32))]) hx [2, 3, 4, 5, 1, 0] rfl ?_
    exact s_X4_playFrom_L34 hx hQ hrf hd0 hd1  k_fu h
theorem s_X4_playFrom {l : Launch} {ad : Nat → Nat} : ∀ (n : Nat) {a b c : Int32} {I : StI} {L : StL} {P : Option Value → StI → StL → Prop}, Ho (f_X4_playFrom n a b c I) (kr_X4_playFrom P L) → k_Met l ad (5 + n) yX4_playFrom cX4_playFrom 8 (some .int) [.ref (ad 0), .int a, .int b, .int c] I L P := by
  intro n
  induction n with
  | zero => intro a b c I L P h; exact (Ho_none h).elim
  | succ n ih =>
    intro a b c I L P h
    refine k_enter (by decide +kernel) (Nat.le_of_ble_eq_true rfl) (fun X hl hx hQ => ?_)
    subst hl
    exact s_X4_playFrom_r hx hQ (fun a b c I L P h => ih h) (Nat.le_refl _) (by omega) h
abbrev kr_X4_duel (P : Option Value → StI → StL → Prop) (L : StL) : Int32 × StI → Prop := fun t => P (some (.int t.1)) t.2 L
def f_X4_duel (v1 : Int32) (I : StI) : Option (Int32 × StI) :=
  (if v1 < 0 then some ((-1 : Int32), I) else (if v1 ≤ (4 : Int32) then (if (I 24 1) = 0 then some ((-4 : Int32), I) else Option.bind (f_J7_fill_53178 49 (-1 : Int32) I) (fun t4 => Option.bind (f_X4_playFrom 7 (t4 24 3) v1 (1 : Int32) t4) (fun t6 => some (t6.1, t6.2)))) else some ((-1 : Int32), I)))
set_option maxRecDepth 100000 in
set_option maxHeartbeats 4000000 in
theorem s_X4_duel {l : Launch} {ad : Nat → Nat} {P : Option Value → StI → StL → Prop} {I : StI} {L : StL} {v1 : Int32}  (h : Ho (f_X4_duel v1 I) (kr_X4_duel P L)) : k_Met l ad 14 yX4_duel cX4_duel 2 (some .int) [.ref (ad 0), .int v1] I L P := by
  refine k_enter (by decide +kernel) (Nat.le_of_ble_eq_true rfl) (fun X hl hx hQ => ?_)
  clear hl
  have hx : Ok X cX4_duel RX4 2 (some .int) 14 := hx
  show J X ad 2 I L 0 [(0, .ref (ad 0)), (1, .int v1)] []
  unfold f_X4_duel at h
  refine J_iload_n hx dX4_duel_0 1 rfl ?_
  refine J_if_lt hx dX4_duel_1 9 (by decide) (fun c1 => ?_) (fun c1 => ?_)
  · have h := Ho_t c1 h
    refine J_iconst (v := (-1 : Int32)) hx dX4_duel_9 (by decide) ?_
    have h := Ho_some h
    exact J_iret hx hQ dX4_duel_10 h
  · have h := Ho_f c1 h
    refine J_iload_n hx dX4_duel_4 1 rfl ?_
    refine J_iconst (v := (4 : Int32)) hx dX4_duel_5 (by decide) ?_
    refine J_ic_le hx dX4_duel_6 11 (by decide) (fun c2 => ?_) (fun c2 => ?_)
    · have h := Ho_t c2 h
      refine J_aload_n hx dX4_duel_11 0 rfl ?_
      refine J_getR (q := 24) hx fl_RX4_33 (rfl : k_sh 0 = (4, k_N 4)) rfl rfl dX4_duel_12 ?_
      refine J_getI hx fl_RX4_125 (rfl : k_sh 24 = (3, k_N 3)) rfl dX4_duel_15 ?_
      refine J_if_ne hx dX4_duel_18 24 (by decide) (fun c3 => ?_) (fun c3 => ?_)
      · have h := Ho_f c3 h
        refine J_aload_n hx dX4_duel_24 0 rfl ?_
        refine J_getR (q := 49) hx fl_RX4_74 (rfl : k_sh 0 = (4, k_N 4)) rfl rfl dX4_duel_25 ?_
        refine J_iconst (v := (-1 : Int32)) hx dX4_duel_28 (by decide) ?_
        obtain ⟨t4, e5, h⟩ := Ho_bind h
        refine J_callSv hx lkS_RX4_80 [.ref (ad 49), .int (-1 : Int32)] [] rfl rfl (Nat.le_of_ble_eq_true rfl) (Nat.le_of_ble_eq_true rfl) (s_J7_fill_53178 (congrArg Prod.fst (rfl : k_sh 49 = (10, 256))) ⟨t4, e5, ⟨rfl, rfl, rfl⟩⟩) dX4_duel_29 ?_
        refine J_aload_n hx dX4_duel_32 0 rfl ?_
        refine J_aload_n hx dX4_duel_33 0 rfl ?_
        refine J_getR (q := 24) hx fl_RX4_33 (rfl : k_sh 0 = (4, k_N 4)) rfl rfl dX4_duel_34 ?_
        refine J_getI hx fl_RX4_160 (rfl : k_sh 24 = (3, k_N 3)) rfl dX4_duel_37 ?_
        refine J_iload_n hx dX4_duel_40 1 rfl ?_
        refine J_iconst (v := (1 : Int32)) hx dX4_duel_41 (by decide) ?_
        obtain ⟨t6, e7, h⟩ := Ho_bind h
        refine J_callVi hx lkV_RX4_245 (rfl : k_sh 0 = (4, k_N 4)) [.int (t4 24 3), .int v1, .int (1 : Int32)] [] rfl rfl (Nat.le_of_ble_eq_true rfl) (Nat.le_of_ble_eq_true rfl) (s_X4_playFrom  7 ⟨t6, e7, ⟨rfl, rfl, rfl⟩⟩) dX4_duel_42 ?_
        have h := Ho_some h
        exact J_iret hx hQ dX4_duel_45 h
      · have h := Ho_t c3 h
        refine J_bipush (v := (-4 : Int32)) hx dX4_duel_21 (by decide) ?_
        have h := Ho_some h
        exact J_iret hx hQ dX4_duel_23 h
    · have h := Ho_f c2 h
      refine J_iconst (v := (-1 : Int32)) hx dX4_duel_9 (by decide) ?_
      have h := Ho_some h
      exact J_iret hx hQ dX4_duel_10 h
abbrev kr_X4_isText (P : Option Value → StI → StL → Prop) (I : StI) (L : StL) : Int32 → Prop := fun t => P (some (.int t)) I L
def f_X4_isText (v0 : Int32) : Option (Int32) :=
  (if v0 < 0 then some ((0 : Int32)) else (if (4 : Int32) ≤ v0 then some ((0 : Int32)) else some ((1 : Int32))))
set_option maxRecDepth 100000 in
set_option maxHeartbeats 4000000 in
theorem s_X4_isText {l : Launch} {ad : Nat → Nat} {P : Option Value → StI → StL → Prop} {I : StI} {L : StL} {v0 : Int32}  (h : Ho (f_X4_isText v0) (kr_X4_isText P I L)) : k_Met l ad 1 yX4_isText cX4_isText 1 (some .boolean) [.int v0] I L P := by
  refine k_enter (by decide +kernel) (Nat.le_of_ble_eq_true rfl) (fun X hl hx hQ => ?_)
  clear hl
  have hx : Ok X cX4_isText RX4 1 (some .boolean) 1 := hx
  show J X ad 1 I L 0 [(0, .int v0)] []
  unfold f_X4_isText at h
  refine J_iload_n hx dX4_isText_0 0 rfl ?_
  refine J_if_lt hx dX4_isText_1 13 (by decide) (fun c1 => ?_) (fun c1 => ?_)
  · have h := Ho_t c1 h
    refine J_iconst (v := (0 : Int32)) hx dX4_isText_13 (by decide) ?_
    have h := Ho_some h
    exact J_zret hx hQ dX4_isText_14 rfl h
  · have h := Ho_f c1 h
    refine J_iload_n hx dX4_isText_4 0 rfl ?_
    refine J_iconst (v := (4 : Int32)) hx dX4_isText_5 (by decide) ?_
    refine J_ic_ge hx dX4_isText_6 13 (by decide) (fun c2 => ?_) (fun c2 => ?_)
    · have h := Ho_t c2 h
      refine J_iconst (v := (0 : Int32)) hx dX4_isText_13 (by decide) ?_
      have h := Ho_some h
      exact J_zret hx hQ dX4_isText_14 rfl h
    · have h := Ho_f c2 h
      refine J_iconst (v := (1 : Int32)) hx dX4_isText_9 (by decide) ?_
      refine J_goto hx dX4_isText_10 14 (by decide) ?_
      have h := Ho_some h
      exact J_zret hx hQ dX4_isText_14 rfl h
abbrev kr_X4_pastBlanks (P : Option Value → StI → StL → Prop) (I : StI) (L : StL) : Int32 → Prop := fun t => P (some (.int t)) I L
abbrev g_X4_pastBlanks_L2 (X : k_C) (ad : Nat → Nat) (I : StI) (L : StL) (v0 : Nat) (v2 : Int32) : (Int32) → Prop := fun s => J X ad 4 I L 2 [(0, .ref (ad v0)), (2, .int v2), (3, .int s)] []
def f_X4_pastBlanks_L2_b (v0 : Nat) (v2 : Int32) (v3 : Int32) (I : StI) : Option ((Int32) ⊕ (Int32)) :=
  (if v2 ≤ v3 then some (.inr (v3)) else k_gd v3 (k_sh v0).2 ((if (I v0 v3.toNatClampNeg) = (32 : Int32) then k_let (v3 + (1 : Int32)) (fun x4 => some (.inl (x4))) else some (.inr (v3)))))
def f_X4_pastBlanks_L2 (v0 : Nat) (v2 : Int32) (I : StI) (n : Nat) (v3 : Int32) : Option (Int32) :=
  k_loop (fun s => f_X4_pastBlanks_L2_b v0 v2 s I) n (v3)
set_option maxRecDepth 100000 in
set_option maxHeartbeats 4000000 in
theorem s_X4_pastBlanks_L2_b {X : k_C} {ad : Nat → Nat} {P : Option Value → StI → StL → Prop} {I : StI} {L : StL} (hx : Ok X cX4_pastBlanks RX4 4 (some .int) 1) (hQ : OkQ X ad P)  {v0 : Nat} {v2 : Int32} {v3 : Int32} (hv0 : (k_sh v0).1 = 11) (h : Ho (f_X4_pastBlanks_L2_b v0 v2 v3 I) (Sum.elim (g_X4_pastBlanks_L2 X ad I L v0 v2) (kr_X4_pastBlanks P I L))) : J X ad 4 I L 2 [(0, .ref (ad v0)), (2, .int v2), (3, .int v3)] [] := by
  unfold f_X4_pastBlanks_L2_b at h
  refine J_iload_n hx dX4_pastBlanks_2 2 rfl ?_
  refine J_iload_n hx dX4_pastBlanks_3 1 rfl ?_
  refine J_ic_ge hx dX4_pastBlanks_4 21 (by decide) (fun c1 => ?_) (fun c1 => ?_)
  · have h := Ho_t c1 h
    refine J_iload_n hx dX4_pastBlanks_21 2 rfl ?_
    have h := Ho_some h
    exact J_iret hx hQ dX4_pastBlanks_22 h
  · have h := Ho_f c1 h
    refine J_aload_n hx dX4_pastBlanks_7 0 rfl ?_
    refine J_iload_n hx dX4_pastBlanks_8 2 rfl ?_
    obtain ⟨b2, h⟩ := Ho_gd h
    refine J_bald hx (k_shA hv0) b2 dX4_pastBlanks_9 ?_
    refine J_bipush (v := (32 : Int32)) hx dX4_pastBlanks_10 (by decide) ?_
    refine J_ic_ne hx dX4_pastBlanks_12 21 (by decide) (fun c3 => ?_) (fun c3 => ?_)
    · have h := Ho_f c3 h
      refine J_iload_n hx dX4_pastBlanks_21 2 rfl ?_
      have h := Ho_some h
      exact J_iret hx hQ dX4_pastBlanks_22 h
    · have h := Ho_t c3 h
      obtain ⟨x4, hx4, h⟩ := Ho_let h
      refine J_iinc (x := x4) (lv' := [(3, .int x4), (0, .ref (ad v0)), (2, .int v2)]) hx dX4_pastBlanks_15 2 rfl (by rw [hx4]; rfl) (by decide) rfl ?_
      refine J_goto hx dX4_pastBlanks_18 2 (by decide) ?_
      refine J_sub (lv' := [(0, .ref (ad v0)), (2, .int v2), (3, .int x4)]) hx [1, 2, 0] rfl ?_
      have h := Ho_some h
      exact h
set_option maxRecDepth 100000 in
set_option maxHeartbeats 4000000 in
theorem s_X4_pastBlanks_L2 {X : k_C} {ad : Nat → Nat} {P : Option Value → StI → StL → Prop} {I : StI} {L : StL} (hx : Ok X cX4_pastBlanks RX4 4 (some .int) 1) (hQ : OkQ X ad P)  {v0 : Nat} {v2 : Int32} {v3 : Int32} (hv0 : (k_sh v0).1 = 11) (n : Nat) (h : Ho (f_X4_pastBlanks_L2 v0 v2 I n v3) (kr_X4_pastBlanks P I L)) : J X ad 4 I L 2 [(0, .ref (ad v0)), (2, .int v2), (3, .int v3)] [] := by
  exact k_loop_ho (G := g_X4_pastBlanks_L2 X ad I L v0 v2) (fun s hs => s_X4_pastBlanks_L2_b hx hQ hv0 hs) n (v3) h
def f_X4_pastBlanks (v0 : Nat) (v1 : Int32) (v2 : Int32) (I : StI) : Option (Int32) :=
  f_X4_pastBlanks_L2 v0 v2 I k_fu v1
set_option maxRecDepth 100000 in
set_option maxHeartbeats 4000000 in
theorem s_X4_pastBlanks {l : Launch} {ad : Nat → Nat} {P : Option Value → StI → StL → Prop} {I : StI} {L : StL} {v0 : Nat} {v1 : Int32} {v2 : Int32} (hv0 : (k_sh v0).1 = 11) (h : Ho (f_X4_pastBlanks v0 v1 v2 I) (kr_X4_pastBlanks P I L)) : k_Met l ad 1 yX4_pastBlanks cX4_pastBlanks 4 (some .int) [.ref (ad v0), .int v1, .int v2] I L P := by
  refine k_enter (by decide +kernel) (Nat.le_of_ble_eq_true rfl) (fun X hl hx hQ => ?_)
  clear hl
  have hx : Ok X cX4_pastBlanks RX4 4 (some .int) 1 := hx
  show J X ad 4 I L 0 [(0, .ref (ad v0)), (1, .int v1), (2, .int v2)] []
  unfold f_X4_pastBlanks at h
  refine J_iload_n hx dX4_pastBlanks_0 1 rfl ?_
  refine J_istore_n (x := v1) (lv' := [(3, .int v1), (0, .ref (ad v0)), (1, .int v1), (2, .int v2)]) hx dX4_pastBlanks_1 rfl (by decide) rfl ?_
  refine J_sub (lv' := [(0, .ref (ad v0)), (2, .int v2), (3, .int v1)]) hx [1, 3, 0] rfl ?_
  exact s_X4_pastBlanks_L2 hx hQ (congrArg Prod.fst (k_shA hv0)) k_fu h
abbrev kr_X4_isFigure (P : Option Value → StI → StL → Prop) (I : StI) (L : StL) : Int32 → Prop := fun t => P (some (.int t)) I L
def f_X4_isFigure (v0 : Int32) : Option (Int32) :=
  (if v0 < (1 : Int32) then some ((0 : Int32)) else (if (9 : Int32) < v0 then some ((0 : Int32)) else some ((1 : Int32))))
set_option maxRecDepth 100000 in
set_option maxHeartbeats 4000000 in
theorem s_X4_isFigure {l : Launch} {ad : Nat → Nat} {P : Option Value → StI → StL → Prop} {I : StI} {L : StL} {v0 : Int32}  (h : Ho (f_X4_isFigure v0) (kr_X4_isFigure P I L)) : k_Met l ad 1 yX4_isFigure cX4_isFigure 1 (some .boolean) [.int v0] I L P := by
  refine k_enter (by decide +kernel) (Nat.le_of_ble_eq_true rfl) (fun X hl hx hQ => ?_)
  clear hl
  have hx : Ok X cX4_isFigure RX4 1 (some .boolean) 1 := hx
  show J X ad 1 I L 0 [(0, .int v0)] []
  unfold f_X4_isFigure at h
  refine J_iload_n hx dX4_isFigure_0 0 rfl ?_
  refine J_iconst (v := (1 : Int32)) hx dX4_isFigure_1 (by decide) ?_
  refine J_ic_lt hx dX4_isFigure_2 15 (by decide) (fun c1 => ?_) (fun c1 => ?_)
  · have h := Ho_t c1 h
    refine J_iconst (v := (0 : Int32)) hx dX4_isFigure_15 (by decide) ?_
    have h := Ho_some h
    exact J_zret hx hQ dX4_isFigure_16 rfl h
  · have h := Ho_f c1 h
    refine J_iload_n hx dX4_isFigure_5 0 rfl ?_
    refine J_bipush (v := (9 : Int32)) hx dX4_isFigure_6 (by decide) ?_
    refine J_ic_gt hx dX4_isFigure_8 15 (by decide) (fun c2 => ?_) (fun c2 => ?_)
    · have h := Ho_t c2 h
      refine J_iconst (v := (0 : Int32)) hx dX4_isFigure_15 (by decide) ?_
      have h := Ho_some h
      exact J_zret hx hQ dX4_isFigure_16 rfl h
    · have h := Ho_f c2 h
      refine J_iconst (v := (1 : Int32)) hx dX4_isFigure_11 (by decide) ?_
      refine J_goto hx dX4_isFigure_12 16 (by decide) ?_
      have h := Ho_some h
      exact J_zret hx hQ dX4_isFigure_16 rfl h
abbrev kr_X4_figureAt (P : Option Value → StI → StL → Prop) (I : StI) (L : StL) : Int32 → Prop := fun t => P (some (.int t)) I L
def f_X4_figureAt (v0 : Nat) (v1 : Int32) (v2 : Int32) (I : StI) : Option (Int32) :=
  (if v1 < v2 then k_gd v1 (k_sh v0).2 (k_let ((I v0 v1.toNatClampNeg) - (48 : Int32)) (fun x3 => Option.bind (f_X4_isFigure x3) (fun t4 => (if t4 = 0 then some ((0 : Int32)) else some (x3))))) else some ((0 : Int32)))
set_option maxRecDepth 100000 in
set_option maxHeartbeats 4000000 in
theorem s_X4_figureAt {l : Launch} {ad : Nat → Nat} {P : Option Value → StI → StL → Prop} {I : StI} {L : StL} {v0 : Nat} {v1 : Int32} {v2 : Int32} (hv0 : (k_sh v0).1 = 11) (h : Ho (f_X4_figureAt v0 v1 v2 I) (kr_X4_figureAt P I L)) : k_Met l ad 2 yX4_figureAt cX4_figureAt 4 (some .int) [.ref (ad v0), .int v1, .int v2] I L P := by
  refine k_enter (by decide +kernel) (Nat.le_of_ble_eq_true rfl) (fun X hl hx hQ => ?_)
  clear hl
  have hx : Ok X cX4_figureAt RX4 4 (some .int) 2 := hx
  show J X ad 4 I L 0 [(0, .ref (ad v0)), (1, .int v1), (2, .int v2)] []
  unfold f_X4_figureAt at h
  refine J_iload_n hx dX4_figureAt_0 1 rfl ?_
  refine J_iload_n hx dX4_figureAt_1 2 rfl ?_
  refine J_ic_lt hx dX4_figureAt_2 7 (by decide) (fun c1 => ?_) (fun c1 => ?_)
  · have h := Ho_t c1 h
    refine J_aload_n hx dX4_figureAt_7 0 rfl ?_
    refine J_iload_n hx dX4_figureAt_8 1 rfl ?_
    obtain ⟨b2, h⟩ := Ho_gd h
    refine J_bald hx (k_shA hv0) b2 dX4_figureAt_9 ?_
    refine J_bipush (v := (48 : Int32)) hx dX4_figureAt_10 (by decide) ?_
    refine J_isub hx dX4_figureAt_12 ?_
    obtain ⟨x3, hx3, h⟩ := Ho_let h
    refine J_istore_n (x := x3) (lv' := [(3, .int x3), (0, .ref (ad v0)), (1, .int v1), (2, .int v2)]) hx dX4_figureAt_13 hx3 (by decide) rfl ?_
    refine J_iload_n hx dX4_figureAt_14 0 rfl ?_
    obtain ⟨t4, e5, h⟩ := Ho_bind h
    refine J_callSi hx lkS_RX4_168 [.int x3] [] rfl rfl (Nat.le_of_ble_eq_true rfl) (Nat.le_of_ble_eq_true rfl) (s_X4_isFigure  ⟨t4, e5, ⟨rfl, rfl, rfl⟩⟩) dX4_figureAt_15 ?_
    refine J_if_eq hx dX4_figureAt_18 25 (by decide) (fun c6 => ?_) (fun c6 => ?_)
    · have h := Ho_t c6 h
      refine J_iconst (v := (0 : Int32)) hx dX4_figureAt_25 (by decide) ?_
      have h := Ho_some h
      exact J_iret hx hQ dX4_figureAt_26 h
    · have h := Ho_f c6 h
      refine J_iload_n hx dX4_figureAt_21 0 rfl ?_
      refine J_goto hx dX4_figureAt_22 26 (by decide) ?_
      have h := Ho_some h
      exact J_iret hx hQ dX4_figureAt_26 h
  · have h := Ho_f c1 h
    refine J_iconst (v := (0 : Int32)) hx dX4_figureAt_5 (by decide) ?_
    have h := Ho_some h
    exact J_iret hx hQ dX4_figureAt_6 h
abbrev kr_X4_kindAt (P : Option Value → StI → StL → Prop) (I : StI) (L : StL) : Int32 → Prop := fun t => P (some (.int t)) I L
abbrev g_X4_kindAt_L2 (X : k_C) (ad : Nat → Nat) (I : StI) (L : StL) (v0 : Nat) (v1 : Int32) (v2 : Int32) : (Int32) → Prop := fun s => J X ad 4 I L 2 [(0, .ref (ad v0)), (1, .int v1), (2, .int v2), (3, .int s)] []
def f_X4_kindAt_L2_b (v0 : Nat) (v1 : Int32) (v2 : Int32) (v3 : Int32) (I : StI) : Option ((Int32) ⊕ (Int32)) :=
  (if (6 : Int32) ≤ v3 then some (.inr ((-9 : Int32))) else (if v2 ≤ v1 then some (.inr ((-9 : Int32))) else k_gd v1 (k_sh v0).2 (k_gd v3 6 ((if (I v0 v1.toNatClampNeg) = (k_letters v3.toNatClampNeg) then some (.inr (v3)) else k_let (v3 + (1 : Int32)) (fun x6 => some (.inl (x6))))))))
def f_X4_kindAt_L2 (v0 : Nat) (v1 : Int32) (v2 : Int32) (I : StI) (n : Nat) (v3 : Int32) : Option (Int32) :=
  k_loop (fun s => f_X4_kindAt_L2_b v0 v1 v2 s I) n (v3)
set_option maxRecDepth 100000 in
set_option maxHeartbeats 4000000 in
theorem s_X4_kindAt_L2_b {X : k_C} {ad : Nat → Nat} {P : Option Value → StI → StL → Prop} {I : StI} {L : StL} (hx : Ok X cX4_kindAt RX4 4 (some .int) 1) (hQ : OkQ X ad P)  {v0 : Nat} {v1 : Int32} {v2 : Int32} {v3 : Int32} (hv0 : (k_sh v0).1 = 11) (h : Ho (f_X4_kindAt_L2_b v0 v1 v2 v3 I) (Sum.elim (g_X4_kindAt_L2 X ad I L v0 v1 v2) (kr_X4_kindAt P I L))) : J X ad 4 I L 2 [(0, .ref (ad v0)), (1, .int v1), (2, .int v2), (3, .int v3)] [] := by
  unfold f_X4_kindAt_L2_b at h
  refine J_iload_n hx dX4_kindAt_2 3 rfl ?_
  refine J_bipush (v := (6 : Int32)) hx dX4_kindAt_3 (by decide) ?_
  refine J_ic_ge hx dX4_kindAt_5 32 (by decide) (fun c1 => ?_) (fun c1 => ?_)
  · have h := Ho_t c1 h
    refine J_bipush (v := (-9 : Int32)) hx dX4_kindAt_32 (by decide) ?_
    have h := Ho_some h
    exact J_iret hx hQ dX4_kindAt_34 h
  · have h := Ho_f c1 h
    refine J_iload_n hx dX4_kindAt_8 1 rfl ?_
    refine J_iload_n hx dX4_kindAt_9 2 rfl ?_
    refine J_ic_ge hx dX4_kindAt_10 32 (by decide) (fun c2 => ?_) (fun c2 => ?_)
    · have h := Ho_t c2 h
      refine J_bipush (v := (-9 : Int32)) hx dX4_kindAt_32 (by decide) ?_
      have h := Ho_some h
      exact J_iret hx hQ dX4_kindAt_34 h
    · have h := Ho_f c2 h
      refine J_aload_n hx dX4_kindAt_13 0 rfl ?_
      refine J_iload_n hx dX4_kindAt_14 1 rfl ?_
      obtain ⟨b3, h⟩ := Ho_gd h
      refine J_bald hx (k_shA hv0) b3 dX4_kindAt_15 ?_
      obtain ⟨b4, h⟩ := Ho_gd h
      refine J_letters (kf := 0) hx wf_RX4_359 dX4_kindAt_16 dX4_kindAt_19 3 rfl b4 dX4_kindAt_20 ?_
      refine J_ic_ne hx dX4_kindAt_21 26 (by decide) (fun c5 => ?_) (fun c5 => ?_)
      · have h := Ho_f c5 h
        obtain ⟨x6, hx6, h⟩ := Ho_let h
        refine J_iinc (x := x6) (lv' := [(3, .int x6), (0, .ref (ad v0)), (1, .int v1), (2, .int v2)]) hx dX4_kindAt_26 3 rfl (by rw [hx6]; rfl) (by decide) rfl ?_
        refine J_goto hx dX4_kindAt_29 2 (by decide) ?_
        refine J_sub (lv' := [(0, .ref (ad v0)), (1, .int v1), (2, .int v2), (3, .int x6)]) hx [1, 2, 3, 0] rfl ?_
        have h := Ho_some h
        exact h
      · have h := Ho_t c5 h
        refine J_iload_n hx dX4_kindAt_24 3 rfl ?_
        have h := Ho_some h
        exact J_iret hx hQ dX4_kindAt_25 h
set_option maxRecDepth 100000 in
set_option maxHeartbeats 4000000 in
theorem s_X4_kindAt_L2 {X : k_C} {ad : Nat → Nat} {P : Option Value → StI → StL → Prop} {I : StI} {L : StL} (hx : Ok X cX4_kindAt RX4 4 (some .int) 1) (hQ : OkQ X ad P)  {v0 : Nat} {v1 : Int32} {v2 : Int32} {v3 : Int32} (hv0 : (k_sh v0).1 = 11) (n : Nat) (h : Ho (f_X4_kindAt_L2 v0 v1 v2 I n v3) (kr_X4_kindAt P I L)) : J X ad 4 I L 2 [(0, .ref (ad v0)), (1, .int v1), (2, .int v2), (3, .int v3)] [] := by
  exact k_loop_ho (G := g_X4_kindAt_L2 X ad I L v0 v1 v2) (fun s hs => s_X4_kindAt_L2_b hx hQ hv0 hs) n (v3) h
def f_X4_kindAt (v0 : Nat) (v1 : Int32) (v2 : Int32) (I : StI) : Option (Int32) :=
  f_X4_kindAt_L2 v0 v1 v2 I k_fu (0 : Int32)
set_option maxRecDepth 100000 in
set_option maxHeartbeats 4000000 in
theorem s_X4_kindAt {l : Launch} {ad : Nat → Nat} {P : Option Value → StI → StL → Prop} {I : StI} {L : StL} {v0 : Nat} {v1 : Int32} {v2 : Int32} (hv0 : (k_sh v0).1 = 11) (h : Ho (f_X4_kindAt v0 v1 v2 I) (kr_X4_kindAt P I L)) : k_Met l ad 1 yX4_kindAt cX4_kindAt 4 (some .int) [.ref (ad v0), .int v1, .int v2] I L P := by
  refine k_enter (by decide +kernel) (Nat.le_of_ble_eq_true rfl) (fun X hl hx hQ => ?_)
  clear hl
  have hx : Ok X cX4_kindAt RX4 4 (some .int) 1 := hx
  show J X ad 4 I L 0 [(0, .ref (ad v0)), (1, .int v1), (2, .int v2)] []
  unfold f_X4_kindAt at h
  refine J_iconst (v := (0 : Int32)) hx dX4_kindAt_0 (by decide) ?_
  refine J_istore_n (x := (0 : Int32)) (lv' := [(3, .int (0 : Int32)), (0, .ref (ad v0)), (1, .int v1), (2, .int v2)]) hx dX4_kindAt_1 rfl (by decide) rfl ?_
  refine J_sub (lv' := [(0, .ref (ad v0)), (1, .int v1), (2, .int v2), (3, .int (0 : Int32))]) hx [1, 2, 3, 0] rfl ?_
  exact s_X4_kindAt_L2 hx hQ (congrArg Prod.fst (k_shA hv0)) k_fu h
abbrev kr_X4_readCaller (P : Option Value → StI → StL → Prop) (L : StL) : Int32 × StI → Prop := fun t => P (some (.int t.1)) t.2 L
def f_X4_readCaller (v0 : Nat) (v1 : Int32) (v2 : Int32) (v3 : Nat) (I : StI) : Option (Int32 × StI) :=
  Option.bind (f_X4_kindAt v0 v1 v2 I) (fun t1 => (if t1 = (-9 : Int32) then some (v1, I) else (if (I v3 1) < (7 : Int32) then Option.bind (f_X4_figureAt v0 (v1 + (1 : Int32)) v2 I) (fun t5 => (if t5 = 0 then some ((v1 + (1 : Int32)), I) else Option.bind (f_X4_figureAt v0 (v1 + (2 : Int32)) v2 I) (fun t8 => (if t8 = 0 then some ((v1 + (2 : Int32)), I) else k_gd (I v3 1) 7 (Option.bind (f_X0_begin (k_cq v3 (I v3 1).toNatClampNeg) t1 t5 t8 I) (fun t12 => k_let (k_up t12 v3 1 ((t12 v3 1) + (1 : Int32))) (fun I14 => some ((-9 : Int32), I14)))))))) else some (v1, I))))
set_option maxRecDepth 100000 in
set_option maxHeartbeats 4000000 in
theorem s_X4_readCaller {l : Launch} {ad : Nat → Nat} {P : Option Value → StI → StL → Prop} {I : StI} {L : StL} {v0 : Nat} {v1 : Int32} {v2 : Int32} {v3 : Nat} (hv0 : (k_sh v0).1 = 11) (hv3 : k_isH v3) (h : Ho (f_X4_readCaller v0 v1 v2 v3 I) (kr_X4_readCaller P L)) : k_Met l ad 3 yX4_readCaller cX4_readCaller 7 (some .int) [.ref (ad v0), .int v1, .int v2, .ref (ad v3)] I L P := by
  refine k_enter (by decide +kernel) (Nat.le_of_ble_eq_true rfl) (fun X hl hx hQ => ?_)
  clear hl
  have hx : Ok X cX4_readCaller RX4 7 (some .int) 3 := hx
  show J X ad 7 I L 0 [(0, .ref (ad v0)), (1, .int v1), (2, .int v2), (3, .ref (ad v3))] []
  unfold f_X4_readCaller at h
  refine J_aload_n hx dX4_readCaller_0 0 rfl ?_
  refine J_iload_n hx dX4_readCaller_1 1 rfl ?_
  refine J_iload_n hx dX4_readCaller_2 2 rfl ?_
  obtain ⟨t1, e2, h⟩ := Ho_bind h
  refine J_callSi hx lkS_RX4_354 [.ref (ad v0), .int v1, .int v2] [] rfl rfl (Nat.le_of_ble_eq_true rfl) (Nat.le_of_ble_eq_true rfl) (s_X4_kindAt (congrArg Prod.fst (k_shA hv0)) ⟨t1, e2, ⟨rfl, rfl, rfl⟩⟩) dX4_readCaller_3 ?_
  refine J_istore (x := t1) (lv' := [(4, .int t1), (0, .ref (ad v0)), (1, .int v1), (2, .int v2), (3, .ref (ad v3))]) hx dX4_readCaller_6 rfl (by decide) rfl ?_
  refine J_iload hx dX4_readCaller_8 0 rfl ?_
  refine J_bipush (v := (-9 : Int32)) hx dX4_readCaller_10 (by decide) ?_
  refine J_ic_eq hx dX4_readCaller_12 24 (by decide) (fun c3 => ?_) (fun c3 => ?_)
  · have h := Ho_t c3 h
    refine J_iload_n hx dX4_readCaller_24 2 rfl ?_
    have h := Ho_some h
    exact J_iret hx hQ dX4_readCaller_25 h
  · have h := Ho_f c3 h
    refine J_aload_n hx dX4_readCaller_15 4 rfl ?_
    refine J_getI hx fl_RX4_125 (k_H0 hv3) rfl dX4_readCaller_16 ?_
    refine J_bipush (v := (7 : Int32)) hx dX4_readCaller_19 (by decide) ?_
    refine J_ic_lt hx dX4_readCaller_21 26 (by decide) (fun c4 => ?_) (fun c4 => ?_)
    · have h := Ho_t c4 h
      refine J_aload_n hx dX4_readCaller_26 1 rfl ?_
      refine J_iload_n hx dX4_readCaller_27 2 rfl ?_
      refine J_iconst (v := (1 : Int32)) hx dX4_readCaller_28 (by decide) ?_
      refine J_iadd hx dX4_readCaller_29 ?_
      refine J_iload_n hx dX4_readCaller_30 3 rfl ?_
      obtain ⟨t5, e6, h⟩ := Ho_bind h
      refine J_callSi hx lkS_RX4_347 [.ref (ad v0), .int (v1 + (1 : Int32)), .int v2] [] rfl rfl (Nat.le_of_ble_eq_true rfl) (Nat.le_of_ble_eq_true rfl) (s_X4_figureAt (congrArg Prod.fst (k_shA hv0)) ⟨t5, e6, ⟨rfl, rfl, rfl⟩⟩) dX4_readCaller_31 ?_
      refine J_istore (x := t5) (lv' := [(5, .int t5), (4, .int t1), (0, .ref (ad v0)), (1, .int v1), (2, .int v2), (3, .ref (ad v3))]) hx dX4_readCaller_34 rfl (by decide) rfl ?_
      refine J_iload hx dX4_readCaller_36 0 rfl ?_
      refine J_if_ne hx dX4_readCaller_38 45 (by decide) (fun c7 => ?_) (fun c7 => ?_)
      · have h := Ho_f c7 h
        refine J_aload_n hx dX4_readCaller_45 2 rfl ?_
        refine J_iload_n hx dX4_readCaller_46 3 rfl ?_
        refine J_iconst (v := (2 : Int32)) hx dX4_readCaller_47 (by decide) ?_
        refine J_iadd hx dX4_readCaller_48 ?_
        refine J_iload_n hx dX4_readCaller_49 4 rfl ?_
        obtain ⟨t8, e9, h⟩ := Ho_bind h
        refine J_callSi hx lkS_RX4_347 [.ref (ad v0), .int (v1 + (2 : Int32)), .int v2] [] rfl rfl (Nat.le_of_ble_eq_true rfl) (Nat.le_of_ble_eq_true rfl) (s_X4_figureAt (congrArg Prod.fst (k_shA hv0)) ⟨t8, e9, ⟨rfl, rfl, rfl⟩⟩) dX4_readCaller_50 ?_
        refine J_istore (x := t8) (lv' := [(6, .int t8), (5, .int t5), (4, .int t1), (0, .ref (ad v0)), (1, .int v1), (2, .int v2), (3, .ref (ad v3))]) hx dX4_readCaller_53 rfl (by decide) rfl ?_
        refine J_iload hx dX4_readCaller_55 0 rfl ?_
        refine J_if_ne hx dX4_readCaller_57 64 (by decide) (fun c10 => ?_) (fun c10 => ?_)
        · have h := Ho_f c10 h
          refine J_aload_n hx dX4_readCaller_64 6 rfl ?_
          refine J_getR (q := (v3 + 1)) hx fl_RX4_129 (k_H0 hv3) rfl (k_Hr0 hv3) dX4_readCaller_65 ?_
          refine J_aload_n hx dX4_readCaller_68 6 rfl ?_
          refine J_getI hx fl_RX4_125 (k_H0 hv3) rfl dX4_readCaller_69 ?_
          obtain ⟨b11, h⟩ := Ho_gd h
          refine J_aald (q := (k_cq v3 (I v3 1).toNatClampNeg)) hx (k_H1 hv3) (by decide) (by decide) b11 (k_Hr hv3) dX4_readCaller_72 ?_
          refine J_iload hx dX4_readCaller_73 2 rfl ?_
          refine J_iload hx dX4_readCaller_75 1 rfl ?_
          refine J_iload hx dX4_readCaller_77 0 rfl ?_
          obtain ⟨t12, e13, h⟩ := Ho_bind h
          refine J_callVv hx lkV_RX4_357 (k_H2 hv3 b11) [.int t1, .int t5, .int t8] [] rfl rfl (Nat.le_of_ble_eq_true rfl) (Nat.le_of_ble_eq_true rfl) (s_X0_begin (k_H2 hv3 b11) ⟨t12, e13, ⟨rfl, rfl, rfl⟩⟩) dX4_readCaller_79 ?_
          refine J_aload_n hx dX4_readCaller_82 6 rfl ?_
          refine J_dup hx dX4_readCaller_83 rfl ?_
          refine J_getI hx fl_RX4_125 (k_H0 hv3) rfl dX4_readCaller_84 ?_
          refine J_iconst (v := (1 : Int32)) hx dX4_readCaller_87 (by decide) ?_
          refine J_iadd hx dX4_readCaller_88 ?_
          obtain ⟨I14, hI14, h⟩ := Ho_let h
          refine J_putI hx flW_RX4_125 (k_H0 hv3) rfl dX4_readCaller_89 hI14 ?_
          refine J_bipush (v := (-9 : Int32)) hx dX4_readCaller_92 (by decide) ?_
          have h := Ho_some h
          exact J_iret hx hQ dX4_readCaller_94 h
        · have h := Ho_t c10 h
          refine J_iload_n hx dX4_readCaller_60 4 rfl ?_
          refine J_iconst (v := (2 : Int32)) hx dX4_readCaller_61 (by decide) ?_
          refine J_iadd hx dX4_readCaller_62 ?_
          have h := Ho_some h
          exact J_iret hx hQ dX4_readCaller_63 h
      · have h := Ho_t c7 h
        refine J_iload_n hx dX4_readCaller_41 3 rfl ?_
        refine J_iconst (v := (1 : Int32)) hx dX4_readCaller_42 (by decide) ?_
        refine J_iadd hx dX4_readCaller_43 ?_
        have h := Ho_some h
        exact J_iret hx hQ dX4_readCaller_44 h
    · have h := Ho_f c4 h
      refine J_iload_n hx dX4_readCaller_24 2 rfl ?_
      have h := Ho_some h
      exact J_iret hx hQ dX4_readCaller_25 h
abbrev kr_X4_readHouse (P : Option Value → StI → StL → Prop) (L : StL) : Int32 × StI → Prop := fun t => P (some (.int t.1)) t.2 L
abbrev g_X4_readHouse_L44 (X : k_C) (ad : Nat → Nat) (L : StL) (v0 : Nat) (v1 : Int32) (v2 : Nat) : (Int32 × Int32 × StI) → Prop := fun s => J X ad 7 s.2.2 L 44 [(0, .ref (ad v0)), (1, .int v1), (2, .ref (ad v2)), (3, .int s.1), (5, .int s.2.1)] []
def f_X4_readHouse_j90 (v1 : Int32) (v2 : Nat) (I : StI) : Option (Int32 × StI) :=
  (if (2 : Int32) ≤ (I v2 1) then some ((-9 : Int32), I) else some (v1, I))
set_option maxRecDepth 100000 in
set_option maxHeartbeats 4000000 in
theorem s_X4_readHouse_j90 {X : k_C} {ad : Nat → Nat} {P : Option Value → StI → StL → Prop} {I : StI} {L : StL} (hx : Ok X cX4_readHouse RX4 7 (some .int) 4) (hQ : OkQ X ad P)  {v1 : Int32} {v2 : Nat} (hv2 : k_isH v2) (h : Ho (f_X4_readHouse_j90 v1 v2 I) (kr_X4_readHouse P L)) : J X ad 7 I L 90 [(1, .int v1), (2, .ref (ad v2))] [] := by
  unfold f_X4_readHouse_j90 at h
  refine J_aload_n hx dX4_readHouse_90 1 rfl ?_
  refine J_getI hx fl_RX4_125 (k_H0 hv2) rfl dX4_readHouse_91 ?_
  refine J_iconst (v := (2 : Int32)) hx dX4_readHouse_94 (by decide) ?_
  refine J_ic_ge hx dX4_readHouse_95 102 (by decide) (fun c12 => ?_) (fun c12 => ?_)
  · have h := Ho_t c12 h
    refine J_bipush (v := (-9 : Int32)) hx dX4_readHouse_102 (by decide) ?_
    have h := Ho_some h
    exact J_iret hx hQ dX4_readHouse_104 h
  · have h := Ho_f c12 h
    refine J_iload_n hx dX4_readHouse_98 0 rfl ?_
    refine J_goto hx dX4_readHouse_99 104 (by decide) ?_
    have h := Ho_some h
    exact J_iret hx hQ dX4_readHouse_104 h
def f_X4_readHouse_L44_b (v0 : Nat) (v1 : Int32) (v2 : Nat) (v3 : Int32) (v5 : Int32) (I : StI) : Option ((Int32 × Int32 × StI) ⊕ (Int32 × StI)) :=
  (if (7 : Int32) < v5 then Option.map Sum.inr (f_X4_readHouse_j90 v1 v2 I) else (if v1 ≤ v3 then Option.map Sum.inr (f_X4_readHouse_j90 v1 v2 I) else Option.bind (f_X4_readCaller v0 v3 v1 v2 I) (fun t14 => (if t14.1 = (-9 : Int32) then Option.bind (f_X4_pastBlanks v0 (v3 + (3 : Int32)) v1 t14.2) (fun t17 => k_let (v5 + (1 : Int32)) (fun x19 => some (.inl (t17, x19, t14.2)))) else some (.inr (t14.1, t14.2))))))
def f_X4_readHouse_L44 (v0 : Nat) (v1 : Int32) (v2 : Nat) (n : Nat) (v3 : Int32) (v5 : Int32) (I : StI) : Option (Int32 × StI) :=
  k_loop (fun s => f_X4_readHouse_L44_b v0 v1 v2 s.1 s.2.1 s.2.2) n (v3, v5, I)
set_option maxRecDepth 100000 in
set_option maxHeartbeats 4000000 in
theorem s_X4_readHouse_L44_b {X : k_C} {ad : Nat → Nat} {P : Option Value → StI → StL → Prop} {I : StI} {L : StL} (hx : Ok X cX4_readHouse RX4 7 (some .int) 4) (hQ : OkQ X ad P)  {v0 : Nat} {v1 : Int32} {v2 : Nat} {v3 : Int32} {v5 : Int32} (hv0 : (k_sh v0).1 = 11) (hv2 : k_isH v2) (h : Ho (f_X4_readHouse_L44_b v0 v1 v2 v3 v5 I) (Sum.elim (g_X4_readHouse_L44 X ad L v0 v1 v2) (kr_X4_readHouse P L))) : J X ad 7 I L 44 [(0, .ref (ad v0)), (1, .int v1), (2, .ref (ad v2)), (3, .int v3), (5, .int v5)] [] := by
  unfold f_X4_readHouse_L44_b at h
  refine J_iload hx dX4_readHouse_44 4 rfl ?_
  refine J_bipush (v := (7 : Int32)) hx dX4_readHouse_46 (by decide) ?_
  refine J_ic_gt hx dX4_readHouse_48 90 (by decide) (fun c11 => ?_) (fun c11 => ?_)
  · have h := Ho_t c11 h
    refine J_sub (lv' := [(1, .int v1), (2, .ref (ad v2))]) hx [1, 2] rfl ?_
    have h := Ho_map h
    exact s_X4_readHouse_j90 hx hQ hv2 h
  · have h := Ho_f c11 h
    refine J_iload_n hx dX4_readHouse_51 3 rfl ?_
    refine J_iload_n hx dX4_readHouse_52 1 rfl ?_
    refine J_ic_ge hx dX4_readHouse_53 90 (by decide) (fun c13 => ?_) (fun c13 => ?_)
    · have h := Ho_t c13 h
      refine J_sub (lv' := [(1, .int v1), (2, .ref (ad v2))]) hx [1, 2] rfl ?_
      have h := Ho_map h
      exact s_X4_readHouse_j90 hx hQ hv2 h
    · have h := Ho_f c13 h
      refine J_aload_n hx dX4_readHouse_56 0 rfl ?_
      refine J_iload_n hx dX4_readHouse_57 3 rfl ?_
      refine J_iload_n hx dX4_readHouse_58 1 rfl ?_
      refine J_aload_n hx dX4_readHouse_59 2 rfl ?_
      obtain ⟨t14, e15, h⟩ := Ho_bind h
      refine J_callSi hx lkS_RX4_350 [.ref (ad v0), .int v3, .int v1, .ref (ad v2)] [] rfl rfl (Nat.le_of_ble_eq_true rfl) (Nat.le_of_ble_eq_true rfl) (s_X4_readCaller (congrArg Prod.fst (k_shA hv0)) hv2 ⟨t14, e15, ⟨rfl, rfl, rfl⟩⟩) dX4_readHouse_60 ?_
      refine J_istore (x := t14.1) (lv' := [(6, .int t14.1), (0, .ref (ad v0)), (1, .int v1), (2, .ref (ad v2)), (3, .int v3), (5, .int v5)]) hx dX4_readHouse_63 rfl (by decide) rfl ?_
      refine J_iload hx dX4_readHouse_65 0 rfl ?_
      refine J_bipush (v := (-9 : Int32)) hx dX4_readHouse_67 (by decide) ?_
      refine J_ic_eq hx dX4_readHouse_69 75 (by decide) (fun c16 => ?_) (fun c16 => ?_)
      · have h := Ho_t c16 h
        refine J_aload_n hx dX4_readHouse_75 1 rfl ?_
        refine J_iload_n hx dX4_readHouse_76 4 rfl ?_
        refine J_iconst (v := (3 : Int32)) hx dX4_readHouse_77 (by decide) ?_
        refine J_iadd hx dX4_readHouse_78 ?_
        refine J_iload_n hx dX4_readHouse_79 2 rfl ?_
        obtain ⟨t17, e18, h⟩ := Ho_bind h
        refine J_callSi hx lkS_RX4_343 [.ref (ad v0), .int (v3 + (3 : Int32)), .int v1] [] rfl rfl (Nat.le_of_ble_eq_true rfl) (Nat.le_of_ble_eq_true rfl) (s_X4_pastBlanks (congrArg Prod.fst (k_shA hv0)) ⟨t17, e18, ⟨rfl, rfl, rfl⟩⟩) dX4_readHouse_80 ?_
        refine J_istore_n (x := t17) (lv' := [(3, .int t17), (6, .int t14.1), (0, .ref (ad v0)), (1, .int v1), (2, .ref (ad v2)), (5, .int v5)]) hx dX4_readHouse_83 rfl (by decide) rfl ?_
        obtain ⟨x19, hx19, h⟩ := Ho_let h
        refine J_iinc (x := x19) (lv' := [(5, .int x19), (3, .int t17), (6, .int t14.1), (0, .ref (ad v0)), (1, .int v1), (2, .ref (ad v2))]) hx dX4_readHouse_84 5 rfl (by rw [hx19]; rfl) (by decide) rfl ?_
        refine J_goto hx dX4_readHouse_87 44 (by decide) ?_
        refine J_sub (lv' := [(0, .ref (ad v0)), (1, .int v1), (2, .ref (ad v2)), (3, .int t17), (5, .int x19)]) hx [3, 4, 5, 1, 0] rfl ?_
        have h := Ho_some h
        exact h
      · have h := Ho_f c16 h
        refine J_iload hx dX4_readHouse_72 0 rfl ?_
        have h := Ho_some h
        exact J_iret hx hQ dX4_readHouse_74 h
set_option maxRecDepth 100000 in
set_option maxHeartbeats 4000000 in
theorem s_X4_readHouse_L44 {X : k_C} {ad : Nat → Nat} {P : Option Value → StI → StL → Prop} {I : StI} {L : StL} (hx : Ok X cX4_readHouse RX4 7 (some .int) 4) (hQ : OkQ X ad P)  {v0 : Nat} {v1 : Int32} {v2 : Nat} {v3 : Int32} {v5 : Int32} (hv0 : (k_sh v0).1 = 11) (hv2 : k_isH v2) (n : Nat) (h : Ho (f_X4_readHouse_L44 v0 v1 v2 n v3 v5 I) (kr_X4_readHouse P L)) : J X ad 7 I L 44 [(0, .ref (ad v0)), (1, .int v1), (2, .ref (ad v2)), (3, .int v3), (5, .int v5)] [] := by
  exact k_loop_ho (G := g_X4_readHouse_L44 X ad L v0 v1 v2) (fun s hs => s_X4_readHouse_L44_b hx hQ hv0 hv2 hs) n (v3, v5, I) h
def f_X4_readHouse (v0 : Nat) (v1 : Int32) (v2 : Nat) (I : StI) : Option (Int32 × StI) :=
  Option.bind (f_X3_clear v2 I) (fun t1 => Option.bind (f_X4_pastBlanks v0 (0 : Int32) v1 t1) (fun t3 => Option.bind (f_X4_figureAt v0 t3 v1 t1) (fun t5 => (if t5 = 0 then some (t3, t1) else k_let (k_up t1 v2 2 t5) (fun I8 => Option.bind (f_X4_pastBlanks v0 (t3 + (1 : Int32)) v1 I8) (fun t9 => f_X4_readHouse_L44 v0 v1 v2 k_fu t9 (0 : Int32) I8))))))
set_option maxRecDepth 100000 in
set_option maxHeartbeats 4000000 in
theorem s_X4_readHouse {l : Launch} {ad : Nat → Nat} {P : Option Value → StI → StL → Prop} {I : StI} {L : StL} {v0 : Nat} {v1 : Int32} {v2 : Nat} (hv0 : (k_sh v0).1 = 11) (hv2 : k_isH v2) (h : Ho (f_X4_readHouse v0 v1 v2 I) (kr_X4_readHouse P L)) : k_Met l ad 4 yX4_readHouse cX4_readHouse 7 (some .int) [.ref (ad v0), .int v1, .ref (ad v2)] I L P := by
  refine k_enter (by decide +kernel) (Nat.le_of_ble_eq_true rfl) (fun X hl hx hQ => ?_)
  clear hl
  have hx : Ok X cX4_readHouse RX4 7 (some .int) 4 := hx
  show J X ad 7 I L 0 [(0, .ref (ad v0)), (1, .int v1), (2, .ref (ad v2))] []
  unfold f_X4_readHouse at h
  refine J_aload_n hx dX4_readHouse_0 2 rfl ?_
  obtain ⟨t1, e2, h⟩ := Ho_bind h
  refine J_callVv hx lkV_RX4_340 (k_H0 hv2) [] [] rfl rfl (Nat.le_of_ble_eq_true rfl) (Nat.le_of_ble_eq_true rfl) (s_X3_clear hv2 ⟨t1, e2, ⟨rfl, rfl, rfl⟩⟩) dX4_readHouse_1 ?_
  refine J_aload_n hx dX4_readHouse_4 0 rfl ?_
  refine J_iconst (v := (0 : Int32)) hx dX4_readHouse_5 (by decide) ?_
  refine J_iload_n hx dX4_readHouse_6 1 rfl ?_
  obtain ⟨t3, e4, h⟩ := Ho_bind h
  refine J_callSi hx lkS_RX4_343 [.ref (ad v0), .int (0 : Int32), .int v1] [] rfl rfl (Nat.le_of_ble_eq_true rfl) (Nat.le_of_ble_eq_true rfl) (s_X4_pastBlanks (congrArg Prod.fst (k_shA hv0)) ⟨t3, e4, ⟨rfl, rfl, rfl⟩⟩) dX4_readHouse_7 ?_
  refine J_istore_n (x := t3) (lv' := [(3, .int t3), (0, .ref (ad v0)), (1, .int v1), (2, .ref (ad v2))]) hx dX4_readHouse_10 rfl (by decide) rfl ?_
  refine J_aload_n hx dX4_readHouse_11 1 rfl ?_
  refine J_iload_n hx dX4_readHouse_12 0 rfl ?_
  refine J_iload_n hx dX4_readHouse_13 2 rfl ?_
  obtain ⟨t5, e6, h⟩ := Ho_bind h
  refine J_callSi hx lkS_RX4_347 [.ref (ad v0), .int t3, .int v1] [] rfl rfl (Nat.le_of_ble_eq_true rfl) (Nat.le_of_ble_eq_true rfl) (s_X4_figureAt (congrArg Prod.fst (k_shA hv0)) ⟨t5, e6, ⟨rfl, rfl, rfl⟩⟩) dX4_readHouse_14 ?_
  refine J_istore (x := t5) (lv' := [(4, .int t5), (3, .int t3), (0, .ref (ad v0)), (1, .int v1), (2, .ref (ad v2))]) hx dX4_readHouse_17 rfl (by decide) rfl ?_
  refine J_iload hx dX4_readHouse_19 0 rfl ?_
  refine J_if_ne hx dX4_readHouse_21 26 (by decide) (fun c7 => ?_) (fun c7 => ?_)
  · have h := Ho_f c7 h
    refine J_aload_n hx dX4_readHouse_26 4 rfl ?_
    refine J_iload hx dX4_readHouse_27 0 rfl ?_
    obtain ⟨I8, hI8, h⟩ := Ho_let h
    refine J_putI hx flW_RX4_171 (k_H0 hv2) rfl dX4_readHouse_29 hI8 ?_
    refine J_aload_n hx dX4_readHouse_32 2 rfl ?_
    refine J_iload_n hx dX4_readHouse_33 1 rfl ?_
    refine J_iconst (v := (1 : Int32)) hx dX4_readHouse_34 (by decide) ?_
    refine J_iadd hx dX4_readHouse_35 ?_
    refine J_iload_n hx dX4_readHouse_36 3 rfl ?_
    obtain ⟨t9, e10, h⟩ := Ho_bind h
    refine J_callSi hx lkS_RX4_343 [.ref (ad v0), .int (t3 + (1 : Int32)), .int v1] [] rfl rfl (Nat.le_of_ble_eq_true rfl) (Nat.le_of_ble_eq_true rfl) (s_X4_pastBlanks (congrArg Prod.fst (k_shA hv0)) ⟨t9, e10, ⟨rfl, rfl, rfl⟩⟩) dX4_readHouse_37 ?_
    refine J_istore_n (x := t9) (lv' := [(3, .int t9), (4, .int t5), (0, .ref (ad v0)), (1, .int v1), (2, .ref (ad v2))]) hx dX4_readHouse_40 rfl (by decide) rfl ?_
    refine J_iconst (v := (0 : Int32)) hx dX4_readHouse_41 (by decide) ?_
    refine J_istore (x := (0 : Int32)) (lv' := [(5, .int (0 : Int32)), (3, .int t9), (4, .int t5), (0, .ref (ad v0)), (1, .int v1), (2, .ref (ad v2))]) hx dX4_readHouse_42 rfl (by decide) rfl ?_
    refine J_sub (lv' := [(0, .ref (ad v0)), (1, .int v1), (2, .ref (ad v2)), (3, .int t9), (5, .int (0 : Int32))]) hx [3, 4, 5, 1, 0] rfl ?_
    exact s_X4_readHouse_L44 hx hQ (congrArg Prod.fst (k_shA hv0)) hv2 k_fu h
  · have h := Ho_t c7 h
    refine J_iload_n hx dX4_readHouse_24 1 rfl ?_
    have h := Ho_some h
    exact J_iret hx hQ dX4_readHouse_25 h
abbrev kr_X4_fault (P : Option Value → StI → StL → Prop) (L : StL) : Int32 × StI → Prop := fun t => P (some (.int t.1)) t.2 L
def f_X4_fault (v1 : Int32) (I : StI) : Option (Int32 × StI) :=
  Option.bind (f_X4_isText v1) (fun t1 => (if t1 = 0 then some ((-1 : Int32), I) else k_gd v1 4 ((if (I 14 v1.toNatClampNeg) = (-1 : Int32) then Option.bind (f_X4_found (1 : Int32) I) (fun t10 => some (t10.1, t10.2)) else k_gd v1 4 (k_gd v1 4 (Option.bind (f_X4_readHouse (k_tq v1.toNatClampNeg) (I 14 v1.toNatClampNeg) 33 I) (fun t8 => some (t8.1, t8.2))))))))
set_option maxRecDepth 100000 in
set_option maxHeartbeats 4000000 in
theorem s_X4_fault {l : Launch} {ad : Nat → Nat} {P : Option Value → StI → StL → Prop} {I : StI} {L : StL} {v1 : Int32}  (h : Ho (f_X4_fault v1 I) (kr_X4_fault P L)) : k_Met l ad 5 yX4_fault cX4_fault 2 (some .int) [.ref (ad 0), .int v1] I L P := by
  refine k_enter (by decide +kernel) (Nat.le_of_ble_eq_true rfl) (fun X hl hx hQ => ?_)
  clear hl
  have hx : Ok X cX4_fault RX4 2 (some .int) 5 := hx
  show J X ad 2 I L 0 [(0, .ref (ad 0)), (1, .int v1)] []
  unfold f_X4_fault at h
  refine J_iload_n hx dX4_fault_0 1 rfl ?_
  obtain ⟨t1, e2, h⟩ := Ho_bind h
  refine J_callSi hx lkS_RX4_111 [.int v1] [] rfl rfl (Nat.le_of_ble_eq_true rfl) (Nat.le_of_ble_eq_true rfl) (s_X4_isText  ⟨t1, e2, ⟨rfl, rfl, rfl⟩⟩) dX4_fault_1 ?_
  refine J_if_ne hx dX4_fault_4 9 (by decide) (fun c3 => ?_) (fun c3 => ?_)
  · have h := Ho_f c3 h
    refine J_aload_n hx dX4_fault_9 0 rfl ?_
    refine J_getR (q := 14) hx fl_RX4_23 (rfl : k_sh 0 = (4, k_N 4)) rfl rfl dX4_fault_10 ?_
    refine J_iload_n hx dX4_fault_13 1 rfl ?_
    obtain ⟨b4, h⟩ := Ho_gd h
    refine J_iald hx (rfl : k_sh 14 = (10, 4)) b4 dX4_fault_14 ?_
    refine J_iconst (v := (-1 : Int32)) hx dX4_fault_15 (by decide) ?_
    refine J_ic_ne hx dX4_fault_16 25 (by decide) (fun c5 => ?_) (fun c5 => ?_)
    · have h := Ho_f c5 h
      refine J_aload_n hx dX4_fault_25 0 rfl ?_
      refine J_getR (q := 9) hx fl_RX4_20 (rfl : k_sh 0 = (4, k_N 4)) rfl rfl dX4_fault_26 ?_
      refine J_iload_n hx dX4_fault_29 1 rfl ?_
      obtain ⟨b6, h⟩ := Ho_gd h
      refine J_aald (q := (k_tq v1.toNatClampNeg)) hx (rfl : k_sh 9 = (16, 4)) (by decide) (by decide) b6 k_Tr dX4_fault_30 ?_
      refine J_aload_n hx dX4_fault_31 0 rfl ?_
      refine J_getR (q := 14) hx fl_RX4_23 (rfl : k_sh 0 = (4, k_N 4)) rfl rfl dX4_fault_32 ?_
      refine J_iload_n hx dX4_fault_35 1 rfl ?_
      obtain ⟨b7, h⟩ := Ho_gd h
      refine J_iald hx (rfl : k_sh 14 = (10, 4)) b7 dX4_fault_36 ?_
      refine J_aload_n hx dX4_fault_37 0 rfl ?_
      refine J_getR (q := 33) hx fl_RX4_36 (rfl : k_sh 0 = (4, k_N 4)) rfl rfl dX4_fault_38 ?_
      obtain ⟨t8, e9, h⟩ := Ho_bind h
      refine J_callSi hx lkS_RX4_117 [.ref (ad (k_tq v1.toNatClampNeg)), .int (I 14 v1.toNatClampNeg), .ref (ad 33)] [] rfl rfl (Nat.le_of_ble_eq_true rfl) (Nat.le_of_ble_eq_true rfl) (s_X4_readHouse (congrArg Prod.fst (k_Tq b6)) k_H33 ⟨t8, e9, ⟨rfl, rfl, rfl⟩⟩) dX4_fault_41 ?_
      have h := Ho_some h
      exact J_iret hx hQ dX4_fault_44 h
    · have h := Ho_t c5 h
      refine J_aload_n hx dX4_fault_19 0 rfl ?_
      refine J_iconst (v := (1 : Int32)) hx dX4_fault_20 (by decide) ?_
      obtain ⟨t10, e11, h⟩ := Ho_bind h
      refine J_callVi hx lkV_RX4_93 (rfl : k_sh 0 = (4, k_N 4)) [.int (1 : Int32)] [] rfl rfl (Nat.le_of_ble_eq_true rfl) (Nat.le_of_ble_eq_true rfl) (s_X4_found  ⟨t10, e11, ⟨rfl, rfl, rfl⟩⟩) dX4_fault_21 ?_
      have h := Ho_some h
      exact J_iret hx hQ dX4_fault_24 h
  · have h := Ho_t c3 h
    refine J_iconst (v := (-1 : Int32)) hx dX4_fault_7 (by decide) ?_
    have h := Ho_some h
    exact J_iret hx hQ dX4_fault_8 h
abbrev kr_X4_finding (P : Option Value → StI → StL → Prop) (I : StI) (L : StL) : Int32 → Prop := fun t => P (some (.int t)) I L
def f_X4_finding (I : StI) : Option (Int32) :=
  some ((I 0 12))
set_option maxRecDepth 100000 in
set_option maxHeartbeats 4000000 in
theorem s_X4_finding {l : Launch} {ad : Nat → Nat} {P : Option Value → StI → StL → Prop} {I : StI} {L : StL}   (h : Ho (f_X4_finding I) (kr_X4_finding P I L)) : k_Met l ad 1 yX4_finding cX4_finding 1 (some .int) [.ref (ad 0)] I L P := by
  refine k_enter (by decide +kernel) (Nat.le_of_ble_eq_true rfl) (fun X hl hx hQ => ?_)
  clear hl
  have hx : Ok X cX4_finding RX4 1 (some .int) 1 := hx
  show J X ad 1 I L 0 [(0, .ref (ad 0))] []
  unfold f_X4_finding at h
  refine J_aload_n hx dX4_finding_0 0 rfl ?_
  refine J_getI hx fl_RX4_61 (rfl : k_sh 0 = (4, k_N 4)) rfl dX4_finding_1 ?_
  have h := Ho_some h
  exact J_iret hx hQ dX4_finding_4 h
abbrev kr_X4_findingOfSeen (P : Option Value → StI → StL → Prop) (I : StI) (L : StL) : Int32 → Prop := fun t => P (some (.int t)) I L
abbrev g_X4_findingOfSeen_L29 (X : k_C) (ad : Nat → Nat) (I : StI) (L : StL) (v1 : Int32) (v2 : Int32) : (Int32) → Prop := fun s => J X ad 4 I L 29 [(0, .ref (ad 0)), (1, .int v1), (2, .int v2), (3, .int s)] []
def f_X4_findingOfSeen_L29_b (v1 : Int32) (v2 : Int32) (v3 : Int32) (I : StI) : Option ((Int32) ⊕ (Int32)) :=
  (if v2 ≤ v3 then some (.inr ((0 : Int32))) else k_gd v1 6 (k_gd v3 40 ((if (I (k_rq v1.toNatClampNeg) v3.toNatClampNeg) < 0 then some (.inr ((3 : Int32))) else k_gd v1 6 (k_gd v3 40 ((if (I (k_rq v1.toNatClampNeg) v3.toNatClampNeg) ≤ (7 : Int32) then k_let (v3 + (1 : Int32)) (fun x13 => some (.inl (x13))) else some (.inr ((3 : Int32))))))))))
def f_X4_findingOfSeen_L29 (v1 : Int32) (v2 : Int32) (I : StI) (n : Nat) (v3 : Int32) : Option (Int32) :=
  k_loop (fun s => f_X4_findingOfSeen_L29_b v1 v2 s I) n (v3)
set_option maxRecDepth 100000 in
set_option maxHeartbeats 4000000 in
theorem s_X4_findingOfSeen_L29_b {X : k_C} {ad : Nat → Nat} {P : Option Value → StI → StL → Prop} {I : StI} {L : StL} (hx : Ok X cX4_findingOfSeen RX4 4 (some .int) 1) (hQ : OkQ X ad P)  {v1 : Int32} {v2 : Int32} {v3 : Int32}  (h : Ho (f_X4_findingOfSeen_L29_b v1 v2 v3 I) (Sum.elim (g_X4_findingOfSeen_L29 X ad I L v1 v2) (kr_X4_findingOfSeen P I L))) : J X ad 4 I L 29 [(0, .ref (ad 0)), (1, .int v1), (2, .int v2), (3, .int v3)] [] := by
  unfold f_X4_findingOfSeen_L29_b at h
  refine J_iload_n hx dX4_findingOfSeen_29 3 rfl ?_
  refine J_iload_n hx dX4_findingOfSeen_30 2 rfl ?_
  refine J_ic_ge hx dX4_findingOfSeen_31 66 (by decide) (fun c6 => ?_) (fun c6 => ?_)
  · have h := Ho_t c6 h
    refine J_iconst (v := (0 : Int32)) hx dX4_findingOfSeen_66 (by decide) ?_
    have h := Ho_some h
    exact J_iret hx hQ dX4_findingOfSeen_67 h
  · have h := Ho_f c6 h
    refine J_aload_n hx dX4_findingOfSeen_34 0 rfl ?_
    refine J_getR (q := 1) hx fl_RX4_11 (rfl : k_sh 0 = (4, k_N 4)) rfl rfl dX4_findingOfSeen_35 ?_
    refine J_iload_n hx dX4_findingOfSeen_38 1 rfl ?_
    obtain ⟨b7, h⟩ := Ho_gd h
    refine J_aald (q := (k_rq v1.toNatClampNeg)) hx (rfl : k_sh 1 = (15, 6)) (by decide) (by decide) b7 k_Rr dX4_findingOfSeen_39 ?_
    refine J_iload_n hx dX4_findingOfSeen_40 3 rfl ?_
    obtain ⟨b8, h⟩ := Ho_gd h
    refine J_iald hx (k_Rq b7) b8 dX4_findingOfSeen_41 ?_
    refine J_if_lt hx dX4_findingOfSeen_42 58 (by decide) (fun c9 => ?_) (fun c9 => ?_)
    · have h := Ho_t c9 h
      refine J_iconst (v := (3 : Int32)) hx dX4_findingOfSeen_58 (by decide) ?_
      have h := Ho_some h
      exact J_iret hx hQ dX4_findingOfSeen_59 h
    · have h := Ho_f c9 h
      refine J_aload_n hx dX4_findingOfSeen_45 0 rfl ?_
      refine J_getR (q := 1) hx fl_RX4_11 (rfl : k_sh 0 = (4, k_N 4)) rfl rfl dX4_findingOfSeen_46 ?_
      refine J_iload_n hx dX4_findingOfSeen_49 1 rfl ?_
      obtain ⟨b10, h⟩ := Ho_gd h
      refine J_aald (q := (k_rq v1.toNatClampNeg)) hx (rfl : k_sh 1 = (15, 6)) (by decide) (by decide) b10 k_Rr dX4_findingOfSeen_50 ?_
      refine J_iload_n hx dX4_findingOfSeen_51 3 rfl ?_
      obtain ⟨b11, h⟩ := Ho_gd h
      refine J_iald hx (k_Rq b10) b11 dX4_findingOfSeen_52 ?_
      refine J_bipush (v := (7 : Int32)) hx dX4_findingOfSeen_53 (by decide) ?_
      refine J_ic_le hx dX4_findingOfSeen_55 60 (by decide) (fun c12 => ?_) (fun c12 => ?_)
      · have h := Ho_t c12 h
        obtain ⟨x13, hx13, h⟩ := Ho_let h
        refine J_iinc (x := x13) (lv' := [(3, .int x13), (0, .ref (ad 0)), (1, .int v1), (2, .int v2)]) hx dX4_findingOfSeen_60 3 rfl (by rw [hx13]; rfl) (by decide) rfl ?_
        refine J_goto hx dX4_findingOfSeen_63 29 (by decide) ?_
        refine J_sub (lv' := [(0, .ref (ad 0)), (1, .int v1), (2, .int v2), (3, .int x13)]) hx [1, 2, 3, 0] rfl ?_
        have h := Ho_some h
        exact h
      · have h := Ho_f c12 h
        refine J_iconst (v := (3 : Int32)) hx dX4_findingOfSeen_58 (by decide) ?_
        have h := Ho_some h
        exact J_iret hx hQ dX4_findingOfSeen_59 h
set_option maxRecDepth 100000 in
set_option maxHeartbeats 4000000 in
theorem s_X4_findingOfSeen_L29 {X : k_C} {ad : Nat → Nat} {P : Option Value → StI → StL → Prop} {I : StI} {L : StL} (hx : Ok X cX4_findingOfSeen RX4 4 (some .int) 1) (hQ : OkQ X ad P)  {v1 : Int32} {v2 : Int32} {v3 : Int32}  (n : Nat) (h : Ho (f_X4_findingOfSeen_L29 v1 v2 I n v3) (kr_X4_findingOfSeen P I L)) : J X ad 4 I L 29 [(0, .ref (ad 0)), (1, .int v1), (2, .int v2), (3, .int v3)] [] := by
  exact k_loop_ho (G := g_X4_findingOfSeen_L29 X ad I L v1 v2) (fun s hs => s_X4_findingOfSeen_L29_b hx hQ  hs) n (v3) h
def f_X4_findingOfSeen (v1 : Int32) (I : StI) : Option (Int32) :=
  k_gd v1 6 (k_let (I 8 v1.toNatClampNeg) (fun x2 => (if x2 = (-1 : Int32) then some ((1 : Int32)) else (if x2 < (1 : Int32) then some ((5 : Int32)) else (if x2 ≤ (20 : Int32) then f_X4_findingOfSeen_L29 v1 x2 I k_fu (0 : Int32) else some ((5 : Int32)))))))
set_option maxRecDepth 100000 in
set_option maxHeartbeats 4000000 in
theorem s_X4_findingOfSeen {l : Launch} {ad : Nat → Nat} {P : Option Value → StI → StL → Prop} {I : StI} {L : StL} {v1 : Int32}  (h : Ho (f_X4_findingOfSeen v1 I) (kr_X4_findingOfSeen P I L)) : k_Met l ad 1 yX4_findingOfSeen cX4_findingOfSeen 4 (some .int) [.ref (ad 0), .int v1] I L P := by
  refine k_enter (by decide +kernel) (Nat.le_of_ble_eq_true rfl) (fun X hl hx hQ => ?_)
  clear hl
  have hx : Ok X cX4_findingOfSeen RX4 4 (some .int) 1 := hx
  show J X ad 4 I L 0 [(0, .ref (ad 0)), (1, .int v1)] []
  unfold f_X4_findingOfSeen at h
  refine J_aload_n hx dX4_findingOfSeen_0 0 rfl ?_
  refine J_getR (q := 8) hx fl_RX4_14 (rfl : k_sh 0 = (4, k_N 4)) rfl rfl dX4_findingOfSeen_1 ?_
  refine J_iload_n hx dX4_findingOfSeen_4 1 rfl ?_
  obtain ⟨b1, h⟩ := Ho_gd h
  refine J_iald hx (rfl : k_sh 8 = (10, 6)) b1 dX4_findingOfSeen_5 ?_
  obtain ⟨x2, hx2, h⟩ := Ho_let h
  refine J_istore_n (x := x2) (lv' := [(2, .int x2), (0, .ref (ad 0)), (1, .int v1)]) hx dX4_findingOfSeen_6 hx2 (by decide) rfl ?_
  refine J_iload_n hx dX4_findingOfSeen_7 0 rfl ?_
  refine J_iconst (v := (-1 : Int32)) hx dX4_findingOfSeen_8 (by decide) ?_
  refine J_ic_ne hx dX4_findingOfSeen_9 14 (by decide) (fun c3 => ?_) (fun c3 => ?_)
  · have h := Ho_f c3 h
    refine J_iload_n hx dX4_findingOfSeen_14 0 rfl ?_
    refine J_iconst (v := (1 : Int32)) hx dX4_findingOfSeen_15 (by decide) ?_
    refine J_ic_lt hx dX4_findingOfSeen_16 25 (by decide) (fun c4 => ?_) (fun c4 => ?_)
    · have h := Ho_t c4 h
      refine J_iconst (v := (5 : Int32)) hx dX4_findingOfSeen_25 (by decide) ?_
      have h := Ho_some h
      exact J_iret hx hQ dX4_findingOfSeen_26 h
    · have h := Ho_f c4 h
      refine J_iload_n hx dX4_findingOfSeen_19 0 rfl ?_
      refine J_bipush (v := (20 : Int32)) hx dX4_findingOfSeen_20 (by decide) ?_
      refine J_ic_le hx dX4_findingOfSeen_22 27 (by decide) (fun c5 => ?_) (fun c5 => ?_)
      · have h := Ho_t c5 h
        refine J_iconst (v := (0 : Int32)) hx dX4_findingOfSeen_27 (by decide) ?_
        refine J_istore_n (x := (0 : Int32)) (lv' := [(3, .int (0 : Int32)), (2, .int x2), (0, .ref (ad 0)), (1, .int v1)]) hx dX4_findingOfSeen_28 rfl (by decide) rfl ?_
        refine J_sub (lv' := [(0, .ref (ad 0)), (1, .int v1), (2, .int x2), (3, .int (0 : Int32))]) hx [2, 3, 1, 0] rfl ?_
        exact s_X4_findingOfSeen_L29 hx hQ  k_fu h
      · have h := Ho_f c5 h
        refine J_iconst (v := (5 : Int32)) hx dX4_findingOfSeen_25 (by decide) ?_
        have h := Ho_some h
        exact J_iret hx hQ dX4_findingOfSeen_26 h
  · have h := Ho_t c3 h
    refine J_iconst (v := (1 : Int32)) hx dX4_findingOfSeen_12 (by decide) ?_
    have h := Ho_some h
    exact J_iret hx hQ dX4_findingOfSeen_13 h
abbrev kr_X4_findings (P : Option Value → StI → StL → Prop) (I : StI) (L : StL) : Int32 → Prop := fun t => P (some (.int t)) I L
def f_X4_findings (v1 : Int32) (I : StI) : Option (Int32) :=
  (if v1 < (1 : Int32) then some ((-1 : Int32)) else (if v1 ≤ (5 : Int32) then k_gd v1 6 (some ((I 47 v1.toNatClampNeg))) else some ((-1 : Int32))))
set_option maxRecDepth 100000 in
set_option maxHeartbeats 4000000 in
theorem s_X4_findings {l : Launch} {ad : Nat → Nat} {P : Option Value → StI → StL → Prop} {I : StI} {L : StL} {v1 : Int32}  (h : Ho (f_X4_findings v1 I) (kr_X4_findings P I L)) : k_Met l ad 1 yX4_findings cX4_findings 2 (some .int) [.ref (ad 0), .int v1] I L P := by
  refine k_enter (by decide +kernel) (Nat.le_of_ble_eq_true rfl) (fun X hl hx hQ => ?_)
  clear hl
  have hx : Ok X cX4_findings RX4 2 (some .int) 1 := hx
  show J X ad 2 I L 0 [(0, .ref (ad 0)), (1, .int v1)] []
  unfold f_X4_findings at h
  refine J_iload_n hx dX4_findings_0 1 rfl ?_
  refine J_iconst (v := (1 : Int32)) hx dX4_findings_1 (by decide) ?_
  refine J_ic_lt hx dX4_findings_2 10 (by decide) (fun c1 => ?_) (fun c1 => ?_)
  · have h := Ho_t c1 h
    refine J_iconst (v := (-1 : Int32)) hx dX4_findings_10 (by decide) ?_
    have h := Ho_some h
    exact J_iret hx hQ dX4_findings_11 h
  · have h := Ho_f c1 h
    refine J_iload_n hx dX4_findings_5 1 rfl ?_
    refine J_iconst (v := (5 : Int32)) hx dX4_findings_6 (by decide) ?_
    refine J_ic_le hx dX4_findings_7 12 (by decide) (fun c2 => ?_) (fun c2 => ?_)
    · have h := Ho_t c2 h
      refine J_aload_n hx dX4_findings_12 0 rfl ?_
      refine J_getR (q := 47) hx fl_RX4_64 (rfl : k_sh 0 = (4, k_N 4)) rfl rfl dX4_findings_13 ?_
      refine J_iload_n hx dX4_findings_16 1 rfl ?_
      obtain ⟨b3, h⟩ := Ho_gd h
      refine J_iald hx (rfl : k_sh 47 = (10, 6)) b3 dX4_findings_17 ?_
      have h := Ho_some h
      exact J_iret hx hQ dX4_findings_18 h
    · have h := Ho_f c2 h
      refine J_iconst (v := (-1 : Int32)) hx dX4_findings_10 (by decide) ?_
      have h := Ho_some h
      exact J_iret hx hQ dX4_findings_11 h
abbrev kr_X4_isFullWith (P : Option Value → StI → StL → Prop) (I : StI) (L : StL) : Int32 → Prop := fun t => P (some (.int t)) I L
def f_X4_isFullWith (v1 : Int32) (I : StI) : Option (Int32) :=
  (if ((I 42 3) + v1) ≤ (40 : Int32) then some ((0 : Int32)) else some ((1 : Int32)))
set_option maxRecDepth 100000 in
set_option maxHeartbeats 4000000 in
theorem s_X4_isFullWith {l : Launch} {ad : Nat → Nat} {P : Option Value → StI → StL → Prop} {I : StI} {L : StL} {v1 : Int32}  (h : Ho (f_X4_isFullWith v1 I) (kr_X4_isFullWith P I L)) : k_Met l ad 1 yX4_isFullWith cX4_isFullWith 2 (some .boolean) [.ref (ad 0), .int v1] I L P := by
  refine k_enter (by decide +kernel) (Nat.le_of_ble_eq_true rfl) (fun X hl hx hQ => ?_)
  clear hl
  have hx : Ok X cX4_isFullWith RX4 2 (some .boolean) 1 := hx
  show J X ad 2 I L 0 [(0, .ref (ad 0)), (1, .int v1)] []
  unfold f_X4_isFullWith at h
  refine J_aload_n hx dX4_isFullWith_0 0 rfl ?_
  refine J_getR (q := 42) hx fl_RX4_42 (rfl : k_sh 0 = (4, k_N 4)) rfl rfl dX4_isFullWith_1 ?_
  refine J_getI hx fl_RX4_86 (rfl : k_sh 42 = (2, k_N 2)) rfl dX4_isFullWith_4 ?_
  refine J_iload_n hx dX4_isFullWith_7 1 rfl ?_
  refine J_iadd hx dX4_isFullWith_8 ?_
  refine J_bipush (v := (40 : Int32)) hx dX4_isFullWith_9 (by decide) ?_
  refine J_ic_le hx dX4_isFullWith_11 18 (by decide) (fun c1 => ?_) (fun c1 => ?_)
  · have h := Ho_t c1 h
    refine J_iconst (v := (0 : Int32)) hx dX4_isFullWith_18 (by decide) ?_
    have h := Ho_some h
    exact J_zret hx hQ dX4_isFullWith_19 rfl h
  · have h := Ho_f c1 h
    refine J_iconst (v := (1 : Int32)) hx dX4_isFullWith_14 (by decide) ?_
    refine J_goto hx dX4_isFullWith_15 19 (by decide) ?_
    have h := Ho_some h
    exact J_zret hx hQ dX4_isFullWith_19 rfl h
