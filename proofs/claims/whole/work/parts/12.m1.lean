abbrev kr_J6_bitCount_0f7a4 (P : Option Value → StI → StL → Prop) (I : StI) (L : StL) : Int32 → Prop := fun t => P (some (.int t)) I L
def f_J6_bitCount_0f7a4 (v0 : Int32) : Option (Int32) :=
  k_let (v0 - (((v0).toUInt32 >>> (((1 : Int32)).toUInt32 &&& Int32.toUInt32 31)).toInt32 &&& (1431655765 : Int32))) (fun x1 => k_let ((x1 &&& (858993459 : Int32)) + (((x1).toUInt32 >>> (((2 : Int32)).toUInt32 &&& Int32.toUInt32 31)).toInt32 &&& (858993459 : Int32))) (fun x2 => k_let ((x2 + ((x2).toUInt32 >>> (((4 : Int32)).toUInt32 &&& Int32.toUInt32 31)).toInt32) &&& (252645135 : Int32)) (fun x3 => k_let (x3 + ((x3).toUInt32 >>> (((8 : Int32)).toUInt32 &&& Int32.toUInt32 31)).toInt32) (fun x4 => k_let (x4 + ((x4).toUInt32 >>> (((16 : Int32)).toUInt32 &&& Int32.toUInt32 31)).toInt32) (fun x5 => some ((x5 &&& (63 : Int32))))))))
set_option maxRecDepth 100000 in
set_option maxHeartbeats 4000000 in
theorem s_J6_bitCount_0f7a4 {l : Launch} {ad : Nat → Nat} {P : Option Value → StI → StL → Prop} {I : StI} {L : StL} {v0 : Int32}  (h : Ho (f_J6_bitCount_0f7a4 v0) (kr_J6_bitCount_0f7a4 P I L)) : k_Met l ad 1 yJ6_bitCount_0f7a4 cJ6_bitCount_0f7a4 1 (some .int) [.int v0] I L P := by
  refine k_enter (by decide +kernel) (Nat.le_of_ble_eq_true rfl) (fun X hl hx hQ => ?_)
  clear hl
  have hx : Ok X cJ6_bitCount_0f7a4 RJ6 1 (some .int) 1 := hx
  show J X ad 1 I L 0 [(0, .int v0)] []
  unfold f_J6_bitCount_0f7a4 at h
  refine J_iload_n hx dJ6_bitCount_0f7a4_0 0 rfl ?_
  refine J_iload_n hx dJ6_bitCount_0f7a4_1 0 rfl ?_
  refine J_iconst (v := (1 : Int32)) hx dJ6_bitCount_0f7a4_2 (by decide) ?_
  refine J_iushr hx dJ6_bitCount_0f7a4_3 ?_
  refine J_ldcw hx cn_RJ6_265 dJ6_bitCount_0f7a4_4 ?_
  refine J_iand hx dJ6_bitCount_0f7a4_7 ?_
  refine J_isub hx dJ6_bitCount_0f7a4_8 ?_
  obtain ⟨x1, hx1, h⟩ := Ho_let h
  refine J_istore_n (x := x1) (lv' := [(0, .int x1)]) hx dJ6_bitCount_0f7a4_9 hx1 (by decide) rfl ?_
  refine J_iload_n hx dJ6_bitCount_0f7a4_10 0 rfl ?_
  refine J_ldcw hx cn_RJ6_266 dJ6_bitCount_0f7a4_11 ?_
  refine J_iand hx dJ6_bitCount_0f7a4_14 ?_
  refine J_iload_n hx dJ6_bitCount_0f7a4_15 0 rfl ?_
  refine J_iconst (v := (2 : Int32)) hx dJ6_bitCount_0f7a4_16 (by decide) ?_
  refine J_iushr hx dJ6_bitCount_0f7a4_17 ?_
  refine J_ldcw hx cn_RJ6_266 dJ6_bitCount_0f7a4_18 ?_
  refine J_iand hx dJ6_bitCount_0f7a4_21 ?_
  refine J_iadd hx dJ6_bitCount_0f7a4_22 ?_
  obtain ⟨x2, hx2, h⟩ := Ho_let h
  refine J_istore_n (x := x2) (lv' := [(0, .int x2)]) hx dJ6_bitCount_0f7a4_23 hx2 (by decide) rfl ?_
  refine J_iload_n hx dJ6_bitCount_0f7a4_24 0 rfl ?_
  refine J_iload_n hx dJ6_bitCount_0f7a4_25 0 rfl ?_
  refine J_iconst (v := (4 : Int32)) hx dJ6_bitCount_0f7a4_26 (by decide) ?_
  refine J_iushr hx dJ6_bitCount_0f7a4_27 ?_
  refine J_iadd hx dJ6_bitCount_0f7a4_28 ?_
  refine J_ldcw hx cn_RJ6_267 dJ6_bitCount_0f7a4_29 ?_
  refine J_iand hx dJ6_bitCount_0f7a4_32 ?_
  obtain ⟨x3, hx3, h⟩ := Ho_let h
  refine J_istore_n (x := x3) (lv' := [(0, .int x3)]) hx dJ6_bitCount_0f7a4_33 hx3 (by decide) rfl ?_
  refine J_iload_n hx dJ6_bitCount_0f7a4_34 0 rfl ?_
  refine J_iload_n hx dJ6_bitCount_0f7a4_35 0 rfl ?_
  refine J_bipush (v := (8 : Int32)) hx dJ6_bitCount_0f7a4_36 (by decide) ?_
  refine J_iushr hx dJ6_bitCount_0f7a4_38 ?_
  refine J_iadd hx dJ6_bitCount_0f7a4_39 ?_
  obtain ⟨x4, hx4, h⟩ := Ho_let h
  refine J_istore_n (x := x4) (lv' := [(0, .int x4)]) hx dJ6_bitCount_0f7a4_40 hx4 (by decide) rfl ?_
  refine J_iload_n hx dJ6_bitCount_0f7a4_41 0 rfl ?_
  refine J_iload_n hx dJ6_bitCount_0f7a4_42 0 rfl ?_
  refine J_bipush (v := (16 : Int32)) hx dJ6_bitCount_0f7a4_43 (by decide) ?_
  refine J_iushr hx dJ6_bitCount_0f7a4_45 ?_
  refine J_iadd hx dJ6_bitCount_0f7a4_46 ?_
  obtain ⟨x5, hx5, h⟩ := Ho_let h
  refine J_istore_n (x := x5) (lv' := [(0, .int x5)]) hx dJ6_bitCount_0f7a4_47 hx5 (by decide) rfl ?_
  refine J_iload_n hx dJ6_bitCount_0f7a4_48 0 rfl ?_
  refine J_bipush (v := (63 : Int32)) hx dJ6_bitCount_0f7a4_49 (by decide) ?_
  refine J_iand hx dJ6_bitCount_0f7a4_51 ?_
  have h := Ho_some h
  exact J_iret hx hQ dJ6_bitCount_0f7a4_52 h
abbrev kr_J7_fill_031fb (P : Option Value → StI → StL → Prop) (L : StL) : StI → Prop := fun t => P none t L
abbrev g_J7_fill_031fb_L5 (X : k_C) (ad : Nat → Nat) (L : StL) (v0 : Nat) (v1 : Int32) (v3 : Int32) : (Int32 × StI) → Prop := fun s => J X ad 4 s.2 L 5 [(0, .ref (ad v0)), (1, .int v1), (2, .int s.1), (3, .int v3)] []
def f_J7_fill_031fb_L5_b (v0 : Nat) (v1 : Int32) (v2 : Int32) (v3 : Int32) (I : StI) : Option ((Int32 × StI) ⊕ (StI)) :=
  (if v3 ≤ v2 then some (.inr (I)) else k_gd v2 (k_sh v0).2 (k_let (k_up I v0 v2.toNatClampNeg (vp_nar .byte v1)) (fun I4 => k_let (v2 + (1 : Int32)) (fun x5 => some (.inl (x5, I4))))))
def f_J7_fill_031fb_L5 (v0 : Nat) (v1 : Int32) (v3 : Int32) (n : Nat) (v2 : Int32) (I : StI) : Option (StI) :=
  k_loop (fun s => f_J7_fill_031fb_L5_b v0 v1 s.1 v3 s.2) n (v2, I)
set_option maxRecDepth 100000 in
set_option maxHeartbeats 4000000 in
theorem s_J7_fill_031fb_L5_b {X : k_C} {ad : Nat → Nat} {P : Option Value → StI → StL → Prop} {I : StI} {L : StL} (hx : Ok X cJ7_fill_031fb RJ7 4 none 1) (hQ : OkQ X ad P)  {v0 : Nat} {v1 : Int32} {v2 : Int32} {v3 : Int32} (hv0 : (k_sh v0).1 = 11) (h : Ho (f_J7_fill_031fb_L5_b v0 v1 v2 v3 I) (Sum.elim (g_J7_fill_031fb_L5 X ad L v0 v1 v3) (kr_J7_fill_031fb P L))) : J X ad 4 I L 5 [(0, .ref (ad v0)), (1, .int v1), (2, .int v2), (3, .int v3)] [] := by
  unfold f_J7_fill_031fb_L5_b at h
  refine J_iload_n hx dJ7_fill_031fb_5 2 rfl ?_
  refine J_iload_n hx dJ7_fill_031fb_6 3 rfl ?_
  refine J_ic_ge hx dJ7_fill_031fb_7 20 (by decide) (fun c2 => ?_) (fun c2 => ?_)
  · have h := Ho_t c2 h
    have h := Ho_some h
    exact J_vret hx hQ dJ7_fill_031fb_20 h
  · have h := Ho_f c2 h
    refine J_aload_n hx dJ7_fill_031fb_10 0 rfl ?_
    refine J_iload_n hx dJ7_fill_031fb_11 2 rfl ?_
    refine J_iload_n hx dJ7_fill_031fb_12 1 rfl ?_
    obtain ⟨b3, h⟩ := Ho_gd h
    obtain ⟨I4, hI4, h⟩ := Ho_let h
    refine J_bast hx (k_shA hv0) b3 dJ7_fill_031fb_13 hI4 ?_
    obtain ⟨x5, hx5, h⟩ := Ho_let h
    refine J_iinc (x := x5) (lv' := [(2, .int x5), (0, .ref (ad v0)), (1, .int v1), (3, .int v3)]) hx dJ7_fill_031fb_14 2 rfl (by rw [hx5]; rfl) (by decide) rfl ?_
    refine J_goto hx dJ7_fill_031fb_17 5 (by decide) ?_
    refine J_sub (lv' := [(0, .ref (ad v0)), (1, .int v1), (2, .int x5), (3, .int v3)]) hx [1, 2, 0, 3] rfl ?_
    have h := Ho_some h
    exact h
set_option maxRecDepth 100000 in
set_option maxHeartbeats 4000000 in
theorem s_J7_fill_031fb_L5 {X : k_C} {ad : Nat → Nat} {P : Option Value → StI → StL → Prop} {I : StI} {L : StL} (hx : Ok X cJ7_fill_031fb RJ7 4 none 1) (hQ : OkQ X ad P)  {v0 : Nat} {v1 : Int32} {v2 : Int32} {v3 : Int32} (hv0 : (k_sh v0).1 = 11) (n : Nat) (h : Ho (f_J7_fill_031fb_L5 v0 v1 v3 n v2 I) (kr_J7_fill_031fb P L)) : J X ad 4 I L 5 [(0, .ref (ad v0)), (1, .int v1), (2, .int v2), (3, .int v3)] [] := by
  exact k_loop_ho (G := g_J7_fill_031fb_L5 X ad L v0 v1 v3) (fun s hs => s_J7_fill_031fb_L5_b hx hQ hv0 hs) n (v2, I) h
def f_J7_fill_031fb (v0 : Nat) (v1 : Int32) (I : StI) : Option (StI) :=
  k_let (Int32.ofNat (k_sh v0).2) (fun x1 => f_J7_fill_031fb_L5 v0 v1 x1 k_fu (0 : Int32) I)
set_option maxRecDepth 100000 in
set_option maxHeartbeats 4000000 in
theorem s_J7_fill_031fb {l : Launch} {ad : Nat → Nat} {P : Option Value → StI → StL → Prop} {I : StI} {L : StL} {v0 : Nat} {v1 : Int32} (hv0 : (k_sh v0).1 = 11) (h : Ho (f_J7_fill_031fb v0 v1 I) (kr_J7_fill_031fb P L)) : k_Met l ad 1 yJ7_fill_031fb cJ7_fill_031fb 4 none [.ref (ad v0), .int v1] I L P := by
  refine k_enter (by decide +kernel) (Nat.le_of_ble_eq_true rfl) (fun X hl hx hQ => ?_)
  clear hl
  have hx : Ok X cJ7_fill_031fb RJ7 4 none 1 := hx
  show J X ad 4 I L 0 [(0, .ref (ad v0)), (1, .int v1)] []
  unfold f_J7_fill_031fb at h
  refine J_iconst (v := (0 : Int32)) hx dJ7_fill_031fb_0 (by decide) ?_
  refine J_istore_n (x := (0 : Int32)) (lv' := [(2, .int (0 : Int32)), (0, .ref (ad v0)), (1, .int v1)]) hx dJ7_fill_031fb_1 rfl (by decide) rfl ?_
  refine J_aload_n hx dJ7_fill_031fb_2 1 rfl ?_
  refine J_alenB hx (k_shA hv0) rfl dJ7_fill_031fb_3 ?_
  obtain ⟨x1, hx1, h⟩ := Ho_let h
  refine J_istore_n (x := x1) (lv' := [(3, .int x1), (2, .int (0 : Int32)), (0, .ref (ad v0)), (1, .int v1)]) hx dJ7_fill_031fb_4 hx1 (by decide) rfl ?_
  refine J_sub (lv' := [(0, .ref (ad v0)), (1, .int v1), (2, .int (0 : Int32)), (3, .int x1)]) hx [2, 3, 1, 0] rfl ?_
  exact s_J7_fill_031fb_L5 hx hQ (congrArg Prod.fst (k_shA hv0)) k_fu h
abbrev kr_J7_fill_53178 (P : Option Value → StI → StL → Prop) (L : StL) : StI → Prop := fun t => P none t L
abbrev g_J7_fill_53178_L5 (X : k_C) (ad : Nat → Nat) (L : StL) (v0 : Nat) (v1 : Int32) (v3 : Int32) : (Int32 × StI) → Prop := fun s => J X ad 4 s.2 L 5 [(0, .ref (ad v0)), (1, .int v1), (2, .int s.1), (3, .int v3)] []
def f_J7_fill_53178_L5_b (v0 : Nat) (v1 : Int32) (v2 : Int32) (v3 : Int32) (I : StI) : Option ((Int32 × StI) ⊕ (StI)) :=
  (if v3 ≤ v2 then some (.inr (I)) else k_gd v2 (k_sh v0).2 (k_let (k_up I v0 v2.toNatClampNeg v1) (fun I4 => k_let (v2 + (1 : Int32)) (fun x5 => some (.inl (x5, I4))))))
def f_J7_fill_53178_L5 (v0 : Nat) (v1 : Int32) (v3 : Int32) (n : Nat) (v2 : Int32) (I : StI) : Option (StI) :=
  k_loop (fun s => f_J7_fill_53178_L5_b v0 v1 s.1 v3 s.2) n (v2, I)
set_option maxRecDepth 100000 in
set_option maxHeartbeats 4000000 in
theorem s_J7_fill_53178_L5_b {X : k_C} {ad : Nat → Nat} {P : Option Value → StI → StL → Prop} {I : StI} {L : StL} (hx : Ok X cJ7_fill_53178 RJ7 4 none 1) (hQ : OkQ X ad P)  {v0 : Nat} {v1 : Int32} {v2 : Int32} {v3 : Int32} (hv0 : (k_sh v0).1 = 10) (h : Ho (f_J7_fill_53178_L5_b v0 v1 v2 v3 I) (Sum.elim (g_J7_fill_53178_L5 X ad L v0 v1 v3) (kr_J7_fill_53178 P L))) : J X ad 4 I L 5 [(0, .ref (ad v0)), (1, .int v1), (2, .int v2), (3, .int v3)] [] := by
  unfold f_J7_fill_53178_L5_b at h
  refine J_iload_n hx dJ7_fill_53178_5 2 rfl ?_
  refine J_iload_n hx dJ7_fill_53178_6 3 rfl ?_
  refine J_ic_ge hx dJ7_fill_53178_7 20 (by decide) (fun c2 => ?_) (fun c2 => ?_)
  · have h := Ho_t c2 h
    have h := Ho_some h
    exact J_vret hx hQ dJ7_fill_53178_20 h
  · have h := Ho_f c2 h
    refine J_aload_n hx dJ7_fill_53178_10 0 rfl ?_
    refine J_iload_n hx dJ7_fill_53178_11 2 rfl ?_
    refine J_iload_n hx dJ7_fill_53178_12 1 rfl ?_
    obtain ⟨b3, h⟩ := Ho_gd h
    obtain ⟨I4, hI4, h⟩ := Ho_let h
    refine J_iast hx (k_shA hv0) b3 dJ7_fill_53178_13 hI4 ?_
    obtain ⟨x5, hx5, h⟩ := Ho_let h
    refine J_iinc (x := x5) (lv' := [(2, .int x5), (0, .ref (ad v0)), (1, .int v1), (3, .int v3)]) hx dJ7_fill_53178_14 2 rfl (by rw [hx5]; rfl) (by decide) rfl ?_
    refine J_goto hx dJ7_fill_53178_17 5 (by decide) ?_
    refine J_sub (lv' := [(0, .ref (ad v0)), (1, .int v1), (2, .int x5), (3, .int v3)]) hx [1, 2, 0, 3] rfl ?_
    have h := Ho_some h
    exact h
set_option maxRecDepth 100000 in
set_option maxHeartbeats 4000000 in
theorem s_J7_fill_53178_L5 {X : k_C} {ad : Nat → Nat} {P : Option Value → StI → StL → Prop} {I : StI} {L : StL} (hx : Ok X cJ7_fill_53178 RJ7 4 none 1) (hQ : OkQ X ad P)  {v0 : Nat} {v1 : Int32} {v2 : Int32} {v3 : Int32} (hv0 : (k_sh v0).1 = 10) (n : Nat) (h : Ho (f_J7_fill_53178_L5 v0 v1 v3 n v2 I) (kr_J7_fill_53178 P L)) : J X ad 4 I L 5 [(0, .ref (ad v0)), (1, .int v1), (2, .int v2), (3, .int v3)] [] := by
  exact k_loop_ho (G := g_J7_fill_53178_L5 X ad L v0 v1 v3) (fun s hs => s_J7_fill_53178_L5_b hx hQ hv0 hs) n (v2, I) h
def f_J7_fill_53178 (v0 : Nat) (v1 : Int32) (I : StI) : Option (StI) :=
  k_let (Int32.ofNat (k_sh v0).2) (fun x1 => f_J7_fill_53178_L5 v0 v1 x1 k_fu (0 : Int32) I)
set_option maxRecDepth 100000 in
set_option maxHeartbeats 4000000 in
theorem s_J7_fill_53178 {l : Launch} {ad : Nat → Nat} {P : Option Value → StI → StL → Prop} {I : StI} {L : StL} {v0 : Nat} {v1 : Int32} (hv0 : (k_sh v0).1 = 10) (h : Ho (f_J7_fill_53178 v0 v1 I) (kr_J7_fill_53178 P L)) : k_Met l ad 1 yJ7_fill_53178 cJ7_fill_53178 4 none [.ref (ad v0), .int v1] I L P := by
  refine k_enter (by decide +kernel) (Nat.le_of_ble_eq_true rfl) (fun X hl hx hQ => ?_)
  clear hl
  have hx : Ok X cJ7_fill_53178 RJ7 4 none 1 := hx
  show J X ad 4 I L 0 [(0, .ref (ad v0)), (1, .int v1)] []
  unfold f_J7_fill_53178 at h
  refine J_iconst (v := (0 : Int32)) hx dJ7_fill_53178_0 (by decide) ?_
  refine J_istore_n (x := (0 : Int32)) (lv' := [(2, .int (0 : Int32)), (0, .ref (ad v0)), (1, .int v1)]) hx dJ7_fill_53178_1 rfl (by decide) rfl ?_
  refine J_aload_n hx dJ7_fill_53178_2 1 rfl ?_
  refine J_alen hx (k_shA hv0) rfl dJ7_fill_53178_3 ?_
  obtain ⟨x1, hx1, h⟩ := Ho_let h
  refine J_istore_n (x := x1) (lv' := [(3, .int x1), (2, .int (0 : Int32)), (0, .ref (ad v0)), (1, .int v1)]) hx dJ7_fill_53178_4 hx1 (by decide) rfl ?_
  refine J_sub (lv' := [(0, .ref (ad v0)), (1, .int v1), (2, .int (0 : Int32)), (3, .int x1)]) hx [2, 3, 1, 0] rfl ?_
  exact s_J7_fill_53178_L5 hx hQ (congrArg Prod.fst (k_shA hv0)) k_fu h
abbrev kr_J9_floorMod_7cf53 (P : Option Value → StI → StL → Prop) (I : StI) (L : StL) : Int32 → Prop := fun t => P (some (.int t)) I L
def f_J9_floorMod_7cf53 (v0 : Int32) (v1 : Int32) : Option (Int32) :=
  k_nz v1 (k_let (v0 - v0 / v1 * v1) (fun x2 => (if 0 ≤ (v0 ^^^ v1) then some (x2) else (if x2 = 0 then some (x2) else some ((x2 + v1))))))
set_option maxRecDepth 100000 in
set_option maxHeartbeats 4000000 in
theorem s_J9_floorMod_7cf53 {l : Launch} {ad : Nat → Nat} {P : Option Value → StI → StL → Prop} {I : StI} {L : StL} {v0 : Int32} {v1 : Int32}  (h : Ho (f_J9_floorMod_7cf53 v0 v1) (kr_J9_floorMod_7cf53 P I L)) : k_Met l ad 1 yJ9_floorMod_7cf53 cJ9_floorMod_7cf53 3 (some .int) [.int v0, .int v1] I L P := by
  refine k_enter (by decide +kernel) (Nat.le_of_ble_eq_true rfl) (fun X hl hx hQ => ?_)
  clear hl
  have hx : Ok X cJ9_floorMod_7cf53 RJ9 3 (some .int) 1 := hx
  show J X ad 3 I L 0 [(0, .int v0), (1, .int v1)] []
  unfold f_J9_floorMod_7cf53 at h
  refine J_iload_n hx dJ9_floorMod_7cf53_0 0 rfl ?_
  refine J_iload_n hx dJ9_floorMod_7cf53_1 1 rfl ?_
  obtain ⟨hz1, h⟩ := Ho_nz h
  refine J_irem hx hz1 dJ9_floorMod_7cf53_2 ?_
  obtain ⟨x2, hx2, h⟩ := Ho_let h
  refine J_istore_n (x := x2) (lv' := [(2, .int x2), (0, .int v0), (1, .int v1)]) hx dJ9_floorMod_7cf53_3 hx2 (by decide) rfl ?_
  refine J_iload_n hx dJ9_floorMod_7cf53_4 1 rfl ?_
  refine J_iload_n hx dJ9_floorMod_7cf53_5 2 rfl ?_
  refine J_ixor hx dJ9_floorMod_7cf53_6 ?_
  refine J_if_ge hx dJ9_floorMod_7cf53_7 18 (by decide) (fun c3 => ?_) (fun c3 => ?_)
  · have h := Ho_t c3 h
    refine J_iload_n hx dJ9_floorMod_7cf53_18 0 rfl ?_
    have h := Ho_some h
    exact J_iret hx hQ dJ9_floorMod_7cf53_19 h
  · have h := Ho_f c3 h
    refine J_iload_n hx dJ9_floorMod_7cf53_10 0 rfl ?_
    refine J_if_eq hx dJ9_floorMod_7cf53_11 18 (by decide) (fun c4 => ?_) (fun c4 => ?_)
    · have h := Ho_t c4 h
      refine J_iload_n hx dJ9_floorMod_7cf53_18 0 rfl ?_
      have h := Ho_some h
      exact J_iret hx hQ dJ9_floorMod_7cf53_19 h
    · have h := Ho_f c4 h
      refine J_iload_n hx dJ9_floorMod_7cf53_14 0 rfl ?_
      refine J_iload_n hx dJ9_floorMod_7cf53_15 2 rfl ?_
      refine J_iadd hx dJ9_floorMod_7cf53_16 ?_
      have h := Ho_some h
      exact J_iret hx hQ dJ9_floorMod_7cf53_17 h
abbrev kr_J9_max_7cf53 (P : Option Value → StI → StL → Prop) (I : StI) (L : StL) : Int32 → Prop := fun t => P (some (.int t)) I L
def f_J9_max_7cf53 (v0 : Int32) (v1 : Int32) : Option (Int32) :=
  (if v0 < v1 then some (v1) else some (v0))
set_option maxRecDepth 100000 in
set_option maxHeartbeats 4000000 in
theorem s_J9_max_7cf53 {l : Launch} {ad : Nat → Nat} {P : Option Value → StI → StL → Prop} {I : StI} {L : StL} {v0 : Int32} {v1 : Int32}  (h : Ho (f_J9_max_7cf53 v0 v1) (kr_J9_max_7cf53 P I L)) : k_Met l ad 1 yJ9_max_7cf53 cJ9_max_7cf53 2 (some .int) [.int v0, .int v1] I L P := by
  refine k_enter (by decide +kernel) (Nat.le_of_ble_eq_true rfl) (fun X hl hx hQ => ?_)
  clear hl
  have hx : Ok X cJ9_max_7cf53 RJ9 2 (some .int) 1 := hx
  show J X ad 2 I L 0 [(0, .int v0), (1, .int v1)] []
  unfold f_J9_max_7cf53 at h
  refine J_iload_n hx dJ9_max_7cf53_0 0 rfl ?_
  refine J_iload_n hx dJ9_max_7cf53_1 1 rfl ?_
  refine J_ic_lt hx dJ9_max_7cf53_2 9 (by decide) (fun c1 => ?_) (fun c1 => ?_)
  · have h := Ho_t c1 h
    refine J_iload_n hx dJ9_max_7cf53_9 1 rfl ?_
    have h := Ho_some h
    exact J_iret hx hQ dJ9_max_7cf53_10 h
  · have h := Ho_f c1 h
    refine J_iload_n hx dJ9_max_7cf53_5 0 rfl ?_
    refine J_goto hx dJ9_max_7cf53_6 10 (by decide) ?_
    have h := Ho_some h
    exact J_iret hx hQ dJ9_max_7cf53_10 h
abbrev kr_J9_max_f86c9 (P : Option Value → StI → StL → Prop) (I : StI) (L : StL) : Int64 → Prop := fun t => P (some (.long t)) I L
def f_J9_max_f86c9 (v0 : Int64) (v2 : Int64) : Option (Int64) :=
  (if (lg_cmp v0 v2) < 0 then some (v2) else some (v0))
set_option maxRecDepth 100000 in
set_option maxHeartbeats 4000000 in
theorem s_J9_max_f86c9 {l : Launch} {ad : Nat → Nat} {P : Option Value → StI → StL → Prop} {I : StI} {L : StL} {v0 : Int64} {v2 : Int64}  (h : Ho (f_J9_max_f86c9 v0 v2) (kr_J9_max_f86c9 P I L)) : k_Met l ad 1 yJ9_max_f86c9 cJ9_max_f86c9 4 (some .long) [.long v0, .long v2] I L P := by
  refine k_enter (by decide +kernel) (Nat.le_of_ble_eq_true rfl) (fun X hl hx hQ => ?_)
  clear hl
  have hx : Ok X cJ9_max_f86c9 RJ9 4 (some .long) 1 := hx
  show J X ad 4 I L 0 [(0, .long v0), (2, .long v2)] []
  unfold f_J9_max_f86c9 at h
  refine J_lload_n hx dJ9_max_f86c9_0 0 rfl ?_
  refine J_lload_n hx dJ9_max_f86c9_1 1 rfl ?_
  refine J_lcmp hx dJ9_max_f86c9_2 ?_
  refine J_if_lt hx dJ9_max_f86c9_3 10 (by decide) (fun c1 => ?_) (fun c1 => ?_)
  · have h := Ho_t c1 h
    refine J_lload_n hx dJ9_max_f86c9_10 1 rfl ?_
    have h := Ho_some h
    exact J_lret hx hQ dJ9_max_f86c9_11 h
  · have h := Ho_f c1 h
    refine J_lload_n hx dJ9_max_f86c9_6 0 rfl ?_
    refine J_goto hx dJ9_max_f86c9_7 11 (by decide) ?_
    have h := Ho_some h
    exact J_lret hx hQ dJ9_max_f86c9_11 h
abbrev kr_J9_min_7cf53 (P : Option Value → StI → StL → Prop) (I : StI) (L : StL) : Int32 → Prop := fun t => P (some (.int t)) I L
def f_J9_min_7cf53 (v0 : Int32) (v1 : Int32) : Option (Int32) :=
  (if v1 < v0 then some (v1) else some (v0))
set_option maxRecDepth 100000 in
set_option maxHeartbeats 4000000 in
theorem s_J9_min_7cf53 {l : Launch} {ad : Nat → Nat} {P : Option Value → StI → StL → Prop} {I : StI} {L : StL} {v0 : Int32} {v1 : Int32}  (h : Ho (f_J9_min_7cf53 v0 v1) (kr_J9_min_7cf53 P I L)) : k_Met l ad 1 yJ9_min_7cf53 cJ9_min_7cf53 2 (some .int) [.int v0, .int v1] I L P := by
  refine k_enter (by decide +kernel) (Nat.le_of_ble_eq_true rfl) (fun X hl hx hQ => ?_)
  clear hl
  have hx : Ok X cJ9_min_7cf53 RJ9 2 (some .int) 1 := hx
  show J X ad 2 I L 0 [(0, .int v0), (1, .int v1)] []
  unfold f_J9_min_7cf53 at h
  refine J_iload_n hx dJ9_min_7cf53_0 0 rfl ?_
  refine J_iload_n hx dJ9_min_7cf53_1 1 rfl ?_
  refine J_ic_gt hx dJ9_min_7cf53_2 9 (by decide) (fun c1 => ?_) (fun c1 => ?_)
  · have h := Ho_t c1 h
    refine J_iload_n hx dJ9_min_7cf53_9 1 rfl ?_
    have h := Ho_some h
    exact J_iret hx hQ dJ9_min_7cf53_10 h
  · have h := Ho_f c1 h
    refine J_iload_n hx dJ9_min_7cf53_5 0 rfl ?_
    refine J_goto hx dJ9_min_7cf53_6 10 (by decide) ?_
    have h := Ho_some h
    exact J_iret hx hQ dJ9_min_7cf53_10 h
abbrev kr_X0_become (P : Option Value → StI → StL → Prop) (L : StL) : StI → Prop := fun t => P none t L
def f_X0_become (v0 : Nat) (v1 : Nat) (I : StI) : Option (StI) :=
  k_let (k_up I v0 0 (I v1 0)) (fun I1 => k_let (k_up I1 v0 1 (I1 v1 1)) (fun I2 => k_let (k_up I2 v0 2 (I2 v1 2)) (fun I3 => k_let (k_up I3 v0 3 (I3 v1 3)) (fun I4 => k_let (k_up I4 v0 4 (I4 v1 4)) (fun I5 => k_let (k_up I5 v0 5 (I5 v1 5)) (fun I6 => k_let (k_up I6 v0 6 (I6 v1 6)) (fun I7 => some (I7))))))))
set_option maxRecDepth 100000 in
set_option maxHeartbeats 4000000 in
theorem s_X0_become {l : Launch} {ad : Nat → Nat} {P : Option Value → StI → StL → Prop} {I : StI} {L : StL} {v0 : Nat} {v1 : Nat} (hv0 : k_sh v0 = (0, k_N 0)) (hv1 : k_sh v1 = (0, k_N 0)) (h : Ho (f_X0_become v0 v1 I) (kr_X0_become P L)) : k_Met l ad 1 yX0_become cX0_become 2 none [.ref (ad v0), .ref (ad v1)] I L P := by
  refine k_enter (by decide +kernel) (Nat.le_of_ble_eq_true rfl) (fun X hl hx hQ => ?_)
  clear hl
  have hx : Ok X cX0_become RX0 2 none 1 := hx
  show J X ad 2 I L 0 [(0, .ref (ad v0)), (1, .ref (ad v1))] []
  unfold f_X0_become at h
  refine J_aload_n hx dX0_become_0 0 rfl ?_
  refine J_aload_n hx dX0_become_1 1 rfl ?_
  refine J_getI hx fl_RX0_9 hv1 rfl dX0_become_2 ?_
  obtain ⟨I1, hI1, h⟩ := Ho_let h
  refine J_putI hx flW_RX0_9 hv0 rfl dX0_become_5 hI1 ?_
  refine J_aload_n hx dX0_become_8 0 rfl ?_
  refine J_aload_n hx dX0_become_9 1 rfl ?_
  refine J_getI hx fl_RX0_15 hv1 rfl dX0_become_10 ?_
  obtain ⟨I2, hI2, h⟩ := Ho_let h
  refine J_putI hx flW_RX0_15 hv0 rfl dX0_become_13 hI2 ?_
  refine J_aload_n hx dX0_become_16 0 rfl ?_
  refine J_aload_n hx dX0_become_17 1 rfl ?_
  refine J_getI hx fl_RX0_18 hv1 rfl dX0_become_18 ?_
  obtain ⟨I3, hI3, h⟩ := Ho_let h
  refine J_putI hx flW_RX0_18 hv0 rfl dX0_become_21 hI3 ?_
  refine J_aload_n hx dX0_become_24 0 rfl ?_
  refine J_aload_n hx dX0_become_25 1 rfl ?_
  refine J_getI hx fl_RX0_24 hv1 rfl dX0_become_26 ?_
  obtain ⟨I4, hI4, h⟩ := Ho_let h
  refine J_putI hx flW_RX0_24 hv0 rfl dX0_become_29 hI4 ?_
  refine J_aload_n hx dX0_become_32 0 rfl ?_
  refine J_aload_n hx dX0_become_33 1 rfl ?_
  refine J_getI hx fl_RX0_27 hv1 rfl dX0_become_34 ?_
  obtain ⟨I5, hI5, h⟩ := Ho_let h
  refine J_putI hx flW_RX0_27 hv0 rfl dX0_become_37 hI5 ?_
  refine J_aload_n hx dX0_become_40 0 rfl ?_
  refine J_aload_n hx dX0_become_41 1 rfl ?_
  refine J_getI hx fl_RX0_30 hv1 rfl dX0_become_42 ?_
  obtain ⟨I6, hI6, h⟩ := Ho_let h
  refine J_putI hx flW_RX0_30 hv0 rfl dX0_become_45 hI6 ?_
  refine J_aload_n hx dX0_become_48 0 rfl ?_
  refine J_aload_n hx dX0_become_49 1 rfl ?_
  refine J_getI hx fl_RX0_33 hv1 rfl dX0_become_50 ?_
  obtain ⟨I7, hI7, h⟩ := Ho_let h
  refine J_putI hx flW_RX0_33 hv0 rfl dX0_become_53 hI7 ?_
  have h := Ho_some h
  exact J_vret hx hQ dX0_become_56 h
abbrev kr_X0_renew (P : Option Value → StI → StL → Prop) (L : StL) : StI → Prop := fun t => P none t L
def f_X0_renew (v0 : Nat) (I : StI) : Option (StI) :=
  k_let (k_up I v0 3 (0 : Int32)) (fun I1 => k_let (k_up I1 v0 4 (0 : Int32)) (fun I2 => k_let (k_up I2 v0 5 (0 : Int32)) (fun I3 => k_let (k_up I3 v0 6 (I3 v0 2)) (fun I4 => some (I4)))))
set_option maxRecDepth 100000 in
set_option maxHeartbeats 4000000 in
theorem s_X0_renew {l : Launch} {ad : Nat → Nat} {P : Option Value → StI → StL → Prop} {I : StI} {L : StL} {v0 : Nat} (hv0 : k_sh v0 = (0, k_N 0)) (h : Ho (f_X0_renew v0 I) (kr_X0_renew P L)) : k_Met l ad 1 yX0_renew cX0_renew 1 none [.ref (ad v0)] I L P := by
  refine k_enter (by decide +kernel) (Nat.le_of_ble_eq_true rfl) (fun X hl hx hQ => ?_)
  clear hl
  have hx : Ok X cX0_renew RX0 1 none 1 := hx
  show J X ad 1 I L 0 [(0, .ref (ad v0))] []
  unfold f_X0_renew at h
  refine J_aload_n hx dX0_renew_0 0 rfl ?_
  refine J_iconst (v := (0 : Int32)) hx dX0_renew_1 (by decide) ?_
  obtain ⟨I1, hI1, h⟩ := Ho_let h
  refine J_putI hx flW_RX0_24 hv0 rfl dX0_renew_2 hI1 ?_
  refine J_aload_n hx dX0_renew_5 0 rfl ?_
  refine J_iconst (v := (0 : Int32)) hx dX0_renew_6 (by decide) ?_
  obtain ⟨I2, hI2, h⟩ := Ho_let h
  refine J_putI hx flW_RX0_27 hv0 rfl dX0_renew_7 hI2 ?_
  refine J_aload_n hx dX0_renew_10 0 rfl ?_
  refine J_iconst (v := (0 : Int32)) hx dX0_renew_11 (by decide) ?_
  obtain ⟨I3, hI3, h⟩ := Ho_let h
  refine J_putI hx flW_RX0_30 hv0 rfl dX0_renew_12 hI3 ?_
  refine J_aload_n hx dX0_renew_15 0 rfl ?_
  refine J_aload_n hx dX0_renew_16 0 rfl ?_
  refine J_getI hx fl_RX0_18 hv0 rfl dX0_renew_17 ?_
  obtain ⟨I4, hI4, h⟩ := Ho_let h
  refine J_putI hx flW_RX0_33 hv0 rfl dX0_renew_20 hI4 ?_
  have h := Ho_some h
  exact J_vret hx hQ dX0_renew_23 h
abbrev kr_X0_begin (P : Option Value → StI → StL → Prop) (L : StL) : StI → Prop := fun t => P none t L
def f_X0_begin (v0 : Nat) (v1 : Int32) (v2 : Int32) (v3 : Int32) (I : StI) : Option (StI) :=
  k_let (k_up I v0 0 v1) (fun I1 => k_let (k_up I1 v0 1 v2) (fun I2 => k_let (k_up I2 v0 2 v3) (fun I3 => Option.bind (f_X0_renew v0 I3) (fun t4 => some (t4)))))
set_option maxRecDepth 100000 in
set_option maxHeartbeats 4000000 in
theorem s_X0_begin {l : Launch} {ad : Nat → Nat} {P : Option Value → StI → StL → Prop} {I : StI} {L : StL} {v0 : Nat} {v1 : Int32} {v2 : Int32} {v3 : Int32} (hv0 : k_sh v0 = (0, k_N 0)) (h : Ho (f_X0_begin v0 v1 v2 v3 I) (kr_X0_begin P L)) : k_Met l ad 2 yX0_begin cX0_begin 4 none [.ref (ad v0), .int v1, .int v2, .int v3] I L P := by
  refine k_enter (by decide +kernel) (Nat.le_of_ble_eq_true rfl) (fun X hl hx hQ => ?_)
  clear hl
  have hx : Ok X cX0_begin RX0 4 none 2 := hx
  show J X ad 4 I L 0 [(0, .ref (ad v0)), (1, .int v1), (2, .int v2), (3, .int v3)] []
  unfold f_X0_begin at h
  refine J_aload_n hx dX0_begin_0 0 rfl ?_
  refine J_iload_n hx dX0_begin_1 1 rfl ?_
  obtain ⟨I1, hI1, h⟩ := Ho_let h
  refine J_putI hx flW_RX0_9 hv0 rfl dX0_begin_2 hI1 ?_
  refine J_aload_n hx dX0_begin_5 0 rfl ?_
  refine J_iload_n hx dX0_begin_6 2 rfl ?_
  obtain ⟨I2, hI2, h⟩ := Ho_let h
  refine J_putI hx flW_RX0_15 hv0 rfl dX0_begin_7 hI2 ?_
  refine J_aload_n hx dX0_begin_10 0 rfl ?_
  refine J_iload_n hx dX0_begin_11 3 rfl ?_
  obtain ⟨I3, hI3, h⟩ := Ho_let h
  refine J_putI hx flW_RX0_18 hv0 rfl dX0_begin_12 hI3 ?_
  refine J_aload_n hx dX0_begin_15 0 rfl ?_
  obtain ⟨t4, e5, h⟩ := Ho_bind h
  refine J_callVv hx lkV_RX0_21 hv0 [] [] rfl rfl (Nat.le_of_ble_eq_true rfl) (Nat.le_of_ble_eq_true rfl) (s_X0_renew hv0 ⟨t4, e5, ⟨rfl, rfl, rfl⟩⟩) dX0_begin_16 ?_
  have h := Ho_some h
  exact J_vret hx hQ dX0_begin_19 h
abbrev kr_X0_callsIn (P : Option Value → StI → StL → Prop) (I : StI) (L : StL) : Int32 → Prop := fun t => P (some (.int t)) I L
def f_X0_callsIn (v0 : Nat) (v1 : Int32) (I : StI) : Option (Int32) :=
  (if (I v0 3) = (1 : Int32) then some ((0 : Int32)) else (if (I v0 0) = (4 : Int32) then (if (v1 - v1 / (2 : Int32) * (2 : Int32)) = 0 then some ((1 : Int32)) else some ((0 : Int32))) else some ((1 : Int32))))
set_option maxRecDepth 100000 in
set_option maxHeartbeats 4000000 in
theorem s_X0_callsIn {l : Launch} {ad : Nat → Nat} {P : Option Value → StI → StL → Prop} {I : StI} {L : StL} {v0 : Nat} {v1 : Int32} (hv0 : k_sh v0 = (0, k_N 0)) (h : Ho (f_X0_callsIn v0 v1 I) (kr_X0_callsIn P I L)) : k_Met l ad 1 yX0_callsIn cX0_callsIn 2 (some .boolean) [.ref (ad v0), .int v1] I L P := by
  refine k_enter (by decide +kernel) (Nat.le_of_ble_eq_true rfl) (fun X hl hx hQ => ?_)
  clear hl
  have hx : Ok X cX0_callsIn RX0 2 (some .boolean) 1 := hx
  show J X ad 2 I L 0 [(0, .ref (ad v0)), (1, .int v1)] []
  unfold f_X0_callsIn at h
  refine J_aload_n hx dX0_callsIn_0 0 rfl ?_
  refine J_getI hx fl_RX0_24 hv0 rfl dX0_callsIn_1 ?_
  refine J_iconst (v := (1 : Int32)) hx dX0_callsIn_4 (by decide) ?_
  refine J_ic_eq hx dX0_callsIn_5 26 (by decide) (fun c1 => ?_) (fun c1 => ?_)
  · have h := Ho_t c1 h
    refine J_iconst (v := (0 : Int32)) hx dX0_callsIn_26 (by decide) ?_
    have h := Ho_some h
    exact J_zret hx hQ dX0_callsIn_27 rfl h
  · have h := Ho_f c1 h
    refine J_aload_n hx dX0_callsIn_8 0 rfl ?_
    refine J_getI hx fl_RX0_9 hv0 rfl dX0_callsIn_9 ?_
    refine J_iconst (v := (4 : Int32)) hx dX0_callsIn_12 (by decide) ?_
    refine J_ic_ne hx dX0_callsIn_13 22 (by decide) (fun c2 => ?_) (fun c2 => ?_)
    · have h := Ho_f c2 h
      refine J_iconst (v := (1 : Int32)) hx dX0_callsIn_22 (by decide) ?_
      refine J_goto hx dX0_callsIn_23 27 (by decide) ?_
      have h := Ho_some h
      exact J_zret hx hQ dX0_callsIn_27 rfl h
    · have h := Ho_t c2 h
      refine J_iload_n hx dX0_callsIn_16 1 rfl ?_
      refine J_iconst (v := (2 : Int32)) hx dX0_callsIn_17 (by decide) ?_
      refine J_irem hx (by decide) dX0_callsIn_18 ?_
      refine J_if_ne hx dX0_callsIn_19 26 (by decide) (fun c3 => ?_) (fun c3 => ?_)
      · have h := Ho_f c3 h
        refine J_iconst (v := (0 : Int32)) hx dX0_callsIn_26 (by decide) ?_
        have h := Ho_some h
        exact J_zret hx hQ dX0_callsIn_27 rfl h
      · have h := Ho_t c3 h
        refine J_iconst (v := (1 : Int32)) hx dX0_callsIn_22 (by decide) ?_
        refine J_goto hx dX0_callsIn_23 27 (by decide) ?_
        have h := Ho_some h
        exact J_zret hx hQ dX0_callsIn_27 rfl h
abbrev kr_X0_isOf (P : Option Value → StI → StL → Prop) (I : StI) (L : StL) : Int32 → Prop := fun t => P (some (.int t)) I L
def f_X0_isOf (v0 : Nat) (v1 : Int32) (I : StI) : Option (Int32) :=
  (if v1 = (0 : Int32) then some ((1 : Int32)) else (if v1 = (1 : Int32) then (if (I v0 0) = (1 : Int32) then some ((1 : Int32)) else (if (I v0 0) = (4 : Int32) then some ((1 : Int32)) else some ((0 : Int32)))) else (if v1 = (2 : Int32) then (if (I v0 0) = (2 : Int32) then some ((1 : Int32)) else (if (I v0 0) = (5 : Int32) then some ((1 : Int32)) else some ((0 : Int32)))) else (if (I v0 0) = v1 then some ((1 : Int32)) else some ((0 : Int32))))))
set_option maxRecDepth 100000 in
set_option maxHeartbeats 4000000 in
theorem s_X0_isOf {l : Launch} {ad : Nat → Nat} {P : Option Value → StI → StL → Prop} {I : StI} {L : StL} {v0 : Nat} {v1 : Int32} (hv0 : k_sh v0 = (0, k_N 0)) (h : Ho (f_X0_isOf v0 v1 I) (kr_X0_isOf P I L)) : k_Met l ad 1 yX0_isOf cX0_isOf 2 (some .boolean) [.ref (ad v0), .int v1] I L P := by
  refine k_enter (by decide +kernel) (Nat.le_of_ble_eq_true rfl) (fun X hl hx hQ => ?_)
  clear hl
  have hx : Ok X cX0_isOf RX0 2 (some .boolean) 1 := hx
  show J X ad 2 I L 0 [(0, .ref (ad v0)), (1, .int v1)] []
  unfold f_X0_isOf at h
  refine J_iload_n hx dX0_isOf_0 1 rfl ?_
  by_cases c1 : v1 = (0 : Int32)
  · have h := Ho_t c1 h
    refine J_tIn (x' := (0 : Int32)) (off := 27) hx dX0_isOf_1 c1 (by decide) (by decide) (by decide) 28 (by decide) ?_
    refine J_iconst (v := (1 : Int32)) hx dX0_isOf_28 (by decide) ?_
    have h := Ho_some h
    exact J_zret hx hQ dX0_isOf_29 rfl h
  have h := Ho_f c1 h
  by_cases c2 : v1 = (1 : Int32)
  · have h := Ho_t c2 h
    refine J_tIn (x' := (1 : Int32)) (off := 29) hx dX0_isOf_1 c2 (by decide) (by decide) (by decide) 30 (by decide) ?_
    refine J_aload_n hx dX0_isOf_30 0 rfl ?_
    refine J_getI hx fl_RX0_9 hv0 rfl dX0_isOf_31 ?_
    refine J_iconst (v := (1 : Int32)) hx dX0_isOf_34 (by decide) ?_
    refine J_ic_eq hx dX0_isOf_35 46 (by decide) (fun c3 => ?_) (fun c3 => ?_)
    · have h := Ho_t c3 h
      refine J_iconst (v := (1 : Int32)) hx dX0_isOf_46 (by decide) ?_
      refine J_goto hx dX0_isOf_47 51 (by decide) ?_
      have h := Ho_some h
      exact J_zret hx hQ dX0_isOf_51 rfl h
    · have h := Ho_f c3 h
      refine J_aload_n hx dX0_isOf_38 0 rfl ?_
      refine J_getI hx fl_RX0_9 hv0 rfl dX0_isOf_39 ?_
      refine J_iconst (v := (4 : Int32)) hx dX0_isOf_42 (by decide) ?_
      refine J_ic_ne hx dX0_isOf_43 50 (by decide) (fun c4 => ?_) (fun c4 => ?_)
      · have h := Ho_f c4 h
        refine J_iconst (v := (0 : Int32)) hx dX0_isOf_50 (by decide) ?_
        have h := Ho_some h
        exact J_zret hx hQ dX0_isOf_51 rfl h
      · have h := Ho_t c4 h
        refine J_iconst (v := (1 : Int32)) hx dX0_isOf_46 (by decide) ?_
        refine J_goto hx dX0_isOf_47 51 (by decide) ?_
        have h := Ho_some h
        exact J_zret hx hQ dX0_isOf_51 rfl h
  have h := Ho_f c2 h
  by_cases c5 : v1 = (2 : Int32)
  · have h := Ho_t c5 h
    refine J_tIn (x' := (2 : Int32)) (off := 51) hx dX0_isOf_1 c5 (by decide) (by decide) (by decide) 52 (by decide) ?_
    refine J_aload_n hx dX0_isOf_52 0 rfl ?_
    refine J_getI hx fl_RX0_9 hv0 rfl dX0_isOf_53 ?_
    refine J_iconst (v := (2 : Int32)) hx dX0_isOf_56 (by decide) ?_
    refine J_ic_eq hx dX0_isOf_57 68 (by decide) (fun c6 => ?_) (fun c6 => ?_)
    · have h := Ho_t c6 h
      refine J_iconst (v := (1 : Int32)) hx dX0_isOf_68 (by decide) ?_
      refine J_goto hx dX0_isOf_69 73 (by decide) ?_
      have h := Ho_some h
      exact J_zret hx hQ dX0_isOf_73 rfl h
    · have h := Ho_f c6 h
      refine J_aload_n hx dX0_isOf_60 0 rfl ?_
      refine J_getI hx fl_RX0_9 hv0 rfl dX0_isOf_61 ?_
      refine J_iconst (v := (5 : Int32)) hx dX0_isOf_64 (by decide) ?_
      refine J_ic_ne hx dX0_isOf_65 72 (by decide) (fun c7 => ?_) (fun c7 => ?_)
      · have h := Ho_f c7 h
        refine J_iconst (v := (0 : Int32)) hx dX0_isOf_72 (by decide) ?_
        have h := Ho_some h
        exact J_zret hx hQ dX0_isOf_73 rfl h
      · have h := Ho_t c7 h
        refine J_iconst (v := (1 : Int32)) hx dX0_isOf_68 (by decide) ?_
        refine J_goto hx dX0_isOf_69 73 (by decide) ?_
        have h := Ho_some h
        exact J_zret hx hQ dX0_isOf_73 rfl h
  have h := Ho_f c5 h
  refine J_tDef hx dX0_isOf_1 [(0 : Int32), (1 : Int32), (2 : Int32)] (List.forall_mem_cons.mpr ⟨c1, List.forall_mem_cons.mpr ⟨c2, List.forall_mem_cons.mpr ⟨c5, fun _ z => absurd z List.not_mem_nil⟩⟩⟩) (by decide) (by decide) 74 (by decide) ?_
  refine J_aload_n hx dX0_isOf_74 0 rfl ?_
  refine J_getI hx fl_RX0_9 hv0 rfl dX0_isOf_75 ?_
  refine J_iload_n hx dX0_isOf_78 1 rfl ?_
  refine J_ic_ne hx dX0_isOf_79 86 (by decide) (fun c8 => ?_) (fun c8 => ?_)
  · have h := Ho_f c8 h
    refine J_iconst (v := (0 : Int32)) hx dX0_isOf_86 (by decide) ?_
    have h := Ho_some h
    exact J_zret hx hQ dX0_isOf_87 rfl h
  · have h := Ho_t c8 h
    refine J_iconst (v := (1 : Int32)) hx dX0_isOf_82 (by decide) ?_
    refine J_goto hx dX0_isOf_83 87 (by decide) ?_
    have h := Ho_some h
    exact J_zret hx hQ dX0_isOf_87 rfl h
abbrev kr_X0_markOf (P : Option Value → StI → StL → Prop) (I : StI) (L : StL) : Int32 → Prop := fun t => P (some (.int t)) I L
def f_X0_markOf (v0 : Nat) (v1 : Int32) (v2 : Int32) (I : StI) : Option (Int32) :=
  (if v1 = (1 : Int32) then Option.bind (f_J9_max_7cf53 (0 : Int32) ((I v0 4) - (1 : Int32))) (fun t2 => some (t2)) else (if v1 = (2 : Int32) then some (((I v0 6) - (I v0 2))) else (if v1 = (3 : Int32) then some (((I v0 1) - (1 : Int32))) else (if v1 = (4 : Int32) then Option.bind (f_X0_callsIn v0 v2 I) (fun t7 => (if t7 = 0 then some ((0 : Int32)) else some ((1 : Int32)))) else (if v1 = (5 : Int32) then Option.bind (f_J9_floorMod_7cf53 (-v2) (4 : Int32)) (fun t11 => some (t11)) else some ((0 : Int32)))))))
set_option maxRecDepth 100000 in
set_option maxHeartbeats 4000000 in
theorem s_X0_markOf {l : Launch} {ad : Nat → Nat} {P : Option Value → StI → StL → Prop} {I : StI} {L : StL} {v0 : Nat} {v1 : Int32} {v2 : Int32} (hv0 : k_sh v0 = (0, k_N 0)) (h : Ho (f_X0_markOf v0 v1 v2 I) (kr_X0_markOf P I L)) : k_Met l ad 2 yX0_markOf cX0_markOf 3 (some .int) [.ref (ad v0), .int v1, .int v2] I L P := by
  refine k_enter (by decide +kernel) (Nat.le_of_ble_eq_true rfl) (fun X hl hx hQ => ?_)
  clear hl
  have hx : Ok X cX0_markOf RX0 3 (some .int) 2 := hx
  show J X ad 3 I L 0 [(0, .ref (ad v0)), (1, .int v1), (2, .int v2)] []
  unfold f_X0_markOf at h
  refine J_iload_n hx dX0_markOf_0 1 rfl ?_
  by_cases c1 : v1 = (1 : Int32)
  · have h := Ho_t c1 h
    refine J_tIn (x' := (1 : Int32)) (off := 35) hx dX0_markOf_1 c1 (by decide) (by decide) (by decide) 36 (by decide) ?_
    refine J_iconst (v := (0 : Int32)) hx dX0_markOf_36 (by decide) ?_
    refine J_aload_n hx dX0_markOf_37 0 rfl ?_
    refine J_getI hx fl_RX0_27 hv0 rfl dX0_markOf_38 ?_
    refine J_iconst (v := (1 : Int32)) hx dX0_markOf_41 (by decide) ?_
    refine J_isub hx dX0_markOf_42 ?_
    obtain ⟨t2, e3, h⟩ := Ho_bind h
    refine J_callSi hx lkS_RX0_40 [.int (0 : Int32), .int ((I v0 4) - (1 : Int32))] [] rfl rfl (Nat.le_of_ble_eq_true rfl) (Nat.le_of_ble_eq_true rfl) (s_J9_max_7cf53  ⟨t2, e3, ⟨rfl, rfl, rfl⟩⟩) dX0_markOf_43 ?_
    have h := Ho_some h
    exact J_iret hx hQ dX0_markOf_46 h
  have h := Ho_f c1 h
  by_cases c4 : v1 = (2 : Int32)
  · have h := Ho_t c4 h
    refine J_tIn (x' := (2 : Int32)) (off := 46) hx dX0_markOf_1 c4 (by decide) (by decide) (by decide) 47 (by decide) ?_
    refine J_aload_n hx dX0_markOf_47 0 rfl ?_
    refine J_getI hx fl_RX0_33 hv0 rfl dX0_markOf_48 ?_
    refine J_aload_n hx dX0_markOf_51 0 rfl ?_
    refine J_getI hx fl_RX0_18 hv0 rfl dX0_markOf_52 ?_
    refine J_isub hx dX0_markOf_55 ?_
    have h := Ho_some h
    exact J_iret hx hQ dX0_markOf_56 h
  have h := Ho_f c4 h
  by_cases c5 : v1 = (3 : Int32)
  · have h := Ho_t c5 h
    refine J_tIn (x' := (3 : Int32)) (off := 56) hx dX0_markOf_1 c5 (by decide) (by decide) (by decide) 57 (by decide) ?_
    refine J_aload_n hx dX0_markOf_57 0 rfl ?_
    refine J_getI hx fl_RX0_15 hv0 rfl dX0_markOf_58 ?_
    refine J_iconst (v := (1 : Int32)) hx dX0_markOf_61 (by decide) ?_
    refine J_isub hx dX0_markOf_62 ?_
    have h := Ho_some h
    exact J_iret hx hQ dX0_markOf_63 h
  have h := Ho_f c5 h
  by_cases c6 : v1 = (4 : Int32)
  · have h := Ho_t c6 h
    refine J_tIn (x' := (4 : Int32)) (off := 63) hx dX0_markOf_1 c6 (by decide) (by decide) (by decide) 64 (by decide) ?_
    refine J_aload_n hx dX0_markOf_64 0 rfl ?_
    refine J_iload_n hx dX0_markOf_65 2 rfl ?_
    obtain ⟨t7, e8, h⟩ := Ho_bind h
    refine J_callVi hx lkV_RX0_52 hv0 [.int v2] [] rfl rfl (Nat.le_of_ble_eq_true rfl) (Nat.le_of_ble_eq_true rfl) (s_X0_callsIn hv0 ⟨t7, e8, ⟨rfl, rfl, rfl⟩⟩) dX0_markOf_66 ?_
    refine J_if_eq hx dX0_markOf_69 76 (by decide) (fun c9 => ?_) (fun c9 => ?_)
    · have h := Ho_t c9 h
      refine J_iconst (v := (0 : Int32)) hx dX0_markOf_76 (by decide) ?_
      have h := Ho_some h
      exact J_iret hx hQ dX0_markOf_77 h
    · have h := Ho_f c9 h
      refine J_iconst (v := (1 : Int32)) hx dX0_markOf_72 (by decide) ?_
      refine J_goto hx dX0_markOf_73 77 (by decide) ?_
      have h := Ho_some h
      exact J_iret hx hQ dX0_markOf_77 h
  have h := Ho_f c6 h
  by_cases c10 : v1 = (5 : Int32)
  · have h := Ho_t c10 h
    refine J_tIn (x' := (5 : Int32)) (off := 77) hx dX0_markOf_1 c10 (by decide) (by decide) (by decide) 78 (by decide) ?_
    refine J_iload_n hx dX0_markOf_78 2 rfl ?_
    refine J_ineg hx dX0_markOf_79 ?_
    refine J_iconst (v := (4 : Int32)) hx dX0_markOf_80 (by decide) ?_
    obtain ⟨t11, e12, h⟩ := Ho_bind h
    refine J_callSi hx lkS_RX0_55 [.int (-v2), .int (4 : Int32)] [] rfl rfl (Nat.le_of_ble_eq_true rfl) (Nat.le_of_ble_eq_true rfl) (s_J9_floorMod_7cf53  ⟨t11, e12, ⟨rfl, rfl, rfl⟩⟩) dX0_markOf_81 ?_
    have h := Ho_some h
    exact J_iret hx hQ dX0_markOf_84 h
  have h := Ho_f c10 h
  refine J_tDef hx dX0_markOf_1 [(1 : Int32), (2 : Int32), (3 : Int32), (4 : Int32), (5 : Int32)] (List.forall_mem_cons.mpr ⟨c1, List.forall_mem_cons.mpr ⟨c4, List.forall_mem_cons.mpr ⟨c5, List.forall_mem_cons.mpr ⟨c6, List.forall_mem_cons.mpr ⟨c10, fun _ z => absurd z List.not_mem_nil⟩⟩⟩⟩⟩) (by decide) (by decide) 85 (by decide) ?_
  refine J_iconst (v := (0 : Int32)) hx dX0_markOf_85 (by decide) ?_
  have h := Ho_some h
  exact J_iret hx hQ dX0_markOf_86 h
abbrev kr_X0_wake (P : Option Value → StI → StL → Prop) (L : StL) : StI → Prop := fun t => P none t L
def f_X0_wake (v0 : Nat) (I : StI) : Option (StI) :=
  k_let (k_up I v0 5 (0 : Int32)) (fun I1 => (if (I1 v0 0) = (3 : Int32) then k_let (k_up I1 v0 3 (0 : Int32)) (fun I4 => k_let (k_up I4 v0 4 ((I4 v0 1) - (1 : Int32))) (fun I5 => some (I5))) else k_let (k_up I1 v0 3 (2 : Int32)) (fun I3 => some (I3))))
set_option maxRecDepth 100000 in
set_option maxHeartbeats 4000000 in
theorem s_X0_wake {l : Launch} {ad : Nat → Nat} {P : Option Value → StI → StL → Prop} {I : StI} {L : StL} {v0 : Nat} (hv0 : k_sh v0 = (0, k_N 0)) (h : Ho (f_X0_wake v0 I) (kr_X0_wake P L)) : k_Met l ad 1 yX0_wake cX0_wake 1 none [.ref (ad v0)] I L P := by
  refine k_enter (by decide +kernel) (Nat.le_of_ble_eq_true rfl) (fun X hl hx hQ => ?_)
  clear hl
  have hx : Ok X cX0_wake RX0 1 none 1 := hx
  show J X ad 1 I L 0 [(0, .ref (ad v0))] []
  unfold f_X0_wake at h
  refine J_aload_n hx dX0_wake_0 0 rfl ?_
  refine J_iconst (v := (0 : Int32)) hx dX0_wake_1 (by decide) ?_
  obtain ⟨I1, hI1, h⟩ := Ho_let h
  refine J_putI hx flW_RX0_30 hv0 rfl dX0_wake_2 hI1 ?_
  refine J_aload_n hx dX0_wake_5 0 rfl ?_
  refine J_getI hx fl_RX0_9 hv0 rfl dX0_wake_6 ?_
  refine J_iconst (v := (3 : Int32)) hx dX0_wake_9 (by decide) ?_
  refine J_ic_ne hx dX0_wake_10 31 (by decide) (fun c2 => ?_) (fun c2 => ?_)
  · have h := Ho_f c2 h
    refine J_aload_n hx dX0_wake_31 0 rfl ?_
    refine J_iconst (v := (2 : Int32)) hx dX0_wake_32 (by decide) ?_
    obtain ⟨I3, hI3, h⟩ := Ho_let h
    refine J_putI hx flW_RX0_24 hv0 rfl dX0_wake_33 hI3 ?_
    have h := Ho_some h
    exact J_vret hx hQ dX0_wake_36 h
  · have h := Ho_t c2 h
    refine J_aload_n hx dX0_wake_13 0 rfl ?_
    refine J_iconst (v := (0 : Int32)) hx dX0_wake_14 (by decide) ?_
    obtain ⟨I4, hI4, h⟩ := Ho_let h
    refine J_putI hx flW_RX0_24 hv0 rfl dX0_wake_15 hI4 ?_
    refine J_aload_n hx dX0_wake_18 0 rfl ?_
    refine J_aload_n hx dX0_wake_19 0 rfl ?_
    refine J_getI hx fl_RX0_15 hv0 rfl dX0_wake_20 ?_
    refine J_iconst (v := (1 : Int32)) hx dX0_wake_23 (by decide) ?_
    refine J_isub hx dX0_wake_24 ?_
    obtain ⟨I5, hI5, h⟩ := Ho_let h
    refine J_putI hx flW_RX0_27 hv0 rfl dX0_wake_25 hI5 ?_
    refine J_goto hx dX0_wake_28 36 (by decide) ?_
    have h := Ho_some h
    exact J_vret hx hQ dX0_wake_36 h
abbrev kr_X0_restOneStep (P : Option Value → StI → StL → Prop) (L : StL) : StI → Prop := fun t => P none t L
def f_X0_restOneStep (v0 : Nat) (I : StI) : Option (StI) :=
  k_let (k_up I v0 5 ((I v0 5) - (1 : Int32))) (fun I1 => (if 0 < (I1 v0 5) then some (I1) else Option.bind (f_X0_wake v0 I1) (fun t3 => some (t3))))
set_option maxRecDepth 100000 in
set_option maxHeartbeats 4000000 in
theorem s_X0_restOneStep {l : Launch} {ad : Nat → Nat} {P : Option Value → StI → StL → Prop} {I : StI} {L : StL} {v0 : Nat} (hv0 : k_sh v0 = (0, k_N 0)) (h : Ho (f_X0_restOneStep v0 I) (kr_X0_restOneStep P L)) : k_Met l ad 2 yX0_restOneStep cX0_restOneStep 1 none [.ref (ad v0)] I L P := by
  refine k_enter (by decide +kernel) (Nat.le_of_ble_eq_true rfl) (fun X hl hx hQ => ?_)
  clear hl
  have hx : Ok X cX0_restOneStep RX0 1 none 2 := hx
  show J X ad 1 I L 0 [(0, .ref (ad v0))] []
  unfold f_X0_restOneStep at h
  refine J_aload_n hx dX0_restOneStep_0 0 rfl ?_
  refine J_dup hx dX0_restOneStep_1 rfl ?_
  refine J_getI hx fl_RX0_30 hv0 rfl dX0_restOneStep_2 ?_
  refine J_iconst (v := (1 : Int32)) hx dX0_restOneStep_5 (by decide) ?_
  refine J_isub hx dX0_restOneStep_6 ?_
  obtain ⟨I1, hI1, h⟩ := Ho_let h
  refine J_putI hx flW_RX0_30 hv0 rfl dX0_restOneStep_7 hI1 ?_
  refine J_aload_n hx dX0_restOneStep_10 0 rfl ?_
  refine J_getI hx fl_RX0_30 hv0 rfl dX0_restOneStep_11 ?_
  refine J_if_gt hx dX0_restOneStep_14 21 (by decide) (fun c2 => ?_) (fun c2 => ?_)
  · have h := Ho_t c2 h
    have h := Ho_some h
    exact J_vret hx hQ dX0_restOneStep_21 h
  · have h := Ho_f c2 h
    refine J_aload_n hx dX0_restOneStep_17 0 rfl ?_
    obtain ⟨t3, e4, h⟩ := Ho_bind h
    refine J_callVv hx lkV_RX0_49 hv0 [] [] rfl rfl (Nat.le_of_ble_eq_true rfl) (Nat.le_of_ble_eq_true rfl) (s_X0_wake hv0 ⟨t3, e4, ⟨rfl, rfl, rfl⟩⟩) dX0_restOneStep_18 ?_
    have h := Ho_some h
    exact J_vret hx hQ dX0_restOneStep_21 h
abbrev kr_X0_takeAnswer (P : Option Value → StI → StL → Prop) (L : StL) : StI → Prop := fun t => P none t L
def f_X0_takeAnswer_j32 (v0 : Nat) (I : StI) : Option (StI) :=
  k_let (k_up I v0 3 (0 : Int32)) (fun I2 => k_let (k_up I2 v0 4 (0 : Int32)) (fun I3 => some (I3)))
set_option maxRecDepth 100000 in
set_option maxHeartbeats 4000000 in
theorem s_X0_takeAnswer_j32 {X : k_C} {ad : Nat → Nat} {P : Option Value → StI → StL → Prop} {I : StI} {L : StL} (hx : Ok X cX0_takeAnswer RX0 1 none 2) (hQ : OkQ X ad P)  {v0 : Nat} (hv0 : k_sh v0 = (0, k_N 0)) (h : Ho (f_X0_takeAnswer_j32 v0 I) (kr_X0_takeAnswer P L)) : J X ad 1 I L 32 [(0, .ref (ad v0))] [] := by
  unfold f_X0_takeAnswer_j32 at h
  refine J_aload_n hx dX0_takeAnswer_32 0 rfl ?_
  refine J_iconst (v := (0 : Int32)) hx dX0_takeAnswer_33 (by decide) ?_
  obtain ⟨I2, hI2, h⟩ := Ho_let h
  refine J_putI hx flW_RX0_24 hv0 rfl dX0_takeAnswer_34 hI2 ?_
  refine J_aload_n hx dX0_takeAnswer_37 0 rfl ?_
  refine J_iconst (v := (0 : Int32)) hx dX0_takeAnswer_38 (by decide) ?_
  obtain ⟨I3, hI3, h⟩ := Ho_let h
  refine J_putI hx flW_RX0_27 hv0 rfl dX0_takeAnswer_39 hI3 ?_
  have h := Ho_some h
  exact J_vret hx hQ dX0_takeAnswer_42 h
def f_X0_takeAnswer (v0 : Nat) (I : StI) : Option (StI) :=
  (if (I v0 3) = 0 then Option.bind (f_X0_isOf v0 (1 : Int32) I) (fun t4 => (if t4 = 0 then f_X0_takeAnswer_j32 v0 I else Option.bind (f_J9_max_7cf53 (0 : Int32) ((I v0 4) - (1 : Int32))) (fun t7 => k_let (k_up I v0 4 t7) (fun I9 => some (I9))))) else f_X0_takeAnswer_j32 v0 I)
set_option maxRecDepth 100000 in
set_option maxHeartbeats 4000000 in
theorem s_X0_takeAnswer {l : Launch} {ad : Nat → Nat} {P : Option Value → StI → StL → Prop} {I : StI} {L : StL} {v0 : Nat} (hv0 : k_sh v0 = (0, k_N 0)) (h : Ho (f_X0_takeAnswer v0 I) (kr_X0_takeAnswer P L)) : k_Met l ad 2 yX0_takeAnswer cX0_takeAnswer 1 none [.ref (ad v0)] I L P := by
  refine k_enter (by decide +kernel) (Nat.le_of_ble_eq_true rfl) (fun X hl hx hQ => ?_)
  clear hl
  have hx : Ok X cX0_takeAnswer RX0 1 none 2 := hx
  show J X ad 1 I L 0 [(0, .ref (ad v0))] []
  unfold f_X0_takeAnswer at h
  refine J_aload_n hx dX0_takeAnswer_0 0 rfl ?_
  refine J_getI hx fl_RX0_24 hv0 rfl dX0_takeAnswer_1 ?_
  refine J_if_ne hx dX0_takeAnswer_4 32 (by decide) (fun c1 => ?_) (fun c1 => ?_)
  · have h := Ho_f c1 h
    refine J_sub (lv' := [(0, .ref (ad v0))]) hx [0] rfl ?_
    exact s_X0_takeAnswer_j32 hx hQ hv0 h
  · have h := Ho_t c1 h
    refine J_aload_n hx dX0_takeAnswer_7 0 rfl ?_
    refine J_iconst (v := (1 : Int32)) hx dX0_takeAnswer_8 (by decide) ?_
    obtain ⟨t4, e5, h⟩ := Ho_bind h
    refine J_callVi hx lkV_RX0_36 hv0 [.int (1 : Int32)] [] rfl rfl (Nat.le_of_ble_eq_true rfl) (Nat.le_of_ble_eq_true rfl) (s_X0_isOf hv0 ⟨t4, e5, ⟨rfl, rfl, rfl⟩⟩) dX0_takeAnswer_9 ?_
    refine J_if_eq hx dX0_takeAnswer_12 32 (by decide) (fun c6 => ?_) (fun c6 => ?_)
    · have h := Ho_t c6 h
      refine J_sub (lv' := [(0, .ref (ad v0))]) hx [0] rfl ?_
      exact s_X0_takeAnswer_j32 hx hQ hv0 h
    · have h := Ho_f c6 h
      refine J_aload_n hx dX0_takeAnswer_15 0 rfl ?_
      refine J_iconst (v := (0 : Int32)) hx dX0_takeAnswer_16 (by decide) ?_
      refine J_aload_n hx dX0_takeAnswer_17 0 rfl ?_
      refine J_getI hx fl_RX0_27 hv0 rfl dX0_takeAnswer_18 ?_
      refine J_iconst (v := (1 : Int32)) hx dX0_takeAnswer_21 (by decide) ?_
      refine J_isub hx dX0_takeAnswer_22 ?_
      obtain ⟨t7, e8, h⟩ := Ho_bind h
      refine J_callSi hx lkS_RX0_40 [.int (0 : Int32), .int ((I v0 4) - (1 : Int32))] [.ref (ad v0)] rfl rfl (Nat.le_of_ble_eq_true rfl) (Nat.le_of_ble_eq_true rfl) (s_J9_max_7cf53  ⟨t7, e8, ⟨rfl, rfl, rfl⟩⟩) dX0_takeAnswer_23 ?_
      obtain ⟨I9, hI9, h⟩ := Ho_let h
      refine J_putI hx flW_RX0_27 hv0 rfl dX0_takeAnswer_26 hI9 ?_
      refine J_goto hx dX0_takeAnswer_29 42 (by decide) ?_
      have h := Ho_some h
      exact J_vret hx hQ dX0_takeAnswer_42 h
abbrev kr_X0_takeFault (P : Option Value → StI → StL → Prop) (L : StL) : StI → Prop := fun t => P none t L
def f_X0_takeFault_j54 (v0 : Nat) (I : StI) : Option (StI) :=
  k_let (k_up I v0 3 (1 : Int32)) (fun I3 => k_let (k_up I3 v0 5 (I3 v0 6)) (fun I4 => k_let (k_up I4 v0 4 (0 : Int32)) (fun I5 => Option.bind (f_X0_isOf v0 (2 : Int32) I5) (fun t6 => (if t6 = 0 then some (I5) else Option.bind (f_J9_min_7cf53 (40 : Int32) ((2 : Int32) * (I5 v0 6))) (fun t9 => k_let (k_up I5 v0 6 t9) (fun I11 => some (I11))))))))
set_option maxRecDepth 100000 in
set_option maxHeartbeats 4000000 in
theorem s_X0_takeFault_j54 {X : k_C} {ad : Nat → Nat} {P : Option Value → StI → StL → Prop} {I : StI} {L : StL} (hx : Ok X cX0_takeFault RX0 2 none 2) (hQ : OkQ X ad P)  {v0 : Nat} (hv0 : k_sh v0 = (0, k_N 0)) (h : Ho (f_X0_takeFault_j54 v0 I) (kr_X0_takeFault P L)) : J X ad 2 I L 54 [(0, .ref (ad v0))] [] := by
  unfold f_X0_takeFault_j54 at h
  refine J_aload_n hx dX0_takeFault_54 0 rfl ?_
  refine J_iconst (v := (1 : Int32)) hx dX0_takeFault_55 (by decide) ?_
  obtain ⟨I3, hI3, h⟩ := Ho_let h
  refine J_putI hx flW_RX0_24 hv0 rfl dX0_takeFault_56 hI3 ?_
  refine J_aload_n hx dX0_takeFault_59 0 rfl ?_
  refine J_aload_n hx dX0_takeFault_60 0 rfl ?_
  refine J_getI hx fl_RX0_33 hv0 rfl dX0_takeFault_61 ?_
  obtain ⟨I4, hI4, h⟩ := Ho_let h
  refine J_putI hx flW_RX0_30 hv0 rfl dX0_takeFault_64 hI4 ?_
  refine J_aload_n hx dX0_takeFault_67 0 rfl ?_
  refine J_iconst (v := (0 : Int32)) hx dX0_takeFault_68 (by decide) ?_
  obtain ⟨I5, hI5, h⟩ := Ho_let h
  refine J_putI hx flW_RX0_27 hv0 rfl dX0_takeFault_69 hI5 ?_
  refine J_aload_n hx dX0_takeFault_72 0 rfl ?_
  refine J_iconst (v := (2 : Int32)) hx dX0_takeFault_73 (by decide) ?_
  obtain ⟨t6, e7, h⟩ := Ho_bind h
  refine J_callVi hx lkV_RX0_36 hv0 [.int (2 : Int32)] [] rfl rfl (Nat.le_of_ble_eq_true rfl) (Nat.le_of_ble_eq_true rfl) (s_X0_isOf hv0 ⟨t6, e7, ⟨rfl, rfl, rfl⟩⟩) dX0_takeFault_74 ?_
  refine J_if_eq hx dX0_takeFault_77 95 (by decide) (fun c8 => ?_) (fun c8 => ?_)
  · have h := Ho_t c8 h
    have h := Ho_some h
    exact J_vret hx hQ dX0_takeFault_95 h
  · have h := Ho_f c8 h
    refine J_aload_n hx dX0_takeFault_80 0 rfl ?_
    refine J_bipush (v := (40 : Int32)) hx dX0_takeFault_81 (by decide) ?_
    refine J_iconst (v := (2 : Int32)) hx dX0_takeFault_83 (by decide) ?_
    refine J_aload_n hx dX0_takeFault_84 0 rfl ?_
    refine J_getI hx fl_RX0_33 hv0 rfl dX0_takeFault_85 ?_
    refine J_imul hx dX0_takeFault_88 ?_
    obtain ⟨t9, e10, h⟩ := Ho_bind h
    refine J_callSi hx lkS_RX0_46 [.int (40 : Int32), .int ((2 : Int32) * (I5 v0 6))] [.ref (ad v0)] rfl rfl (Nat.le_of_ble_eq_true rfl) (Nat.le_of_ble_eq_true rfl) (s_J9_min_7cf53  ⟨t9, e10, ⟨rfl, rfl, rfl⟩⟩) dX0_takeFault_89 ?_
    obtain ⟨I11, hI11, h⟩ := Ho_let h
    refine J_putI hx flW_RX0_33 hv0 rfl dX0_takeFault_92 hI11 ?_
    have h := Ho_some h
    exact J_vret hx hQ dX0_takeFault_95 h
def f_X0_takeFault_j29 (v0 : Nat) (v1 : Int32) (I : StI) : Option (StI) :=
  (if (I v0 0) = (5 : Int32) then (if (v1 - v1 / (4 : Int32) * (4 : Int32)) = 0 then k_let (k_up I v0 4 ((I v0 1) - (1 : Int32))) (fun I13 => some (I13)) else f_X0_takeFault_j54 v0 I) else f_X0_takeFault_j54 v0 I)
set_option maxRecDepth 100000 in
set_option maxHeartbeats 4000000 in
theorem s_X0_takeFault_j29 {X : k_C} {ad : Nat → Nat} {P : Option Value → StI → StL → Prop} {I : StI} {L : StL} (hx : Ok X cX0_takeFault RX0 2 none 2) (hQ : OkQ X ad P)  {v0 : Nat} {v1 : Int32} (hv0 : k_sh v0 = (0, k_N 0)) (h : Ho (f_X0_takeFault_j29 v0 v1 I) (kr_X0_takeFault P L)) : J X ad 2 I L 29 [(0, .ref (ad v0)), (1, .int v1)] [] := by
  unfold f_X0_takeFault_j29 at h
  refine J_aload_n hx dX0_takeFault_29 0 rfl ?_
  refine J_getI hx fl_RX0_9 hv0 rfl dX0_takeFault_30 ?_
  refine J_iconst (v := (5 : Int32)) hx dX0_takeFault_33 (by decide) ?_
  refine J_ic_ne hx dX0_takeFault_34 54 (by decide) (fun c2 => ?_) (fun c2 => ?_)
  · have h := Ho_f c2 h
    refine J_sub (lv' := [(0, .ref (ad v0))]) hx [0] rfl ?_
    exact s_X0_takeFault_j54 hx hQ hv0 h
  · have h := Ho_t c2 h
    refine J_iload_n hx dX0_takeFault_37 1 rfl ?_
    refine J_iconst (v := (4 : Int32)) hx dX0_takeFault_38 (by decide) ?_
    refine J_irem hx (by decide) dX0_takeFault_39 ?_
    refine J_if_ne hx dX0_takeFault_40 54 (by decide) (fun c12 => ?_) (fun c12 => ?_)
    · have h := Ho_f c12 h
      refine J_sub (lv' := [(0, .ref (ad v0))]) hx [0] rfl ?_
      exact s_X0_takeFault_j54 hx hQ hv0 h
    · have h := Ho_t c12 h
      refine J_aload_n hx dX0_takeFault_43 0 rfl ?_
      refine J_aload_n hx dX0_takeFault_44 0 rfl ?_
      refine J_getI hx fl_RX0_15 hv0 rfl dX0_takeFault_45 ?_
      refine J_iconst (v := (1 : Int32)) hx dX0_takeFault_48 (by decide) ?_
      refine J_isub hx dX0_takeFault_49 ?_
      obtain ⟨I13, hI13, h⟩ := Ho_let h
      refine J_putI hx flW_RX0_27 hv0 rfl dX0_takeFault_50 hI13 ?_
      have h := Ho_some h
      exact J_vret hx hQ dX0_takeFault_53 h
def f_X0_takeFault (v0 : Nat) (v1 : Int32) (I : StI) : Option (StI) :=
  (if (I v0 3) = 0 then k_let (k_up I v0 4 ((I v0 4) + (1 : Int32))) (fun I14 => (if (I14 v0 1) ≤ (I14 v0 4) then f_X0_takeFault_j29 v0 v1 I14 else some (I14))) else f_X0_takeFault_j29 v0 v1 I)
set_option maxRecDepth 100000 in
set_option maxHeartbeats 4000000 in
theorem s_X0_takeFault {l : Launch} {ad : Nat → Nat} {P : Option Value → StI → StL → Prop} {I : StI} {L : StL} {v0 : Nat} {v1 : Int32} (hv0 : k_sh v0 = (0, k_N 0)) (h : Ho (f_X0_takeFault v0 v1 I) (kr_X0_takeFault P L)) : k_Met l ad 2 yX0_takeFault cX0_takeFault 2 none [.ref (ad v0), .int v1] I L P := by
  refine k_enter (by decide +kernel) (Nat.le_of_ble_eq_true rfl) (fun X hl hx hQ => ?_)
  clear hl
  have hx : Ok X cX0_takeFault RX0 2 none 2 := hx
  show J X ad 2 I L 0 [(0, .ref (ad v0)), (1, .int v1)] []
  unfold f_X0_takeFault at h
  refine J_aload_n hx dX0_takeFault_0 0 rfl ?_
  refine J_getI hx fl_RX0_24 hv0 rfl dX0_takeFault_1 ?_
  refine J_if_ne hx dX0_takeFault_4 29 (by decide) (fun c1 => ?_) (fun c1 => ?_)
  · have h := Ho_f c1 h
    refine J_sub (lv' := [(0, .ref (ad v0)), (1, .int v1)]) hx [0, 1] rfl ?_
    exact s_X0_takeFault_j29 hx hQ hv0 h
  · have h := Ho_t c1 h
    refine J_aload_n hx dX0_takeFault_7 0 rfl ?_
    refine J_dup hx dX0_takeFault_8 rfl ?_
    refine J_getI hx fl_RX0_27 hv0 rfl dX0_takeFault_9 ?_
    refine J_iconst (v := (1 : Int32)) hx dX0_takeFault_12 (by decide) ?_
    refine J_iadd hx dX0_takeFault_13 ?_
    obtain ⟨I14, hI14, h⟩ := Ho_let h
    refine J_putI hx flW_RX0_27 hv0 rfl dX0_takeFault_14 hI14 ?_
    refine J_aload_n hx dX0_takeFault_17 0 rfl ?_
    refine J_getI hx fl_RX0_27 hv0 rfl dX0_takeFault_18 ?_
    refine J_aload_n hx dX0_takeFault_21 0 rfl ?_
    refine J_getI hx fl_RX0_15 hv0 rfl dX0_takeFault_22 ?_
    refine J_ic_ge hx dX0_takeFault_25 29 (by decide) (fun c15 => ?_) (fun c15 => ?_)
    · have h := Ho_t c15 h
      refine J_sub (lv' := [(0, .ref (ad v0)), (1, .int v1)]) hx [0, 1] rfl ?_
      exact s_X0_takeFault_j29 hx hQ hv0 h
    · have h := Ho_f c15 h
      have h := Ho_some h
      exact J_vret hx hQ dX0_takeFault_28 h
abbrev kr_X0_tell (P : Option Value → StI → StL → Prop) (I : StI) (L : StL) : Int32 → Prop := fun t => P (some (.int t)) I L
def f_X0_tell (v0 : Nat) (v1 : Int32) (I : StI) : Option (Int32) :=
  (if v1 = (0 : Int32) then some ((I v0 0)) else (if v1 = (1 : Int32) then some ((I v0 1)) else (if v1 = (2 : Int32) then some ((I v0 2)) else (if v1 = (3 : Int32) then some ((I v0 3)) else (if v1 = (4 : Int32) then some ((I v0 4)) else (if v1 = (5 : Int32) then some ((I v0 5)) else (if v1 = (6 : Int32) then some ((I v0 6)) else some ((0 : Int32)))))))))
set_option maxRecDepth 100000 in
set_option maxHeartbeats 4000000 in
theorem s_X0_tell {l : Launch} {ad : Nat → Nat} {P : Option Value → StI → StL → Prop} {I : StI} {L : StL} {v0 : Nat} {v1 : Int32} (hv0 : k_sh v0 = (0, k_N 0)) (h : Ho (f_X0_tell v0 v1 I) (kr_X0_tell P I L)) : k_Met l ad 1 yX0_tell cX0_tell 2 (some .int) [.ref (ad v0), .int v1] I L P := by
  refine k_enter (by decide +kernel) (Nat.le_of_ble_eq_true rfl) (fun X hl hx hQ => ?_)
  clear hl
  have hx : Ok X cX0_tell RX0 2 (some .int) 1 := hx
  show J X ad 2 I L 0 [(0, .ref (ad v0)), (1, .int v1)] []
  unfold f_X0_tell at h
  refine J_iload_n hx dX0_tell_0 1 rfl ?_
  by_cases c1 : v1 = (0 : Int32)
  · have h := Ho_t c1 h
    refine J_tIn (x' := (0 : Int32)) (off := 43) hx dX0_tell_1 c1 (by decide) (by decide) (by decide) 44 (by decide) ?_
    refine J_aload_n hx dX0_tell_44 0 rfl ?_
    refine J_getI hx fl_RX0_9 hv0 rfl dX0_tell_45 ?_
    have h := Ho_some h
    exact J_iret hx hQ dX0_tell_48 h
  have h := Ho_f c1 h
  by_cases c2 : v1 = (1 : Int32)
  · have h := Ho_t c2 h
    refine J_tIn (x' := (1 : Int32)) (off := 48) hx dX0_tell_1 c2 (by decide) (by decide) (by decide) 49 (by decide) ?_
    refine J_aload_n hx dX0_tell_49 0 rfl ?_
    refine J_getI hx fl_RX0_15 hv0 rfl dX0_tell_50 ?_
    have h := Ho_some h
    exact J_iret hx hQ dX0_tell_53 h
  have h := Ho_f c2 h
  by_cases c3 : v1 = (2 : Int32)
  · have h := Ho_t c3 h
    refine J_tIn (x' := (2 : Int32)) (off := 53) hx dX0_tell_1 c3 (by decide) (by decide) (by decide) 54 (by decide) ?_
    refine J_aload_n hx dX0_tell_54 0 rfl ?_
    refine J_getI hx fl_RX0_18 hv0 rfl dX0_tell_55 ?_
    have h := Ho_some h
    exact J_iret hx hQ dX0_tell_58 h
  have h := Ho_f c3 h
  by_cases c4 : v1 = (3 : Int32)
  · have h := Ho_t c4 h
    refine J_tIn (x' := (3 : Int32)) (off := 58) hx dX0_tell_1 c4 (by decide) (by decide) (by decide) 59 (by decide) ?_
    refine J_aload_n hx dX0_tell_59 0 rfl ?_
    refine J_getI hx fl_RX0_24 hv0 rfl dX0_tell_60 ?_
    have h := Ho_some h
    exact J_iret hx hQ dX0_tell_63 h
  have h := Ho_f c4 h
  by_cases c5 : v1 = (4 : Int32)
  · have h := Ho_t c5 h
    refine J_tIn (x' := (4 : Int32)) (off := 63) hx dX0_tell_1 c5 (by decide) (by decide) (by decide) 64 (by decide) ?_
    refine J_aload_n hx dX0_tell_64 0 rfl ?_
    refine J_getI hx fl_RX0_27 hv0 rfl dX0_tell_65 ?_
    have h := Ho_some h
    exact J_iret hx hQ dX0_tell_68 h
  have h := Ho_f c5 h
  by_cases c6 : v1 = (5 : Int32)
  · have h := Ho_t c6 h
    refine J_tIn (x' := (5 : Int32)) (off := 68) hx dX0_tell_1 c6 (by decide) (by decide) (by decide) 69 (by decide) ?_
    refine J_aload_n hx dX0_tell_69 0 rfl ?_
    refine J_getI hx fl_RX0_30 hv0 rfl dX0_tell_70 ?_
    have h := Ho_some h
    exact J_iret hx hQ dX0_tell_73 h
  have h := Ho_f c6 h
  by_cases c7 : v1 = (6 : Int32)
  · have h := Ho_t c7 h
    refine J_tIn (x' := (6 : Int32)) (off := 73) hx dX0_tell_1 c7 (by decide) (by decide) (by decide) 74 (by decide) ?_
    refine J_aload_n hx dX0_tell_74 0 rfl ?_
    refine J_getI hx fl_RX0_33 hv0 rfl dX0_tell_75 ?_
    have h := Ho_some h
    exact J_iret hx hQ dX0_tell_78 h
  have h := Ho_f c7 h
  refine J_tDef hx dX0_tell_1 [(0 : Int32), (1 : Int32), (2 : Int32), (3 : Int32), (4 : Int32), (5 : Int32), (6 : Int32)] (List.forall_mem_cons.mpr ⟨c1, List.forall_mem_cons.mpr ⟨c2, List.forall_mem_cons.mpr ⟨c3, List.forall_mem_cons.mpr ⟨c4, List.forall_mem_cons.mpr ⟨c5, List.forall_mem_cons.mpr ⟨c6, List.forall_mem_cons.mpr ⟨c7, fun _ z => absurd z List.not_mem_nil⟩⟩⟩⟩⟩⟩⟩) (by decide) (by decide) 79 (by decide) ?_
  refine J_iconst (v := (0 : Int32)) hx dX0_tell_79 (by decide) ?_
  have h := Ho_some h
  exact J_iret hx hQ dX0_tell_80 h
abbrev kr_X1_begin (P : Option Value → StI → StL → Prop) (L : StL) : StI → Prop := fun t => P none t L
def f_X1_begin (v1 : Int32) (I : StI) : Option (StI) :=
  k_let (k_up I 48 0 v1) (fun I1 => k_let (k_up I1 48 1 (-9 : Int32)) (fun I2 => some (I2)))
set_option maxRecDepth 100000 in
set_option maxHeartbeats 4000000 in
theorem s_X1_begin {l : Launch} {ad : Nat → Nat} {P : Option Value → StI → StL → Prop} {I : StI} {L : StL} {v1 : Int32}  (h : Ho (f_X1_begin v1 I) (kr_X1_begin P L)) : k_Met l ad 1 yX1_begin cX1_begin 2 none [.ref (ad 48), .int v1] I L P := by
  refine k_enter (by decide +kernel) (Nat.le_of_ble_eq_true rfl) (fun X hl hx hQ => ?_)
  clear hl
  have hx : Ok X cX1_begin RX1 2 none 1 := hx
  show J X ad 2 I L 0 [(0, .ref (ad 48)), (1, .int v1)] []
  unfold f_X1_begin at h
  refine J_aload_n hx dX1_begin_0 0 rfl ?_
  refine J_iload_n hx dX1_begin_1 1 rfl ?_
  obtain ⟨I1, hI1, h⟩ := Ho_let h
  refine J_putI hx flW_RX1_9 (rfl : k_sh 48 = (1, k_N 1)) rfl dX1_begin_2 hI1 ?_
  refine J_aload_n hx dX1_begin_5 0 rfl ?_
  refine J_bipush (v := (-9 : Int32)) hx dX1_begin_6 (by decide) ?_
  obtain ⟨I2, hI2, h⟩ := Ho_let h
  refine J_putI hx flW_RX1_15 (rfl : k_sh 48 = (1, k_N 1)) rfl dX1_begin_8 hI2 ?_
  have h := Ho_some h
  exact J_vret hx hQ dX1_begin_11 h
abbrev kr_X1_offer (P : Option Value → StI → StL → Prop) (L : StL) : StI → Prop := fun t => P none t L
def f_X1_offer (v1 : Int32) (v2 : Int32) (I : StI) : Option (StI) :=
  (if v2 ≤ (I 48 0) then some (I) else k_let (k_up I 48 0 v2) (fun I2 => k_let (k_up I2 48 1 v1) (fun I3 => some (I3))))
set_option maxRecDepth 100000 in
set_option maxHeartbeats 4000000 in
theorem s_X1_offer {l : Launch} {ad : Nat → Nat} {P : Option Value → StI → StL → Prop} {I : StI} {L : StL} {v1 : Int32} {v2 : Int32}  (h : Ho (f_X1_offer v1 v2 I) (kr_X1_offer P L)) : k_Met l ad 1 yX1_offer cX1_offer 3 none [.ref (ad 48), .int v1, .int v2] I L P := by
  refine k_enter (by decide +kernel) (Nat.le_of_ble_eq_true rfl) (fun X hl hx hQ => ?_)
  clear hl
  have hx : Ok X cX1_offer RX1 3 none 1 := hx
  show J X ad 3 I L 0 [(0, .ref (ad 48)), (1, .int v1), (2, .int v2)] []
  unfold f_X1_offer at h
  refine J_iload_n hx dX1_offer_0 2 rfl ?_
  refine J_aload_n hx dX1_offer_1 0 rfl ?_
  refine J_getI hx fl_RX1_9 (rfl : k_sh 48 = (1, k_N 1)) rfl dX1_offer_2 ?_
  refine J_ic_le hx dX1_offer_5 18 (by decide) (fun c1 => ?_) (fun c1 => ?_)
  · have h := Ho_t c1 h
    have h := Ho_some h
    exact J_vret hx hQ dX1_offer_18 h
  · have h := Ho_f c1 h
    refine J_aload_n hx dX1_offer_8 0 rfl ?_
    refine J_iload_n hx dX1_offer_9 2 rfl ?_
    obtain ⟨I2, hI2, h⟩ := Ho_let h
    refine J_putI hx flW_RX1_9 (rfl : k_sh 48 = (1, k_N 1)) rfl dX1_offer_10 hI2 ?_
    refine J_aload_n hx dX1_offer_13 0 rfl ?_
    refine J_iload_n hx dX1_offer_14 1 rfl ?_
    obtain ⟨I3, hI3, h⟩ := Ho_let h
    refine J_putI hx flW_RX1_15 (rfl : k_sh 48 = (1, k_N 1)) rfl dX1_offer_15 hI3 ?_
    have h := Ho_some h
    exact J_vret hx hQ dX1_offer_18 h
