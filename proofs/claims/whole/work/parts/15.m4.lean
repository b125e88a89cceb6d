abbrev kr_X5_reads (P : Option Value → StI → StL → Prop) (L : StL) : Int32 × StI → Prop := fun t => P (some (.int t.1)) t.2 L
abbrev g_X5_reads_L119 (X : k_C) (ad : Nat → Nat) (L : StL) (v1 : Int32) (v2 : Int32) : (Int32 × Int32 × StI) → Prop := fun s => J X ad 6 s.2.2 L 119 [(0, .ref (ad 63)), (1, .int v1), (2, .int v2), (3, .int s.1), (5, .int s.2.1)] []
abbrev g_X5_reads_L19 (X : k_C) (ad : Nat → Nat) (L : StL) (v1 : Int32) (v2 : Int32) : (Int32 × StI) → Prop := fun s => J X ad 6 s.2 L 19 [(0, .ref (ad 63)), (1, .int v1), (2, .int v2), (3, .int s.1)] []
def f_X5_reads_L119_b (v1 : Int32) (v2 : Int32) (v3 : Int32) (v5 : Int32) (I : StI) : Option ((Int32 × Int32 × StI) ⊕ ((Int32 × StI) ⊕ (Int32 × StI))) :=
  (if (2 : Int32) ≤ v5 then k_let (k_up I 63 20 ((I 63 20) + (1 : Int32))) (fun I21 => k_let (v3 + (1 : Int32)) (fun x22 => some (.inr (.inl (x22, I21))))) else k_let (v3 + (1 : Int32)) (fun x23 => Option.bind (f_X5_isFigure v1 x23 I) (fun t24 => (if t24 = 0 then some (.inr (.inr (x23, I))) else k_gd (((60 : Int32) * v1) + x23) 240 (k_gd (((2 : Int32) * (I 63 20)) + v5) 14 (k_let (k_up I 78 (((2 : Int32) * (I 63 20)) + v5).toNatClampNeg ((I 67 (((60 : Int32) * v1) + x23).toNatClampNeg) - (48 : Int32))) (fun I29 => k_let (v5 + (1 : Int32)) (fun x30 => some (.inl (x23, x30, I29))))))))))
def f_X5_reads_L119 (v1 : Int32) (v2 : Int32) (n : Nat) (v3 : Int32) (v5 : Int32) (I : StI) : Option ((Int32 × StI) ⊕ (Int32 × StI)) :=
  k_loop (fun s => f_X5_reads_L119_b v1 v2 s.1 s.2.1 s.2.2) n (v3, v5, I)
set_option maxRecDepth 100000 in
set_option maxHeartbeats 4000000 in
theorem s_X5_reads_L119_b {X : k_C} {ad : Nat → Nat} {P : Option Value → StI → StL → Prop} {I : StI} {L : StL} (hx : Ok X cX5_reads RX5 6 (some .int) 3) (hQ : OkQ X ad P)  {v1 : Int32} {v2 : Int32} {v3 : Int32} {v5 : Int32}  (h : Ho (f_X5_reads_L119_b v1 v2 v3 v5 I) (Sum.elim (g_X5_reads_L119 X ad L v1 v2) (Sum.elim (g_X5_reads_L19 X ad L v1 v2) (kr_X5_reads P L)))) : J X ad 6 I L 119 [(0, .ref (ad 63)), (1, .int v1), (2, .int v2), (3, .int v3), (5, .int v5)] [] := by
  unfold f_X5_reads_L119_b at h
  refine J_iload hx dX5_reads_119 4 rfl ?_
  refine J_iconst (v := (2 : Int32)) hx dX5_reads_121 (by decide) ?_
  refine J_ic_ge hx dX5_reads_122 173 (by decide) (fun c20 => ?_) (fun c20 => ?_)
  · have h := Ho_t c20 h
    refine J_aload_n hx dX5_reads_173 0 rfl ?_
    refine J_dup hx dX5_reads_174 rfl ?_
    refine J_getI hx fl_RX5_102 (rfl : k_sh 63 = (5, k_N 5)) rfl dX5_reads_175 ?_
    refine J_iconst (v := (1 : Int32)) hx dX5_reads_178 (by decide) ?_
    refine J_iadd hx dX5_reads_179 ?_
    obtain ⟨I21, hI21, h⟩ := Ho_let h
    refine J_putI hx flW_RX5_102 (rfl : k_sh 63 = (5, k_N 5)) rfl dX5_reads_180 hI21 ?_
    obtain ⟨x22, hx22, h⟩ := Ho_let h
    refine J_iinc (x := x22) (lv' := [(3, .int x22), (0, .ref (ad 63)), (1, .int v1), (2, .int v2), (5, .int v5)]) hx dX5_reads_183 3 rfl (by rw [hx22]; rfl) (by decide) rfl ?_
    refine J_goto hx dX5_reads_186 19 (by decide) ?_
    refine J_sub (lv' := [(0, .ref (ad 63)), (1, .int v1), (2, .int v2), (3, .int x22)]) hx [1, 2, 3, 0] rfl ?_
    have h := Ho_some h
    exact h
  · have h := Ho_f c20 h
    obtain ⟨x23, hx23, h⟩ := Ho_let h
    refine J_iinc (x := x23) (lv' := [(3, .int x23), (0, .ref (ad 63)), (1, .int v1), (2, .int v2), (5, .int v5)]) hx dX5_reads_125 3 rfl (by rw [hx23]; rfl) (by decide) rfl ?_
    refine J_aload_n hx dX5_reads_128 1 rfl ?_
    refine J_iload_n hx dX5_reads_129 2 rfl ?_
    refine J_iload_n hx dX5_reads_130 0 rfl ?_
    obtain ⟨t24, e25, h⟩ := Ho_bind h
    refine J_callVi hx lkV_RX5_105 (rfl : k_sh 63 = (5, k_N 5)) [.int v1, .int x23] [] rfl rfl (Nat.le_of_ble_eq_true rfl) (Nat.le_of_ble_eq_true rfl) (s_X5_isFigure  ⟨t24, e25, ⟨rfl, rfl, rfl⟩⟩) dX5_reads_131 ?_
    refine J_if_ne hx dX5_reads_134 139 (by decide) (fun c26 => ?_) (fun c26 => ?_)
    · have h := Ho_f c26 h
      refine J_aload_n hx dX5_reads_139 1 rfl ?_
      refine J_getR (q := 78) hx fl_RX5_57 (rfl : k_sh 63 = (5, k_N 5)) rfl rfl dX5_reads_140 ?_
      refine J_iconst (v := (2 : Int32)) hx dX5_reads_143 (by decide) ?_
      refine J_aload_n hx dX5_reads_144 1 rfl ?_
      refine J_getI hx fl_RX5_102 (rfl : k_sh 63 = (5, k_N 5)) rfl dX5_reads_145 ?_
      refine J_imul hx dX5_reads_148 ?_
      refine J_iload hx dX5_reads_149 4 rfl ?_
      refine J_iadd hx dX5_reads_151 ?_
      refine J_aload_n hx dX5_reads_152 1 rfl ?_
      refine J_getR (q := 67) hx fl_RX5_19 (rfl : k_sh 63 = (5, k_N 5)) rfl rfl dX5_reads_153 ?_
      refine J_bipush (v := (60 : Int32)) hx dX5_reads_156 (by decide) ?_
      refine J_iload_n hx dX5_reads_158 2 rfl ?_
      refine J_imul hx dX5_reads_159 ?_
      refine J_iload_n hx dX5_reads_160 0 rfl ?_
      refine J_iadd hx dX5_reads_161 ?_
      obtain ⟨b27, h⟩ := Ho_gd h
      refine J_iald hx (rfl : k_sh 67 = (10, 240)) b27 dX5_reads_162 ?_
      refine J_bipush (v := (48 : Int32)) hx dX5_reads_163 (by decide) ?_
      refine J_isub hx dX5_reads_165 ?_
      obtain ⟨b28, h⟩ := Ho_gd h
      obtain ⟨I29, hI29, h⟩ := Ho_let h
      refine J_iast hx (rfl : k_sh 78 = (10, 14)) b28 dX5_reads_166 hI29 ?_
      obtain ⟨x30, hx30, h⟩ := Ho_let h
      refine J_iinc (x := x30) (lv' := [(5, .int x30), (3, .int x23), (0, .ref (ad 63)), (1, .int v1), (2, .int v2)]) hx dX5_reads_167 4 rfl (by rw [hx30]; rfl) (by decide) rfl ?_
      refine J_goto hx dX5_reads_170 119 (by decide) ?_
      refine J_sub (lv' := [(0, .ref (ad 63)), (1, .int v1), (2, .int v2), (3, .int x23), (5, .int x30)]) hx [2, 3, 4, 1, 0] rfl ?_
      have h := Ho_some h
      exact h
    · have h := Ho_t c26 h
      refine J_iload_n hx dX5_reads_137 0 rfl ?_
      have h := Ho_some h
      exact J_iret hx hQ dX5_reads_138 h
set_option maxRecDepth 100000 in
set_option maxHeartbeats 4000000 in
theorem s_X5_reads_L119 {X : k_C} {ad : Nat → Nat} {P : Option Value → StI → StL → Prop} {I : StI} {L : StL} (hx : Ok X cX5_reads RX5 6 (some .int) 3) (hQ : OkQ X ad P)  {v1 : Int32} {v2 : Int32} {v3 : Int32} {v5 : Int32}  (n : Nat) (h : Ho (f_X5_reads_L119 v1 v2 n v3 v5 I) (Sum.elim (g_X5_reads_L19 X ad L v1 v2) (kr_X5_reads P L))) : J X ad 6 I L 119 [(0, .ref (ad 63)), (1, .int v1), (2, .int v2), (3, .int v3), (5, .int v5)] [] := by
  exact k_loop_ho (G := g_X5_reads_L119 X ad L v1 v2) (fun s hs => s_X5_reads_L119_b hx hQ  hs) n (v3, v5, I) h
def f_X5_reads_j74 (v1 : Int32) (v2 : Int32) (v3 : Int32) (v4 : Int32) (I : StI) : Option ((Int32 × StI) ⊕ (Int32 × StI)) :=
  (if v4 = (32 : Int32) then k_let (v3 + (1 : Int32)) (fun x11 => some (.inl (x11, I))) else (if (I 63 20) = (7 : Int32) then some (.inr (v3, I)) else Option.bind (f_X5_kindOf v4) (fun t13 => (if t13 = (-9 : Int32) then some (.inr (v3, I)) else Option.bind (f_X5_kindOf v4) (fun t16 => k_gd (I 63 20) 7 (k_let (k_up I 77 (I 63 20).toNatClampNeg t16) (fun I19 => f_X5_reads_L119 v1 v2 k_fu v3 (0 : Int32) I19)))))))
set_option maxRecDepth 100000 in
set_option maxHeartbeats 4000000 in
theorem s_X5_reads_j74 {X : k_C} {ad : Nat → Nat} {P : Option Value → StI → StL → Prop} {I : StI} {L : StL} (hx : Ok X cX5_reads RX5 6 (some .int) 3) (hQ : OkQ X ad P)  {v1 : Int32} {v2 : Int32} {v3 : Int32} {v4 : Int32}  (h : Ho (f_X5_reads_j74 v1 v2 v3 v4 I) (Sum.elim (g_X5_reads_L19 X ad L v1 v2) (kr_X5_reads P L))) : J X ad 6 I L 74 [(0, .ref (ad 63)), (1, .int v1), (2, .int v2), (3, .int v3), (4, .int v4)] [] := by
  unfold f_X5_reads_j74 at h
  refine J_iload hx dX5_reads_74 4 rfl ?_
  refine J_bipush (v := (32 : Int32)) hx dX5_reads_76 (by decide) ?_
  refine J_ic_eq hx dX5_reads_78 183 (by decide) (fun c10 => ?_) (fun c10 => ?_)
  · have h := Ho_t c10 h
    obtain ⟨x11, hx11, h⟩ := Ho_let h
    refine J_iinc (x := x11) (lv' := [(3, .int x11), (0, .ref (ad 63)), (1, .int v1), (2, .int v2), (4, .int v4)]) hx dX5_reads_183 3 rfl (by rw [hx11]; rfl) (by decide) rfl ?_
    refine J_goto hx dX5_reads_186 19 (by decide) ?_
    refine J_sub (lv' := [(0, .ref (ad 63)), (1, .int v1), (2, .int v2), (3, .int x11)]) hx [1, 2, 3, 0] rfl ?_
    have h := Ho_some h
    exact h
  · have h := Ho_f c10 h
    refine J_aload_n hx dX5_reads_81 0 rfl ?_
    refine J_getI hx fl_RX5_102 (rfl : k_sh 63 = (5, k_N 5)) rfl dX5_reads_82 ?_
    refine J_bipush (v := (7 : Int32)) hx dX5_reads_85 (by decide) ?_
    refine J_ic_eq hx dX5_reads_87 100 (by decide) (fun c12 => ?_) (fun c12 => ?_)
    · have h := Ho_t c12 h
      refine J_iload_n hx dX5_reads_100 3 rfl ?_
      have h := Ho_some h
      exact J_iret hx hQ dX5_reads_101 h
    · have h := Ho_f c12 h
      refine J_iload hx dX5_reads_90 4 rfl ?_
      obtain ⟨t13, e14, h⟩ := Ho_bind h
      refine J_callSi hx lkS_RX5_109 [.int v4] [] rfl rfl (Nat.le_of_ble_eq_true rfl) (Nat.le_of_ble_eq_true rfl) (s_X5_kindOf  ⟨t13, e14, ⟨rfl, rfl, rfl⟩⟩) dX5_reads_92 ?_
      refine J_bipush (v := (-9 : Int32)) hx dX5_reads_95 (by decide) ?_
      refine J_ic_ne hx dX5_reads_97 102 (by decide) (fun c15 => ?_) (fun c15 => ?_)
      · have h := Ho_f c15 h
        refine J_aload_n hx dX5_reads_102 0 rfl ?_
        refine J_getR (q := 77) hx fl_RX5_54 (rfl : k_sh 63 = (5, k_N 5)) rfl rfl dX5_reads_103 ?_
        refine J_aload_n hx dX5_reads_106 0 rfl ?_
        refine J_getI hx fl_RX5_102 (rfl : k_sh 63 = (5, k_N 5)) rfl dX5_reads_107 ?_
        refine J_iload hx dX5_reads_110 4 rfl ?_
        obtain ⟨t16, e17, h⟩ := Ho_bind h
        refine J_callSi hx lkS_RX5_109 [.int v4] [.int (I 63 20), .ref (ad 77)] rfl rfl (Nat.le_of_ble_eq_true rfl) (Nat.le_of_ble_eq_true rfl) (s_X5_kindOf  ⟨t16, e17, ⟨rfl, rfl, rfl⟩⟩) dX5_reads_112 ?_
        obtain ⟨b18, h⟩ := Ho_gd h
        obtain ⟨I19, hI19, h⟩ := Ho_let h
        refine J_iast hx (rfl : k_sh 77 = (10, 7)) b18 dX5_reads_115 hI19 ?_
        refine J_iconst (v := (0 : Int32)) hx dX5_reads_116 (by decide) ?_
        refine J_istore (x := (0 : Int32)) (lv' := [(5, .int (0 : Int32)), (0, .ref (ad 63)), (1, .int v1), (2, .int v2), (3, .int v3), (4, .int v4)]) hx dX5_reads_117 rfl (by decide) rfl ?_
        refine J_sub (lv' := [(0, .ref (ad 63)), (1, .int v1), (2, .int v2), (3, .int v3), (5, .int (0 : Int32))]) hx [1, 2, 3, 4, 0] rfl ?_
        exact s_X5_reads_L119 hx hQ  k_fu h
      · have h := Ho_t c15 h
        refine J_iload_n hx dX5_reads_100 3 rfl ?_
        have h := Ho_some h
        exact J_iret hx hQ dX5_reads_101 h
def f_X5_reads_L19_b (v1 : Int32) (v2 : Int32) (v3 : Int32) (I : StI) : Option ((Int32 × StI) ⊕ (Int32 × StI)) :=
  (if v2 ≤ v3 then (if (2 : Int32) ≤ (I 63 20) then some (.inr ((-9 : Int32), I)) else some (.inr (v2, I))) else k_gd (((60 : Int32) * v1) + v3) 240 (k_let (I 67 (((60 : Int32) * v1) + v3).toNatClampNeg) (fun x8 => (if x8 = (32 : Int32) then f_X5_reads_j74 v1 v2 v3 x8 I else (if (I 63 19) = 0 then Option.bind (f_X5_isFigure v1 v3 I) (fun t32 => (if t32 = 0 then some (.inr (v3, I)) else k_let (k_up I 63 19 (x8 - (48 : Int32))) (fun I35 => k_let (v3 + (1 : Int32)) (fun x36 => some (.inl (x36, I35)))))) else f_X5_reads_j74 v1 v2 v3 x8 I)))))
def f_X5_reads_L19 (v1 : Int32) (v2 : Int32) (n : Nat) (v3 : Int32) (I : StI) : Option (Int32 × StI) :=
  k_loop (fun s => f_X5_reads_L19_b v1 v2 s.1 s.2) n (v3, I)
set_option maxRecDepth 100000 in
set_option maxHeartbeats 4000000 in
theorem s_X5_reads_L19_b {X : k_C} {ad : Nat → Nat} {P : Option Value → StI → StL → Prop} {I : StI} {L : StL} (hx : Ok X cX5_reads RX5 6 (some .int) 3) (hQ : OkQ X ad P)  {v1 : Int32} {v2 : Int32} {v3 : Int32}  (h : Ho (f_X5_reads_L19_b v1 v2 v3 I) (Sum.elim (g_X5_reads_L19 X ad L v1 v2) (kr_X5_reads P L))) : J X ad 6 I L 19 [(0, .ref (ad 63)), (1, .int v1), (2, .int v2), (3, .int v3)] [] := by
  unfold f_X5_reads_L19_b at h
  refine J_iload_n hx dX5_reads_19 3 rfl ?_
  refine J_iload_n hx dX5_reads_20 2 rfl ?_
  refine J_ic_ge hx dX5_reads_21 189 (by decide) (fun c5 => ?_) (fun c5 => ?_)
  · have h := Ho_t c5 h
    refine J_aload_n hx dX5_reads_189 0 rfl ?_
    refine J_getI hx fl_RX5_102 (rfl : k_sh 63 = (5, k_N 5)) rfl dX5_reads_190 ?_
    refine J_iconst (v := (2 : Int32)) hx dX5_reads_193 (by decide) ?_
    refine J_ic_ge hx dX5_reads_194 201 (by decide) (fun c6 => ?_) (fun c6 => ?_)
    · have h := Ho_t c6 h
      refine J_bipush (v := (-9 : Int32)) hx dX5_reads_201 (by decide) ?_
      have h := Ho_some h
      exact J_iret hx hQ dX5_reads_203 h
    · have h := Ho_f c6 h
      refine J_iload_n hx dX5_reads_197 2 rfl ?_
      refine J_goto hx dX5_reads_198 203 (by decide) ?_
      have h := Ho_some h
      exact J_iret hx hQ dX5_reads_203 h
  · have h := Ho_f c5 h
    refine J_aload_n hx dX5_reads_24 0 rfl ?_
    refine J_getR (q := 67) hx fl_RX5_19 (rfl : k_sh 63 = (5, k_N 5)) rfl rfl dX5_reads_25 ?_
    refine J_bipush (v := (60 : Int32)) hx dX5_reads_28 (by decide) ?_
    refine J_iload_n hx dX5_reads_30 1 rfl ?_
    refine J_imul hx dX5_reads_31 ?_
    refine J_iload_n hx dX5_reads_32 3 rfl ?_
    refine J_iadd hx dX5_reads_33 ?_
    obtain ⟨b7, h⟩ := Ho_gd h
    refine J_iald hx (rfl : k_sh 67 = (10, 240)) b7 dX5_reads_34 ?_
    obtain ⟨x8, hx8, h⟩ := Ho_let h
    refine J_istore (x := x8) (lv' := [(4, .int x8), (0, .ref (ad 63)), (1, .int v1), (2, .int v2), (3, .int v3)]) hx dX5_reads_35 hx8 (by decide) rfl ?_
    refine J_iload hx dX5_reads_37 0 rfl ?_
    refine J_bipush (v := (32 : Int32)) hx dX5_reads_39 (by decide) ?_
    refine J_ic_eq hx dX5_reads_41 74 (by decide) (fun c9 => ?_) (fun c9 => ?_)
    · have h := Ho_t c9 h
      refine J_sub (lv' := [(0, .ref (ad 63)), (1, .int v1), (2, .int v2), (3, .int v3), (4, .int x8)]) hx [1, 2, 3, 4, 0] rfl ?_
      exact s_X5_reads_j74 hx hQ  h
    · have h := Ho_f c9 h
      refine J_aload_n hx dX5_reads_44 1 rfl ?_
      refine J_getI hx fl_RX5_99 (rfl : k_sh 63 = (5, k_N 5)) rfl dX5_reads_45 ?_
      refine J_if_ne hx dX5_reads_48 74 (by decide) (fun c31 => ?_) (fun c31 => ?_)
      · have h := Ho_f c31 h
        refine J_sub (lv' := [(0, .ref (ad 63)), (1, .int v1), (2, .int v2), (3, .int v3), (4, .int x8)]) hx [1, 2, 3, 4, 0] rfl ?_
        exact s_X5_reads_j74 hx hQ  h
      · have h := Ho_t c31 h
        refine J_aload_n hx dX5_reads_51 1 rfl ?_
        refine J_iload_n hx dX5_reads_52 2 rfl ?_
        refine J_iload_n hx dX5_reads_53 4 rfl ?_
        obtain ⟨t32, e33, h⟩ := Ho_bind h
        refine J_callVi hx lkV_RX5_105 (rfl : k_sh 63 = (5, k_N 5)) [.int v1, .int v3] [] rfl rfl (Nat.le_of_ble_eq_true rfl) (Nat.le_of_ble_eq_true rfl) (s_X5_isFigure  ⟨t32, e33, ⟨rfl, rfl, rfl⟩⟩) dX5_reads_54 ?_
        refine J_if_ne hx dX5_reads_57 62 (by decide) (fun c34 => ?_) (fun c34 => ?_)
        · have h := Ho_f c34 h
          refine J_aload_n hx dX5_reads_62 1 rfl ?_
          refine J_iload hx dX5_reads_63 0 rfl ?_
          refine J_bipush (v := (48 : Int32)) hx dX5_reads_65 (by decide) ?_
          refine J_isub hx dX5_reads_67 ?_
          obtain ⟨I35, hI35, h⟩ := Ho_let h
          refine J_putI hx flW_RX5_99 (rfl : k_sh 63 = (5, k_N 5)) rfl dX5_reads_68 hI35 ?_
          refine J_goto hx dX5_reads_71 183 (by decide) ?_
          obtain ⟨x36, hx36, h⟩ := Ho_let h
          refine J_iinc (x := x36) (lv' := [(3, .int x36), (4, .int x8), (0, .ref (ad 63)), (1, .int v1), (2, .int v2)]) hx dX5_reads_183 4 rfl (by rw [hx36]; rfl) (by decide) rfl ?_
          refine J_goto hx dX5_reads_186 19 (by decide) ?_
          refine J_sub (lv' := [(0, .ref (ad 63)), (1, .int v1), (2, .int v2), (3, .int x36)]) hx [2, 3, 4, 0] rfl ?_
          have h := Ho_some h
          exact h
        · have h := Ho_t c34 h
          refine J_iload_n hx dX5_reads_60 4 rfl ?_
          have h := Ho_some h
          exact J_iret hx hQ dX5_reads_61 h
set_option maxRecDepth 100000 in
set_option maxHeartbeats 4000000 in
theorem s_X5_reads_L19 {X : k_C} {ad : Nat → Nat} {P : Option Value → StI → StL → Prop} {I : StI} {L : StL} (hx : Ok X cX5_reads RX5 6 (some .int) 3) (hQ : OkQ X ad P)  {v1 : Int32} {v2 : Int32} {v3 : Int32}  (n : Nat) (h : Ho (f_X5_reads_L19 v1 v2 n v3 I) (kr_X5_reads P L)) : J X ad 6 I L 19 [(0, .ref (ad 63)), (1, .int v1), (2, .int v2), (3, .int v3)] [] := by
  exact k_loop_ho (G := g_X5_reads_L19 X ad L v1 v2) (fun s hs => s_X5_reads_L19_b hx hQ  hs) n (v3, I) h
def f_X5_reads (v1 : Int32) (I : StI) : Option (Int32 × StI) :=
  k_gd v1 4 (k_let (I 66 v1.toNatClampNeg) (fun x2 => k_let (k_up I 63 19 (0 : Int32)) (fun I3 => k_let (k_up I3 63 20 (0 : Int32)) (fun I4 => f_X5_reads_L19 v1 x2 k_fu (0 : Int32) I4))))
set_option maxRecDepth 100000 in
set_option maxHeartbeats 4000000 in
theorem s_X5_reads {l : Launch} {ad : Nat → Nat} {P : Option Value → StI → StL → Prop} {I : StI} {L : StL} {v1 : Int32}  (h : Ho (f_X5_reads v1 I) (kr_X5_reads P L)) : k_Met l ad 3 yX5_reads cX5_reads 6 (some .int) [.ref (ad 63), .int v1] I L P := by
  refine k_enter (by decide +kernel) (Nat.le_of_ble_eq_true rfl) (fun X hl hx hQ => ?_)
  clear hl
  have hx : Ok X cX5_reads RX5 6 (some .int) 3 := hx
  show J X ad 6 I L 0 [(0, .ref (ad 63)), (1, .int v1)] []
  unfold f_X5_reads at h
  refine J_aload_n hx dX5_reads_0 0 rfl ?_
  refine J_getR (q := 66) hx fl_RX5_16 (rfl : k_sh 63 = (5, k_N 5)) rfl rfl dX5_reads_1 ?_
  refine J_iload_n hx dX5_reads_4 1 rfl ?_
  obtain ⟨b1, h⟩ := Ho_gd h
  refine J_iald hx (rfl : k_sh 66 = (10, 4)) b1 dX5_reads_5 ?_
  obtain ⟨x2, hx2, h⟩ := Ho_let h
  refine J_istore_n (x := x2) (lv' := [(2, .int x2), (0, .ref (ad 63)), (1, .int v1)]) hx dX5_reads_6 hx2 (by decide) rfl ?_
  refine J_iconst (v := (0 : Int32)) hx dX5_reads_7 (by decide) ?_
  refine J_istore_n (x := (0 : Int32)) (lv' := [(3, .int (0 : Int32)), (2, .int x2), (0, .ref (ad 63)), (1, .int v1)]) hx dX5_reads_8 rfl (by decide) rfl ?_
  refine J_aload_n hx dX5_reads_9 2 rfl ?_
  refine J_iconst (v := (0 : Int32)) hx dX5_reads_10 (by decide) ?_
  obtain ⟨I3, hI3, h⟩ := Ho_let h
  refine J_putI hx flW_RX5_99 (rfl : k_sh 63 = (5, k_N 5)) rfl dX5_reads_11 hI3 ?_
  refine J_aload_n hx dX5_reads_14 2 rfl ?_
  refine J_iconst (v := (0 : Int32)) hx dX5_reads_15 (by decide) ?_
  obtain ⟨I4, hI4, h⟩ := Ho_let h
  refine J_putI hx flW_RX5_102 (rfl : k_sh 63 = (5, k_N 5)) rfl dX5_reads_16 hI4 ?_
  refine J_sub (lv' := [(0, .ref (ad 63)), (1, .int v1), (2, .int x2), (3, .int (0 : Int32))]) hx [2, 3, 1, 0] rfl ?_
  exact s_X5_reads_L19 hx hQ  k_fu h
abbrev kr_X5_fault (P : Option Value → StI → StL → Prop) (L : StL) : Int32 × StI → Prop := fun t => P (some (.int t.1)) t.2 L
def f_X5_fault (v1 : Int32) (I : StI) : Option (Int32 × StI) :=
  Option.bind (f_X5_isText v1) (fun t1 => (if t1 = 0 then some ((-1 : Int32), I) else k_gd v1 4 ((if 0 ≤ (I 66 v1.toNatClampNeg) then Option.bind (f_X5_reads v1 I) (fun t6 => some (t6.1, t6.2)) else Option.bind (f_X5_found (1 : Int32) I) (fun t8 => some (t8.1, t8.2))))))
set_option maxRecDepth 100000 in
set_option maxHeartbeats 4000000 in
theorem s_X5_fault {l : Launch} {ad : Nat → Nat} {P : Option Value → StI → StL → Prop} {I : StI} {L : StL} {v1 : Int32}  (h : Ho (f_X5_fault v1 I) (kr_X5_fault P L)) : k_Met l ad 4 yX5_fault cX5_fault 2 (some .int) [.ref (ad 63), .int v1] I L P := by
  refine k_enter (by decide +kernel) (Nat.le_of_ble_eq_true rfl) (fun X hl hx hQ => ?_)
  clear hl
  have hx : Ok X cX5_fault RX5 2 (some .int) 4 := hx
  show J X ad 2 I L 0 [(0, .ref (ad 63)), (1, .int v1)] []
  unfold f_X5_fault at h
  refine J_iload_n hx dX5_fault_0 1 rfl ?_
  obtain ⟨t1, e2, h⟩ := Ho_bind h
  refine J_callSi hx lkS_RX5_92 [.int v1] [] rfl rfl (Nat.le_of_ble_eq_true rfl) (Nat.le_of_ble_eq_true rfl) (s_X5_isText  ⟨t1, e2, ⟨rfl, rfl, rfl⟩⟩) dX5_fault_1 ?_
  refine J_if_ne hx dX5_fault_4 9 (by decide) (fun c3 => ?_) (fun c3 => ?_)
  · have h := Ho_f c3 h
    refine J_aload_n hx dX5_fault_9 0 rfl ?_
    refine J_getR (q := 66) hx fl_RX5_16 (rfl : k_sh 63 = (5, k_N 5)) rfl rfl dX5_fault_10 ?_
    refine J_iload_n hx dX5_fault_13 1 rfl ?_
    obtain ⟨b4, h⟩ := Ho_gd h
    refine J_iald hx (rfl : k_sh 66 = (10, 4)) b4 dX5_fault_14 ?_
    refine J_if_ge hx dX5_fault_15 26 (by decide) (fun c5 => ?_) (fun c5 => ?_)
    · have h := Ho_t c5 h
      refine J_aload_n hx dX5_fault_26 0 rfl ?_
      refine J_iload_n hx dX5_fault_27 1 rfl ?_
      obtain ⟨t6, e7, h⟩ := Ho_bind h
      refine J_callVi hx lkV_RX5_112 (rfl : k_sh 63 = (5, k_N 5)) [.int v1] [] rfl rfl (Nat.le_of_ble_eq_true rfl) (Nat.le_of_ble_eq_true rfl) (s_X5_reads  ⟨t6, e7, ⟨rfl, rfl, rfl⟩⟩) dX5_fault_28 ?_
      have h := Ho_some h
      exact J_iret hx hQ dX5_fault_31 h
    · have h := Ho_f c5 h
      refine J_aload_n hx dX5_fault_18 0 rfl ?_
      refine J_iconst (v := (1 : Int32)) hx dX5_fault_19 (by decide) ?_
      obtain ⟨t8, e9, h⟩ := Ho_bind h
      refine J_callVi hx lkV_RX5_85 (rfl : k_sh 63 = (5, k_N 5)) [.int (1 : Int32)] [] rfl rfl (Nat.le_of_ble_eq_true rfl) (Nat.le_of_ble_eq_true rfl) (s_X5_found  ⟨t8, e9, ⟨rfl, rfl, rfl⟩⟩) dX5_fault_20 ?_
      refine J_goto hx dX5_fault_23 31 (by decide) ?_
      have h := Ho_some h
      exact J_iret hx hQ dX5_fault_31 h
  · have h := Ho_t c3 h
    refine J_iconst (v := (-1 : Int32)) hx dX5_fault_7 (by decide) ?_
    have h := Ho_some h
    exact J_iret hx hQ dX5_fault_8 h
abbrev kr_X5_finding (P : Option Value → StI → StL → Prop) (I : StI) (L : StL) : Int32 → Prop := fun t => P (some (.int t)) I L
def f_X5_finding (I : StI) : Option (Int32) :=
  some ((I 63 17))
set_option maxRecDepth 100000 in
set_option maxHeartbeats 4000000 in
theorem s_X5_finding {l : Launch} {ad : Nat → Nat} {P : Option Value → StI → StL → Prop} {I : StI} {L : StL}   (h : Ho (f_X5_finding I) (kr_X5_finding P I L)) : k_Met l ad 1 yX5_finding cX5_finding 1 (some .int) [.ref (ad 63)] I L P := by
  refine k_enter (by decide +kernel) (Nat.le_of_ble_eq_true rfl) (fun X hl hx hQ => ?_)
  clear hl
  have hx : Ok X cX5_finding RX5 1 (some .int) 1 := hx
  show J X ad 1 I L 0 [(0, .ref (ad 63))] []
  unfold f_X5_finding at h
  refine J_aload_n hx dX5_finding_0 0 rfl ?_
  refine J_getI hx fl_RX5_66 (rfl : k_sh 63 = (5, k_N 5)) rfl dX5_finding_1 ?_
  have h := Ho_some h
  exact J_iret hx hQ dX5_finding_4 h
abbrev kr_X5_findings (P : Option Value → StI → StL → Prop) (I : StI) (L : StL) : Int32 → Prop := fun t => P (some (.int t)) I L
def f_X5_findings (v1 : Int32) (I : StI) : Option (Int32) :=
  Option.bind (f_X5_in (v1).toInt64 (1 : Int64) (5 : Int64)) (fun t1 => (if t1 = 0 then some ((-1 : Int32)) else k_gd v1 6 (some ((I 76 v1.toNatClampNeg)))))
set_option maxRecDepth 100000 in
set_option maxHeartbeats 4000000 in
theorem s_X5_findings {l : Launch} {ad : Nat → Nat} {P : Option Value → StI → StL → Prop} {I : StI} {L : StL} {v1 : Int32}  (h : Ho (f_X5_findings v1 I) (kr_X5_findings P I L)) : k_Met l ad 2 yX5_findings cX5_findings 2 (some .int) [.ref (ad 63), .int v1] I L P := by
  refine k_enter (by decide +kernel) (Nat.le_of_ble_eq_true rfl) (fun X hl hx hQ => ?_)
  clear hl
  have hx : Ok X cX5_findings RX5 2 (some .int) 2 := hx
  show J X ad 2 I L 0 [(0, .ref (ad 63)), (1, .int v1)] []
  unfold f_X5_findings at h
  refine J_iload_n hx dX5_findings_0 1 rfl ?_
  refine J_i2l hx dX5_findings_1 ?_
  refine J_lconst (v := (1 : Int64)) hx dX5_findings_2 (by decide) ?_
  refine J_ldc2 hx cn_RX5_73 dX5_findings_3 ?_
  obtain ⟨t1, e2, h⟩ := Ho_bind h
  refine J_callSi hx lkS_RX5_75 [.long (v1).toInt64, .long (1 : Int64), .long (5 : Int64)] [] rfl rfl (Nat.le_of_ble_eq_true rfl) (Nat.le_of_ble_eq_true rfl) (s_X5_in  ⟨t1, e2, ⟨rfl, rfl, rfl⟩⟩) dX5_findings_6 ?_
  refine J_if_eq hx dX5_findings_9 21 (by decide) (fun c3 => ?_) (fun c3 => ?_)
  · have h := Ho_t c3 h
    refine J_iconst (v := (-1 : Int32)) hx dX5_findings_21 (by decide) ?_
    have h := Ho_some h
    exact J_iret hx hQ dX5_findings_22 h
  · have h := Ho_f c3 h
    refine J_aload_n hx dX5_findings_12 0 rfl ?_
    refine J_getR (q := 76) hx fl_RX5_51 (rfl : k_sh 63 = (5, k_N 5)) rfl rfl dX5_findings_13 ?_
    refine J_iload_n hx dX5_findings_16 1 rfl ?_
    obtain ⟨b4, h⟩ := Ho_gd h
    refine J_iald hx (rfl : k_sh 76 = (10, 6)) b4 dX5_findings_17 ?_
    refine J_goto hx dX5_findings_18 22 (by decide) ?_
    have h := Ho_some h
    exact J_iret hx hQ dX5_findings_22 h
abbrev kr_X5_remembers (P : Option Value → StI → StL → Prop) (L : StL) : StI → Prop := fun t => P none t L
def f_X5_remembers (I : StI) : Option (StI) :=
  Option.bind (f_X5_copies 70 (0 : Int32) 73 ((40 : Int32) * (I 63 11)) (40 : Int32) I) (fun t1 => k_let (k_up t1 63 11 ((t1 63 11) + (1 : Int32))) (fun I3 => some (I3)))
set_option maxRecDepth 100000 in
set_option maxHeartbeats 4000000 in
theorem s_X5_remembers {l : Launch} {ad : Nat → Nat} {P : Option Value → StI → StL → Prop} {I : StI} {L : StL}   (h : Ho (f_X5_remembers I) (kr_X5_remembers P L)) : k_Met l ad 2 yX5_remembers cX5_remembers 1 none [.ref (ad 63)] I L P := by
  refine k_enter (by decide +kernel) (Nat.le_of_ble_eq_true rfl) (fun X hl hx hQ => ?_)
  clear hl
  have hx : Ok X cX5_remembers RX5 1 none 2 := hx
  show J X ad 1 I L 0 [(0, .ref (ad 63))] []
  unfold f_X5_remembers at h
  refine J_aload_n hx dX5_remembers_0 0 rfl ?_
  refine J_getR (q := 70) hx fl_RX5_28 (rfl : k_sh 63 = (5, k_N 5)) rfl rfl dX5_remembers_1 ?_
  refine J_iconst (v := (0 : Int32)) hx dX5_remembers_4 (by decide) ?_
  refine J_aload_n hx dX5_remembers_5 0 rfl ?_
  refine J_getR (q := 73) hx fl_RX5_37 (rfl : k_sh 63 = (5, k_N 5)) rfl rfl dX5_remembers_6 ?_
  refine J_bipush (v := (40 : Int32)) hx dX5_remembers_9 (by decide) ?_
  refine J_aload_n hx dX5_remembers_11 0 rfl ?_
  refine J_getI hx fl_RX5_126 (rfl : k_sh 63 = (5, k_N 5)) rfl dX5_remembers_12 ?_
  refine J_imul hx dX5_remembers_15 ?_
  refine J_bipush (v := (40 : Int32)) hx dX5_remembers_16 (by decide) ?_
  obtain ⟨t1, e2, h⟩ := Ho_bind h
  refine J_callSv hx lkS_RX5_118 [.ref (ad 70), .int (0 : Int32), .ref (ad 73), .int ((40 : Int32) * (I 63 11)), .int (40 : Int32)] [] rfl rfl (Nat.le_of_ble_eq_true rfl) (Nat.le_of_ble_eq_true rfl) (s_X5_copies (congrArg Prod.fst (rfl : k_sh 70 = (10, 40))) (congrArg Prod.fst (rfl : k_sh 73 = (10, 1600))) ⟨t1, e2, ⟨rfl, rfl, rfl⟩⟩) dX5_remembers_18 ?_
  refine J_aload_n hx dX5_remembers_21 0 rfl ?_
  refine J_dup hx dX5_remembers_22 rfl ?_
  refine J_getI hx fl_RX5_126 (rfl : k_sh 63 = (5, k_N 5)) rfl dX5_remembers_23 ?_
  refine J_iconst (v := (1 : Int32)) hx dX5_remembers_26 (by decide) ?_
  refine J_iadd hx dX5_remembers_27 ?_
  obtain ⟨I3, hI3, h⟩ := Ho_let h
  refine J_putI hx flW_RX5_126 (rfl : k_sh 63 = (5, k_N 5)) rfl dX5_remembers_28 hI3 ?_
  have h := Ho_some h
  exact J_vret hx hQ dX5_remembers_31 h
abbrev kr_X5_flip (P : Option Value → StI → StL → Prop) (L : StL) : Int32 × StI → Prop := fun t => P (some (.int t.1)) t.2 L
def f_X5_flip (v1 : Int32) (I : StI) : Option (Int32 × StI) :=
  Option.bind (f_X5_in (v1).toInt64 (0 : Int64) (7 : Int64)) (fun t1 => (if t1 = 0 then some ((-1 : Int32), I) else (if (I 63 4) = 0 then some ((-4 : Int32), I) else (if (I 63 11) = (40 : Int32) then some ((-2 : Int32), I) else Option.bind (f_X5_remembers I) (fun t6 => k_gd (3 : Int32) 40 (k_gd (3 : Int32) 40 (k_let (k_up t6 70 (3 : Int32).toNatClampNeg ((t6 70 (3 : Int32).toNatClampNeg) ^^^ ((1 : Int32) <<< (v1 &&& 31)))) (fun I10 => k_gd (3 : Int32) 40 (Option.bind (f_X5_bits (I10 70 (3 : Int32).toNatClampNeg)) (fun t12 => some (t12, I10)))))))))))
set_option maxRecDepth 100000 in
set_option maxHeartbeats 4000000 in
theorem s_X5_flip {l : Launch} {ad : Nat → Nat} {P : Option Value → StI → StL → Prop} {I : StI} {L : StL} {v1 : Int32}  (h : Ho (f_X5_flip v1 I) (kr_X5_flip P L)) : k_Met l ad 3 yX5_flip cX5_flip 2 (some .int) [.ref (ad 63), .int v1] I L P := by
  refine k_enter (by decide +kernel) (Nat.le_of_ble_eq_true rfl) (fun X hl hx hQ => ?_)
  clear hl
  have hx : Ok X cX5_flip RX5 2 (some .int) 3 := hx
  show J X ad 2 I L 0 [(0, .ref (ad 63)), (1, .int v1)] []
  unfold f_X5_flip at h
  refine J_iload_n hx dX5_flip_0 1 rfl ?_
  refine J_i2l hx dX5_flip_1 ?_
  refine J_lconst (v := (0 : Int64)) hx dX5_flip_2 (by decide) ?_
  refine J_ldc2 hx cn_RX5_177 dX5_flip_3 ?_
  obtain ⟨t1, e2, h⟩ := Ho_bind h
  refine J_callSi hx lkS_RX5_75 [.long (v1).toInt64, .long (0 : Int64), .long (7 : Int64)] [] rfl rfl (Nat.le_of_ble_eq_true rfl) (Nat.le_of_ble_eq_true rfl) (s_X5_in  ⟨t1, e2, ⟨rfl, rfl, rfl⟩⟩) dX5_flip_6 ?_
  refine J_if_ne hx dX5_flip_9 14 (by decide) (fun c3 => ?_) (fun c3 => ?_)
  · have h := Ho_f c3 h
    refine J_aload_n hx dX5_flip_14 0 rfl ?_
    refine J_getI hx fl_RX5_115 (rfl : k_sh 63 = (5, k_N 5)) rfl dX5_flip_15 ?_
    refine J_if_ne hx dX5_flip_18 24 (by decide) (fun c4 => ?_) (fun c4 => ?_)
    · have h := Ho_f c4 h
      refine J_aload_n hx dX5_flip_24 0 rfl ?_
      refine J_getI hx fl_RX5_126 (rfl : k_sh 63 = (5, k_N 5)) rfl dX5_flip_25 ?_
      refine J_bipush (v := (40 : Int32)) hx dX5_flip_28 (by decide) ?_
      refine J_ic_ne hx dX5_flip_30 36 (by decide) (fun c5 => ?_) (fun c5 => ?_)
      · have h := Ho_f c5 h
        refine J_aload_n hx dX5_flip_36 0 rfl ?_
        obtain ⟨t6, e7, h⟩ := Ho_bind h
        refine J_callVv hx lkV_RX5_171 (rfl : k_sh 63 = (5, k_N 5)) [] [] rfl rfl (Nat.le_of_ble_eq_true rfl) (Nat.le_of_ble_eq_true rfl) (s_X5_remembers  ⟨t6, e7, ⟨rfl, rfl, rfl⟩⟩) dX5_flip_37 ?_
        refine J_aload_n hx dX5_flip_40 0 rfl ?_
        refine J_getR (q := 70) hx fl_RX5_28 (rfl : k_sh 63 = (5, k_N 5)) rfl rfl dX5_flip_41 ?_
        refine J_iconst (v := (3 : Int32)) hx dX5_flip_44 (by decide) ?_
        refine J_dup2 hx dX5_flip_45 rfl rfl ?_
        obtain ⟨b8, h⟩ := Ho_gd h
        refine J_iald hx (rfl : k_sh 70 = (10, 40)) b8 dX5_flip_46 ?_
        refine J_iconst (v := (1 : Int32)) hx dX5_flip_47 (by decide) ?_
        refine J_iload_n hx dX5_flip_48 1 rfl ?_
        refine J_ishl hx dX5_flip_49 ?_
        refine J_ixor hx dX5_flip_50 ?_
        obtain ⟨b9, h⟩ := Ho_gd h
        obtain ⟨I10, hI10, h⟩ := Ho_let h
        refine J_iast hx (rfl : k_sh 70 = (10, 40)) b9 dX5_flip_51 hI10 ?_
        refine J_aload_n hx dX5_flip_52 0 rfl ?_
        refine J_getR (q := 70) hx fl_RX5_28 (rfl : k_sh 63 = (5, k_N 5)) rfl rfl dX5_flip_53 ?_
        refine J_iconst (v := (3 : Int32)) hx dX5_flip_56 (by decide) ?_
        obtain ⟨b11, h⟩ := Ho_gd h
        refine J_iald hx (rfl : k_sh 70 = (10, 40)) b11 dX5_flip_57 ?_
        obtain ⟨t12, e13, h⟩ := Ho_bind h
        refine J_callSi hx lkS_RX5_146 [.int (I10 70 (3 : Int32).toNatClampNeg)] [] rfl rfl (Nat.le_of_ble_eq_true rfl) (Nat.le_of_ble_eq_true rfl) (s_X5_bits  ⟨t12, e13, ⟨rfl, rfl, rfl⟩⟩) dX5_flip_58 ?_
        have h := Ho_some h
        exact J_iret hx hQ dX5_flip_61 h
      · have h := Ho_t c5 h
        refine J_bipush (v := (-2 : Int32)) hx dX5_flip_33 (by decide) ?_
        have h := Ho_some h
        exact J_iret hx hQ dX5_flip_35 h
    · have h := Ho_t c4 h
      refine J_bipush (v := (-4 : Int32)) hx dX5_flip_21 (by decide) ?_
      have h := Ho_some h
      exact J_iret hx hQ dX5_flip_23 h
  · have h := Ho_t c3 h
    refine J_iconst (v := (-1 : Int32)) hx dX5_flip_12 (by decide) ?_
    have h := Ho_some h
    exact J_iret hx hQ dX5_flip_13 h
abbrev kr_X5_resets (P : Option Value → StI → StL → Prop) (L : StL) : StI → Prop := fun t => P none t L
def f_X5_resets (v1 : Int32) (I : StI) : Option (StI) :=
  k_gd ((12 : Int32) + v1) 40 (k_let (k_up I 70 ((12 : Int32) + v1).toNatClampNeg (0 : Int32)) (fun I2 => k_gd ((19 : Int32) + v1) 40 (k_let (k_up I2 70 ((19 : Int32) + v1).toNatClampNeg (0 : Int32)) (fun I4 => k_gd ((26 : Int32) + v1) 40 (k_let (k_up I4 70 ((26 : Int32) + v1).toNatClampNeg (0 : Int32)) (fun I6 => k_gd v1 7 (k_gd ((33 : Int32) + v1) 40 (k_let (k_up I6 70 ((33 : Int32) + v1).toNatClampNeg (I6 69 v1.toNatClampNeg)) (fun I9 => some (I9))))))))))
set_option maxRecDepth 100000 in
set_option maxHeartbeats 4000000 in
theorem s_X5_resets {l : Launch} {ad : Nat → Nat} {P : Option Value → StI → StL → Prop} {I : StI} {L : StL} {v1 : Int32}  (h : Ho (f_X5_resets v1 I) (kr_X5_resets P L)) : k_Met l ad 1 yX5_resets cX5_resets 2 none [.ref (ad 63), .int v1] I L P := by
  refine k_enter (by decide +kernel) (Nat.le_of_ble_eq_true rfl) (fun X hl hx hQ => ?_)
  clear hl
  have hx : Ok X cX5_resets RX5 2 none 1 := hx
  show J X ad 2 I L 0 [(0, .ref (ad 63)), (1, .int v1)] []
  unfold f_X5_resets at h
  refine J_aload_n hx dX5_resets_0 0 rfl ?_
  refine J_getR (q := 70) hx fl_RX5_28 (rfl : k_sh 63 = (5, k_N 5)) rfl rfl dX5_resets_1 ?_
  refine J_bipush (v := (12 : Int32)) hx dX5_resets_4 (by decide) ?_
  refine J_iload_n hx dX5_resets_6 1 rfl ?_
  refine J_iadd hx dX5_resets_7 ?_
  refine J_iconst (v := (0 : Int32)) hx dX5_resets_8 (by decide) ?_
  obtain ⟨b1, h⟩ := Ho_gd h
  obtain ⟨I2, hI2, h⟩ := Ho_let h
  refine J_iast hx (rfl : k_sh 70 = (10, 40)) b1 dX5_resets_9 hI2 ?_
  refine J_aload_n hx dX5_resets_10 0 rfl ?_
  refine J_getR (q := 70) hx fl_RX5_28 (rfl : k_sh 63 = (5, k_N 5)) rfl rfl dX5_resets_11 ?_
  refine J_bipush (v := (19 : Int32)) hx dX5_resets_14 (by decide) ?_
  refine J_iload_n hx dX5_resets_16 1 rfl ?_
  refine J_iadd hx dX5_resets_17 ?_
  refine J_iconst (v := (0 : Int32)) hx dX5_resets_18 (by decide) ?_
  obtain ⟨b3, h⟩ := Ho_gd h
  obtain ⟨I4, hI4, h⟩ := Ho_let h
  refine J_iast hx (rfl : k_sh 70 = (10, 40)) b3 dX5_resets_19 hI4 ?_
  refine J_aload_n hx dX5_resets_20 0 rfl ?_
  refine J_getR (q := 70) hx fl_RX5_28 (rfl : k_sh 63 = (5, k_N 5)) rfl rfl dX5_resets_21 ?_
  refine J_bipush (v := (26 : Int32)) hx dX5_resets_24 (by decide) ?_
  refine J_iload_n hx dX5_resets_26 1 rfl ?_
  refine J_iadd hx dX5_resets_27 ?_
  refine J_iconst (v := (0 : Int32)) hx dX5_resets_28 (by decide) ?_
  obtain ⟨b5, h⟩ := Ho_gd h
  obtain ⟨I6, hI6, h⟩ := Ho_let h
  refine J_iast hx (rfl : k_sh 70 = (10, 40)) b5 dX5_resets_29 hI6 ?_
  refine J_aload_n hx dX5_resets_30 0 rfl ?_
  refine J_getR (q := 70) hx fl_RX5_28 (rfl : k_sh 63 = (5, k_N 5)) rfl rfl dX5_resets_31 ?_
  refine J_bipush (v := (33 : Int32)) hx dX5_resets_34 (by decide) ?_
  refine J_iload_n hx dX5_resets_36 1 rfl ?_
  refine J_iadd hx dX5_resets_37 ?_
  refine J_aload_n hx dX5_resets_38 0 rfl ?_
  refine J_getR (q := 69) hx fl_RX5_25 (rfl : k_sh 63 = (5, k_N 5)) rfl rfl dX5_resets_39 ?_
  refine J_iload_n hx dX5_resets_42 1 rfl ?_
  obtain ⟨b7, h⟩ := Ho_gd h
  refine J_iald hx (rfl : k_sh 69 = (10, 7)) b7 dX5_resets_43 ?_
  obtain ⟨b8, h⟩ := Ho_gd h
  obtain ⟨I9, hI9, h⟩ := Ho_let h
  refine J_iast hx (rfl : k_sh 70 = (10, 40)) b8 dX5_resets_44 hI9 ?_
  have h := Ho_some h
  exact J_vret hx hQ dX5_resets_45 h
abbrev kr_X5_house (P : Option Value → StI → StL → Prop) (L : StL) : Int32 × StI → Prop := fun t => P (some (.int t.1)) t.2 L
abbrev g_X5_house_L160 (X : k_C) (ad : Nat → Nat) (L : StL) : (Int32 × StI) → Prop := fun s => J X ad 3 s.2 L 160 [(0, .ref (ad 63)), (2, .int s.1)] []
abbrev g_X5_house_L102 (X : k_C) (ad : Nat → Nat) (L : StL) : (Int32 × StI) → Prop := fun s => J X ad 3 s.2 L 102 [(0, .ref (ad 63)), (2, .int s.1)] []
abbrev g_X5_house_L62 (X : k_C) (ad : Nat → Nat) (L : StL) : (Int32 × StI) → Prop := fun s => J X ad 3 s.2 L 62 [(0, .ref (ad 63)), (2, .int s.1)] []
def f_X5_house_L160_b (v2 : Int32) (I : StI) : Option ((Int32 × StI) ⊕ (Int32 × StI)) :=
  (if (3 : Int32) ≤ v2 then some (.inr ((I 63 4), I)) else k_gd v2 3 (k_let (k_up I 75 v2.toNatClampNeg (vp_nar .boolean (0 : Int32))) (fun I21 => k_let (v2 + (1 : Int32)) (fun x22 => some (.inl (x22, I21))))))
def f_X5_house_L160  (n : Nat) (v2 : Int32) (I : StI) : Option (Int32 × StI) :=
  k_loop (fun s => f_X5_house_L160_b s.1 s.2) n (v2, I)
set_option maxRecDepth 100000 in
set_option maxHeartbeats 4000000 in
theorem s_X5_house_L160_b {X : k_C} {ad : Nat → Nat} {P : Option Value → StI → StL → Prop} {I : StI} {L : StL} (hx : Ok X cX5_house RX5 3 (some .int) 4) (hQ : OkQ X ad P)  {v2 : Int32}  (h : Ho (f_X5_house_L160_b v2 I) (Sum.elim (g_X5_house_L160 X ad L) (kr_X5_house P L))) : J X ad 3 I L 160 [(0, .ref (ad 63)), (2, .int v2)] [] := by
  unfold f_X5_house_L160_b at h
  refine J_iload_n hx dX5_house_160 1 rfl ?_
  refine J_iconst (v := (3 : Int32)) hx dX5_house_161 (by decide) ?_
  refine J_ic_ge hx dX5_house_162 178 (by decide) (fun c19 => ?_) (fun c19 => ?_)
  · have h := Ho_t c19 h
    refine J_aload_n hx dX5_house_178 0 rfl ?_
    refine J_getI hx fl_RX5_115 (rfl : k_sh 63 = (5, k_N 5)) rfl dX5_house_179 ?_
    have h := Ho_some h
    exact J_iret hx hQ dX5_house_182 h
  · have h := Ho_f c19 h
    refine J_aload_n hx dX5_house_165 0 rfl ?_
    refine J_getR (q := 75) hx fl_RX5_43 (rfl : k_sh 63 = (5, k_N 5)) rfl rfl dX5_house_166 ?_
    refine J_iload_n hx dX5_house_169 1 rfl ?_
    refine J_iconst (v := (0 : Int32)) hx dX5_house_170 (by decide) ?_
    obtain ⟨b20, h⟩ := Ho_gd h
    obtain ⟨I21, hI21, h⟩ := Ho_let h
    refine J_zast hx (rfl : k_sh 75 = (12, 3)) b20 dX5_house_171 hI21 ?_
    obtain ⟨x22, hx22, h⟩ := Ho_let h
    refine J_iinc (x := x22) (lv' := [(2, .int x22), (0, .ref (ad 63))]) hx dX5_house_172 1 rfl (by rw [hx22]; rfl) (by decide) rfl ?_
    refine J_goto hx dX5_house_175 160 (by decide) ?_
    refine J_sub (lv' := [(0, .ref (ad 63)), (2, .int x22)]) hx [1, 0] rfl ?_
    have h := Ho_some h
    exact h
set_option maxRecDepth 100000 in
set_option maxHeartbeats 4000000 in
theorem s_X5_house_L160 {X : k_C} {ad : Nat → Nat} {P : Option Value → StI → StL → Prop} {I : StI} {L : StL} (hx : Ok X cX5_house RX5 3 (some .int) 4) (hQ : OkQ X ad P)  {v2 : Int32}  (n : Nat) (h : Ho (f_X5_house_L160  n v2 I) (kr_X5_house P L)) : J X ad 3 I L 160 [(0, .ref (ad 63)), (2, .int v2)] [] := by
  exact k_loop_ho (G := g_X5_house_L160 X ad L) (fun s hs => s_X5_house_L160_b hx hQ  hs) n (v2, I) h
def f_X5_house_L102_b (v2 : Int32) (I : StI) : Option ((Int32 × StI) ⊕ (Int32 × StI)) :=
  (if (I 63 4) ≤ v2 then k_let (k_up I 63 11 (0 : Int32)) (fun I18 => Option.map Sum.inr (f_X5_house_L160  k_fu (0 : Int32) I18)) else k_gd ((2 : Int32) * v2) 14 (k_gd ((5 : Int32) + v2) 40 (k_let (k_up I 70 ((5 : Int32) + v2).toNatClampNeg (I 78 ((2 : Int32) * v2).toNatClampNeg)) (fun I25 => k_gd (((2 : Int32) * v2) + (1 : Int32)) 14 (k_gd v2 7 (k_let (k_up I25 69 v2.toNatClampNeg (I25 78 (((2 : Int32) * v2) + (1 : Int32)).toNatClampNeg)) (fun I28 => Option.bind (f_X5_resets v2 I28) (fun t29 => k_let (v2 + (1 : Int32)) (fun x31 => some (.inl (x31, t29)))))))))))
def f_X5_house_L102  (n : Nat) (v2 : Int32) (I : StI) : Option (Int32 × StI) :=
  k_loop (fun s => f_X5_house_L102_b s.1 s.2) n (v2, I)
set_option maxRecDepth 100000 in
set_option maxHeartbeats 4000000 in
theorem s_X5_house_L102_b {X : k_C} {ad : Nat → Nat} {P : Option Value → StI → StL → Prop} {I : StI} {L : StL} (hx : Ok X cX5_house RX5 3 (some .int) 4) (hQ : OkQ X ad P)  {v2 : Int32}  (h : Ho (f_X5_house_L102_b v2 I) (Sum.elim (g_X5_house_L102 X ad L) (kr_X5_house P L))) : J X ad 3 I L 102 [(0, .ref (ad 63)), (2, .int v2)] [] := by
  unfold f_X5_house_L102_b at h
  refine J_iload_n hx dX5_house_102 1 rfl ?_
  refine J_aload_n hx dX5_house_103 0 rfl ?_
  refine J_getI hx fl_RX5_115 (rfl : k_sh 63 = (5, k_N 5)) rfl dX5_house_104 ?_
  refine J_ic_ge hx dX5_house_107 153 (by decide) (fun c17 => ?_) (fun c17 => ?_)
  · have h := Ho_t c17 h
    refine J_aload_n hx dX5_house_153 0 rfl ?_
    refine J_iconst (v := (0 : Int32)) hx dX5_house_154 (by decide) ?_
    obtain ⟨I18, hI18, h⟩ := Ho_let h
    refine J_putI hx flW_RX5_126 (rfl : k_sh 63 = (5, k_N 5)) rfl dX5_house_155 hI18 ?_
    refine J_iconst (v := (0 : Int32)) hx dX5_house_158 (by decide) ?_
    refine J_istore_n (x := (0 : Int32)) (lv' := [(2, .int (0 : Int32)), (0, .ref (ad 63))]) hx dX5_house_159 rfl (by decide) rfl ?_
    refine J_sub (lv' := [(0, .ref (ad 63)), (2, .int (0 : Int32))]) hx [1, 0] rfl ?_
    have h := Ho_map h
    exact s_X5_house_L160 hx hQ  k_fu h
  · have h := Ho_f c17 h
    refine J_aload_n hx dX5_house_110 0 rfl ?_
    refine J_getR (q := 70) hx fl_RX5_28 (rfl : k_sh 63 = (5, k_N 5)) rfl rfl dX5_house_111 ?_
    refine J_iconst (v := (5 : Int32)) hx dX5_house_114 (by decide) ?_
    refine J_iload_n hx dX5_house_115 1 rfl ?_
    refine J_iadd hx dX5_house_116 ?_
    refine J_aload_n hx dX5_house_117 0 rfl ?_
    refine J_getR (q := 78) hx fl_RX5_57 (rfl : k_sh 63 = (5, k_N 5)) rfl rfl dX5_house_118 ?_
    refine J_iconst (v := (2 : Int32)) hx dX5_house_121 (by decide) ?_
    refine J_iload_n hx dX5_house_122 1 rfl ?_
    refine J_imul hx dX5_house_123 ?_
    obtain ⟨b23, h⟩ := Ho_gd h
    refine J_iald hx (rfl : k_sh 78 = (10, 14)) b23 dX5_house_124 ?_
    obtain ⟨b24, h⟩ := Ho_gd h
    obtain ⟨I25, hI25, h⟩ := Ho_let h
    refine J_iast hx (rfl : k_sh 70 = (10, 40)) b24 dX5_house_125 hI25 ?_
    refine J_aload_n hx dX5_house_126 0 rfl ?_
    refine J_getR (q := 69) hx fl_RX5_25 (rfl : k_sh 63 = (5, k_N 5)) rfl rfl dX5_house_127 ?_
    refine J_iload_n hx dX5_house_130 1 rfl ?_
    refine J_aload_n hx dX5_house_131 0 rfl ?_
    refine J_getR (q := 78) hx fl_RX5_57 (rfl : k_sh 63 = (5, k_N 5)) rfl rfl dX5_house_132 ?_
    refine J_iconst (v := (2 : Int32)) hx dX5_house_135 (by decide) ?_
    refine J_iload_n hx dX5_house_136 1 rfl ?_
    refine J_imul hx dX5_house_137 ?_
    refine J_iconst (v := (1 : Int32)) hx dX5_house_138 (by decide) ?_
    refine J_iadd hx dX5_house_139 ?_
    obtain ⟨b26, h⟩ := Ho_gd h
    refine J_iald hx (rfl : k_sh 78 = (10, 14)) b26 dX5_house_140 ?_
    obtain ⟨b27, h⟩ := Ho_gd h
    obtain ⟨I28, hI28, h⟩ := Ho_let h
    refine J_iast hx (rfl : k_sh 69 = (10, 7)) b27 dX5_house_141 hI28 ?_
    refine J_aload_n hx dX5_house_142 0 rfl ?_
    refine J_iload_n hx dX5_house_143 1 rfl ?_
    obtain ⟨t29, e30, h⟩ := Ho_bind h
    refine J_callVv hx lkV_RX5_122 (rfl : k_sh 63 = (5, k_N 5)) [.int v2] [] rfl rfl (Nat.le_of_ble_eq_true rfl) (Nat.le_of_ble_eq_true rfl) (s_X5_resets  ⟨t29, e30, ⟨rfl, rfl, rfl⟩⟩) dX5_house_144 ?_
    obtain ⟨x31, hx31, h⟩ := Ho_let h
    refine J_iinc (x := x31) (lv' := [(2, .int x31), (0, .ref (ad 63))]) hx dX5_house_147 1 rfl (by rw [hx31]; rfl) (by decide) rfl ?_
    refine J_goto hx dX5_house_150 102 (by decide) ?_
    refine J_sub (lv' := [(0, .ref (ad 63)), (2, .int x31)]) hx [1, 0] rfl ?_
    have h := Ho_some h
    exact h
set_option maxRecDepth 100000 in
set_option maxHeartbeats 4000000 in
theorem s_X5_house_L102 {X : k_C} {ad : Nat → Nat} {P : Option Value → StI → StL → Prop} {I : StI} {L : StL} (hx : Ok X cX5_house RX5 3 (some .int) 4) (hQ : OkQ X ad P)  {v2 : Int32}  (n : Nat) (h : Ho (f_X5_house_L102  n v2 I) (kr_X5_house P L)) : J X ad 3 I L 102 [(0, .ref (ad 63)), (2, .int v2)] [] := by
  exact k_loop_ho (G := g_X5_house_L102 X ad L) (fun s hs => s_X5_house_L102_b hx hQ  hs) n (v2, I) h
def f_X5_house_L62_b (v2 : Int32) (I : StI) : Option ((Int32 × StI) ⊕ (Int32 × StI)) :=
  (if (40 : Int32) ≤ v2 then k_gd (3 : Int32) 40 (k_let (k_up I 70 (3 : Int32).toNatClampNeg (255 : Int32)) (fun I14 => k_gd (4 : Int32) 40 (k_let (k_up I14 70 (4 : Int32).toNatClampNeg (I14 63 19)) (fun I16 => Option.map Sum.inr (f_X5_house_L102  k_fu (0 : Int32) I16))))) else k_gd v2 40 (k_let (k_up I 70 v2.toNatClampNeg (0 : Int32)) (fun I33 => k_let (v2 + (1 : Int32)) (fun x34 => some (.inl (x34, I33))))))
def f_X5_house_L62  (n : Nat) (v2 : Int32) (I : StI) : Option (Int32 × StI) :=
  k_loop (fun s => f_X5_house_L62_b s.1 s.2) n (v2, I)
set_option maxRecDepth 100000 in
set_option maxHeartbeats 4000000 in
theorem s_X5_house_L62_b {X : k_C} {ad : Nat → Nat} {P : Option Value → StI → StL → Prop} {I : StI} {L : StL} (hx : Ok X cX5_house RX5 3 (some .int) 4) (hQ : OkQ X ad P)  {v2 : Int32}  (h : Ho (f_X5_house_L62_b v2 I) (Sum.elim (g_X5_house_L62 X ad L) (kr_X5_house P L))) : J X ad 3 I L 62 [(0, .ref (ad 63)), (2, .int v2)] [] := by
  unfold f_X5_house_L62_b at h
  refine J_iload_n hx dX5_house_62 1 rfl ?_
  refine J_bipush (v := (40 : Int32)) hx dX5_house_63 (by decide) ?_
  refine J_ic_ge hx dX5_house_65 81 (by decide) (fun c12 => ?_) (fun c12 => ?_)
  · have h := Ho_t c12 h
    refine J_aload_n hx dX5_house_81 0 rfl ?_
    refine J_getR (q := 70) hx fl_RX5_28 (rfl : k_sh 63 = (5, k_N 5)) rfl rfl dX5_house_82 ?_
    refine J_iconst (v := (3 : Int32)) hx dX5_house_85 (by decide) ?_
    refine J_sipush (v := (255 : Int32)) hx dX5_house_86 (by decide) ?_
    obtain ⟨b13, h⟩ := Ho_gd h
    obtain ⟨I14, hI14, h⟩ := Ho_let h
    refine J_iast hx (rfl : k_sh 70 = (10, 40)) b13 dX5_house_89 hI14 ?_
    refine J_aload_n hx dX5_house_90 0 rfl ?_
    refine J_getR (q := 70) hx fl_RX5_28 (rfl : k_sh 63 = (5, k_N 5)) rfl rfl dX5_house_91 ?_
    refine J_iconst (v := (4 : Int32)) hx dX5_house_94 (by decide) ?_
    refine J_aload_n hx dX5_house_95 0 rfl ?_
    refine J_getI hx fl_RX5_99 (rfl : k_sh 63 = (5, k_N 5)) rfl dX5_house_96 ?_
    obtain ⟨b15, h⟩ := Ho_gd h
    obtain ⟨I16, hI16, h⟩ := Ho_let h
    refine J_iast hx (rfl : k_sh 70 = (10, 40)) b15 dX5_house_99 hI16 ?_
    refine J_iconst (v := (0 : Int32)) hx dX5_house_100 (by decide) ?_
    refine J_istore_n (x := (0 : Int32)) (lv' := [(2, .int (0 : Int32)), (0, .ref (ad 63))]) hx dX5_house_101 rfl (by decide) rfl ?_
    refine J_sub (lv' := [(0, .ref (ad 63)), (2, .int (0 : Int32))]) hx [1, 0] rfl ?_
    have h := Ho_map h
    exact s_X5_house_L102 hx hQ  k_fu h
  · have h := Ho_f c12 h
    refine J_aload_n hx dX5_house_68 0 rfl ?_
    refine J_getR (q := 70) hx fl_RX5_28 (rfl : k_sh 63 = (5, k_N 5)) rfl rfl dX5_house_69 ?_
    refine J_iload_n hx dX5_house_72 1 rfl ?_
    refine J_iconst (v := (0 : Int32)) hx dX5_house_73 (by decide) ?_
    obtain ⟨b32, h⟩ := Ho_gd h
    obtain ⟨I33, hI33, h⟩ := Ho_let h
    refine J_iast hx (rfl : k_sh 70 = (10, 40)) b32 dX5_house_74 hI33 ?_
    obtain ⟨x34, hx34, h⟩ := Ho_let h
    refine J_iinc (x := x34) (lv' := [(2, .int x34), (0, .ref (ad 63))]) hx dX5_house_75 1 rfl (by rw [hx34]; rfl) (by decide) rfl ?_
    refine J_goto hx dX5_house_78 62 (by decide) ?_
    refine J_sub (lv' := [(0, .ref (ad 63)), (2, .int x34)]) hx [1, 0] rfl ?_
    have h := Ho_some h
    exact h
set_option maxRecDepth 100000 in
set_option maxHeartbeats 4000000 in
theorem s_X5_house_L62 {X : k_C} {ad : Nat → Nat} {P : Option Value → StI → StL → Prop} {I : StI} {L : StL} (hx : Ok X cX5_house RX5 3 (some .int) 4) (hQ : OkQ X ad P)  {v2 : Int32}  (n : Nat) (h : Ho (f_X5_house_L62  n v2 I) (kr_X5_house P L)) : J X ad 3 I L 62 [(0, .ref (ad 63)), (2, .int v2)] [] := by
  exact k_loop_ho (G := g_X5_house_L62 X ad L) (fun s hs => s_X5_house_L62_b hx hQ  hs) n (v2, I) h
def f_X5_house (v1 : Int32) (I : StI) : Option (Int32 × StI) :=
  Option.bind (f_X5_isText v1) (fun t1 => (if t1 = 0 then some ((-1 : Int32), I) else k_gd v1 4 ((if 0 ≤ (I 66 v1.toNatClampNeg) then Option.bind (f_X5_reads v1 I) (fun t6 => (if t6.1 = (-9 : Int32) then k_let (k_up t6.2 63 4 (t6.2 63 20)) (fun I9 => Option.bind (f_X5_copies 77 (0 : Int32) 68 (0 : Int32) (7 : Int32) I9) (fun t10 => f_X5_house_L62  k_fu (0 : Int32) t10)) else some ((-4 : Int32), t6.2))) else Option.bind (f_X5_found (1 : Int32) I) (fun t35 => some (t35.1, t35.2))))))
set_option maxRecDepth 100000 in
set_option maxHeartbeats 4000000 in
theorem s_X5_house {l : Launch} {ad : Nat → Nat} {P : Option Value → StI → StL → Prop} {I : StI} {L : StL} {v1 : Int32}  (h : Ho (f_X5_house v1 I) (kr_X5_house P L)) : k_Met l ad 4 yX5_house cX5_house 3 (some .int) [.ref (ad 63), .int v1] I L P := by
  refine k_enter (by decide +kernel) (Nat.le_of_ble_eq_true rfl) (fun X hl hx hQ => ?_)
  clear hl
  have hx : Ok X cX5_house RX5 3 (some .int) 4 := hx
  show J X ad 3 I L 0 [(0, .ref (ad 63)), (1, .int v1)] []
  unfold f_X5_house at h
  refine J_iload_n hx dX5_house_0 1 rfl ?_
  obtain ⟨t1, e2, h⟩ := Ho_bind h
  refine J_callSi hx lkS_RX5_92 [.int v1] [] rfl rfl (Nat.le_of_ble_eq_true rfl) (Nat.le_of_ble_eq_true rfl) (s_X5_isText  ⟨t1, e2, ⟨rfl, rfl, rfl⟩⟩) dX5_house_1 ?_
  refine J_if_ne hx dX5_house_4 9 (by decide) (fun c3 => ?_) (fun c3 => ?_)
  · have h := Ho_f c3 h
    refine J_aload_n hx dX5_house_9 0 rfl ?_
    refine J_getR (q := 66) hx fl_RX5_16 (rfl : k_sh 63 = (5, k_N 5)) rfl rfl dX5_house_10 ?_
    refine J_iload_n hx dX5_house_13 1 rfl ?_
    obtain ⟨b4, h⟩ := Ho_gd h
    refine J_iald hx (rfl : k_sh 66 = (10, 4)) b4 dX5_house_14 ?_
    refine J_if_ge hx dX5_house_15 24 (by decide) (fun c5 => ?_) (fun c5 => ?_)
    · have h := Ho_t c5 h
      refine J_aload_n hx dX5_house_24 0 rfl ?_
      refine J_iload_n hx dX5_house_25 1 rfl ?_
      obtain ⟨t6, e7, h⟩ := Ho_bind h
      refine J_callVi hx lkV_RX5_112 (rfl : k_sh 63 = (5, k_N 5)) [.int v1] [] rfl rfl (Nat.le_of_ble_eq_true rfl) (Nat.le_of_ble_eq_true rfl) (s_X5_reads  ⟨t6, e7, ⟨rfl, rfl, rfl⟩⟩) dX5_house_26 ?_
      refine J_bipush (v := (-9 : Int32)) hx dX5_house_29 (by decide) ?_
      refine J_ic_eq hx dX5_house_31 37 (by decide) (fun c8 => ?_) (fun c8 => ?_)
      · have h := Ho_t c8 h
        refine J_aload_n hx dX5_house_37 0 rfl ?_
        refine J_aload_n hx dX5_house_38 0 rfl ?_
        refine J_getI hx fl_RX5_102 (rfl : k_sh 63 = (5, k_N 5)) rfl dX5_house_39 ?_
        obtain ⟨I9, hI9, h⟩ := Ho_let h
        refine J_putI hx flW_RX5_115 (rfl : k_sh 63 = (5, k_N 5)) rfl dX5_house_42 hI9 ?_
        refine J_aload_n hx dX5_house_45 0 rfl ?_
        refine J_getR (q := 77) hx fl_RX5_54 (rfl : k_sh 63 = (5, k_N 5)) rfl rfl dX5_house_46 ?_
        refine J_iconst (v := (0 : Int32)) hx dX5_house_49 (by decide) ?_
        refine J_aload_n hx dX5_house_50 0 rfl ?_
        refine J_getR (q := 68) hx fl_RX5_22 (rfl : k_sh 63 = (5, k_N 5)) rfl rfl dX5_house_51 ?_
        refine J_iconst (v := (0 : Int32)) hx dX5_house_54 (by decide) ?_
        refine J_bipush (v := (7 : Int32)) hx dX5_house_55 (by decide) ?_
        obtain ⟨t10, e11, h⟩ := Ho_bind h
        refine J_callSv hx lkS_RX5_118 [.ref (ad 77), .int (0 : Int32), .ref (ad 68), .int (0 : Int32), .int (7 : Int32)] [] rfl rfl (Nat.le_of_ble_eq_true rfl) (Nat.le_of_ble_eq_true rfl) (s_X5_copies (congrArg Prod.fst (rfl : k_sh 77 = (10, 7))) (congrArg Prod.fst (rfl : k_sh 68 = (10, 7))) ⟨t10, e11, ⟨rfl, rfl, rfl⟩⟩) dX5_house_57 ?_
        refine J_iconst (v := (0 : Int32)) hx dX5_house_60 (by decide) ?_
        refine J_istore_n (x := (0 : Int32)) (lv' := [(2, .int (0 : Int32)), (0, .ref (ad 63)), (1, .int v1)]) hx dX5_house_61 rfl (by decide) rfl ?_
        refine J_sub (lv' := [(0, .ref (ad 63)), (2, .int (0 : Int32))]) hx [1, 0] rfl ?_
        exact s_X5_house_L62 hx hQ  k_fu h
      · have h := Ho_f c8 h
        refine J_bipush (v := (-4 : Int32)) hx dX5_house_34 (by decide) ?_
        have h := Ho_some h
        exact J_iret hx hQ dX5_house_36 h
    · have h := Ho_f c5 h
      refine J_aload_n hx dX5_house_18 0 rfl ?_
      refine J_iconst (v := (1 : Int32)) hx dX5_house_19 (by decide) ?_
      obtain ⟨t35, e36, h⟩ := Ho_bind h
      refine J_callVi hx lkV_RX5_85 (rfl : k_sh 63 = (5, k_N 5)) [.int (1 : Int32)] [] rfl rfl (Nat.le_of_ble_eq_true rfl) (Nat.le_of_ble_eq_true rfl) (s_X5_found  ⟨t35, e36, ⟨rfl, rfl, rfl⟩⟩) dX5_house_20 ?_
      have h := Ho_some h
      exact J_iret hx hQ dX5_house_23 h
  · have h := Ho_t c3 h
    refine J_iconst (v := (-1 : Int32)) hx dX5_house_7 (by decide) ?_
    have h := Ho_some h
    exact J_iret hx hQ dX5_house_8 h
abbrev kr_X5_hush (P : Option Value → StI → StL → Prop) (L : StL) : Int32 × StI → Prop := fun t => P (some (.int t.1)) t.2 L
abbrev g_X5_hush_L35 (X : k_C) (ad : Nat → Nat) (L : StL) (v1 : Int32) : (Int32 × Int32 × Int32 × StI) → Prop := fun s => J X ad 6 s.2.2.2 L 35 [(0, .ref (ad 63)), (1, .int v1), (2, .int s.1), (3, .int s.2.1), (4, .int s.2.2.1)] []
def f_X5_hush_j83 (v1 : Int32) (v4 : Int32) (v5 : Int32) (I : StI) : Option ((Int32 × Int32 × Int32 × StI) ⊕ (Int32 × StI)) :=
  k_let (v4 + (1 : Int32)) (fun x15 => some (.inl (v4, v5, x15, I)))
set_option maxRecDepth 100000 in
set_option maxHeartbeats 4000000 in
theorem s_X5_hush_j83 {X : k_C} {ad : Nat → Nat} {P : Option Value → StI → StL → Prop} {I : StI} {L : StL} (hx : Ok X cX5_hush RX5 6 (some .int) 5) (hQ : OkQ X ad P)  {v1 : Int32} {v4 : Int32} {v5 : Int32}  (h : Ho (f_X5_hush_j83 v1 v4 v5 I) (Sum.elim (g_X5_hush_L35 X ad L v1) (kr_X5_hush P L))) : J X ad 6 I L 83 [(0, .ref (ad 63)), (1, .int v1), (4, .int v4), (5, .int v5)] [] := by
  unfold f_X5_hush_j83 at h
  refine J_iload hx dX5_hush_83 2 rfl ?_
  refine J_istore_n (x := v4) (lv' := [(2, .int v4), (0, .ref (ad 63)), (1, .int v1), (4, .int v4), (5, .int v5)]) hx dX5_hush_85 rfl (by decide) rfl ?_
  refine J_iload hx dX5_hush_86 4 rfl ?_
  refine J_istore_n (x := v5) (lv' := [(3, .int v5), (2, .int v4), (0, .ref (ad 63)), (1, .int v1), (4, .int v4), (5, .int v5)]) hx dX5_hush_88 rfl (by decide) rfl ?_
  obtain ⟨x15, hx15, h⟩ := Ho_let h
  refine J_iinc (x := x15) (lv' := [(4, .int x15), (3, .int v5), (2, .int v4), (0, .ref (ad 63)), (1, .int v1), (5, .int v5)]) hx dX5_hush_89 4 rfl (by rw [hx15]; rfl) (by decide) rfl ?_
  refine J_goto hx dX5_hush_92 35 (by decide) ?_
  refine J_sub (lv' := [(0, .ref (ad 63)), (1, .int v1), (2, .int v4), (3, .int v5), (4, .int x15)]) hx [3, 4, 2, 1, 0] rfl ?_
  have h := Ho_some h
  exact h
def f_X5_hush_L35_b (v1 : Int32) (v2 : Int32) (v3 : Int32) (v4 : Int32) (I : StI) : Option ((Int32 × Int32 × Int32 × StI) ⊕ (Int32 × StI)) :=
  (if ((1 : Int32) <<< ((I 63 4) &&& 31)) ≤ v4 then Option.bind (f_X5_answer v2 v3 I) (fun t8 => some (.inr (t8.1, t8.2))) else Option.bind (f_X5_laysAside I) (fun t10 => Option.bind (f_X5_goesOn v1 v4 t10) (fun t12 => (if v3 < t12.1 then f_X5_hush_j83 v1 v4 t12.1 t12.2 else (if t12.1 = v3 then Option.bind (f_X5_bits v4) (fun t18 => Option.bind (f_X5_bits v2) (fun t20 => (if t20 ≤ t18 then k_let (v4 + (1 : Int32)) (fun x23 => some (.inl (v2, v3, x23, t12.2))) else f_X5_hush_j83 v1 v4 t12.1 t12.2))) else k_let (v4 + (1 : Int32)) (fun x17 => some (.inl (v2, v3, x17, t12.2))))))))
def f_X5_hush_L35 (v1 : Int32) (n : Nat) (v2 : Int32) (v3 : Int32) (v4 : Int32) (I : StI) : Option (Int32 × StI) :=
  k_loop (fun s => f_X5_hush_L35_b v1 s.1 s.2.1 s.2.2.1 s.2.2.2) n (v2, v3, v4, I)
set_option maxRecDepth 100000 in
set_option maxHeartbeats 4000000 in
theorem s_X5_hush_L35_b {X : k_C} {ad : Nat → Nat} {P : Option Value → StI → StL → Prop} {I : StI} {L : StL} (hx : Ok X cX5_hush RX5 6 (some .int) 5) (hQ : OkQ X ad P)  {v1 : Int32} {v2 : Int32} {v3 : Int32} {v4 : Int32}  (h : Ho (f_X5_hush_L35_b v1 v2 v3 v4 I) (Sum.elim (g_X5_hush_L35 X ad L v1) (kr_X5_hush P L))) : J X ad 6 I L 35 [(0, .ref (ad 63)), (1, .int v1), (2, .int v2), (3, .int v3), (4, .int v4)] [] := by
  unfold f_X5_hush_L35_b at h
  refine J_iload hx dX5_hush_35 4 rfl ?_
  refine J_iconst (v := (1 : Int32)) hx dX5_hush_37 (by decide) ?_
  refine J_aload_n hx dX5_hush_38 0 rfl ?_
  refine J_getI hx fl_RX5_115 (rfl : k_sh 63 = (5, k_N 5)) rfl dX5_hush_39 ?_
  refine J_ishl hx dX5_hush_42 ?_
  refine J_ic_ge hx dX5_hush_43 95 (by decide) (fun c7 => ?_) (fun c7 => ?_)
  · have h := Ho_t c7 h
    refine J_aload_n hx dX5_hush_95 0 rfl ?_
    refine J_iload_n hx dX5_hush_96 2 rfl ?_
    refine J_iload_n hx dX5_hush_97 3 rfl ?_
    obtain ⟨t8, e9, h⟩ := Ho_bind h
    refine J_callVi hx lkV_RX5_189 (rfl : k_sh 63 = (5, k_N 5)) [.int v2, .int v3] [] rfl rfl (Nat.le_of_ble_eq_true rfl) (Nat.le_of_ble_eq_true rfl) (s_X5_answer  ⟨t8, e9, ⟨rfl, rfl, rfl⟩⟩) dX5_hush_98 ?_
    have h := Ho_some h
    exact J_iret hx hQ dX5_hush_101 h
  · have h := Ho_f c7 h
    refine J_aload_n hx dX5_hush_46 0 rfl ?_
    obtain ⟨t10, e11, h⟩ := Ho_bind h
    refine J_callVv hx lkV_RX5_195 (rfl : k_sh 63 = (5, k_N 5)) [] [] rfl rfl (Nat.le_of_ble_eq_true rfl) (Nat.le_of_ble_eq_true rfl) (s_X5_laysAside  ⟨t10, e11, ⟨rfl, rfl, rfl⟩⟩) dX5_hush_47 ?_
    refine J_aload_n hx dX5_hush_50 0 rfl ?_
    refine J_iload_n hx dX5_hush_51 1 rfl ?_
    refine J_iload hx dX5_hush_52 4 rfl ?_
    obtain ⟨t12, e13, h⟩ := Ho_bind h
    refine J_callVi hx lkV_RX5_198 (rfl : k_sh 63 = (5, k_N 5)) [.int v1, .int v4] [] rfl rfl (Nat.le_of_ble_eq_true rfl) (Nat.le_of_ble_eq_true rfl) (s_X5_goesOn  ⟨t12, e13, ⟨rfl, rfl, rfl⟩⟩) dX5_hush_54 ?_
    refine J_istore (x := t12.1) (lv' := [(5, .int t12.1), (0, .ref (ad 63)), (1, .int v1), (2, .int v2), (3, .int v3), (4, .int v4)]) hx dX5_hush_57 rfl (by decide) rfl ?_
    refine J_iload hx dX5_hush_59 0 rfl ?_
    refine J_iload_n hx dX5_hush_61 4 rfl ?_
    refine J_ic_gt hx dX5_hush_62 83 (by decide) (fun c14 => ?_) (fun c14 => ?_)
    · have h := Ho_t c14 h
      refine J_sub (lv' := [(0, .ref (ad 63)), (1, .int v1), (4, .int v4), (5, .int t12.1)]) hx [1, 2, 5, 0] rfl ?_
      exact s_X5_hush_j83 hx hQ  h
    · have h := Ho_f c14 h
      refine J_iload hx dX5_hush_65 0 rfl ?_
      refine J_iload_n hx dX5_hush_67 4 rfl ?_
      refine J_ic_ne hx dX5_hush_68 89 (by decide) (fun c16 => ?_) (fun c16 => ?_)
      · have h := Ho_f c16 h
        obtain ⟨x17, hx17, h⟩ := Ho_let h
        refine J_iinc (x := x17) (lv' := [(4, .int x17), (5, .int t12.1), (0, .ref (ad 63)), (1, .int v1), (2, .int v2), (3, .int v3)]) hx dX5_hush_89 5 rfl (by rw [hx17]; rfl) (by decide) rfl ?_
        refine J_goto hx dX5_hush_92 35 (by decide) ?_
        refine J_sub (lv' := [(0, .ref (ad 63)), (1, .int v1), (2, .int v2), (3, .int v3), (4, .int x17)]) hx [2, 3, 4, 5, 0] rfl ?_
        have h := Ho_some h
        exact h
      · have h := Ho_t c16 h
        refine J_iload hx dX5_hush_71 5 rfl ?_
        obtain ⟨t18, e19, h⟩ := Ho_bind h
        refine J_callSi hx lkS_RX5_146 [.int v4] [] rfl rfl (Nat.le_of_ble_eq_true rfl) (Nat.le_of_ble_eq_true rfl) (s_X5_bits  ⟨t18, e19, ⟨rfl, rfl, rfl⟩⟩) dX5_hush_73 ?_
        refine J_iload_n hx dX5_hush_76 3 rfl ?_
        obtain ⟨t20, e21, h⟩ := Ho_bind h
        refine J_callSi hx lkS_RX5_146 [.int v2] [.int t18] rfl rfl (Nat.le_of_ble_eq_true rfl) (Nat.le_of_ble_eq_true rfl) (s_X5_bits  ⟨t20, e21, ⟨rfl, rfl, rfl⟩⟩) dX5_hush_77 ?_
        refine J_ic_ge hx dX5_hush_80 89 (by decide) (fun c22 => ?_) (fun c22 => ?_)
        · have h := Ho_t c22 h
          obtain ⟨x23, hx23, h⟩ := Ho_let h
          refine J_iinc (x := x23) (lv' := [(4, .int x23), (5, .int t12.1), (0, .ref (ad 63)), (1, .int v1), (2, .int v2), (3, .int v3)]) hx dX5_hush_89 5 rfl (by rw [hx23]; rfl) (by decide) rfl ?_
          refine J_goto hx dX5_hush_92 35 (by decide) ?_
          refine J_sub (lv' := [(0, .ref (ad 63)), (1, .int v1), (2, .int v2), (3, .int v3), (4, .int x23)]) hx [2, 3, 4, 5, 0] rfl ?_
          have h := Ho_some h
          exact h
        · have h := Ho_f c22 h
          refine J_sub (lv' := [(0, .ref (ad 63)), (1, .int v1), (4, .int v4), (5, .int t12.1)]) hx [1, 2, 5, 0] rfl ?_
          exact s_X5_hush_j83 hx hQ  h
set_option maxRecDepth 100000 in
set_option maxHeartbeats 4000000 in
theorem s_X5_hush_L35 {X : k_C} {ad : Nat → Nat} {P : Option Value → StI → StL → Prop} {I : StI} {L : StL} (hx : Ok X cX5_hush RX5 6 (some .int) 5) (hQ : OkQ X ad P)  {v1 : Int32} {v2 : Int32} {v3 : Int32} {v4 : Int32}  (n : Nat) (h : Ho (f_X5_hush_L35 v1 n v2 v3 v4 I) (kr_X5_hush P L)) : J X ad 6 I L 35 [(0, .ref (ad 63)), (1, .int v1), (2, .int v2), (3, .int v3), (4, .int v4)] [] := by
  exact k_loop_ho (G := g_X5_hush_L35 X ad L v1) (fun s hs => s_X5_hush_L35_b hx hQ  hs) n (v2, v3, v4, I) h
def f_X5_hush (v1 : Int32) (I : StI) : Option (Int32 × StI) :=
  Option.bind (f_X5_in (v1).toInt64 (1 : Int64) (20 : Int64)) (fun t1 => (if t1 = 0 then some ((-1 : Int32), I) else (if (I 63 4) = 0 then some ((-4 : Int32), I) else Option.bind (f_X5_asKinds I) (fun t5 => f_X5_hush_L35 v1 k_fu (0 : Int32) (-1 : Int32) (0 : Int32) t5))))
set_option maxRecDepth 100000 in
set_option maxHeartbeats 4000000 in
theorem s_X5_hush {l : Launch} {ad : Nat → Nat} {P : Option Value → StI → StL → Prop} {I : StI} {L : StL} {v1 : Int32}  (h : Ho (f_X5_hush v1 I) (kr_X5_hush P L)) : k_Met l ad 5 yX5_hush cX5_hush 6 (some .int) [.ref (ad 63), .int v1] I L P := by
  refine k_enter (by decide +kernel) (Nat.le_of_ble_eq_true rfl) (fun X hl hx hQ => ?_)
  clear hl
  have hx : Ok X cX5_hush RX5 6 (some .int) 5 := hx
  show J X ad 6 I L 0 [(0, .ref (ad 63)), (1, .int v1)] []
  unfold f_X5_hush at h
  refine J_iload_n hx dX5_hush_0 1 rfl ?_
  refine J_i2l hx dX5_hush_1 ?_
  refine J_lconst (v := (1 : Int64)) hx dX5_hush_2 (by decide) ?_
  refine J_ldc2 hx cn_RX5_206 dX5_hush_3 ?_
  obtain ⟨t1, e2, h⟩ := Ho_bind h
  refine J_callSi hx lkS_RX5_75 [.long (v1).toInt64, .long (1 : Int64), .long (20 : Int64)] [] rfl rfl (Nat.le_of_ble_eq_true rfl) (Nat.le_of_ble_eq_true rfl) (s_X5_in  ⟨t1, e2, ⟨rfl, rfl, rfl⟩⟩) dX5_hush_6 ?_
  refine J_if_ne hx dX5_hush_9 14 (by decide) (fun c3 => ?_) (fun c3 => ?_)
  · have h := Ho_f c3 h
    refine J_aload_n hx dX5_hush_14 0 rfl ?_
    refine J_getI hx fl_RX5_115 (rfl : k_sh 63 = (5, k_N 5)) rfl dX5_hush_15 ?_
    refine J_if_ne hx dX5_hush_18 24 (by decide) (fun c4 => ?_) (fun c4 => ?_)
    · have h := Ho_f c4 h
      refine J_aload_n hx dX5_hush_24 0 rfl ?_
      obtain ⟨t5, e6, h⟩ := Ho_bind h
      refine J_callVv hx lkV_RX5_174 (rfl : k_sh 63 = (5, k_N 5)) [] [] rfl rfl (Nat.le_of_ble_eq_true rfl) (Nat.le_of_ble_eq_true rfl) (s_X5_asKinds  ⟨t5, e6, ⟨rfl, rfl, rfl⟩⟩) dX5_hush_25 ?_
      refine J_iconst (v := (0 : Int32)) hx dX5_hush_28 (by decide) ?_
      refine J_istore_n (x := (0 : Int32)) (lv' := [(2, .int (0 : Int32)), (0, .ref (ad 63)), (1, .int v1)]) hx dX5_hush_29 rfl (by decide) rfl ?_
      refine J_iconst (v := (-1 : Int32)) hx dX5_hush_30 (by decide) ?_
      refine J_istore_n (x := (-1 : Int32)) (lv' := [(3, .int (-1 : Int32)), (2, .int (0 : Int32)), (0, .ref (ad 63)), (1, .int v1)]) hx dX5_hush_31 rfl (by decide) rfl ?_
      refine J_iconst (v := (0 : Int32)) hx dX5_hush_32 (by decide) ?_
      refine J_istore (x := (0 : Int32)) (lv' := [(4, .int (0 : Int32)), (3, .int (-1 : Int32)), (2, .int (0 : Int32)), (0, .ref (ad 63)), (1, .int v1)]) hx dX5_hush_33 rfl (by decide) rfl ?_
      refine J_sub (lv' := [(0, .ref (ad 63)), (1, .int v1), (2, .int (0 : Int32)), (3, .int (-1 : Int32)), (4, .int (0 : Int32))]) hx [3, 4, 2, 1, 0] rfl ?_
      exact s_X5_hush_L35 hx hQ  k_fu h
    · have h := Ho_t c4 h
      refine J_bipush (v := (-4 : Int32)) hx dX5_hush_21 (by decide) ?_
      have h := Ho_some h
      exact J_iret hx hQ dX5_hush_23 h
  · have h := Ho_t c3 h
    refine J_iconst (v := (-1 : Int32)) hx dX5_hush_12 (by decide) ?_
    have h := Ho_some h
    exact J_iret hx hQ dX5_hush_13 h
abbrev kr_X5_isNumber (P : Option Value → StI → StL → Prop) (I : StI) (L : StL) : Int32 → Prop := fun t => P (some (.int t)) I L
def f_X5_isNumber (v0 : Int32) : Option (Int32) :=
  Option.bind (f_X5_in (v0).toInt64 (1 : Int64) (9 : Int64)) (fun t1 => k_bo t1 (some (t1)))
set_option maxRecDepth 100000 in
set_option maxHeartbeats 4000000 in
theorem s_X5_isNumber {l : Launch} {ad : Nat → Nat} {P : Option Value → StI → StL → Prop} {I : StI} {L : StL} {v0 : Int32}  (h : Ho (f_X5_isNumber v0) (kr_X5_isNumber P I L)) : k_Met l ad 2 yX5_isNumber cX5_isNumber 1 (some .boolean) [.int v0] I L P := by
  refine k_enter (by decide +kernel) (Nat.le_of_ble_eq_true rfl) (fun X hl hx hQ => ?_)
  clear hl
  have hx : Ok X cX5_isNumber RX5 1 (some .boolean) 2 := hx
  show J X ad 1 I L 0 [(0, .int v0)] []
  unfold f_X5_isNumber at h
  refine J_iload_n hx dX5_isNumber_0 0 rfl ?_
  refine J_i2l hx dX5_isNumber_1 ?_
  refine J_lconst (v := (1 : Int64)) hx dX5_isNumber_2 (by decide) ?_
  refine J_ldc2 hx cn_RX5_179 dX5_isNumber_3 ?_
  obtain ⟨t1, e2, h⟩ := Ho_bind h
  refine J_callSi hx lkS_RX5_75 [.long (v0).toInt64, .long (1 : Int64), .long (9 : Int64)] [] rfl rfl (Nat.le_of_ble_eq_true rfl) (Nat.le_of_ble_eq_true rfl) (s_X5_in  ⟨t1, e2, ⟨rfl, rfl, rfl⟩⟩) dX5_isNumber_6 ?_
  obtain ⟨z3, h⟩ := Ho_bo h
  have h := Ho_some h
  exact J_zret hx hQ dX5_isNumber_9 z3 h
abbrev kr_X5_isPlace (P : Option Value → StI → StL → Prop) (I : StI) (L : StL) : Int32 → Prop := fun t => P (some (.int t)) I L
def f_X5_isPlace (v0 : Int32) : Option (Int32) :=
  Option.bind (f_X5_in (v0).toInt64 (0 : Int64) (2 : Int64)) (fun t1 => k_bo t1 (some (t1)))
set_option maxRecDepth 100000 in
set_option maxHeartbeats 4000000 in
theorem s_X5_isPlace {l : Launch} {ad : Nat → Nat} {P : Option Value → StI → StL → Prop} {I : StI} {L : StL} {v0 : Int32}  (h : Ho (f_X5_isPlace v0) (kr_X5_isPlace P I L)) : k_Met l ad 2 yX5_isPlace cX5_isPlace 1 (some .boolean) [.int v0] I L P := by
  refine k_enter (by decide +kernel) (Nat.le_of_ble_eq_true rfl) (fun X hl hx hQ => ?_)
  clear hl
  have hx : Ok X cX5_isPlace RX5 1 (some .boolean) 2 := hx
  show J X ad 1 I L 0 [(0, .int v0)] []
  unfold f_X5_isPlace at h
  refine J_iload_n hx dX5_isPlace_0 0 rfl ?_
  refine J_i2l hx dX5_isPlace_1 ?_
  refine J_lconst (v := (0 : Int64)) hx dX5_isPlace_2 (by decide) ?_
  refine J_ldc2 hx cn_RX5_184 dX5_isPlace_3 ?_
  obtain ⟨t1, e2, h⟩ := Ho_bind h
  refine J_callSi hx lkS_RX5_75 [.long (v0).toInt64, .long (0 : Int64), .long (2 : Int64)] [] rfl rfl (Nat.le_of_ble_eq_true rfl) (Nat.le_of_ble_eq_true rfl) (s_X5_in  ⟨t1, e2, ⟨rfl, rfl, rfl⟩⟩) dX5_isPlace_6 ?_
  obtain ⟨z3, h⟩ := Ho_bo h
  have h := Ho_some h
  exact J_zret hx hQ dX5_isPlace_9 z3 h
abbrev kr_X5_keep (P : Option Value → StI → StL → Prop) (L : StL) : Int32 × StI → Prop := fun t => P (some (.int t.1)) t.2 L
def f_X5_keep (v1 : Int32) (I : StI) : Option (Int32 × StI) :=
  Option.bind (f_X5_isPlace v1) (fun t1 => (if t1 = 0 then some ((-1 : Int32), I) else (if (I 63 4) = 0 then some ((-4 : Int32), I) else Option.bind (f_X5_copies 70 (0 : Int32) 74 ((1641 : Int32) * v1) (40 : Int32) I) (fun t5 => k_gd (((1641 : Int32) * v1) + (40 : Int32)) 4923 (k_let (k_up t5 74 (((1641 : Int32) * v1) + (40 : Int32)).toNatClampNeg (t5 63 11)) (fun I8 => Option.bind (f_X5_copies 73 (0 : Int32) 74 ((((1641 : Int32) * v1) + (40 : Int32)) + (1 : Int32)) (1600 : Int32) I8) (fun t9 => k_gd v1 3 (k_let (k_up t9 75 v1.toNatClampNeg (vp_nar .boolean (1 : Int32))) (fun I12 => some ((I12 63 11), I12))))))))))
set_option maxRecDepth 100000 in
set_option maxHeartbeats 4000000 in
theorem s_X5_keep {l : Launch} {ad : Nat → Nat} {P : Option Value → StI → StL → Prop} {I : StI} {L : StL} {v1 : Int32}  (h : Ho (f_X5_keep v1 I) (kr_X5_keep P L)) : k_Met l ad 3 yX5_keep cX5_keep 2 (some .int) [.ref (ad 63), .int v1] I L P := by
  refine k_enter (by decide +kernel) (Nat.le_of_ble_eq_true rfl) (fun X hl hx hQ => ?_)
  clear hl
  have hx : Ok X cX5_keep RX5 2 (some .int) 3 := hx
  show J X ad 2 I L 0 [(0, .ref (ad 63)), (1, .int v1)] []
  unfold f_X5_keep at h
  refine J_iload_n hx dX5_keep_0 1 rfl ?_
  obtain ⟨t1, e2, h⟩ := Ho_bind h
  refine J_callSi hx lkS_RX5_186 [.int v1] [] rfl rfl (Nat.le_of_ble_eq_true rfl) (Nat.le_of_ble_eq_true rfl) (s_X5_isPlace  ⟨t1, e2, ⟨rfl, rfl, rfl⟩⟩) dX5_keep_1 ?_
  refine J_if_ne hx dX5_keep_4 9 (by decide) (fun c3 => ?_) (fun c3 => ?_)
  · have h := Ho_f c3 h
    refine J_aload_n hx dX5_keep_9 0 rfl ?_
    refine J_getI hx fl_RX5_115 (rfl : k_sh 63 = (5, k_N 5)) rfl dX5_keep_10 ?_
    refine J_if_ne hx dX5_keep_13 19 (by decide) (fun c4 => ?_) (fun c4 => ?_)
    · have h := Ho_f c4 h
      refine J_aload_n hx dX5_keep_19 0 rfl ?_
      refine J_getR (q := 70) hx fl_RX5_28 (rfl : k_sh 63 = (5, k_N 5)) rfl rfl dX5_keep_20 ?_
      refine J_iconst (v := (0 : Int32)) hx dX5_keep_23 (by decide) ?_
      refine J_aload_n hx dX5_keep_24 0 rfl ?_
      refine J_getR (q := 74) hx fl_RX5_40 (rfl : k_sh 63 = (5, k_N 5)) rfl rfl dX5_keep_25 ?_
      refine J_sipush (v := (1641 : Int32)) hx dX5_keep_28 (by decide) ?_
      refine J_iload_n hx dX5_keep_31 1 rfl ?_
      refine J_imul hx dX5_keep_32 ?_
      refine J_bipush (v := (40 : Int32)) hx dX5_keep_33 (by decide) ?_
      obtain ⟨t5, e6, h⟩ := Ho_bind h
      refine J_callSv hx lkS_RX5_118 [.ref (ad 70), .int (0 : Int32), .ref (ad 74), .int ((1641 : Int32) * v1), .int (40 : Int32)] [] rfl rfl (Nat.le_of_ble_eq_true rfl) (Nat.le_of_ble_eq_true rfl) (s_X5_copies (congrArg Prod.fst (rfl : k_sh 70 = (10, 40))) (congrArg Prod.fst (rfl : k_sh 74 = (10, 4923))) ⟨t5, e6, ⟨rfl, rfl, rfl⟩⟩) dX5_keep_35 ?_
      refine J_aload_n hx dX5_keep_38 0 rfl ?_
      refine J_getR (q := 74) hx fl_RX5_40 (rfl : k_sh 63 = (5, k_N 5)) rfl rfl dX5_keep_39 ?_
      refine J_sipush (v := (1641 : Int32)) hx dX5_keep_42 (by decide) ?_
      refine J_iload_n hx dX5_keep_45 1 rfl ?_
      refine J_imul hx dX5_keep_46 ?_
      refine J_bipush (v := (40 : Int32)) hx dX5_keep_47 (by decide) ?_
      refine J_iadd hx dX5_keep_49 ?_
      refine J_aload_n hx dX5_keep_50 0 rfl ?_
      refine J_getI hx fl_RX5_126 (rfl : k_sh 63 = (5, k_N 5)) rfl dX5_keep_51 ?_
      obtain ⟨b7, h⟩ := Ho_gd h
      obtain ⟨I8, hI8, h⟩ := Ho_let h
      refine J_iast hx (rfl : k_sh 74 = (10, 4923)) b7 dX5_keep_54 hI8 ?_
      refine J_aload_n hx dX5_keep_55 0 rfl ?_
      refine J_getR (q := 73) hx fl_RX5_37 (rfl : k_sh 63 = (5, k_N 5)) rfl rfl dX5_keep_56 ?_
      refine J_iconst (v := (0 : Int32)) hx dX5_keep_59 (by decide) ?_
      refine J_aload_n hx dX5_keep_60 0 rfl ?_
      refine J_getR (q := 74) hx fl_RX5_40 (rfl : k_sh 63 = (5, k_N 5)) rfl rfl dX5_keep_61 ?_
      refine J_sipush (v := (1641 : Int32)) hx dX5_keep_64 (by decide) ?_
      refine J_iload_n hx dX5_keep_67 1 rfl ?_
      refine J_imul hx dX5_keep_68 ?_
      refine J_bipush (v := (40 : Int32)) hx dX5_keep_69 (by decide) ?_
      refine J_iadd hx dX5_keep_71 ?_
      refine J_iconst (v := (1 : Int32)) hx dX5_keep_72 (by decide) ?_
      refine J_iadd hx dX5_keep_73 ?_
      refine J_sipush (v := (1600 : Int32)) hx dX5_keep_74 (by decide) ?_
      obtain ⟨t9, e10, h⟩ := Ho_bind h
      refine J_callSv hx lkS_RX5_118 [.ref (ad 73), .int (0 : Int32), .ref (ad 74), .int ((((1641 : Int32) * v1) + (40 : Int32)) + (1 : Int32)), .int (1600 : Int32)] [] rfl rfl (Nat.le_of_ble_eq_true rfl) (Nat.le_of_ble_eq_true rfl) (s_X5_copies (congrArg Prod.fst (rfl : k_sh 73 = (10, 1600))) (congrArg Prod.fst (rfl : k_sh 74 = (10, 4923))) ⟨t9, e10, ⟨rfl, rfl, rfl⟩⟩) dX5_keep_77 ?_
      refine J_aload_n hx dX5_keep_80 0 rfl ?_
      refine J_getR (q := 75) hx fl_RX5_43 (rfl : k_sh 63 = (5, k_N 5)) rfl rfl dX5_keep_81 ?_
      refine J_iload_n hx dX5_keep_84 1 rfl ?_
      refine J_iconst (v := (1 : Int32)) hx dX5_keep_85 (by decide) ?_
      obtain ⟨b11, h⟩ := Ho_gd h
      obtain ⟨I12, hI12, h⟩ := Ho_let h
      refine J_zast hx (rfl : k_sh 75 = (12, 3)) b11 dX5_keep_86 hI12 ?_
      refine J_aload_n hx dX5_keep_87 0 rfl ?_
      refine J_getI hx fl_RX5_126 (rfl : k_sh 63 = (5, k_N 5)) rfl dX5_keep_88 ?_
      have h := Ho_some h
      exact J_iret hx hQ dX5_keep_91 h
    · have h := Ho_t c4 h
      refine J_bipush (v := (-4 : Int32)) hx dX5_keep_16 (by decide) ?_
      have h := Ho_some h
      exact J_iret hx hQ dX5_keep_18 h
  · have h := Ho_t c3 h
    refine J_iconst (v := (-1 : Int32)) hx dX5_keep_7 (by decide) ?_
    have h := Ho_some h
    exact J_iret hx hQ dX5_keep_8 h
abbrev kr_X5_seen (P : Option Value → StI → StL → Prop) (I : StI) (L : StL) : Int32 → Prop := fun t => P (some (.int t)) I L
abbrev g_X5_seen_L32 (X : k_C) (ad : Nat → Nat) (I : StI) (L : StL) (v1 : Int32) : (Int32) → Prop := fun s => J X ad 3 I L 32 [(0, .ref (ad 63)), (1, .int v1), (2, .int s)] []
def f_X5_seen_L32_b (v1 : Int32) (v2 : Int32) (I : StI) : Option ((Int32) ⊕ (Int32)) :=
  k_gd v1 6 ((if (I 64 v1.toNatClampNeg) ≤ v2 then some (.inr ((0 : Int32))) else k_gd (((40 : Int32) * v1) + v2) 240 (Option.bind (f_X5_in ((I 65 (((40 : Int32) * v1) + v2).toNatClampNeg)).toInt64 (0 : Int64) (7 : Int64)) (fun t10 => (if t10 = 0 then some (.inr ((3 : Int32))) else k_let (v2 + (1 : Int32)) (fun x13 => some (.inl (x13))))))))
def f_X5_seen_L32 (v1 : Int32) (I : StI) (n : Nat) (v2 : Int32) : Option (Int32) :=
  k_loop (fun s => f_X5_seen_L32_b v1 s I) n (v2)
set_option maxRecDepth 100000 in
set_option maxHeartbeats 4000000 in
theorem s_X5_seen_L32_b {X : k_C} {ad : Nat → Nat} {P : Option Value → StI → StL → Prop} {I : StI} {L : StL} (hx : Ok X cX5_seen RX5 3 (some .int) 2) (hQ : OkQ X ad P)  {v1 : Int32} {v2 : Int32}  (h : Ho (f_X5_seen_L32_b v1 v2 I) (Sum.elim (g_X5_seen_L32 X ad I L v1) (kr_X5_seen P I L))) : J X ad 3 I L 32 [(0, .ref (ad 63)), (1, .int v1), (2, .int v2)] [] := by
  unfold f_X5_seen_L32_b at h
  refine J_iload_n hx dX5_seen_32 2 rfl ?_
  refine J_aload_n hx dX5_seen_33 0 rfl ?_
  refine J_getR (q := 64) hx fl_RX5_7 (rfl : k_sh 63 = (5, k_N 5)) rfl rfl dX5_seen_34 ?_
  refine J_iload_n hx dX5_seen_37 1 rfl ?_
  obtain ⟨b7, h⟩ := Ho_gd h
  refine J_iald hx (rfl : k_sh 64 = (10, 6)) b7 dX5_seen_38 ?_
  refine J_ic_ge hx dX5_seen_39 72 (by decide) (fun c8 => ?_) (fun c8 => ?_)
  · have h := Ho_t c8 h
    refine J_iconst (v := (0 : Int32)) hx dX5_seen_72 (by decide) ?_
    have h := Ho_some h
    exact J_iret hx hQ dX5_seen_73 h
  · have h := Ho_f c8 h
    refine J_aload_n hx dX5_seen_42 0 rfl ?_
    refine J_getR (q := 65) hx fl_RX5_13 (rfl : k_sh 63 = (5, k_N 5)) rfl rfl dX5_seen_43 ?_
    refine J_bipush (v := (40 : Int32)) hx dX5_seen_46 (by decide) ?_
    refine J_iload_n hx dX5_seen_48 1 rfl ?_
    refine J_imul hx dX5_seen_49 ?_
    refine J_iload_n hx dX5_seen_50 2 rfl ?_
    refine J_iadd hx dX5_seen_51 ?_
    obtain ⟨b9, h⟩ := Ho_gd h
    refine J_iald hx (rfl : k_sh 65 = (10, 240)) b9 dX5_seen_52 ?_
    refine J_i2l hx dX5_seen_53 ?_
    refine J_lconst (v := (0 : Int64)) hx dX5_seen_54 (by decide) ?_
    refine J_ldc2 hx cn_RX5_177 dX5_seen_55 ?_
    obtain ⟨t10, e11, h⟩ := Ho_bind h
    refine J_callSi hx lkS_RX5_75 [.long ((I 65 (((40 : Int32) * v1) + v2).toNatClampNeg)).toInt64, .long (0 : Int64), .long (7 : Int64)] [] rfl rfl (Nat.le_of_ble_eq_true rfl) (Nat.le_of_ble_eq_true rfl) (s_X5_in  ⟨t10, e11, ⟨rfl, rfl, rfl⟩⟩) dX5_seen_58 ?_
    refine J_if_ne hx dX5_seen_61 66 (by decide) (fun c12 => ?_) (fun c12 => ?_)
    · have h := Ho_f c12 h
      obtain ⟨x13, hx13, h⟩ := Ho_let h
      refine J_iinc (x := x13) (lv' := [(2, .int x13), (0, .ref (ad 63)), (1, .int v1)]) hx dX5_seen_66 2 rfl (by rw [hx13]; rfl) (by decide) rfl ?_
      refine J_goto hx dX5_seen_69 32 (by decide) ?_
      refine J_sub (lv' := [(0, .ref (ad 63)), (1, .int v1), (2, .int x13)]) hx [1, 2, 0] rfl ?_
      have h := Ho_some h
      exact h
    · have h := Ho_t c12 h
      refine J_iconst (v := (3 : Int32)) hx dX5_seen_64 (by decide) ?_
      have h := Ho_some h
      exact J_iret hx hQ dX5_seen_65 h
set_option maxRecDepth 100000 in
set_option maxHeartbeats 4000000 in
theorem s_X5_seen_L32 {X : k_C} {ad : Nat → Nat} {P : Option Value → StI → StL → Prop} {I : StI} {L : StL} (hx : Ok X cX5_seen RX5 3 (some .int) 2) (hQ : OkQ X ad P)  {v1 : Int32} {v2 : Int32}  (n : Nat) (h : Ho (f_X5_seen_L32 v1 I n v2) (kr_X5_seen P I L)) : J X ad 3 I L 32 [(0, .ref (ad 63)), (1, .int v1), (2, .int v2)] [] := by
  exact k_loop_ho (G := g_X5_seen_L32 X ad I L v1) (fun s hs => s_X5_seen_L32_b hx hQ  hs) n (v2) h
def f_X5_seen (v1 : Int32) (I : StI) : Option (Int32) :=
  k_gd v1 6 ((if 0 ≤ (I 64 v1.toNatClampNeg) then k_gd v1 6 (Option.bind (f_X5_in ((I 64 v1.toNatClampNeg)).toInt64 (1 : Int64) (20 : Int64)) (fun t4 => (if t4 = 0 then some ((5 : Int32)) else f_X5_seen_L32 v1 I k_fu (0 : Int32)))) else some ((1 : Int32))))
set_option maxRecDepth 100000 in
set_option maxHeartbeats 4000000 in
theorem s_X5_seen {l : Launch} {ad : Nat → Nat} {P : Option Value → StI → StL → Prop} {I : StI} {L : StL} {v1 : Int32}  (h : Ho (f_X5_seen v1 I) (kr_X5_seen P I L)) : k_Met l ad 2 yX5_seen cX5_seen 3 (some .int) [.ref (ad 63), .int v1] I L P := by
  refine k_enter (by decide +kernel) (Nat.le_of_ble_eq_true rfl) (fun X hl hx hQ => ?_)
  clear hl
  have hx : Ok X cX5_seen RX5 3 (some .int) 2 := hx
  show J X ad 3 I L 0 [(0, .ref (ad 63)), (1, .int v1)] []
  unfold f_X5_seen at h
  refine J_aload_n hx dX5_seen_0 0 rfl ?_
  refine J_getR (q := 64) hx fl_RX5_7 (rfl : k_sh 63 = (5, k_N 5)) rfl rfl dX5_seen_1 ?_
  refine J_iload_n hx dX5_seen_4 1 rfl ?_
  obtain ⟨b1, h⟩ := Ho_gd h
  refine J_iald hx (rfl : k_sh 64 = (10, 6)) b1 dX5_seen_5 ?_
  refine J_if_ge hx dX5_seen_6 11 (by decide) (fun c2 => ?_) (fun c2 => ?_)
  · have h := Ho_t c2 h
    refine J_aload_n hx dX5_seen_11 0 rfl ?_
    refine J_getR (q := 64) hx fl_RX5_7 (rfl : k_sh 63 = (5, k_N 5)) rfl rfl dX5_seen_12 ?_
    refine J_iload_n hx dX5_seen_15 1 rfl ?_
    obtain ⟨b3, h⟩ := Ho_gd h
    refine J_iald hx (rfl : k_sh 64 = (10, 6)) b3 dX5_seen_16 ?_
    refine J_i2l hx dX5_seen_17 ?_
    refine J_lconst (v := (1 : Int64)) hx dX5_seen_18 (by decide) ?_
    refine J_ldc2 hx cn_RX5_206 dX5_seen_19 ?_
    obtain ⟨t4, e5, h⟩ := Ho_bind h
    refine J_callSi hx lkS_RX5_75 [.long ((I 64 v1.toNatClampNeg)).toInt64, .long (1 : Int64), .long (20 : Int64)] [] rfl rfl (Nat.le_of_ble_eq_true rfl) (Nat.le_of_ble_eq_true rfl) (s_X5_in  ⟨t4, e5, ⟨rfl, rfl, rfl⟩⟩) dX5_seen_22 ?_
    refine J_if_ne hx dX5_seen_25 30 (by decide) (fun c6 => ?_) (fun c6 => ?_)
    · have h := Ho_f c6 h
      refine J_iconst (v := (0 : Int32)) hx dX5_seen_30 (by decide) ?_
      refine J_istore_n (x := (0 : Int32)) (lv' := [(2, .int (0 : Int32)), (0, .ref (ad 63)), (1, .int v1)]) hx dX5_seen_31 rfl (by decide) rfl ?_
      refine J_sub (lv' := [(0, .ref (ad 63)), (1, .int v1), (2, .int (0 : Int32))]) hx [1, 2, 0] rfl ?_
      exact s_X5_seen_L32 hx hQ  k_fu h
    · have h := Ho_t c6 h
      refine J_iconst (v := (5 : Int32)) hx dX5_seen_28 (by decide) ?_
      have h := Ho_some h
      exact J_iret hx hQ dX5_seen_29 h
  · have h := Ho_f c2 h
    refine J_iconst (v := (1 : Int32)) hx dX5_seen_9 (by decide) ?_
    have h := Ho_some h
    exact J_iret hx hQ dX5_seen_10 h
abbrev kr_X5_kindsBy (P : Option Value → StI → StL → Prop) (L : StL) : Int32 × StI → Prop := fun t => P (some (.int t.1)) t.2 L
abbrev g_X5_kindsBy_L9 (X : k_C) (ad : Nat → Nat) (L : StL) (v1 : Int32) (v2 : Int32) : (Int32 × Int32 × StI) → Prop := fun s => J X ad 5 s.2.2 L 9 [(0, .ref (ad 63)), (1, .int v1), (2, .int v2), (3, .int s.1), (4, .int s.2.1)] []
def f_X5_kindsBy_j45 (v1 : Int32) (v2 : Int32) (v4 : Int32) (s0 : Int32) (s1 : Int32) (I : StI) : Option ((Int32 × Int32 × StI) ⊕ (Int32 × StI)) :=
  k_let (s0 ||| s1) (fun x11 => k_let (v4 + (1 : Int32)) (fun x12 => some (.inl (x11, x12, I))))
set_option maxRecDepth 100000 in
set_option maxHeartbeats 4000000 in
theorem s_X5_kindsBy_j45 {X : k_C} {ad : Nat → Nat} {P : Option Value → StI → StL → Prop} {I : StI} {L : StL} (hx : Ok X cX5_kindsBy RX5 5 (some .int) 6) (hQ : OkQ X ad P)  {v1 : Int32} {v2 : Int32} {v4 : Int32} {s0 : Int32} {s1 : Int32}  (h : Ho (f_X5_kindsBy_j45 v1 v2 v4 s0 s1 I) (Sum.elim (g_X5_kindsBy_L9 X ad L v1 v2) (kr_X5_kindsBy P L))) : J X ad 5 I L 45 [(0, .ref (ad 63)), (1, .int v1), (2, .int v2), (4, .int v4)] [.int s1, .int s0] := by
  unfold f_X5_kindsBy_j45 at h
  refine J_ior hx dX5_kindsBy_45 ?_
  obtain ⟨x11, hx11, h⟩ := Ho_let h
  refine J_istore_n (x := x11) (lv' := [(3, .int x11), (0, .ref (ad 63)), (1, .int v1), (2, .int v2), (4, .int v4)]) hx dX5_kindsBy_46 hx11 (by decide) rfl ?_
  obtain ⟨x12, hx12, h⟩ := Ho_let h
  refine J_iinc (x := x12) (lv' := [(4, .int x12), (3, .int x11), (0, .ref (ad 63)), (1, .int v1), (2, .int v2)]) hx dX5_kindsBy_47 4 rfl (by rw [hx12]; rfl) (by decide) rfl ?_
  refine J_goto hx dX5_kindsBy_50 9 (by decide) ?_
  refine J_sub (lv' := [(0, .ref (ad 63)), (1, .int v1), (2, .int v2), (3, .int x11), (4, .int x12)]) hx [2, 3, 4, 1, 0] rfl ?_
  have h := Ho_some h
  exact h
def f_X5_kindsBy_L9_b (v1 : Int32) (v2 : Int32) (v3 : Int32) (v4 : Int32) (I : StI) : Option ((Int32 × Int32 × StI) ⊕ (Int32 × StI)) :=
  (if (6 : Int32) ≤ v4 then some (.inr (v3, I)) else k_gd v1 7 (k_let (k_up I 72 v1.toNatClampNeg v4) (fun I5 => Option.bind (f_X5_laysAside I5) (fun t6 => Option.bind (f_X5_comesSo v2 t6) (fun t8 => (if t8.1 = 0 then f_X5_kindsBy_j45 v1 v2 v4 v3 (0 : Int32) t8.2 else f_X5_kindsBy_j45 v1 v2 v4 v3 ((1 : Int32) <<< (v4 &&& 31)) t8.2))))))
def f_X5_kindsBy_L9 (v1 : Int32) (v2 : Int32) (n : Nat) (v3 : Int32) (v4 : Int32) (I : StI) : Option (Int32 × StI) :=
  k_loop (fun s => f_X5_kindsBy_L9_b v1 v2 s.1 s.2.1 s.2.2) n (v3, v4, I)
set_option maxRecDepth 100000 in
set_option maxHeartbeats 4000000 in
theorem s_X5_kindsBy_L9_b {X : k_C} {ad : Nat → Nat} {P : Option Value → StI → StL → Prop} {I : StI} {L : StL} (hx : Ok X cX5_kindsBy RX5 5 (some .int) 6) (hQ : OkQ X ad P)  {v1 : Int32} {v2 : Int32} {v3 : Int32} {v4 : Int32}  (h : Ho (f_X5_kindsBy_L9_b v1 v2 v3 v4 I) (Sum.elim (g_X5_kindsBy_L9 X ad L v1 v2) (kr_X5_kindsBy P L))) : J X ad 5 I L 9 [(0, .ref (ad 63)), (1, .int v1), (2, .int v2), (3, .int v3), (4, .int v4)] [] := by
  unfold f_X5_kindsBy_L9_b at h
  refine J_iload hx dX5_kindsBy_9 4 rfl ?_
  refine J_bipush (v := (6 : Int32)) hx dX5_kindsBy_11 (by decide) ?_
  refine J_ic_ge hx dX5_kindsBy_13 53 (by decide) (fun c3 => ?_) (fun c3 => ?_)
  · have h := Ho_t c3 h
    refine J_iload_n hx dX5_kindsBy_53 3 rfl ?_
    have h := Ho_some h
    exact J_iret hx hQ dX5_kindsBy_54 h
  · have h := Ho_f c3 h
    refine J_aload_n hx dX5_kindsBy_16 0 rfl ?_
    refine J_getR (q := 72) hx fl_RX5_34 (rfl : k_sh 63 = (5, k_N 5)) rfl rfl dX5_kindsBy_17 ?_
    refine J_iload_n hx dX5_kindsBy_20 1 rfl ?_
    refine J_iload hx dX5_kindsBy_21 4 rfl ?_
    obtain ⟨b4, h⟩ := Ho_gd h
    obtain ⟨I5, hI5, h⟩ := Ho_let h
    refine J_iast hx (rfl : k_sh 72 = (10, 7)) b4 dX5_kindsBy_23 hI5 ?_
    refine J_aload_n hx dX5_kindsBy_24 0 rfl ?_
    obtain ⟨t6, e7, h⟩ := Ho_bind h
    refine J_callVv hx lkV_RX5_195 (rfl : k_sh 63 = (5, k_N 5)) [] [] rfl rfl (Nat.le_of_ble_eq_true rfl) (Nat.le_of_ble_eq_true rfl) (s_X5_laysAside  ⟨t6, e7, ⟨rfl, rfl, rfl⟩⟩) dX5_kindsBy_25 ?_
    refine J_iload_n hx dX5_kindsBy_28 3 rfl ?_
    refine J_aload_n hx dX5_kindsBy_29 0 rfl ?_
    refine J_iload_n hx dX5_kindsBy_30 2 rfl ?_
    obtain ⟨t8, e9, h⟩ := Ho_bind h
    refine J_callVi hx lkV_RX5_211 (rfl : k_sh 63 = (5, k_N 5)) [.int v2] [.int v3] rfl rfl (Nat.le_of_ble_eq_true rfl) (Nat.le_of_ble_eq_true rfl) (s_X5_comesSo  ⟨t8, e9, ⟨rfl, rfl, rfl⟩⟩) dX5_kindsBy_31 ?_
    refine J_if_eq hx dX5_kindsBy_34 44 (by decide) (fun c10 => ?_) (fun c10 => ?_)
    · have h := Ho_t c10 h
      refine J_iconst (v := (0 : Int32)) hx dX5_kindsBy_44 (by decide) ?_
      refine J_sub (lv' := [(0, .ref (ad 63)), (1, .int v1), (2, .int v2), (4, .int v4)]) hx [0, 1, 2, 4] rfl ?_
      exact s_X5_kindsBy_j45 hx hQ  h
    · have h := Ho_f c10 h
      refine J_iconst (v := (1 : Int32)) hx dX5_kindsBy_37 (by decide) ?_
      refine J_iload hx dX5_kindsBy_38 4 rfl ?_
      refine J_ishl hx dX5_kindsBy_40 ?_
      refine J_goto hx dX5_kindsBy_41 45 (by decide) ?_
      refine J_sub (lv' := [(0, .ref (ad 63)), (1, .int v1), (2, .int v2), (4, .int v4)]) hx [0, 1, 2, 4] rfl ?_
      exact s_X5_kindsBy_j45 hx hQ  h
set_option maxRecDepth 100000 in
set_option maxHeartbeats 4000000 in
theorem s_X5_kindsBy_L9 {X : k_C} {ad : Nat → Nat} {P : Option Value → StI → StL → Prop} {I : StI} {L : StL} (hx : Ok X cX5_kindsBy RX5 5 (some .int) 6) (hQ : OkQ X ad P)  {v1 : Int32} {v2 : Int32} {v3 : Int32} {v4 : Int32}  (n : Nat) (h : Ho (f_X5_kindsBy_L9 v1 v2 n v3 v4 I) (kr_X5_kindsBy P L)) : J X ad 5 I L 9 [(0, .ref (ad 63)), (1, .int v1), (2, .int v2), (3, .int v3), (4, .int v4)] [] := by
  exact k_loop_ho (G := g_X5_kindsBy_L9 X ad L v1 v2) (fun s hs => s_X5_kindsBy_L9_b hx hQ  hs) n (v3, v4, I) h
def f_X5_kindsBy (v1 : Int32) (v2 : Int32) (I : StI) : Option (Int32 × StI) :=
  Option.bind (f_X5_asKinds I) (fun t1 => f_X5_kindsBy_L9 v1 v2 k_fu (0 : Int32) (0 : Int32) t1)
set_option maxRecDepth 100000 in
set_option maxHeartbeats 4000000 in
theorem s_X5_kindsBy {l : Launch} {ad : Nat → Nat} {P : Option Value → StI → StL → Prop} {I : StI} {L : StL} {v1 : Int32} {v2 : Int32}  (h : Ho (f_X5_kindsBy v1 v2 I) (kr_X5_kindsBy P L)) : k_Met l ad 6 yX5_kindsBy cX5_kindsBy 5 (some .int) [.ref (ad 63), .int v1, .int v2] I L P := by
  refine k_enter (by decide +kernel) (Nat.le_of_ble_eq_true rfl) (fun X hl hx hQ => ?_)
  clear hl
  have hx : Ok X cX5_kindsBy RX5 5 (some .int) 6 := hx
  show J X ad 5 I L 0 [(0, .ref (ad 63)), (1, .int v1), (2, .int v2)] []
  unfold f_X5_kindsBy at h
  refine J_aload_n hx dX5_kindsBy_0 0 rfl ?_
  obtain ⟨t1, e2, h⟩ := Ho_bind h
  refine J_callVv hx lkV_RX5_174 (rfl : k_sh 63 = (5, k_N 5)) [] [] rfl rfl (Nat.le_of_ble_eq_true rfl) (Nat.le_of_ble_eq_true rfl) (s_X5_asKinds  ⟨t1, e2, ⟨rfl, rfl, rfl⟩⟩) dX5_kindsBy_1 ?_
  refine J_iconst (v := (0 : Int32)) hx dX5_kindsBy_4 (by decide) ?_
  refine J_istore_n (x := (0 : Int32)) (lv' := [(3, .int (0 : Int32)), (0, .ref (ad 63)), (1, .int v1), (2, .int v2)]) hx dX5_kindsBy_5 rfl (by decide) rfl ?_
  refine J_iconst (v := (0 : Int32)) hx dX5_kindsBy_6 (by decide) ?_
  refine J_istore (x := (0 : Int32)) (lv' := [(4, .int (0 : Int32)), (3, .int (0 : Int32)), (0, .ref (ad 63)), (1, .int v1), (2, .int v2)]) hx dX5_kindsBy_7 rfl (by decide) rfl ?_
  refine J_sub (lv' := [(0, .ref (ad 63)), (1, .int v1), (2, .int v2), (3, .int (0 : Int32)), (4, .int (0 : Int32))]) hx [2, 3, 4, 1, 0] rfl ?_
  exact s_X5_kindsBy_L9 hx hQ  k_fu h
abbrev kr_X5_kinds (P : Option Value → StI → StL → Prop) (L : StL) : Int32 × StI → Prop := fun t => P (some (.int t.1)) t.2 L
def f_X5_kinds (v1 : Int32) (v2 : Int32) (I : StI) : Option (Int32 × StI) :=
  Option.bind (f_X5_isCaller v1 I) (fun t1 => (if t1 = 0 then some ((-1 : Int32), I) else Option.bind (f_X5_isRow v2) (fun t4 => (if t4 = 0 then some ((-1 : Int32), I) else Option.bind (f_X5_seen v2 I) (fun t7 => (if t7 ≤ 0 then Option.bind (f_X5_kindsBy v1 v2 I) (fun t10 => some (t10.1, t10.2)) else Option.bind (f_X5_found t7 I) (fun t12 => some (t12.1, t12.2))))))))
set_option maxRecDepth 100000 in
set_option maxHeartbeats 4000000 in
theorem s_X5_kinds {l : Launch} {ad : Nat → Nat} {P : Option Value → StI → StL → Prop} {I : StI} {L : StL} {v1 : Int32} {v2 : Int32}  (h : Ho (f_X5_kinds v1 v2 I) (kr_X5_kinds P L)) : k_Met l ad 7 yX5_kinds cX5_kinds 4 (some .int) [.ref (ad 63), .int v1, .int v2] I L P := by
  refine k_enter (by decide +kernel) (Nat.le_of_ble_eq_true rfl) (fun X hl hx hQ => ?_)
  clear hl
  have hx : Ok X cX5_kinds RX5 4 (some .int) 7 := hx
  show J X ad 4 I L 0 [(0, .ref (ad 63)), (1, .int v1), (2, .int v2)] []
  unfold f_X5_kinds at h
  refine J_aload_n hx dX5_kinds_0 0 rfl ?_
  refine J_iload_n hx dX5_kinds_1 1 rfl ?_
  obtain ⟨t1, e2, h⟩ := Ho_bind h
  refine J_callVi hx lkV_RX5_166 (rfl : k_sh 63 = (5, k_N 5)) [.int v1] [] rfl rfl (Nat.le_of_ble_eq_true rfl) (Nat.le_of_ble_eq_true rfl) (s_X5_isCaller  ⟨t1, e2, ⟨rfl, rfl, rfl⟩⟩) dX5_kinds_2 ?_
  refine J_if_eq hx dX5_kinds_5 15 (by decide) (fun c3 => ?_) (fun c3 => ?_)
  · have h := Ho_t c3 h
    refine J_iconst (v := (-1 : Int32)) hx dX5_kinds_15 (by decide) ?_
    have h := Ho_some h
    exact J_iret hx hQ dX5_kinds_16 h
  · have h := Ho_f c3 h
    refine J_iload_n hx dX5_kinds_8 2 rfl ?_
    obtain ⟨t4, e5, h⟩ := Ho_bind h
    refine J_callSi hx lkS_RX5_81 [.int v2] [] rfl rfl (Nat.le_of_ble_eq_true rfl) (Nat.le_of_ble_eq_true rfl) (s_X5_isRow  ⟨t4, e5, ⟨rfl, rfl, rfl⟩⟩) dX5_kinds_9 ?_
    refine J_if_ne hx dX5_kinds_12 17 (by decide) (fun c6 => ?_) (fun c6 => ?_)
    · have h := Ho_f c6 h
      refine J_aload_n hx dX5_kinds_17 0 rfl ?_
      refine J_iload_n hx dX5_kinds_18 2 rfl ?_
      obtain ⟨t7, e8, h⟩ := Ho_bind h
      refine J_callVi hx lkV_RX5_208 (rfl : k_sh 63 = (5, k_N 5)) [.int v2] [] rfl rfl (Nat.le_of_ble_eq_true rfl) (Nat.le_of_ble_eq_true rfl) (s_X5_seen  ⟨t7, e8, ⟨rfl, rfl, rfl⟩⟩) dX5_kinds_19 ?_
      refine J_istore_n (x := t7) (lv' := [(3, .int t7), (0, .ref (ad 63)), (1, .int v1), (2, .int v2)]) hx dX5_kinds_22 rfl (by decide) rfl ?_
      refine J_iload_n hx dX5_kinds_23 0 rfl ?_
      refine J_if_le hx dX5_kinds_24 35 (by decide) (fun c9 => ?_) (fun c9 => ?_)
      · have h := Ho_t c9 h
        refine J_aload_n hx dX5_kinds_35 1 rfl ?_
        refine J_iload_n hx dX5_kinds_36 2 rfl ?_
        refine J_iload_n hx dX5_kinds_37 3 rfl ?_
        obtain ⟨t10, e11, h⟩ := Ho_bind h
        refine J_callVi hx lkV_RX5_214 (rfl : k_sh 63 = (5, k_N 5)) [.int v1, .int v2] [] rfl rfl (Nat.le_of_ble_eq_true rfl) (Nat.le_of_ble_eq_true rfl) (s_X5_kindsBy  ⟨t10, e11, ⟨rfl, rfl, rfl⟩⟩) dX5_kinds_38 ?_
        have h := Ho_some h
        exact J_iret hx hQ dX5_kinds_41 h
      · have h := Ho_f c9 h
        refine J_aload_n hx dX5_kinds_27 1 rfl ?_
        refine J_iload_n hx dX5_kinds_28 0 rfl ?_
        obtain ⟨t12, e13, h⟩ := Ho_bind h
        refine J_callVi hx lkV_RX5_85 (rfl : k_sh 63 = (5, k_N 5)) [.int t7] [] rfl rfl (Nat.le_of_ble_eq_true rfl) (Nat.le_of_ble_eq_true rfl) (s_X5_found  ⟨t12, e13, ⟨rfl, rfl, rfl⟩⟩) dX5_kinds_29 ?_
        refine J_goto hx dX5_kinds_32 41 (by decide) ?_
        have h := Ho_some h
        exact J_iret hx hQ dX5_kinds_41 h
    · have h := Ho_t c6 h
      refine J_iconst (v := (-1 : Int32)) hx dX5_kinds_15 (by decide) ?_
      have h := Ho_some h
      exact J_iret hx hQ dX5_kinds_16 h
abbrev kr_X5_later (P : Option Value → StI → StL → Prop) (L : StL) : Int32 × StI → Prop := fun t => P (some (.int t.1)) t.2 L
def f_X5_later (v1 : Int32) (v2 : Int32) (I : StI) : Option (Int32 × StI) :=
  Option.bind (f_X5_isCaller v1 I) (fun t1 => (if t1 = 0 then some ((-1 : Int32), I) else Option.bind (f_X5_in (v2).toInt64 (0 : Int64) (60 : Int64)) (fun t4 => (if t4 = 0 then some ((-1 : Int32), I) else Option.bind (f_X5_asKinds I) (fun t7 => Option.bind (f_X5_laysAside t7) (fun t9 => Option.bind (f_X5_goesOn v2 (0 : Int32) t9) (fun t11 => k_gd ((12 : Int32) + v1) 40 (Option.bind (f_X5_answer (t11.2 71 ((12 : Int32) + v1).toNatClampNeg) t11.1 t11.2) (fun t14 => some (t14.1, t14.2))))))))))
set_option maxRecDepth 100000 in
set_option maxHeartbeats 4000000 in
theorem s_X5_later {l : Launch} {ad : Nat → Nat} {P : Option Value → StI → StL → Prop} {I : StI} {L : StL} {v1 : Int32} {v2 : Int32}  (h : Ho (f_X5_later v1 v2 I) (kr_X5_later P L)) : k_Met l ad 5 yX5_later cX5_later 4 (some .int) [.ref (ad 63), .int v1, .int v2] I L P := by
  refine k_enter (by decide +kernel) (Nat.le_of_ble_eq_true rfl) (fun X hl hx hQ => ?_)
  clear hl
  have hx : Ok X cX5_later RX5 4 (some .int) 5 := hx
  show J X ad 4 I L 0 [(0, .ref (ad 63)), (1, .int v1), (2, .int v2)] []
  unfold f_X5_later at h
  refine J_aload_n hx dX5_later_0 0 rfl ?_
  refine J_iload_n hx dX5_later_1 1 rfl ?_
  obtain ⟨t1, e2, h⟩ := Ho_bind h
  refine J_callVi hx lkV_RX5_166 (rfl : k_sh 63 = (5, k_N 5)) [.int v1] [] rfl rfl (Nat.le_of_ble_eq_true rfl) (Nat.le_of_ble_eq_true rfl) (s_X5_isCaller  ⟨t1, e2, ⟨rfl, rfl, rfl⟩⟩) dX5_later_2 ?_
  refine J_if_eq hx dX5_later_5 20 (by decide) (fun c3 => ?_) (fun c3 => ?_)
  · have h := Ho_t c3 h
    refine J_iconst (v := (-1 : Int32)) hx dX5_later_20 (by decide) ?_
    have h := Ho_some h
    exact J_iret hx hQ dX5_later_21 h
  · have h := Ho_f c3 h
    refine J_iload_n hx dX5_later_8 2 rfl ?_
    refine J_i2l hx dX5_later_9 ?_
    refine J_lconst (v := (0 : Int64)) hx dX5_later_10 (by decide) ?_
    refine J_ldc2 hx cn_RX5_193 dX5_later_11 ?_
    obtain ⟨t4, e5, h⟩ := Ho_bind h
    refine J_callSi hx lkS_RX5_75 [.long (v2).toInt64, .long (0 : Int64), .long (60 : Int64)] [] rfl rfl (Nat.le_of_ble_eq_true rfl) (Nat.le_of_ble_eq_true rfl) (s_X5_in  ⟨t4, e5, ⟨rfl, rfl, rfl⟩⟩) dX5_later_14 ?_
    refine J_if_ne hx dX5_later_17 22 (by decide) (fun c6 => ?_) (fun c6 => ?_)
    · have h := Ho_f c6 h
      refine J_aload_n hx dX5_later_22 0 rfl ?_
      obtain ⟨t7, e8, h⟩ := Ho_bind h
      refine J_callVv hx lkV_RX5_174 (rfl : k_sh 63 = (5, k_N 5)) [] [] rfl rfl (Nat.le_of_ble_eq_true rfl) (Nat.le_of_ble_eq_true rfl) (s_X5_asKinds  ⟨t7, e8, ⟨rfl, rfl, rfl⟩⟩) dX5_later_23 ?_
      refine J_aload_n hx dX5_later_26 0 rfl ?_
      obtain ⟨t9, e10, h⟩ := Ho_bind h
      refine J_callVv hx lkV_RX5_195 (rfl : k_sh 63 = (5, k_N 5)) [] [] rfl rfl (Nat.le_of_ble_eq_true rfl) (Nat.le_of_ble_eq_true rfl) (s_X5_laysAside  ⟨t9, e10, ⟨rfl, rfl, rfl⟩⟩) dX5_later_27 ?_
      refine J_aload_n hx dX5_later_30 0 rfl ?_
      refine J_iload_n hx dX5_later_31 2 rfl ?_
      refine J_iconst (v := (0 : Int32)) hx dX5_later_32 (by decide) ?_
      obtain ⟨t11, e12, h⟩ := Ho_bind h
      refine J_callVi hx lkV_RX5_198 (rfl : k_sh 63 = (5, k_N 5)) [.int v2, .int (0 : Int32)] [] rfl rfl (Nat.le_of_ble_eq_true rfl) (Nat.le_of_ble_eq_true rfl) (s_X5_goesOn  ⟨t11, e12, ⟨rfl, rfl, rfl⟩⟩) dX5_later_33 ?_
      refine J_istore_n (x := t11.1) (lv' := [(3, .int t11.1), (0, .ref (ad 63)), (1, .int v1), (2, .int v2)]) hx dX5_later_36 rfl (by decide) rfl ?_
      refine J_aload_n hx dX5_later_37 1 rfl ?_
      refine J_aload_n hx dX5_later_38 1 rfl ?_
      refine J_getR (q := 71) hx fl_RX5_31 (rfl : k_sh 63 = (5, k_N 5)) rfl rfl dX5_later_39 ?_
      refine J_bipush (v := (12 : Int32)) hx dX5_later_42 (by decide) ?_
      refine J_iload_n hx dX5_later_44 2 rfl ?_
      refine J_iadd hx dX5_later_45 ?_
      obtain ⟨b13, h⟩ := Ho_gd h
      refine J_iald hx (rfl : k_sh 71 = (10, 40)) b13 dX5_later_46 ?_
      refine J_iload_n hx dX5_later_47 0 rfl ?_
      obtain ⟨t14, e15, h⟩ := Ho_bind h
      refine J_callVi hx lkV_RX5_189 (rfl : k_sh 63 = (5, k_N 5)) [.int (t11.2 71 ((12 : Int32) + v1).toNatClampNeg), .int t11.1] [] rfl rfl (Nat.le_of_ble_eq_true rfl) (Nat.le_of_ble_eq_true rfl) (s_X5_answer  ⟨t14, e15, ⟨rfl, rfl, rfl⟩⟩) dX5_later_48 ?_
      have h := Ho_some h
      exact J_iret hx hQ dX5_later_51 h
    · have h := Ho_t c6 h
      refine J_iconst (v := (-1 : Int32)) hx dX5_later_20 (by decide) ?_
      have h := Ho_some h
      exact J_iret hx hQ dX5_later_21 h
abbrev kr_X5_lay (P : Option Value → StI → StL → Prop) (L : StL) : Int32 × StI → Prop := fun t => P (some (.int t.1)) t.2 L
def f_X5_lay (v1 : Int32) (v2 : Int32) (v3 : Int32) (I : StI) : Option (Int32 × StI) :=
  Option.bind (f_X5_isRow v1) (fun t1 => (if t1 = 0 then some ((-1 : Int32), I) else k_gd v1 6 ((if 0 ≤ (I 64 v1.toNatClampNeg) then k_gd v1 6 (Option.bind (f_X5_in (v2).toInt64 (0 : Int64) (((I 64 v1.toNatClampNeg) - (1 : Int32))).toInt64) (fun t7 => (if t7 = 0 then Option.bind (f_X5_found (2 : Int32) I) (fun t16 => some (t16.1, t16.2)) else k_gd (((40 : Int32) * v1) + v2) 240 (k_let (I 65 (((40 : Int32) * v1) + v2).toNatClampNeg) (fun x11 => k_gd (((40 : Int32) * v1) + v2) 240 (k_let (k_up I 65 (((40 : Int32) * v1) + v2).toNatClampNeg v3) (fun I13 => Option.bind (f_X5_tell x11 I13) (fun t14 => some (t14.1, t14.2))))))))) else Option.bind (f_X5_found (1 : Int32) I) (fun t18 => some (t18.1, t18.2))))))
set_option maxRecDepth 100000 in
set_option maxHeartbeats 4000000 in
theorem s_X5_lay {l : Launch} {ad : Nat → Nat} {P : Option Value → StI → StL → Prop} {I : StI} {L : StL} {v1 : Int32} {v2 : Int32} {v3 : Int32}  (h : Ho (f_X5_lay v1 v2 v3 I) (kr_X5_lay P L)) : k_Met l ad 3 yX5_lay cX5_lay 5 (some .int) [.ref (ad 63), .int v1, .int v2, .int v3] I L P := by
  refine k_enter (by decide +kernel) (Nat.le_of_ble_eq_true rfl) (fun X hl hx hQ => ?_)
  clear hl
  have hx : Ok X cX5_lay RX5 5 (some .int) 3 := hx
  show J X ad 5 I L 0 [(0, .ref (ad 63)), (1, .int v1), (2, .int v2), (3, .int v3)] []
  unfold f_X5_lay at h
  refine J_iload_n hx dX5_lay_0 1 rfl ?_
  obtain ⟨t1, e2, h⟩ := Ho_bind h
  refine J_callSi hx lkS_RX5_81 [.int v1] [] rfl rfl (Nat.le_of_ble_eq_true rfl) (Nat.le_of_ble_eq_true rfl) (s_X5_isRow  ⟨t1, e2, ⟨rfl, rfl, rfl⟩⟩) dX5_lay_1 ?_
  refine J_if_ne hx dX5_lay_4 9 (by decide) (fun c3 => ?_) (fun c3 => ?_)
  · have h := Ho_f c3 h
    refine J_aload_n hx dX5_lay_9 0 rfl ?_
    refine J_getR (q := 64) hx fl_RX5_7 (rfl : k_sh 63 = (5, k_N 5)) rfl rfl dX5_lay_10 ?_
    refine J_iload_n hx dX5_lay_13 1 rfl ?_
    obtain ⟨b4, h⟩ := Ho_gd h
    refine J_iald hx (rfl : k_sh 64 = (10, 6)) b4 dX5_lay_14 ?_
    refine J_if_ge hx dX5_lay_15 24 (by decide) (fun c5 => ?_) (fun c5 => ?_)
    · have h := Ho_t c5 h
      refine J_iload_n hx dX5_lay_24 2 rfl ?_
      refine J_i2l hx dX5_lay_25 ?_
      refine J_lconst (v := (0 : Int64)) hx dX5_lay_26 (by decide) ?_
      refine J_aload_n hx dX5_lay_27 0 rfl ?_
      refine J_getR (q := 64) hx fl_RX5_7 (rfl : k_sh 63 = (5, k_N 5)) rfl rfl dX5_lay_28 ?_
      refine J_iload_n hx dX5_lay_31 1 rfl ?_
      obtain ⟨b6, h⟩ := Ho_gd h
      refine J_iald hx (rfl : k_sh 64 = (10, 6)) b6 dX5_lay_32 ?_
      refine J_iconst (v := (1 : Int32)) hx dX5_lay_33 (by decide) ?_
      refine J_isub hx dX5_lay_34 ?_
      refine J_i2l hx dX5_lay_35 ?_
      obtain ⟨t7, e8, h⟩ := Ho_bind h
      refine J_callSi hx lkS_RX5_75 [.long (v2).toInt64, .long (0 : Int64), .long (((I 64 v1.toNatClampNeg) - (1 : Int32))).toInt64] [] rfl rfl (Nat.le_of_ble_eq_true rfl) (Nat.le_of_ble_eq_true rfl) (s_X5_in  ⟨t7, e8, ⟨rfl, rfl, rfl⟩⟩) dX5_lay_36 ?_
      refine J_if_ne hx dX5_lay_39 48 (by decide) (fun c9 => ?_) (fun c9 => ?_)
      · have h := Ho_f c9 h
        refine J_aload_n hx dX5_lay_48 0 rfl ?_
        refine J_getR (q := 65) hx fl_RX5_13 (rfl : k_sh 63 = (5, k_N 5)) rfl rfl dX5_lay_49 ?_
        refine J_bipush (v := (40 : Int32)) hx dX5_lay_52 (by decide) ?_
        refine J_iload_n hx dX5_lay_54 1 rfl ?_
        refine J_imul hx dX5_lay_55 ?_
        refine J_iload_n hx dX5_lay_56 2 rfl ?_
        refine J_iadd hx dX5_lay_57 ?_
        obtain ⟨b10, h⟩ := Ho_gd h
        refine J_iald hx (rfl : k_sh 65 = (10, 240)) b10 dX5_lay_58 ?_
        obtain ⟨x11, hx11, h⟩ := Ho_let h
        refine J_istore (x := x11) (lv' := [(4, .int x11), (0, .ref (ad 63)), (1, .int v1), (2, .int v2), (3, .int v3)]) hx dX5_lay_59 hx11 (by decide) rfl ?_
        refine J_aload_n hx dX5_lay_61 1 rfl ?_
        refine J_getR (q := 65) hx fl_RX5_13 (rfl : k_sh 63 = (5, k_N 5)) rfl rfl dX5_lay_62 ?_
        refine J_bipush (v := (40 : Int32)) hx dX5_lay_65 (by decide) ?_
        refine J_iload_n hx dX5_lay_67 2 rfl ?_
        refine J_imul hx dX5_lay_68 ?_
        refine J_iload_n hx dX5_lay_69 3 rfl ?_
        refine J_iadd hx dX5_lay_70 ?_
        refine J_iload_n hx dX5_lay_71 4 rfl ?_
        obtain ⟨b12, h⟩ := Ho_gd h
        obtain ⟨I13, hI13, h⟩ := Ho_let h
        refine J_iast hx (rfl : k_sh 65 = (10, 240)) b12 dX5_lay_72 hI13 ?_
        refine J_aload_n hx dX5_lay_73 1 rfl ?_
        refine J_iload hx dX5_lay_74 0 rfl ?_
        obtain ⟨t14, e15, h⟩ := Ho_bind h
        refine J_callVi hx lkV_RX5_89 (rfl : k_sh 63 = (5, k_N 5)) [.int x11] [] rfl rfl (Nat.le_of_ble_eq_true rfl) (Nat.le_of_ble_eq_true rfl) (s_X5_tell  ⟨t14, e15, ⟨rfl, rfl, rfl⟩⟩) dX5_lay_76 ?_
        have h := Ho_some h
        exact J_iret hx hQ dX5_lay_79 h
      · have h := Ho_t c9 h
        refine J_aload_n hx dX5_lay_42 0 rfl ?_
        refine J_iconst (v := (2 : Int32)) hx dX5_lay_43 (by decide) ?_
        obtain ⟨t16, e17, h⟩ := Ho_bind h
        refine J_callVi hx lkV_RX5_85 (rfl : k_sh 63 = (5, k_N 5)) [.int (2 : Int32)] [] rfl rfl (Nat.le_of_ble_eq_true rfl) (Nat.le_of_ble_eq_true rfl) (s_X5_found  ⟨t16, e17, ⟨rfl, rfl, rfl⟩⟩) dX5_lay_44 ?_
        have h := Ho_some h
        exact J_iret hx hQ dX5_lay_47 h
    · have h := Ho_f c5 h
      refine J_aload_n hx dX5_lay_18 0 rfl ?_
      refine J_iconst (v := (1 : Int32)) hx dX5_lay_19 (by decide) ?_
      obtain ⟨t18, e19, h⟩ := Ho_bind h
      refine J_callVi hx lkV_RX5_85 (rfl : k_sh 63 = (5, k_N 5)) [.int (1 : Int32)] [] rfl rfl (Nat.le_of_ble_eq_true rfl) (Nat.le_of_ble_eq_true rfl) (s_X5_found  ⟨t18, e19, ⟨rfl, rfl, rfl⟩⟩) dX5_lay_20 ?_
      have h := Ho_some h
      exact J_iret hx hQ dX5_lay_23 h
  · have h := Ho_t c3 h
    refine J_iconst (v := (-1 : Int32)) hx dX5_lay_7 (by decide) ?_
    have h := Ho_some h
    exact J_iret hx hQ dX5_lay_8 h
abbrev kr_X5_limit (P : Option Value → StI → StL → Prop) (L : StL) : Int32 × StI → Prop := fun t => P (some (.int t.1)) t.2 L
def f_X5_limit (v1 : Int32) (v2 : Int32) (I : StI) : Option (Int32 × StI) :=
  Option.bind (f_X5_isCaller v1 I) (fun t1 => (if t1 = 0 then some ((-1 : Int32), I) else Option.bind (f_X5_isNumber v2) (fun t4 => (if t4 = 0 then some ((-1 : Int32), I) else k_gd ((5 : Int32) + v1) 40 ((if (I 70 ((5 : Int32) + v1).toNatClampNeg) = v2 then some ((-4 : Int32), I) else (if (I 63 11) = (40 : Int32) then some ((-2 : Int32), I) else Option.bind (f_X5_remembers I) (fun t10 => k_gd ((5 : Int32) + v1) 40 (k_let (t10 70 ((5 : Int32) + v1).toNatClampNeg) (fun x13 => k_gd ((5 : Int32) + v1) 40 (k_let (k_up t10 70 ((5 : Int32) + v1).toNatClampNeg v2) (fun I15 => some (x13, I15)))))))))))))
set_option maxRecDepth 100000 in
set_option maxHeartbeats 4000000 in
theorem s_X5_limit {l : Launch} {ad : Nat → Nat} {P : Option Value → StI → StL → Prop} {I : StI} {L : StL} {v1 : Int32} {v2 : Int32}  (h : Ho (f_X5_limit v1 v2 I) (kr_X5_limit P L)) : k_Met l ad 3 yX5_limit cX5_limit 4 (some .int) [.ref (ad 63), .int v1, .int v2] I L P := by
  refine k_enter (by decide +kernel) (Nat.le_of_ble_eq_true rfl) (fun X hl hx hQ => ?_)
  clear hl
  have hx : Ok X cX5_limit RX5 4 (some .int) 3 := hx
  show J X ad 4 I L 0 [(0, .ref (ad 63)), (1, .int v1), (2, .int v2)] []
  unfold f_X5_limit at h
  refine J_aload_n hx dX5_limit_0 0 rfl ?_
  refine J_iload_n hx dX5_limit_1 1 rfl ?_
  obtain ⟨t1, e2, h⟩ := Ho_bind h
  refine J_callVi hx lkV_RX5_166 (rfl : k_sh 63 = (5, k_N 5)) [.int v1] [] rfl rfl (Nat.le_of_ble_eq_true rfl) (Nat.le_of_ble_eq_true rfl) (s_X5_isCaller  ⟨t1, e2, ⟨rfl, rfl, rfl⟩⟩) dX5_limit_2 ?_
  refine J_if_eq hx dX5_limit_5 15 (by decide) (fun c3 => ?_) (fun c3 => ?_)
  · have h := Ho_t c3 h
    refine J_iconst (v := (-1 : Int32)) hx dX5_limit_15 (by decide) ?_
    have h := Ho_some h
    exact J_iret hx hQ dX5_limit_16 h
  · have h := Ho_f c3 h
    refine J_iload_n hx dX5_limit_8 2 rfl ?_
    obtain ⟨t4, e5, h⟩ := Ho_bind h
    refine J_callSi hx lkS_RX5_181 [.int v2] [] rfl rfl (Nat.le_of_ble_eq_true rfl) (Nat.le_of_ble_eq_true rfl) (s_X5_isNumber  ⟨t4, e5, ⟨rfl, rfl, rfl⟩⟩) dX5_limit_9 ?_
    refine J_if_ne hx dX5_limit_12 17 (by decide) (fun c6 => ?_) (fun c6 => ?_)
    · have h := Ho_f c6 h
      refine J_aload_n hx dX5_limit_17 0 rfl ?_
      refine J_getR (q := 70) hx fl_RX5_28 (rfl : k_sh 63 = (5, k_N 5)) rfl rfl dX5_limit_18 ?_
      refine J_iconst (v := (5 : Int32)) hx dX5_limit_21 (by decide) ?_
      refine J_iload_n hx dX5_limit_22 1 rfl ?_
      refine J_iadd hx dX5_limit_23 ?_
      obtain ⟨b7, h⟩ := Ho_gd h
      refine J_iald hx (rfl : k_sh 70 = (10, 40)) b7 dX5_limit_24 ?_
      refine J_iload_n hx dX5_limit_25 2 rfl ?_
      refine J_ic_ne hx dX5_limit_26 32 (by decide) (fun c8 => ?_) (fun c8 => ?_)
      · have h := Ho_f c8 h
        refine J_aload_n hx dX5_limit_32 0 rfl ?_
        refine J_getI hx fl_RX5_126 (rfl : k_sh 63 = (5, k_N 5)) rfl dX5_limit_33 ?_
        refine J_bipush (v := (40 : Int32)) hx dX5_limit_36 (by decide) ?_
        refine J_ic_ne hx dX5_limit_38 44 (by decide) (fun c9 => ?_) (fun c9 => ?_)
        · have h := Ho_f c9 h
          refine J_aload_n hx dX5_limit_44 0 rfl ?_
          obtain ⟨t10, e11, h⟩ := Ho_bind h
          refine J_callVv hx lkV_RX5_171 (rfl : k_sh 63 = (5, k_N 5)) [] [] rfl rfl (Nat.le_of_ble_eq_true rfl) (Nat.le_of_ble_eq_true rfl) (s_X5_remembers  ⟨t10, e11, ⟨rfl, rfl, rfl⟩⟩) dX5_limit_45 ?_
          refine J_aload_n hx dX5_limit_48 0 rfl ?_
          refine J_getR (q := 70) hx fl_RX5_28 (rfl : k_sh 63 = (5, k_N 5)) rfl rfl dX5_limit_49 ?_
          refine J_iconst (v := (5 : Int32)) hx dX5_limit_52 (by decide) ?_
          refine J_iload_n hx dX5_limit_53 1 rfl ?_
          refine J_iadd hx dX5_limit_54 ?_
          obtain ⟨b12, h⟩ := Ho_gd h
          refine J_iald hx (rfl : k_sh 70 = (10, 40)) b12 dX5_limit_55 ?_
          obtain ⟨x13, hx13, h⟩ := Ho_let h
          refine J_istore_n (x := x13) (lv' := [(3, .int x13), (0, .ref (ad 63)), (1, .int v1), (2, .int v2)]) hx dX5_limit_56 hx13 (by decide) rfl ?_
          refine J_aload_n hx dX5_limit_57 1 rfl ?_
          refine J_getR (q := 70) hx fl_RX5_28 (rfl : k_sh 63 = (5, k_N 5)) rfl rfl dX5_limit_58 ?_
          refine J_iconst (v := (5 : Int32)) hx dX5_limit_61 (by decide) ?_
          refine J_iload_n hx dX5_limit_62 2 rfl ?_
          refine J_iadd hx dX5_limit_63 ?_
          refine J_iload_n hx dX5_limit_64 3 rfl ?_
          obtain ⟨b14, h⟩ := Ho_gd h
          obtain ⟨I15, hI15, h⟩ := Ho_let h
          refine J_iast hx (rfl : k_sh 70 = (10, 40)) b14 dX5_limit_65 hI15 ?_
          refine J_iload_n hx dX5_limit_66 0 rfl ?_
          have h := Ho_some h
          exact J_iret hx hQ dX5_limit_67 h
        · have h := Ho_t c9 h
          refine J_bipush (v := (-2 : Int32)) hx dX5_limit_41 (by decide) ?_
          have h := Ho_some h
          exact J_iret hx hQ dX5_limit_43 h
      · have h := Ho_t c8 h
        refine J_bipush (v := (-4 : Int32)) hx dX5_limit_29 (by decide) ?_
        have h := Ho_some h
        exact J_iret hx hQ dX5_limit_31 h
    · have h := Ho_t c6 h
      refine J_iconst (v := (-1 : Int32)) hx dX5_limit_15 (by decide) ?_
      have h := Ho_some h
      exact J_iret hx hQ dX5_limit_16 h
abbrev kr_X5_lots (P : Option Value → StI → StL → Prop) (L : StL) : Int32 × StI → Prop := fun t => P (some (.int t.1)) t.2 L
abbrev g_X5_lots_L60 (X : k_C) (ad : Nat → Nat) (L : StL) (v1 : Int32) : (Int64 × Int32 × StI) → Prop := fun s => J X ad 8 s.2.2 L 60 [(0, .ref (ad 63)), (1, .int v1), (3, .long s.1), (5, .int s.2.1)] []
def f_X5_lots_L60_b (v1 : Int32) (v3 : Int64) (v5 : Int32) (I : StI) : Option ((Int64 × Int32 × StI) ⊕ (Int32 × StI)) :=
  (if v1 ≤ v5 then k_gd (1 : Int32) 40 (some (.inr ((I 70 (1 : Int32).toNatClampNeg), I))) else k_let ((v3 * (48271 : Int64)) - (v3 * (48271 : Int64)) / (2147483647 : Int64) * (2147483647 : Int64)) (fun x14 => k_let ((x14 - x14 / (8 : Int64) * (8 : Int64))).toInt32 (fun x15 => Option.bind (f_X5_remembers I) (fun t16 => (if x15 = 0 then k_gd (3 : Int32) 40 (k_gd (3 : Int32) 40 (k_let (k_up t16 70 (3 : Int32).toNatClampNeg ((t16 70 (3 : Int32).toNatClampNeg) ^^^ ((1 : Int32) <<< ((((x14 / (8 : Int64)) - (x14 / (8 : Int64)) / (8 : Int64) * (8 : Int64))).toInt32 &&& 31)))) (fun I34 => k_let (v5 + (1 : Int32)) (fun x35 => some (.inl (x14, x35, I34)))))) else (if x15 = (1 : Int32) then k_nzL ((t16 63 4)).toInt64 (Option.bind (f_X5_resets (((x14 / (8 : Int64)) - (x14 / (8 : Int64)) / ((t16 63 4)).toInt64 * ((t16 63 4)).toInt64)).toInt32 t16) (fun t29 => k_let (v5 + (1 : Int32)) (fun x31 => some (.inl (x14, x31, t29))))) else k_gd (0 : Int32) 40 ((if (99 : Int32) ≤ (t16 70 (0 : Int32).toNatClampNeg) then k_let (v5 + (1 : Int32)) (fun x22 => some (.inl (x14, x22, t16))) else Option.bind (f_X5_isUp 70 t16) (fun t23 => Option.bind (f_X5_goes 70 (0 : Int32) t23 t16) (fun t25 => k_let (v5 + (1 : Int32)) (fun x27 => some (.inl (x14, x27, t25.2)))))))))))))
def f_X5_lots_L60 (v1 : Int32) (n : Nat) (v3 : Int64) (v5 : Int32) (I : StI) : Option (Int32 × StI) :=
  k_loop (fun s => f_X5_lots_L60_b v1 s.1 s.2.1 s.2.2) n (v3, v5, I)
set_option maxRecDepth 100000 in
set_option maxHeartbeats 4000000 in
theorem s_X5_lots_L60_b {X : k_C} {ad : Nat → Nat} {P : Option Value → StI → StL → Prop} {I : StI} {L : StL} (hx : Ok X cX5_lots RX5 8 (some .int) 4) (hQ : OkQ X ad P)  {v1 : Int32} {v3 : Int64} {v5 : Int32}  (h : Ho (f_X5_lots_L60_b v1 v3 v5 I) (Sum.elim (g_X5_lots_L60 X ad L v1) (kr_X5_lots P L))) : J X ad 8 I L 60 [(0, .ref (ad 63)), (1, .int v1), (3, .long v3), (5, .int v5)] [] := by
  unfold f_X5_lots_L60_b at h
  refine J_iload hx dX5_lots_60 3 rfl ?_
  refine J_iload_n hx dX5_lots_62 1 rfl ?_
  refine J_ic_ge hx dX5_lots_63 178 (by decide) (fun c12 => ?_) (fun c12 => ?_)
  · have h := Ho_t c12 h
    refine J_aload_n hx dX5_lots_178 0 rfl ?_
    refine J_getR (q := 70) hx fl_RX5_28 (rfl : k_sh 63 = (5, k_N 5)) rfl rfl dX5_lots_179 ?_
    refine J_iconst (v := (1 : Int32)) hx dX5_lots_182 (by decide) ?_
    obtain ⟨b13, h⟩ := Ho_gd h
    refine J_iald hx (rfl : k_sh 70 = (10, 40)) b13 dX5_lots_183 ?_
    have h := Ho_some h
    exact J_iret hx hQ dX5_lots_184 h
  · have h := Ho_f c12 h
    refine J_lload_n hx dX5_lots_66 2 rfl ?_
    refine J_ldc2 hx cn_RX5_248 dX5_lots_67 ?_
    refine J_lmul hx dX5_lots_70 ?_
    refine J_ldc2 hx cn_RX5_250 dX5_lots_71 ?_
    refine J_lrem hx (by decide) dX5_lots_74 ?_
    obtain ⟨x14, hx14, h⟩ := Ho_let h
    refine J_lstore_n (x := x14) (lv' := [(3, .long x14), (0, .ref (ad 63)), (1, .int v1), (5, .int v5)]) hx dX5_lots_75 hx14 (by decide) rfl ?_
    refine J_lload_n hx dX5_lots_76 0 rfl ?_
    refine J_ldc2 hx cn_RX5_252 dX5_lots_77 ?_
    refine J_lrem hx (by decide) dX5_lots_80 ?_
    refine J_l2i hx dX5_lots_81 ?_
    obtain ⟨x15, hx15, h⟩ := Ho_let h
    refine J_istore (x := x15) (lv' := [(6, .int x15), (3, .long x14), (0, .ref (ad 63)), (1, .int v1), (5, .int v5)]) hx dX5_lots_82 hx15 (by decide) rfl ?_
    refine J_aload_n hx dX5_lots_84 2 rfl ?_
    obtain ⟨t16, e17, h⟩ := Ho_bind h
    refine J_callVv hx lkV_RX5_171 (rfl : k_sh 63 = (5, k_N 5)) [] [] rfl rfl (Nat.le_of_ble_eq_true rfl) (Nat.le_of_ble_eq_true rfl) (s_X5_remembers  ⟨t16, e17, ⟨rfl, rfl, rfl⟩⟩) dX5_lots_85 ?_
    refine J_iload hx dX5_lots_88 0 rfl ?_
    refine J_if_ne hx dX5_lots_90 117 (by decide) (fun c18 => ?_) (fun c18 => ?_)
    · have h := Ho_f c18 h
      refine J_iload hx dX5_lots_117 0 rfl ?_
      refine J_iconst (v := (1 : Int32)) hx dX5_lots_119 (by decide) ?_
      refine J_ic_ne hx dX5_lots_120 142 (by decide) (fun c19 => ?_) (fun c19 => ?_)
      · have h := Ho_f c19 h
        refine J_aload_n hx dX5_lots_142 2 rfl ?_
        refine J_getR (q := 70) hx fl_RX5_28 (rfl : k_sh 63 = (5, k_N 5)) rfl rfl dX5_lots_143 ?_
        refine J_iconst (v := (0 : Int32)) hx dX5_lots_146 (by decide) ?_
        obtain ⟨b20, h⟩ := Ho_gd h
        refine J_iald hx (rfl : k_sh 70 = (10, 40)) b20 dX5_lots_147 ?_
        refine J_bipush (v := (99 : Int32)) hx dX5_lots_148 (by decide) ?_
        refine J_ic_ge hx dX5_lots_150 172 (by decide) (fun c21 => ?_) (fun c21 => ?_)
        · have h := Ho_t c21 h
          obtain ⟨x22, hx22, h⟩ := Ho_let h
          refine J_iinc (x := x22) (lv' := [(5, .int x22), (6, .int x15), (3, .long x14), (0, .ref (ad 63)), (1, .int v1)]) hx dX5_lots_172 4 rfl (by rw [hx22]; rfl) (by decide) rfl ?_
          refine J_goto hx dX5_lots_175 60 (by decide) ?_
          refine J_sub (lv' := [(0, .ref (ad 63)), (1, .int v1), (3, .long x14), (5, .int x22)]) hx [3, 4, 2, 0] rfl ?_
          have h := Ho_some h
          exact h
        · have h := Ho_f c21 h
          refine J_aload_n hx dX5_lots_153 2 rfl ?_
          refine J_aload_n hx dX5_lots_154 2 rfl ?_
          refine J_getR (q := 70) hx fl_RX5_28 (rfl : k_sh 63 = (5, k_N 5)) rfl rfl dX5_lots_155 ?_
          refine J_iconst (v := (0 : Int32)) hx dX5_lots_158 (by decide) ?_
          refine J_aload_n hx dX5_lots_159 2 rfl ?_
          refine J_aload_n hx dX5_lots_160 2 rfl ?_
          refine J_getR (q := 70) hx fl_RX5_28 (rfl : k_sh 63 = (5, k_N 5)) rfl rfl dX5_lots_161 ?_
          obtain ⟨t23, e24, h⟩ := Ho_bind h
          refine J_callVi hx lkV_RX5_158 (rfl : k_sh 63 = (5, k_N 5)) [.ref (ad 70)] [.int (0 : Int32), .ref (ad 70), .ref (ad 63)] rfl rfl (Nat.le_of_ble_eq_true rfl) (Nat.le_of_ble_eq_true rfl) (s_X5_isUp (congrArg Prod.fst (rfl : k_sh 70 = (10, 40))) ⟨t23, e24, ⟨rfl, rfl, rfl⟩⟩) dX5_lots_164 ?_
          obtain ⟨t25, e26, h⟩ := Ho_bind h
          refine J_callVi hx lkV_RX5_162 (rfl : k_sh 63 = (5, k_N 5)) [.ref (ad 70), .int (0 : Int32), .int t23] [] rfl rfl (Nat.le_of_ble_eq_true rfl) (Nat.le_of_ble_eq_true rfl) (s_X5_goes (congrArg Prod.fst (rfl : k_sh 70 = (10, 40))) ⟨t25, e26, ⟨rfl, rfl, rfl⟩⟩) dX5_lots_167 ?_
          refine J_istore (x := t25.1) (lv' := [(7, .int t25.1), (6, .int x15), (3, .long x14), (0, .ref (ad 63)), (1, .int v1), (5, .int v5)]) hx dX5_lots_170 rfl (by decide) rfl ?_
          obtain ⟨x27, hx27, h⟩ := Ho_let h
          refine J_iinc (x := x27) (lv' := [(5, .int x27), (7, .int t25.1), (6, .int x15), (3, .long x14), (0, .ref (ad 63)), (1, .int v1)]) hx dX5_lots_172 5 rfl (by rw [hx27]; rfl) (by decide) rfl ?_
          refine J_goto hx dX5_lots_175 60 (by decide) ?_
          refine J_sub (lv' := [(0, .ref (ad 63)), (1, .int v1), (3, .long x14), (5, .int x27)]) hx [4, 5, 3, 0] rfl ?_
          have h := Ho_some h
          exact h
      · have h := Ho_t c19 h
        refine J_aload_n hx dX5_lots_123 2 rfl ?_
        refine J_lload_n hx dX5_lots_124 1 rfl ?_
        refine J_ldc2 hx cn_RX5_252 dX5_lots_125 ?_
        refine J_ldiv hx (by decide) dX5_lots_128 ?_
        refine J_aload_n hx dX5_lots_129 2 rfl ?_
        refine J_getI hx fl_RX5_115 (rfl : k_sh 63 = (5, k_N 5)) rfl dX5_lots_130 ?_
        refine J_i2l hx dX5_lots_133 ?_
        obtain ⟨hz28, h⟩ := Ho_nzL h
        refine J_lrem hx hz28 dX5_lots_134 ?_
        refine J_l2i hx dX5_lots_135 ?_
        obtain ⟨t29, e30, h⟩ := Ho_bind h
        refine J_callVv hx lkV_RX5_122 (rfl : k_sh 63 = (5, k_N 5)) [.int (((x14 / (8 : Int64)) - (x14 / (8 : Int64)) / ((t16 63 4)).toInt64 * ((t16 63 4)).toInt64)).toInt32] [] rfl rfl (Nat.le_of_ble_eq_true rfl) (Nat.le_of_ble_eq_true rfl) (s_X5_resets  ⟨t29, e30, ⟨rfl, rfl, rfl⟩⟩) dX5_lots_136 ?_
        refine J_goto hx dX5_lots_139 172 (by decide) ?_
        obtain ⟨x31, hx31, h⟩ := Ho_let h
        refine J_iinc (x := x31) (lv' := [(5, .int x31), (6, .int x15), (3, .long x14), (0, .ref (ad 63)), (1, .int v1)]) hx dX5_lots_172 4 rfl (by rw [hx31]; rfl) (by decide) rfl ?_
        refine J_goto hx dX5_lots_175 60 (by decide) ?_
        refine J_sub (lv' := [(0, .ref (ad 63)), (1, .int v1), (3, .long x14), (5, .int x31)]) hx [3, 4, 2, 0] rfl ?_
        have h := Ho_some h
        exact h
    · have h := Ho_t c18 h
      refine J_aload_n hx dX5_lots_93 2 rfl ?_
      refine J_getR (q := 70) hx fl_RX5_28 (rfl : k_sh 63 = (5, k_N 5)) rfl rfl dX5_lots_94 ?_
      refine J_iconst (v := (3 : Int32)) hx dX5_lots_97 (by decide) ?_
      refine J_dup2 hx dX5_lots_98 rfl rfl ?_
      obtain ⟨b32, h⟩ := Ho_gd h
      refine J_iald hx (rfl : k_sh 70 = (10, 40)) b32 dX5_lots_99 ?_
      refine J_iconst (v := (1 : Int32)) hx dX5_lots_100 (by decide) ?_
      refine J_lload_n hx dX5_lots_101 1 rfl ?_
      refine J_ldc2 hx cn_RX5_252 dX5_lots_102 ?_
      refine J_ldiv hx (by decide) dX5_lots_105 ?_
      refine J_ldc2 hx cn_RX5_252 dX5_lots_106 ?_
      refine J_lrem hx (by decide) dX5_lots_109 ?_
      refine J_l2i hx dX5_lots_110 ?_
      refine J_ishl hx dX5_lots_111 ?_
      refine J_ixor hx dX5_lots_112 ?_
      obtain ⟨b33, h⟩ := Ho_gd h
      obtain ⟨I34, hI34, h⟩ := Ho_let h
      refine J_iast hx (rfl : k_sh 70 = (10, 40)) b33 dX5_lots_113 hI34 ?_
      refine J_goto hx dX5_lots_114 172 (by decide) ?_
      obtain ⟨x35, hx35, h⟩ := Ho_let h
      refine J_iinc (x := x35) (lv' := [(5, .int x35), (6, .int x15), (3, .long x14), (0, .ref (ad 63)), (1, .int v1)]) hx dX5_lots_172 4 rfl (by rw [hx35]; rfl) (by decide) rfl ?_
      refine J_goto hx dX5_lots_175 60 (by decide) ?_
      refine J_sub (lv' := [(0, .ref (ad 63)), (1, .int v1), (3, .long x14), (5, .int x35)]) hx [3, 4, 2, 0] rfl ?_
      have h := Ho_some h
      exact h
set_option maxRecDepth 100000 in
set_option maxHeartbeats 4000000 in
theorem s_X5_lots_L60 {X : k_C} {ad : Nat → Nat} {P : Option Value → StI → StL → Prop} {I : StI} {L : StL} (hx : Ok X cX5_lots RX5 8 (some .int) 4) (hQ : OkQ X ad P)  {v1 : Int32} {v3 : Int64} {v5 : Int32}  (n : Nat) (h : Ho (f_X5_lots_L60 v1 n v3 v5 I) (kr_X5_lots P L)) : J X ad 8 I L 60 [(0, .ref (ad 63)), (1, .int v1), (3, .long v3), (5, .int v5)] [] := by
  exact k_loop_ho (G := g_X5_lots_L60 X ad L v1) (fun s hs => s_X5_lots_L60_b hx hQ  hs) n (v3, v5, I) h
def f_X5_lots (v1 : Int32) (v2 : Int32) (I : StI) : Option (Int32 × StI) :=
  Option.bind (f_X5_in (v1).toInt64 (1 : Int64) (20 : Int64)) (fun t1 => (if t1 = 0 then some ((-1 : Int32), I) else Option.bind (f_X5_in (v2).toInt64 (1 : Int64) (2147483646 : Int64)) (fun t4 => (if t4 = 0 then some ((-1 : Int32), I) else (if (I 63 4) = 0 then some ((-4 : Int32), I) else (if ((I 63 11) + v1) ≤ (40 : Int32) then Option.bind (f_X5_asKinds I) (fun t9 => k_let (v2).toInt64 (fun x11 => f_X5_lots_L60 v1 k_fu x11 (0 : Int32) t9)) else some ((-2 : Int32), I)))))))
set_option maxRecDepth 100000 in
set_option maxHeartbeats 4000000 in
theorem s_X5_lots {l : Launch} {ad : Nat → Nat} {P : Option Value → StI → StL → Prop} {I : StI} {L : StL} {v1 : Int32} {v2 : Int32}  (h : Ho (f_X5_lots v1 v2 I) (kr_X5_lots P L)) : k_Met l ad 4 yX5_lots cX5_lots 8 (some .int) [.ref (ad 63), .int v1, .int v2] I L P := by
  refine k_enter (by decide +kernel) (Nat.le_of_ble_eq_true rfl) (fun X hl hx hQ => ?_)
  clear hl
  have hx : Ok X cX5_lots RX5 8 (some .int) 4 := hx
  show J X ad 8 I L 0 [(0, .ref (ad 63)), (1, .int v1), (2, .int v2)] []
  unfold f_X5_lots at h
  refine J_iload_n hx dX5_lots_0 1 rfl ?_
  refine J_i2l hx dX5_lots_1 ?_
  refine J_lconst (v := (1 : Int64)) hx dX5_lots_2 (by decide) ?_
  refine J_ldc2 hx cn_RX5_206 dX5_lots_3 ?_
  obtain ⟨t1, e2, h⟩ := Ho_bind h
  refine J_callSi hx lkS_RX5_75 [.long (v1).toInt64, .long (1 : Int64), .long (20 : Int64)] [] rfl rfl (Nat.le_of_ble_eq_true rfl) (Nat.le_of_ble_eq_true rfl) (s_X5_in  ⟨t1, e2, ⟨rfl, rfl, rfl⟩⟩) dX5_lots_6 ?_
  refine J_if_eq hx dX5_lots_9 24 (by decide) (fun c3 => ?_) (fun c3 => ?_)
  · have h := Ho_t c3 h
    refine J_iconst (v := (-1 : Int32)) hx dX5_lots_24 (by decide) ?_
    have h := Ho_some h
    exact J_iret hx hQ dX5_lots_25 h
  · have h := Ho_f c3 h
    refine J_iload_n hx dX5_lots_12 2 rfl ?_
    refine J_i2l hx dX5_lots_13 ?_
    refine J_lconst (v := (1 : Int64)) hx dX5_lots_14 (by decide) ?_
    refine J_ldc2 hx cn_RX5_246 dX5_lots_15 ?_
    obtain ⟨t4, e5, h⟩ := Ho_bind h
    refine J_callSi hx lkS_RX5_75 [.long (v2).toInt64, .long (1 : Int64), .long (2147483646 : Int64)] [] rfl rfl (Nat.le_of_ble_eq_true rfl) (Nat.le_of_ble_eq_true rfl) (s_X5_in  ⟨t4, e5, ⟨rfl, rfl, rfl⟩⟩) dX5_lots_18 ?_
    refine J_if_ne hx dX5_lots_21 26 (by decide) (fun c6 => ?_) (fun c6 => ?_)
    · have h := Ho_f c6 h
      refine J_aload_n hx dX5_lots_26 0 rfl ?_
      refine J_getI hx fl_RX5_115 (rfl : k_sh 63 = (5, k_N 5)) rfl dX5_lots_27 ?_
      refine J_if_ne hx dX5_lots_30 36 (by decide) (fun c7 => ?_) (fun c7 => ?_)
      · have h := Ho_f c7 h
        refine J_aload_n hx dX5_lots_36 0 rfl ?_
        refine J_getI hx fl_RX5_126 (rfl : k_sh 63 = (5, k_N 5)) rfl dX5_lots_37 ?_
        refine J_iload_n hx dX5_lots_40 1 rfl ?_
        refine J_iadd hx dX5_lots_41 ?_
        refine J_bipush (v := (40 : Int32)) hx dX5_lots_42 (by decide) ?_
        refine J_ic_le hx dX5_lots_44 50 (by decide) (fun c8 => ?_) (fun c8 => ?_)
        · have h := Ho_t c8 h
          refine J_aload_n hx dX5_lots_50 0 rfl ?_
          obtain ⟨t9, e10, h⟩ := Ho_bind h
          refine J_callVv hx lkV_RX5_174 (rfl : k_sh 63 = (5, k_N 5)) [] [] rfl rfl (Nat.le_of_ble_eq_true rfl) (Nat.le_of_ble_eq_true rfl) (s_X5_asKinds  ⟨t9, e10, ⟨rfl, rfl, rfl⟩⟩) dX5_lots_51 ?_
          refine J_iload_n hx dX5_lots_54 2 rfl ?_
          refine J_i2l hx dX5_lots_55 ?_
          obtain ⟨x11, hx11, h⟩ := Ho_let h
          refine J_lstore_n (x := x11) (lv' := [(3, .long x11), (0, .ref (ad 63)), (1, .int v1), (2, .int v2)]) hx dX5_lots_56 hx11 (by decide) rfl ?_
          refine J_iconst (v := (0 : Int32)) hx dX5_lots_57 (by decide) ?_
          refine J_istore (x := (0 : Int32)) (lv' := [(5, .int (0 : Int32)), (3, .long x11), (0, .ref (ad 63)), (1, .int v1), (2, .int v2)]) hx dX5_lots_58 rfl (by decide) rfl ?_
          refine J_sub (lv' := [(0, .ref (ad 63)), (1, .int v1), (3, .long x11), (5, .int (0 : Int32))]) hx [2, 3, 1, 0] rfl ?_
          exact s_X5_lots_L60 hx hQ  k_fu h
        · have h := Ho_f c8 h
          refine J_bipush (v := (-2 : Int32)) hx dX5_lots_47 (by decide) ?_
          have h := Ho_some h
          exact J_iret hx hQ dX5_lots_49 h
      · have h := Ho_t c7 h
        refine J_bipush (v := (-4 : Int32)) hx dX5_lots_33 (by decide) ?_
        have h := Ho_some h
        exact J_iret hx hQ dX5_lots_35 h
    · have h := Ho_t c6 h
      refine J_iconst (v := (-1 : Int32)) hx dX5_lots_24 (by decide) ?_
      have h := Ho_some h
      exact J_iret hx hQ dX5_lots_25 h
abbrev kr_X5_lower (P : Option Value → StI → StL → Prop) (I : StI) (L : StL) : Int64 → Prop := fun t => P (some (.long t)) I L
def f_X5_lower (L : StL) : Option (Int64) :=
  some ((L 63 16))
set_option maxRecDepth 100000 in
set_option maxHeartbeats 4000000 in
theorem s_X5_lower {l : Launch} {ad : Nat → Nat} {P : Option Value → StI → StL → Prop} {I : StI} {L : StL}   (h : Ho (f_X5_lower L) (kr_X5_lower P I L)) : k_Met l ad 1 yX5_lower cX5_lower 1 (some .long) [.ref (ad 63)] I L P := by
  refine k_enter (by decide +kernel) (Nat.le_of_ble_eq_true rfl) (fun X hl hx hQ => ?_)
  clear hl
  have hx : Ok X cX5_lower RX5 1 (some .long) 1 := hx
  show J X ad 1 I L 0 [(0, .ref (ad 63))] []
  unfold f_X5_lower at h
  refine J_aload_n hx dX5_lower_0 0 rfl ?_
  refine J_getL hx fl_RX5_47 (rfl : k_sh 63 = (5, k_N 5)) rfl dX5_lower_1 ?_
  have h := Ho_some h
  exact J_lret hx hQ dX5_lower_4 h
abbrev kr_X5_mark (P : Option Value → StI → StL → Prop) (L : StL) : Int32 × StI → Prop := fun t => P (some (.int t.1)) t.2 L
def f_X5_mark_j60 (v1 : Int32) (v2 : Int32) (I : StI) : Option (Int32 × StI) :=
  (if v2 = (1 : Int32) then k_gd ((19 : Int32) + v1) 40 ((if (I 70 ((19 : Int32) + v1).toNatClampNeg) ≤ 0 then some ((0 : Int32), I) else k_gd ((19 : Int32) + v1) 40 (some (((I 70 ((19 : Int32) + v1).toNatClampNeg) - (1 : Int32)), I)))) else (if v2 = (2 : Int32) then k_gd ((33 : Int32) + v1) 40 (k_gd v1 7 (some (((I 70 ((33 : Int32) + v1).toNatClampNeg) - (I 69 v1.toNatClampNeg)), I))) else (if v2 = (3 : Int32) then k_gd ((5 : Int32) + v1) 40 (some (((I 70 ((5 : Int32) + v1).toNatClampNeg) - (1 : Int32)), I)) else (if v2 = (4 : Int32) then k_gd ((12 : Int32) + v1) 40 ((if (I 70 ((12 : Int32) + v1).toNatClampNeg) = (1 : Int32) then some ((0 : Int32), I) else k_gd (0 : Int32) 40 ((if ((I 70 (0 : Int32).toNatClampNeg) - (I 70 (0 : Int32).toNatClampNeg) / (2 : Int32) * (2 : Int32)) = 0 then some ((1 : Int32), I) else some ((0 : Int32), I))))) else k_gd (0 : Int32) 40 (some ((((4 : Int32) - ((I 70 (0 : Int32).toNatClampNeg) - (I 70 (0 : Int32).toNatClampNeg) / (4 : Int32) * (4 : Int32))) - ((4 : Int32) - ((I 70 (0 : Int32).toNatClampNeg) - (I 70 (0 : Int32).toNatClampNeg) / (4 : Int32) * (4 : Int32))) / (4 : Int32) * (4 : Int32)), I))))))
set_option maxRecDepth 100000 in
set_option maxHeartbeats 4000000 in
theorem s_X5_mark_j60 {X : k_C} {ad : Nat → Nat} {P : Option Value → StI → StL → Prop} {I : StI} {L : StL} (hx : Ok X cX5_mark RX5 4 (some .int) 3) (hQ : OkQ X ad P)  {v1 : Int32} {v2 : Int32}  (h : Ho (f_X5_mark_j60 v1 v2 I) (kr_X5_mark P L)) : J X ad 4 I L 60 [(0, .ref (ad 63)), (1, .int v1), (2, .int v2)] [] := by
  unfold f_X5_mark_j60 at h
  refine J_iload_n hx dX5_mark_60 2 rfl ?_
  by_cases c10 : v2 = (1 : Int32)
  · have h := Ho_t c10 h
    refine J_tIn (x' := (1 : Int32)) (off := 31) hx dX5_mark_61 c10 (by decide) (by decide) (by decide) 92 (by decide) ?_
    refine J_aload_n hx dX5_mark_92 0 rfl ?_
    refine J_getR (q := 70) hx fl_RX5_28 (rfl : k_sh 63 = (5, k_N 5)) rfl rfl dX5_mark_93 ?_
    refine J_bipush (v := (19 : Int32)) hx dX5_mark_96 (by decide) ?_
    refine J_iload_n hx dX5_mark_98 1 rfl ?_
    refine J_iadd hx dX5_mark_99 ?_
    obtain ⟨b11, h⟩ := Ho_gd h
    refine J_iald hx (rfl : k_sh 70 = (10, 40)) b11 dX5_mark_100 ?_
    refine J_if_le hx dX5_mark_101 118 (by decide) (fun c12 => ?_) (fun c12 => ?_)
    · have h := Ho_t c12 h
      refine J_iconst (v := (0 : Int32)) hx dX5_mark_118 (by decide) ?_
      have h := Ho_some h
      exact J_iret hx hQ dX5_mark_119 h
    · have h := Ho_f c12 h
      refine J_aload_n hx dX5_mark_104 0 rfl ?_
      refine J_getR (q := 70) hx fl_RX5_28 (rfl : k_sh 63 = (5, k_N 5)) rfl rfl dX5_mark_105 ?_
      refine J_bipush (v := (19 : Int32)) hx dX5_mark_108 (by decide) ?_
      refine J_iload_n hx dX5_mark_110 1 rfl ?_
      refine J_iadd hx dX5_mark_111 ?_
      obtain ⟨b13, h⟩ := Ho_gd h
      refine J_iald hx (rfl : k_sh 70 = (10, 40)) b13 dX5_mark_112 ?_
      refine J_iconst (v := (1 : Int32)) hx dX5_mark_113 (by decide) ?_
      refine J_isub hx dX5_mark_114 ?_
      refine J_goto hx dX5_mark_115 119 (by decide) ?_
      have h := Ho_some h
      exact J_iret hx hQ dX5_mark_119 h
  have h := Ho_f c10 h
  by_cases c14 : v2 = (2 : Int32)
  · have h := Ho_t c14 h
    refine J_tIn (x' := (2 : Int32)) (off := 59) hx dX5_mark_61 c14 (by decide) (by decide) (by decide) 120 (by decide) ?_
    refine J_aload_n hx dX5_mark_120 0 rfl ?_
    refine J_getR (q := 70) hx fl_RX5_28 (rfl : k_sh 63 = (5, k_N 5)) rfl rfl dX5_mark_121 ?_
    refine J_bipush (v := (33 : Int32)) hx dX5_mark_124 (by decide) ?_
    refine J_iload_n hx dX5_mark_126 1 rfl ?_
    refine J_iadd hx dX5_mark_127 ?_
    obtain ⟨b15, h⟩ := Ho_gd h
    refine J_iald hx (rfl : k_sh 70 = (10, 40)) b15 dX5_mark_128 ?_
    refine J_aload_n hx dX5_mark_129 0 rfl ?_
    refine J_getR (q := 69) hx fl_RX5_25 (rfl : k_sh 63 = (5, k_N 5)) rfl rfl dX5_mark_130 ?_
    refine J_iload_n hx dX5_mark_133 1 rfl ?_
    obtain ⟨b16, h⟩ := Ho_gd h
    refine J_iald hx (rfl : k_sh 69 = (10, 7)) b16 dX5_mark_134 ?_
    refine J_isub hx dX5_mark_135 ?_
    have h := Ho_some h
    exact J_iret hx hQ dX5_mark_136 h
  have h := Ho_f c14 h
  by_cases c17 : v2 = (3 : Int32)
  · have h := Ho_t c17 h
    refine J_tIn (x' := (3 : Int32)) (off := 76) hx dX5_mark_61 c17 (by decide) (by decide) (by decide) 137 (by decide) ?_
    refine J_aload_n hx dX5_mark_137 0 rfl ?_
    refine J_getR (q := 70) hx fl_RX5_28 (rfl : k_sh 63 = (5, k_N 5)) rfl rfl dX5_mark_138 ?_
    refine J_iconst (v := (5 : Int32)) hx dX5_mark_141 (by decide) ?_
    refine J_iload_n hx dX5_mark_142 1 rfl ?_
    refine J_iadd hx dX5_mark_143 ?_
    obtain ⟨b18, h⟩ := Ho_gd h
    refine J_iald hx (rfl : k_sh 70 = (10, 40)) b18 dX5_mark_144 ?_
    refine J_iconst (v := (1 : Int32)) hx dX5_mark_145 (by decide) ?_
    refine J_isub hx dX5_mark_146 ?_
    have h := Ho_some h
    exact J_iret hx hQ dX5_mark_147 h
  have h := Ho_f c17 h
  by_cases c19 : v2 = (4 : Int32)
  · have h := Ho_t c19 h
    refine J_tIn (x' := (4 : Int32)) (off := 87) hx dX5_mark_61 c19 (by decide) (by decide) (by decide) 148 (by decide) ?_
    refine J_aload_n hx dX5_mark_148 0 rfl ?_
    refine J_getR (q := 70) hx fl_RX5_28 (rfl : k_sh 63 = (5, k_N 5)) rfl rfl dX5_mark_149 ?_
    refine J_bipush (v := (12 : Int32)) hx dX5_mark_152 (by decide) ?_
    refine J_iload_n hx dX5_mark_154 1 rfl ?_
    refine J_iadd hx dX5_mark_155 ?_
    obtain ⟨b20, h⟩ := Ho_gd h
    refine J_iald hx (rfl : k_sh 70 = (10, 40)) b20 dX5_mark_156 ?_
    refine J_iconst (v := (1 : Int32)) hx dX5_mark_157 (by decide) ?_
    refine J_ic_eq hx dX5_mark_158 176 (by decide) (fun c21 => ?_) (fun c21 => ?_)
    · have h := Ho_t c21 h
      refine J_iconst (v := (0 : Int32)) hx dX5_mark_176 (by decide) ?_
      have h := Ho_some h
      exact J_iret hx hQ dX5_mark_177 h
    · have h := Ho_f c21 h
      refine J_aload_n hx dX5_mark_161 0 rfl ?_
      refine J_getR (q := 70) hx fl_RX5_28 (rfl : k_sh 63 = (5, k_N 5)) rfl rfl dX5_mark_162 ?_
      refine J_iconst (v := (0 : Int32)) hx dX5_mark_165 (by decide) ?_
      obtain ⟨b22, h⟩ := Ho_gd h
      refine J_iald hx (rfl : k_sh 70 = (10, 40)) b22 dX5_mark_166 ?_
      refine J_iconst (v := (2 : Int32)) hx dX5_mark_167 (by decide) ?_
      refine J_irem hx (by decide) dX5_mark_168 ?_
      refine J_if_ne hx dX5_mark_169 176 (by decide) (fun c23 => ?_) (fun c23 => ?_)
      · have h := Ho_f c23 h
        refine J_iconst (v := (0 : Int32)) hx dX5_mark_176 (by decide) ?_
        have h := Ho_some h
        exact J_iret hx hQ dX5_mark_177 h
      · have h := Ho_t c23 h
        refine J_iconst (v := (1 : Int32)) hx dX5_mark_172 (by decide) ?_
        refine J_goto hx dX5_mark_173 177 (by decide) ?_
        have h := Ho_some h
        exact J_iret hx hQ dX5_mark_177 h
  have h := Ho_f c19 h
  refine J_tDef hx dX5_mark_61 [(1 : Int32), (2 : Int32), (3 : Int32), (4 : Int32)] (List.forall_mem_cons.mpr ⟨c10, List.forall_mem_cons.mpr ⟨c14, List.forall_mem_cons.mpr ⟨c17, List.forall_mem_cons.mpr ⟨c19, fun _ z => absurd z List.not_mem_nil⟩⟩⟩⟩) (by decide) (by decide) 178 (by decide) ?_
  refine J_iconst (v := (4 : Int32)) hx dX5_mark_178 (by decide) ?_
  refine J_aload_n hx dX5_mark_179 0 rfl ?_
  refine J_getR (q := 70) hx fl_RX5_28 (rfl : k_sh 63 = (5, k_N 5)) rfl rfl dX5_mark_180 ?_
  refine J_iconst (v := (0 : Int32)) hx dX5_mark_183 (by decide) ?_
  obtain ⟨b24, h⟩ := Ho_gd h
  refine J_iald hx (rfl : k_sh 70 = (10, 40)) b24 dX5_mark_184 ?_
  refine J_iconst (v := (4 : Int32)) hx dX5_mark_185 (by decide) ?_
  refine J_irem hx (by decide) dX5_mark_186 ?_
  refine J_isub hx dX5_mark_187 ?_
  refine J_iconst (v := (4 : Int32)) hx dX5_mark_188 (by decide) ?_
  refine J_irem hx (by decide) dX5_mark_189 ?_
  have h := Ho_some h
  exact J_iret hx hQ dX5_mark_190 h
def f_X5_mark_j54 (I : StI) : Option (Int32 × StI) :=
  Option.bind (f_X5_found (3 : Int32) I) (fun t27 => some (t27.1, t27.2))
set_option maxRecDepth 100000 in
set_option maxHeartbeats 4000000 in
theorem s_X5_mark_j54 {X : k_C} {ad : Nat → Nat} {P : Option Value → StI → StL → Prop} {I : StI} {L : StL} (hx : Ok X cX5_mark RX5 4 (some .int) 3) (hQ : OkQ X ad P)    (h : Ho (f_X5_mark_j54 I) (kr_X5_mark P L)) : J X ad 4 I L 54 [(0, .ref (ad 63))] [] := by
  unfold f_X5_mark_j54 at h
  refine J_aload_n hx dX5_mark_54 0 rfl ?_
  refine J_iconst (v := (3 : Int32)) hx dX5_mark_55 (by decide) ?_
  obtain ⟨t27, e28, h⟩ := Ho_bind h
  refine J_callVi hx lkV_RX5_85 (rfl : k_sh 63 = (5, k_N 5)) [.int (3 : Int32)] [] rfl rfl (Nat.le_of_ble_eq_true rfl) (Nat.le_of_ble_eq_true rfl) (s_X5_found  ⟨t27, e28, ⟨rfl, rfl, rfl⟩⟩) dX5_mark_56 ?_
  have h := Ho_some h
  exact J_iret hx hQ dX5_mark_59 h
def f_X5_mark_j44 (v1 : Int32) (v2 : Int32) (v3 : Int32) (I : StI) : Option (Int32 × StI) :=
  (if v2 = (2 : Int32) then (if v3 = (5 : Int32) then f_X5_mark_j60 v1 v2 I else f_X5_mark_j54 I) else f_X5_mark_j54 I)
set_option maxRecDepth 100000 in
set_option maxHeartbeats 4000000 in
theorem s_X5_mark_j44 {X : k_C} {ad : Nat → Nat} {P : Option Value → StI → StL → Prop} {I : StI} {L : StL} (hx : Ok X cX5_mark RX5 4 (some .int) 3) (hQ : OkQ X ad P)  {v1 : Int32} {v2 : Int32} {v3 : Int32}  (h : Ho (f_X5_mark_j44 v1 v2 v3 I) (kr_X5_mark P L)) : J X ad 4 I L 44 [(0, .ref (ad 63)), (1, .int v1), (2, .int v2), (3, .int v3)] [] := by
  unfold f_X5_mark_j44 at h
  refine J_iload_n hx dX5_mark_44 2 rfl ?_
  refine J_iconst (v := (2 : Int32)) hx dX5_mark_45 (by decide) ?_
  refine J_ic_ne hx dX5_mark_46 54 (by decide) (fun c26 => ?_) (fun c26 => ?_)
  · have h := Ho_f c26 h
    refine J_sub (lv' := [(0, .ref (ad 63))]) hx [0] rfl ?_
    exact s_X5_mark_j54 hx hQ  h
  · have h := Ho_t c26 h
    refine J_iload_n hx dX5_mark_49 3 rfl ?_
    refine J_iconst (v := (5 : Int32)) hx dX5_mark_50 (by decide) ?_
    refine J_ic_eq hx dX5_mark_51 60 (by decide) (fun c29 => ?_) (fun c29 => ?_)
    · have h := Ho_t c29 h
      refine J_sub (lv' := [(0, .ref (ad 63)), (1, .int v1), (2, .int v2)]) hx [0, 1, 2] rfl ?_
      exact s_X5_mark_j60 hx hQ  h
    · have h := Ho_f c29 h
      refine J_sub (lv' := [(0, .ref (ad 63))]) hx [0] rfl ?_
      exact s_X5_mark_j54 hx hQ  h
def f_X5_mark (v1 : Int32) (v2 : Int32) (I : StI) : Option (Int32 × StI) :=
  Option.bind (f_X5_isCaller v1 I) (fun t1 => (if t1 = 0 then some ((-1 : Int32), I) else Option.bind (f_X5_in (v2).toInt64 (1 : Int64) (5 : Int64)) (fun t4 => (if t4 = 0 then some ((-1 : Int32), I) else k_gd v1 7 (k_let (I 68 v1.toNatClampNeg) (fun x8 => (if x8 = v2 then f_X5_mark_j60 v1 v2 I else (if v2 = (1 : Int32) then (if x8 = (4 : Int32) then f_X5_mark_j60 v1 v2 I else f_X5_mark_j44 v1 v2 x8 I) else f_X5_mark_j44 v1 v2 x8 I))))))))
set_option maxRecDepth 100000 in
set_option maxHeartbeats 4000000 in
theorem s_X5_mark {l : Launch} {ad : Nat → Nat} {P : Option Value → StI → StL → Prop} {I : StI} {L : StL} {v1 : Int32} {v2 : Int32}  (h : Ho (f_X5_mark v1 v2 I) (kr_X5_mark P L)) : k_Met l ad 3 yX5_mark cX5_mark 4 (some .int) [.ref (ad 63), .int v1, .int v2] I L P := by
  refine k_enter (by decide +kernel) (Nat.le_of_ble_eq_true rfl) (fun X hl hx hQ => ?_)
  clear hl
  have hx : Ok X cX5_mark RX5 4 (some .int) 3 := hx
  show J X ad 4 I L 0 [(0, .ref (ad 63)), (1, .int v1), (2, .int v2)] []
  unfold f_X5_mark at h
  refine J_aload_n hx dX5_mark_0 0 rfl ?_
  refine J_iload_n hx dX5_mark_1 1 rfl ?_
  obtain ⟨t1, e2, h⟩ := Ho_bind h
  refine J_callVi hx lkV_RX5_166 (rfl : k_sh 63 = (5, k_N 5)) [.int v1] [] rfl rfl (Nat.le_of_ble_eq_true rfl) (Nat.le_of_ble_eq_true rfl) (s_X5_isCaller  ⟨t1, e2, ⟨rfl, rfl, rfl⟩⟩) dX5_mark_2 ?_
  refine J_if_eq hx dX5_mark_5 20 (by decide) (fun c3 => ?_) (fun c3 => ?_)
  · have h := Ho_t c3 h
    refine J_iconst (v := (-1 : Int32)) hx dX5_mark_20 (by decide) ?_
    have h := Ho_some h
    exact J_iret hx hQ dX5_mark_21 h
  · have h := Ho_f c3 h
    refine J_iload_n hx dX5_mark_8 2 rfl ?_
    refine J_i2l hx dX5_mark_9 ?_
    refine J_lconst (v := (1 : Int64)) hx dX5_mark_10 (by decide) ?_
    refine J_ldc2 hx cn_RX5_73 dX5_mark_11 ?_
    obtain ⟨t4, e5, h⟩ := Ho_bind h
    refine J_callSi hx lkS_RX5_75 [.long (v2).toInt64, .long (1 : Int64), .long (5 : Int64)] [] rfl rfl (Nat.le_of_ble_eq_true rfl) (Nat.le_of_ble_eq_true rfl) (s_X5_in  ⟨t4, e5, ⟨rfl, rfl, rfl⟩⟩) dX5_mark_14 ?_
    refine J_if_ne hx dX5_mark_17 22 (by decide) (fun c6 => ?_) (fun c6 => ?_)
    · have h := Ho_f c6 h
      refine J_aload_n hx dX5_mark_22 0 rfl ?_
      refine J_getR (q := 68) hx fl_RX5_22 (rfl : k_sh 63 = (5, k_N 5)) rfl rfl dX5_mark_23 ?_
      refine J_iload_n hx dX5_mark_26 1 rfl ?_
      obtain ⟨b7, h⟩ := Ho_gd h
      refine J_iald hx (rfl : k_sh 68 = (10, 7)) b7 dX5_mark_27 ?_
      obtain ⟨x8, hx8, h⟩ := Ho_let h
      refine J_istore_n (x := x8) (lv' := [(3, .int x8), (0, .ref (ad 63)), (1, .int v1), (2, .int v2)]) hx dX5_mark_28 hx8 (by decide) rfl ?_
      refine J_iload_n hx dX5_mark_29 0 rfl ?_
      refine J_iload_n hx dX5_mark_30 3 rfl ?_
      refine J_ic_eq hx dX5_mark_31 60 (by decide) (fun c9 => ?_) (fun c9 => ?_)
      · have h := Ho_t c9 h
        refine J_sub (lv' := [(0, .ref (ad 63)), (1, .int v1), (2, .int v2)]) hx [1, 2, 3] rfl ?_
        exact s_X5_mark_j60 hx hQ  h
      · have h := Ho_f c9 h
        refine J_iload_n hx dX5_mark_34 3 rfl ?_
        refine J_iconst (v := (1 : Int32)) hx dX5_mark_35 (by decide) ?_
        refine J_ic_ne hx dX5_mark_36 44 (by decide) (fun c25 => ?_) (fun c25 => ?_)
        · have h := Ho_f c25 h
          refine J_sub (lv' := [(0, .ref (ad 63)), (1, .int v1), (2, .int v2), (3, .int x8)]) hx [1, 2, 3, 0] rfl ?_
          exact s_X5_mark_j44 hx hQ  h
        · have h := Ho_t c25 h
          refine J_iload_n hx dX5_mark_39 0 rfl ?_
          refine J_iconst (v := (4 : Int32)) hx dX5_mark_40 (by decide) ?_
          refine J_ic_eq hx dX5_mark_41 60 (by decide) (fun c30 => ?_) (fun c30 => ?_)
          · have h := Ho_t c30 h
            refine J_sub (lv' := [(0, .ref (ad 63)), (1, .int v1), (2, .int v2)]) hx [1, 2, 3] rfl ?_
            exact s_X5_mark_j60 hx hQ  h
          · have h := Ho_f c30 h
            refine J_sub (lv' := [(0, .ref (ad 63)), (1, .int v1), (2, .int v2), (3, .int x8)]) hx [1, 2, 3, 0] rfl ?_
            exact s_X5_mark_j44 hx hQ  h
    · have h := Ho_t c6 h
      refine J_iconst (v := (-1 : Int32)) hx dX5_mark_20 (by decide) ?_
      have h := Ho_some h
      exact J_iret hx hQ dX5_mark_21 h
abbrev kr_X5_mean (P : Option Value → StI → StL → Prop) (L : StL) : Int32 × StI → Prop := fun t => P (some (.int t.1)) t.2 L
abbrev g_X5_mean_L44 (X : k_C) (ad : Nat → Nat) (I : StI) (L : StL) (v1 : Int32) : (Int64 × Int32) → Prop := fun s => J X ad 5 I L 44 [(0, .ref (ad 63)), (1, .int v1), (2, .long s.1), (4, .int s.2)] []
def f_X5_mean_L44_b (v1 : Int32) (v2 : Int64) (v4 : Int32) (I : StI) : Option ((Int64 × Int32) ⊕ (Int32 × StI)) :=
  k_gd v1 6 ((if (I 64 v1.toNatClampNeg) ≤ v4 then k_gd v1 6 (k_nzL ((I 64 v1.toNatClampNeg)).toInt64 (Option.bind (f_X5_tell ((v2 / ((I 64 v1.toNatClampNeg)).toInt64)).toInt32 I) (fun t12 => some (.inr (t12.1, t12.2))))) else k_gd (((40 : Int32) * v1) + v4) 240 (k_let (v2 + ((I 65 (((40 : Int32) * v1) + v4).toNatClampNeg)).toInt64) (fun x15 => k_let (v4 + (1 : Int32)) (fun x16 => some (.inl (x15, x16)))))))
def f_X5_mean_L44 (v1 : Int32) (I : StI) (n : Nat) (v2 : Int64) (v4 : Int32) : Option (Int32 × StI) :=
  k_loop (fun s => f_X5_mean_L44_b v1 s.1 s.2 I) n (v2, v4)
set_option maxRecDepth 100000 in
set_option maxHeartbeats 4000000 in
theorem s_X5_mean_L44_b {X : k_C} {ad : Nat → Nat} {P : Option Value → StI → StL → Prop} {I : StI} {L : StL} (hx : Ok X cX5_mean RX5 5 (some .int) 3) (hQ : OkQ X ad P)  {v1 : Int32} {v2 : Int64} {v4 : Int32}  (h : Ho (f_X5_mean_L44_b v1 v2 v4 I) (Sum.elim (g_X5_mean_L44 X ad I L v1) (kr_X5_mean P L))) : J X ad 5 I L 44 [(0, .ref (ad 63)), (1, .int v1), (2, .long v2), (4, .int v4)] [] := by
  unfold f_X5_mean_L44_b at h
  refine J_iload hx dX5_mean_44 3 rfl ?_
  refine J_aload_n hx dX5_mean_46 0 rfl ?_
  refine J_getR (q := 64) hx fl_RX5_7 (rfl : k_sh 63 = (5, k_N 5)) rfl rfl dX5_mean_47 ?_
  refine J_iload_n hx dX5_mean_50 1 rfl ?_
  obtain ⟨b8, h⟩ := Ho_gd h
  refine J_iald hx (rfl : k_sh 64 = (10, 6)) b8 dX5_mean_51 ?_
  refine J_ic_ge hx dX5_mean_52 77 (by decide) (fun c9 => ?_) (fun c9 => ?_)
  · have h := Ho_t c9 h
    refine J_aload_n hx dX5_mean_77 0 rfl ?_
    refine J_lload_n hx dX5_mean_78 2 rfl ?_
    refine J_aload_n hx dX5_mean_79 0 rfl ?_
    refine J_getR (q := 64) hx fl_RX5_7 (rfl : k_sh 63 = (5, k_N 5)) rfl rfl dX5_mean_80 ?_
    refine J_iload_n hx dX5_mean_83 1 rfl ?_
    obtain ⟨b10, h⟩ := Ho_gd h
    refine J_iald hx (rfl : k_sh 64 = (10, 6)) b10 dX5_mean_84 ?_
    refine J_i2l hx dX5_mean_85 ?_
    obtain ⟨hz11, h⟩ := Ho_nzL h
    refine J_ldiv hx hz11 dX5_mean_86 ?_
    refine J_l2i hx dX5_mean_87 ?_
    obtain ⟨t12, e13, h⟩ := Ho_bind h
    refine J_callVi hx lkV_RX5_89 (rfl : k_sh 63 = (5, k_N 5)) [.int ((v2 / ((I 64 v1.toNatClampNeg)).toInt64)).toInt32] [] rfl rfl (Nat.le_of_ble_eq_true rfl) (Nat.le_of_ble_eq_true rfl) (s_X5_tell  ⟨t12, e13, ⟨rfl, rfl, rfl⟩⟩) dX5_mean_88 ?_
    have h := Ho_some h
    exact J_iret hx hQ dX5_mean_91 h
  · have h := Ho_f c9 h
    refine J_lload_n hx dX5_mean_55 2 rfl ?_
    refine J_aload_n hx dX5_mean_56 0 rfl ?_
    refine J_getR (q := 65) hx fl_RX5_13 (rfl : k_sh 63 = (5, k_N 5)) rfl rfl dX5_mean_57 ?_
    refine J_bipush (v := (40 : Int32)) hx dX5_mean_60 (by decide) ?_
    refine J_iload_n hx dX5_mean_62 1 rfl ?_
    refine J_imul hx dX5_mean_63 ?_
    refine J_iload hx dX5_mean_64 3 rfl ?_
    refine J_iadd hx dX5_mean_66 ?_
    obtain ⟨b14, h⟩ := Ho_gd h
    refine J_iald hx (rfl : k_sh 65 = (10, 240)) b14 dX5_mean_67 ?_
    refine J_i2l hx dX5_mean_68 ?_
    refine J_ladd hx dX5_mean_69 ?_
    obtain ⟨x15, hx15, h⟩ := Ho_let h
    refine J_lstore_n (x := x15) (lv' := [(2, .long x15), (0, .ref (ad 63)), (1, .int v1), (4, .int v4)]) hx dX5_mean_70 hx15 (by decide) rfl ?_
    obtain ⟨x16, hx16, h⟩ := Ho_let h
    refine J_iinc (x := x16) (lv' := [(4, .int x16), (2, .long x15), (0, .ref (ad 63)), (1, .int v1)]) hx dX5_mean_71 3 rfl (by rw [hx16]; rfl) (by decide) rfl ?_
    refine J_goto hx dX5_mean_74 44 (by decide) ?_
    refine J_sub (lv' := [(0, .ref (ad 63)), (1, .int v1), (2, .long x15), (4, .int x16)]) hx [2, 3, 1, 0] rfl ?_
    have h := Ho_some h
    exact h
set_option maxRecDepth 100000 in
set_option maxHeartbeats 4000000 in
theorem s_X5_mean_L44 {X : k_C} {ad : Nat → Nat} {P : Option Value → StI → StL → Prop} {I : StI} {L : StL} (hx : Ok X cX5_mean RX5 5 (some .int) 3) (hQ : OkQ X ad P)  {v1 : Int32} {v2 : Int64} {v4 : Int32}  (n : Nat) (h : Ho (f_X5_mean_L44 v1 I n v2 v4) (kr_X5_mean P L)) : J X ad 5 I L 44 [(0, .ref (ad 63)), (1, .int v1), (2, .long v2), (4, .int v4)] [] := by
  exact k_loop_ho (G := g_X5_mean_L44 X ad I L v1) (fun s hs => s_X5_mean_L44_b hx hQ  hs) n (v2, v4) h
def f_X5_mean (v1 : Int32) (I : StI) : Option (Int32 × StI) :=
  Option.bind (f_X5_isRow v1) (fun t1 => (if t1 = 0 then some ((-1 : Int32), I) else k_gd v1 6 ((if 0 ≤ (I 64 v1.toNatClampNeg) then k_gd v1 6 ((if (I 64 v1.toNatClampNeg) = 0 then Option.bind (f_X5_found (4 : Int32) I) (fun t17 => some (t17.1, t17.2)) else f_X5_mean_L44 v1 I k_fu (0 : Int64) (0 : Int32))) else Option.bind (f_X5_found (1 : Int32) I) (fun t19 => some (t19.1, t19.2))))))
set_option maxRecDepth 100000 in
set_option maxHeartbeats 4000000 in
theorem s_X5_mean {l : Launch} {ad : Nat → Nat} {P : Option Value → StI → StL → Prop} {I : StI} {L : StL} {v1 : Int32}  (h : Ho (f_X5_mean v1 I) (kr_X5_mean P L)) : k_Met l ad 3 yX5_mean cX5_mean 5 (some .int) [.ref (ad 63), .int v1] I L P := by
  refine k_enter (by decide +kernel) (Nat.le_of_ble_eq_true rfl) (fun X hl hx hQ => ?_)
  clear hl
  have hx : Ok X cX5_mean RX5 5 (some .int) 3 := hx
  show J X ad 5 I L 0 [(0, .ref (ad 63)), (1, .int v1)] []
  unfold f_X5_mean at h
  refine J_iload_n hx dX5_mean_0 1 rfl ?_
  obtain ⟨t1, e2, h⟩ := Ho_bind h
  refine J_callSi hx lkS_RX5_81 [.int v1] [] rfl rfl (Nat.le_of_ble_eq_true rfl) (Nat.le_of_ble_eq_true rfl) (s_X5_isRow  ⟨t1, e2, ⟨rfl, rfl, rfl⟩⟩) dX5_mean_1 ?_
  refine J_if_ne hx dX5_mean_4 9 (by decide) (fun c3 => ?_) (fun c3 => ?_)
  · have h := Ho_f c3 h
    refine J_aload_n hx dX5_mean_9 0 rfl ?_
    refine J_getR (q := 64) hx fl_RX5_7 (rfl : k_sh 63 = (5, k_N 5)) rfl rfl dX5_mean_10 ?_
    refine J_iload_n hx dX5_mean_13 1 rfl ?_
    obtain ⟨b4, h⟩ := Ho_gd h
    refine J_iald hx (rfl : k_sh 64 = (10, 6)) b4 dX5_mean_14 ?_
    refine J_if_ge hx dX5_mean_15 24 (by decide) (fun c5 => ?_) (fun c5 => ?_)
    · have h := Ho_t c5 h
      refine J_aload_n hx dX5_mean_24 0 rfl ?_
      refine J_getR (q := 64) hx fl_RX5_7 (rfl : k_sh 63 = (5, k_N 5)) rfl rfl dX5_mean_25 ?_
      refine J_iload_n hx dX5_mean_28 1 rfl ?_
      obtain ⟨b6, h⟩ := Ho_gd h
      refine J_iald hx (rfl : k_sh 64 = (10, 6)) b6 dX5_mean_29 ?_
      refine J_if_ne hx dX5_mean_30 39 (by decide) (fun c7 => ?_) (fun c7 => ?_)
      · have h := Ho_f c7 h
        refine J_lconst (v := (0 : Int64)) hx dX5_mean_39 (by decide) ?_
        refine J_lstore_n (x := (0 : Int64)) (lv' := [(2, .long (0 : Int64)), (0, .ref (ad 63)), (1, .int v1)]) hx dX5_mean_40 rfl (by decide) rfl ?_
        refine J_iconst (v := (0 : Int32)) hx dX5_mean_41 (by decide) ?_
        refine J_istore (x := (0 : Int32)) (lv' := [(4, .int (0 : Int32)), (2, .long (0 : Int64)), (0, .ref (ad 63)), (1, .int v1)]) hx dX5_mean_42 rfl (by decide) rfl ?_
        refine J_sub (lv' := [(0, .ref (ad 63)), (1, .int v1), (2, .long (0 : Int64)), (4, .int (0 : Int32))]) hx [2, 3, 1, 0] rfl ?_
        exact s_X5_mean_L44 hx hQ  k_fu h
      · have h := Ho_t c7 h
        refine J_aload_n hx dX5_mean_33 0 rfl ?_
        refine J_iconst (v := (4 : Int32)) hx dX5_mean_34 (by decide) ?_
        obtain ⟨t17, e18, h⟩ := Ho_bind h
        refine J_callVi hx lkV_RX5_85 (rfl : k_sh 63 = (5, k_N 5)) [.int (4 : Int32)] [] rfl rfl (Nat.le_of_ble_eq_true rfl) (Nat.le_of_ble_eq_true rfl) (s_X5_found  ⟨t17, e18, ⟨rfl, rfl, rfl⟩⟩) dX5_mean_35 ?_
        have h := Ho_some h
        exact J_iret hx hQ dX5_mean_38 h
    · have h := Ho_f c5 h
      refine J_aload_n hx dX5_mean_18 0 rfl ?_
      refine J_iconst (v := (1 : Int32)) hx dX5_mean_19 (by decide) ?_
      obtain ⟨t19, e20, h⟩ := Ho_bind h
      refine J_callVi hx lkV_RX5_85 (rfl : k_sh 63 = (5, k_N 5)) [.int (1 : Int32)] [] rfl rfl (Nat.le_of_ble_eq_true rfl) (Nat.le_of_ble_eq_true rfl) (s_X5_found  ⟨t19, e20, ⟨rfl, rfl, rfl⟩⟩) dX5_mean_20 ?_
      have h := Ho_some h
      exact J_iret hx hQ dX5_mean_23 h
  · have h := Ho_t c3 h
    refine J_iconst (v := (-1 : Int32)) hx dX5_mean_7 (by decide) ?_
    have h := Ho_some h
    exact J_iret hx hQ dX5_mean_8 h
abbrev kr_X5_mend (P : Option Value → StI → StL → Prop) (L : StL) : Int32 × StI → Prop := fun t => P (some (.int t.1)) t.2 L
abbrev g_X5_mend_L45 (X : k_C) (ad : Nat → Nat) (L : StL) (v1 : Int32) : (Int32 × Int32 × Int32 × StI) → Prop := fun s => J X ad 6 s.2.2.2 L 45 [(0, .ref (ad 63)), (1, .int v1), (2, .int s.1), (3, .int s.2.1), (4, .int s.2.2.1)] []
def f_X5_mend_j89 (v1 : Int32) (v2 : Int32) (v4 : Int32) (v5 : Int32) (s0 : Int32) (I : StI) : Option ((Int32 × Int32 × Int32 × StI) ⊕ (Int32 × StI)) :=
  (if v5 ≤ v2 then k_let (v4 + (1 : Int32)) (fun x24 => some (.inl (v2, s0, x24, I))) else k_let (v4 + (1 : Int32)) (fun x25 => some (.inl (v5, s0, x25, I))))
set_option maxRecDepth 100000 in
set_option maxHeartbeats 4000000 in
theorem s_X5_mend_j89 {X : k_C} {ad : Nat → Nat} {P : Option Value → StI → StL → Prop} {I : StI} {L : StL} (hx : Ok X cX5_mend RX5 6 (some .int) 5) (hQ : OkQ X ad P)  {v1 : Int32} {v2 : Int32} {v4 : Int32} {v5 : Int32} {s0 : Int32}  (h : Ho (f_X5_mend_j89 v1 v2 v4 v5 s0 I) (Sum.elim (g_X5_mend_L45 X ad L v1) (kr_X5_mend P L))) : J X ad 6 I L 89 [(0, .ref (ad 63)), (1, .int v1), (2, .int v2), (4, .int v4), (5, .int v5)] [.int s0] := by
  unfold f_X5_mend_j89 at h
  refine J_istore_n (x := s0) (lv' := [(3, .int s0), (0, .ref (ad 63)), (1, .int v1), (2, .int v2), (4, .int v4), (5, .int v5)]) hx dX5_mend_89 rfl (by decide) rfl ?_
  refine J_iload hx dX5_mend_90 5 rfl ?_
  refine J_iload_n hx dX5_mend_92 3 rfl ?_
  refine J_ic_le hx dX5_mend_93 101 (by decide) (fun c23 => ?_) (fun c23 => ?_)
  · have h := Ho_t c23 h
    refine J_iload_n hx dX5_mend_101 3 rfl ?_
    refine J_istore_n (x := v2) (lv' := [(2, .int v2), (3, .int s0), (0, .ref (ad 63)), (1, .int v1), (4, .int v4), (5, .int v5)]) hx dX5_mend_102 rfl (by decide) rfl ?_
    obtain ⟨x24, hx24, h⟩ := Ho_let h
    refine J_iinc (x := x24) (lv' := [(4, .int x24), (2, .int v2), (3, .int s0), (0, .ref (ad 63)), (1, .int v1), (5, .int v5)]) hx dX5_mend_103 4 rfl (by rw [hx24]; rfl) (by decide) rfl ?_
    refine J_goto hx dX5_mend_106 45 (by decide) ?_
    refine J_sub (lv' := [(0, .ref (ad 63)), (1, .int v1), (2, .int v2), (3, .int s0), (4, .int x24)]) hx [3, 4, 1, 2, 0] rfl ?_
    have h := Ho_some h
    exact h
  · have h := Ho_f c23 h
    refine J_iload hx dX5_mend_96 5 rfl ?_
    refine J_goto hx dX5_mend_98 102 (by decide) ?_
    refine J_istore_n (x := v5) (lv' := [(2, .int v5), (3, .int s0), (0, .ref (ad 63)), (1, .int v1), (4, .int v4), (5, .int v5)]) hx dX5_mend_102 rfl (by decide) rfl ?_
    obtain ⟨x25, hx25, h⟩ := Ho_let h
    refine J_iinc (x := x25) (lv' := [(4, .int x25), (2, .int v5), (3, .int s0), (0, .ref (ad 63)), (1, .int v1), (5, .int v5)]) hx dX5_mend_103 4 rfl (by rw [hx25]; rfl) (by decide) rfl ?_
    refine J_goto hx dX5_mend_106 45 (by decide) ?_
    refine J_sub (lv' := [(0, .ref (ad 63)), (1, .int v1), (2, .int v5), (3, .int s0), (4, .int x25)]) hx [3, 4, 1, 2, 0] rfl ?_
    have h := Ho_some h
    exact h
def f_X5_mend_L45_b (v1 : Int32) (v2 : Int32) (v3 : Int32) (v4 : Int32) (I : StI) : Option ((Int32 × Int32 × Int32 × StI) ⊕ (Int32 × StI)) :=
  (if (8 : Int32) ≤ v4 then (if v3 = (-9 : Int32) then some (.inr ((-9 : Int32), I)) else Option.bind (f_X5_answer v3 v2 I) (fun t13 => some (.inr (t13.1, t13.2)))) else Option.bind (f_X5_laysAside I) (fun t15 => k_gd (3 : Int32) 40 (k_gd (3 : Int32) 40 (k_let (k_up t15 71 (3 : Int32).toNatClampNeg ((t15 71 (3 : Int32).toNatClampNeg) ^^^ ((1 : Int32) <<< (v4 &&& 31)))) (fun I19 => Option.bind (f_X5_goesOn v1 (0 : Int32) I19) (fun t20 => (if t20.1 ≤ v2 then f_X5_mend_j89 v1 v2 v4 t20.1 v3 t20.2 else f_X5_mend_j89 v1 v2 v4 t20.1 v4 t20.2)))))))
def f_X5_mend_L45 (v1 : Int32) (n : Nat) (v2 : Int32) (v3 : Int32) (v4 : Int32) (I : StI) : Option (Int32 × StI) :=
  k_loop (fun s => f_X5_mend_L45_b v1 s.1 s.2.1 s.2.2.1 s.2.2.2) n (v2, v3, v4, I)
set_option maxRecDepth 100000 in
set_option maxHeartbeats 4000000 in
theorem s_X5_mend_L45_b {X : k_C} {ad : Nat → Nat} {P : Option Value → StI → StL → Prop} {I : StI} {L : StL} (hx : Ok X cX5_mend RX5 6 (some .int) 5) (hQ : OkQ X ad P)  {v1 : Int32} {v2 : Int32} {v3 : Int32} {v4 : Int32}  (h : Ho (f_X5_mend_L45_b v1 v2 v3 v4 I) (Sum.elim (g_X5_mend_L45 X ad L v1) (kr_X5_mend P L))) : J X ad 6 I L 45 [(0, .ref (ad 63)), (1, .int v1), (2, .int v2), (3, .int v3), (4, .int v4)] [] := by
  unfold f_X5_mend_L45_b at h
  refine J_iload hx dX5_mend_45 4 rfl ?_
  refine J_bipush (v := (8 : Int32)) hx dX5_mend_47 (by decide) ?_
  refine J_ic_ge hx dX5_mend_49 109 (by decide) (fun c11 => ?_) (fun c11 => ?_)
  · have h := Ho_t c11 h
    refine J_iload_n hx dX5_mend_109 3 rfl ?_
    refine J_bipush (v := (-9 : Int32)) hx dX5_mend_110 (by decide) ?_
    refine J_ic_ne hx dX5_mend_112 120 (by decide) (fun c12 => ?_) (fun c12 => ?_)
    · have h := Ho_f c12 h
      refine J_aload_n hx dX5_mend_120 0 rfl ?_
      refine J_iload_n hx dX5_mend_121 3 rfl ?_
      refine J_iload_n hx dX5_mend_122 2 rfl ?_
      obtain ⟨t13, e14, h⟩ := Ho_bind h
      refine J_callVi hx lkV_RX5_189 (rfl : k_sh 63 = (5, k_N 5)) [.int v3, .int v2] [] rfl rfl (Nat.le_of_ble_eq_true rfl) (Nat.le_of_ble_eq_true rfl) (s_X5_answer  ⟨t13, e14, ⟨rfl, rfl, rfl⟩⟩) dX5_mend_123 ?_
      have h := Ho_some h
      exact J_iret hx hQ dX5_mend_126 h
    · have h := Ho_t c12 h
      refine J_bipush (v := (-9 : Int32)) hx dX5_mend_115 (by decide) ?_
      refine J_goto hx dX5_mend_117 126 (by decide) ?_
      have h := Ho_some h
      exact J_iret hx hQ dX5_mend_126 h
  · have h := Ho_f c11 h
    refine J_aload_n hx dX5_mend_52 0 rfl ?_
    obtain ⟨t15, e16, h⟩ := Ho_bind h
    refine J_callVv hx lkV_RX5_195 (rfl : k_sh 63 = (5, k_N 5)) [] [] rfl rfl (Nat.le_of_ble_eq_true rfl) (Nat.le_of_ble_eq_true rfl) (s_X5_laysAside  ⟨t15, e16, ⟨rfl, rfl, rfl⟩⟩) dX5_mend_53 ?_
    refine J_aload_n hx dX5_mend_56 0 rfl ?_
    refine J_getR (q := 71) hx fl_RX5_31 (rfl : k_sh 63 = (5, k_N 5)) rfl rfl dX5_mend_57 ?_
    refine J_iconst (v := (3 : Int32)) hx dX5_mend_60 (by decide) ?_
    refine J_dup2 hx dX5_mend_61 rfl rfl ?_
    obtain ⟨b17, h⟩ := Ho_gd h
    refine J_iald hx (rfl : k_sh 71 = (10, 40)) b17 dX5_mend_62 ?_
    refine J_iconst (v := (1 : Int32)) hx dX5_mend_63 (by decide) ?_
    refine J_iload hx dX5_mend_64 4 rfl ?_
    refine J_ishl hx dX5_mend_66 ?_
    refine J_ixor hx dX5_mend_67 ?_
    obtain ⟨b18, h⟩ := Ho_gd h
    obtain ⟨I19, hI19, h⟩ := Ho_let h
    refine J_iast hx (rfl : k_sh 71 = (10, 40)) b18 dX5_mend_68 hI19 ?_
    refine J_aload_n hx dX5_mend_69 0 rfl ?_
    refine J_iload_n hx dX5_mend_70 1 rfl ?_
    refine J_iconst (v := (0 : Int32)) hx dX5_mend_71 (by decide) ?_
    obtain ⟨t20, e21, h⟩ := Ho_bind h
    refine J_callVi hx lkV_RX5_198 (rfl : k_sh 63 = (5, k_N 5)) [.int v1, .int (0 : Int32)] [] rfl rfl (Nat.le_of_ble_eq_true rfl) (Nat.le_of_ble_eq_true rfl) (s_X5_goesOn  ⟨t20, e21, ⟨rfl, rfl, rfl⟩⟩) dX5_mend_72 ?_
    refine J_istore (x := t20.1) (lv' := [(5, .int t20.1), (0, .ref (ad 63)), (1, .int v1), (2, .int v2), (3, .int v3), (4, .int v4)]) hx dX5_mend_75 rfl (by decide) rfl ?_
    refine J_iload hx dX5_mend_77 0 rfl ?_
    refine J_iload_n hx dX5_mend_79 3 rfl ?_
    refine J_ic_le hx dX5_mend_80 88 (by decide) (fun c22 => ?_) (fun c22 => ?_)
    · have h := Ho_t c22 h
      refine J_iload_n hx dX5_mend_88 4 rfl ?_
      refine J_sub (lv' := [(0, .ref (ad 63)), (1, .int v1), (2, .int v2), (4, .int v4), (5, .int t20.1)]) hx [1, 2, 3, 5, 0] rfl ?_
      exact s_X5_mend_j89 hx hQ  h
    · have h := Ho_f c22 h
      refine J_iload hx dX5_mend_83 5 rfl ?_
      refine J_goto hx dX5_mend_85 89 (by decide) ?_
      refine J_sub (lv' := [(0, .ref (ad 63)), (1, .int v1), (2, .int v2), (4, .int v4), (5, .int t20.1)]) hx [1, 2, 3, 5, 0] rfl ?_
      exact s_X5_mend_j89 hx hQ  h
set_option maxRecDepth 100000 in
set_option maxHeartbeats 4000000 in
theorem s_X5_mend_L45 {X : k_C} {ad : Nat → Nat} {P : Option Value → StI → StL → Prop} {I : StI} {L : StL} (hx : Ok X cX5_mend RX5 6 (some .int) 5) (hQ : OkQ X ad P)  {v1 : Int32} {v2 : Int32} {v3 : Int32} {v4 : Int32}  (n : Nat) (h : Ho (f_X5_mend_L45 v1 n v2 v3 v4 I) (kr_X5_mend P L)) : J X ad 6 I L 45 [(0, .ref (ad 63)), (1, .int v1), (2, .int v2), (3, .int v3), (4, .int v4)] [] := by
  exact k_loop_ho (G := g_X5_mend_L45 X ad L v1) (fun s hs => s_X5_mend_L45_b hx hQ  hs) n (v2, v3, v4, I) h
def f_X5_mend (v1 : Int32) (I : StI) : Option (Int32 × StI) :=
  Option.bind (f_X5_in (v1).toInt64 (1 : Int64) (40 : Int64)) (fun t1 => (if t1 = 0 then some ((-1 : Int32), I) else (if (I 63 4) = 0 then some ((-4 : Int32), I) else Option.bind (f_X5_asKinds I) (fun t5 => Option.bind (f_X5_laysAside t5) (fun t7 => Option.bind (f_X5_goesOn v1 (0 : Int32) t7) (fun t9 => f_X5_mend_L45 v1 k_fu t9.1 (-9 : Int32) (0 : Int32) t9.2))))))
set_option maxRecDepth 100000 in
set_option maxHeartbeats 4000000 in
theorem s_X5_mend {l : Launch} {ad : Nat → Nat} {P : Option Value → StI → StL → Prop} {I : StI} {L : StL} {v1 : Int32}  (h : Ho (f_X5_mend v1 I) (kr_X5_mend P L)) : k_Met l ad 5 yX5_mend cX5_mend 6 (some .int) [.ref (ad 63), .int v1] I L P := by
  refine k_enter (by decide +kernel) (Nat.le_of_ble_eq_true rfl) (fun X hl hx hQ => ?_)
  clear hl
  have hx : Ok X cX5_mend RX5 6 (some .int) 5 := hx
  show J X ad 6 I L 0 [(0, .ref (ad 63)), (1, .int v1)] []
  unfold f_X5_mend at h
  refine J_iload_n hx dX5_mend_0 1 rfl ?_
  refine J_i2l hx dX5_mend_1 ?_
  refine J_lconst (v := (1 : Int64)) hx dX5_mend_2 (by decide) ?_
  refine J_ldc2 hx cn_RX5_201 dX5_mend_3 ?_
  obtain ⟨t1, e2, h⟩ := Ho_bind h
  refine J_callSi hx lkS_RX5_75 [.long (v1).toInt64, .long (1 : Int64), .long (40 : Int64)] [] rfl rfl (Nat.le_of_ble_eq_true rfl) (Nat.le_of_ble_eq_true rfl) (s_X5_in  ⟨t1, e2, ⟨rfl, rfl, rfl⟩⟩) dX5_mend_6 ?_
  refine J_if_ne hx dX5_mend_9 14 (by decide) (fun c3 => ?_) (fun c3 => ?_)
  · have h := Ho_f c3 h
    refine J_aload_n hx dX5_mend_14 0 rfl ?_
    refine J_getI hx fl_RX5_115 (rfl : k_sh 63 = (5, k_N 5)) rfl dX5_mend_15 ?_
    refine J_if_ne hx dX5_mend_18 24 (by decide) (fun c4 => ?_) (fun c4 => ?_)
    · have h := Ho_f c4 h
      refine J_aload_n hx dX5_mend_24 0 rfl ?_
      obtain ⟨t5, e6, h⟩ := Ho_bind h
      refine J_callVv hx lkV_RX5_174 (rfl : k_sh 63 = (5, k_N 5)) [] [] rfl rfl (Nat.le_of_ble_eq_true rfl) (Nat.le_of_ble_eq_true rfl) (s_X5_asKinds  ⟨t5, e6, ⟨rfl, rfl, rfl⟩⟩) dX5_mend_25 ?_
      refine J_aload_n hx dX5_mend_28 0 rfl ?_
      obtain ⟨t7, e8, h⟩ := Ho_bind h
      refine J_callVv hx lkV_RX5_195 (rfl : k_sh 63 = (5, k_N 5)) [] [] rfl rfl (Nat.le_of_ble_eq_true rfl) (Nat.le_of_ble_eq_true rfl) (s_X5_laysAside  ⟨t7, e8, ⟨rfl, rfl, rfl⟩⟩) dX5_mend_29 ?_
      refine J_aload_n hx dX5_mend_32 0 rfl ?_
      refine J_iload_n hx dX5_mend_33 1 rfl ?_
      refine J_iconst (v := (0 : Int32)) hx dX5_mend_34 (by decide) ?_
      obtain ⟨t9, e10, h⟩ := Ho_bind h
      refine J_callVi hx lkV_RX5_198 (rfl : k_sh 63 = (5, k_N 5)) [.int v1, .int (0 : Int32)] [] rfl rfl (Nat.le_of_ble_eq_true rfl) (Nat.le_of_ble_eq_true rfl) (s_X5_goesOn  ⟨t9, e10, ⟨rfl, rfl, rfl⟩⟩) dX5_mend_35 ?_
      refine J_istore_n (x := t9.1) (lv' := [(2, .int t9.1), (0, .ref (ad 63)), (1, .int v1)]) hx dX5_mend_38 rfl (by decide) rfl ?_
      refine J_bipush (v := (-9 : Int32)) hx dX5_mend_39 (by decide) ?_
      refine J_istore_n (x := (-9 : Int32)) (lv' := [(3, .int (-9 : Int32)), (2, .int t9.1), (0, .ref (ad 63)), (1, .int v1)]) hx dX5_mend_41 rfl (by decide) rfl ?_
      refine J_iconst (v := (0 : Int32)) hx dX5_mend_42 (by decide) ?_
      refine J_istore (x := (0 : Int32)) (lv' := [(4, .int (0 : Int32)), (3, .int (-9 : Int32)), (2, .int t9.1), (0, .ref (ad 63)), (1, .int v1)]) hx dX5_mend_43 rfl (by decide) rfl ?_
      refine J_sub (lv' := [(0, .ref (ad 63)), (1, .int v1), (2, .int t9.1), (3, .int (-9 : Int32)), (4, .int (0 : Int32))]) hx [3, 4, 2, 1, 0] rfl ?_
      exact s_X5_mend_L45 hx hQ  k_fu h
    · have h := Ho_t c4 h
      refine J_bipush (v := (-4 : Int32)) hx dX5_mend_21 (by decide) ?_
      have h := Ho_some h
      exact J_iret hx hQ dX5_mend_23 h
  · have h := Ho_t c3 h
    refine J_iconst (v := (-1 : Int32)) hx dX5_mend_12 (by decide) ?_
    have h := Ho_some h
    exact J_iret hx hQ dX5_mend_13 h
abbrev kr_X5_mid (P : Option Value → StI → StL → Prop) : Int32 × StI × StL → Prop := fun t => P (some (.int t.1)) t.2.1 t.2.2
def f_X5_mid (v1 : Int32) (I : StI) (L : StL) : Option (Int32 × StI × StL) :=
  Option.bind (f_X5_chance (0 : Int32) v1 (1 : Int32) I L) (fun t1 => some (t1.1, t1.2.1, t1.2.2))
set_option maxRecDepth 100000 in
set_option maxHeartbeats 4000000 in
theorem s_X5_mid {l : Launch} {ad : Nat → Nat} {P : Option Value → StI → StL → Prop} {I : StI} {L : StL} {v1 : Int32}  (h : Ho (f_X5_mid v1 I L) (kr_X5_mid P)) : k_Met l ad 6 yX5_mid cX5_mid 2 (some .int) [.ref (ad 63), .int v1] I L P := by
  refine k_enter (by decide +kernel) (Nat.le_of_ble_eq_true rfl) (fun X hl hx hQ => ?_)
  clear hl
  have hx : Ok X cX5_mid RX5 2 (some .int) 6 := hx
  show J X ad 2 I L 0 [(0, .ref (ad 63)), (1, .int v1)] []
  unfold f_X5_mid at h
  refine J_aload_n hx dX5_mid_0 0 rfl ?_
  refine J_iconst (v := (0 : Int32)) hx dX5_mid_1 (by decide) ?_
  refine J_iload_n hx dX5_mid_2 1 rfl ?_
  refine J_iconst (v := (1 : Int32)) hx dX5_mid_3 (by decide) ?_
  obtain ⟨t1, e2, h⟩ := Ho_bind h
  refine J_callVi hx lkV_RX5_242 (rfl : k_sh 63 = (5, k_N 5)) [.int (0 : Int32), .int v1, .int (1 : Int32)] [] rfl rfl (Nat.le_of_ble_eq_true rfl) (Nat.le_of_ble_eq_true rfl) (s_X5_chance  ⟨t1, e2, ⟨rfl, rfl, rfl⟩⟩) dX5_mid_4 ?_
  have h := Ho_some h
  exact J_iret hx hQ dX5_mid_7 h
abbrev kr_X5_odds (P : Option Value → StI → StL → Prop) : Int32 × StI × StL → Prop := fun t => P (some (.int t.1)) t.2.1 t.2.2
def f_X5_odds (v1 : Int32) (v2 : Int32) (I : StI) (L : StL) : Option (Int32 × StI × StL) :=
  Option.bind (f_X5_chance v1 v2 (0 : Int32) I L) (fun t1 => some (t1.1, t1.2.1, t1.2.2))
set_option maxRecDepth 100000 in
set_option maxHeartbeats 4000000 in
theorem s_X5_odds {l : Launch} {ad : Nat → Nat} {P : Option Value → StI → StL → Prop} {I : StI} {L : StL} {v1 : Int32} {v2 : Int32}  (h : Ho (f_X5_odds v1 v2 I L) (kr_X5_odds P)) : k_Met l ad 6 yX5_odds cX5_odds 3 (some .int) [.ref (ad 63), .int v1, .int v2] I L P := by
  refine k_enter (by decide +kernel) (Nat.le_of_ble_eq_true rfl) (fun X hl hx hQ => ?_)
  clear hl
  have hx : Ok X cX5_odds RX5 3 (some .int) 6 := hx
  show J X ad 3 I L 0 [(0, .ref (ad 63)), (1, .int v1), (2, .int v2)] []
  unfold f_X5_odds at h
  refine J_aload_n hx dX5_odds_0 0 rfl ?_
  refine J_iload_n hx dX5_odds_1 1 rfl ?_
  refine J_iload_n hx dX5_odds_2 2 rfl ?_
  refine J_iconst (v := (0 : Int32)) hx dX5_odds_3 (by decide) ?_
  obtain ⟨t1, e2, h⟩ := Ho_bind h
  refine J_callVi hx lkV_RX5_242 (rfl : k_sh 63 = (5, k_N 5)) [.int v1, .int v2, .int (0 : Int32)] [] rfl rfl (Nat.le_of_ble_eq_true rfl) (Nat.le_of_ble_eq_true rfl) (s_X5_chance  ⟨t1, e2, ⟨rfl, rfl, rfl⟩⟩) dX5_odds_4 ?_
  have h := Ho_some h
  exact J_iret hx hQ dX5_odds_7 h
abbrev kr_X5_on (P : Option Value → StI → StL → Prop) (L : StL) : Int32 × StI → Prop := fun t => P (some (.int t.1)) t.2 L
def f_X5_on (v1 : Int32) (I : StI) : Option (Int32 × StI) :=
  Option.bind (f_X5_isPlace v1) (fun t1 => (if t1 = 0 then some ((-1 : Int32), I) else k_gd v1 3 ((if (I 75 v1.toNatClampNeg) = 0 then Option.bind (f_X5_found (1 : Int32) I) (fun t12 => some (t12.1, t12.2)) else Option.bind (f_X5_copies 74 ((1641 : Int32) * v1) 70 (0 : Int32) (40 : Int32) I) (fun t6 => k_gd (((1641 : Int32) * v1) + (40 : Int32)) 4923 (k_let (k_up t6 63 11 (t6 74 (((1641 : Int32) * v1) + (40 : Int32)).toNatClampNeg)) (fun I9 => Option.bind (f_X5_copies 74 ((((1641 : Int32) * v1) + (40 : Int32)) + (1 : Int32)) 73 (0 : Int32) (1600 : Int32) I9) (fun t10 => some ((t10 63 11), t10)))))))))
set_option maxRecDepth 100000 in
set_option maxHeartbeats 4000000 in
theorem s_X5_on {l : Launch} {ad : Nat → Nat} {P : Option Value → StI → StL → Prop} {I : StI} {L : StL} {v1 : Int32}  (h : Ho (f_X5_on v1 I) (kr_X5_on P L)) : k_Met l ad 3 yX5_on cX5_on 2 (some .int) [.ref (ad 63), .int v1] I L P := by
  refine k_enter (by decide +kernel) (Nat.le_of_ble_eq_true rfl) (fun X hl hx hQ => ?_)
  clear hl
  have hx : Ok X cX5_on RX5 2 (some .int) 3 := hx
  show J X ad 2 I L 0 [(0, .ref (ad 63)), (1, .int v1)] []
  unfold f_X5_on at h
  refine J_iload_n hx dX5_on_0 1 rfl ?_
  obtain ⟨t1, e2, h⟩ := Ho_bind h
  refine J_callSi hx lkS_RX5_186 [.int v1] [] rfl rfl (Nat.le_of_ble_eq_true rfl) (Nat.le_of_ble_eq_true rfl) (s_X5_isPlace  ⟨t1, e2, ⟨rfl, rfl, rfl⟩⟩) dX5_on_1 ?_
  refine J_if_ne hx dX5_on_4 9 (by decide) (fun c3 => ?_) (fun c3 => ?_)
  · have h := Ho_f c3 h
    refine J_aload_n hx dX5_on_9 0 rfl ?_
    refine J_getR (q := 75) hx fl_RX5_43 (rfl : k_sh 63 = (5, k_N 5)) rfl rfl dX5_on_10 ?_
    refine J_iload_n hx dX5_on_13 1 rfl ?_
    obtain ⟨b4, h⟩ := Ho_gd h
    refine J_zald hx (rfl : k_sh 75 = (12, 3)) b4 dX5_on_14 ?_
    refine J_if_ne hx dX5_on_15 24 (by decide) (fun c5 => ?_) (fun c5 => ?_)
    · have h := Ho_f c5 h
      refine J_aload_n hx dX5_on_24 0 rfl ?_
      refine J_getR (q := 74) hx fl_RX5_40 (rfl : k_sh 63 = (5, k_N 5)) rfl rfl dX5_on_25 ?_
      refine J_sipush (v := (1641 : Int32)) hx dX5_on_28 (by decide) ?_
      refine J_iload_n hx dX5_on_31 1 rfl ?_
      refine J_imul hx dX5_on_32 ?_
      refine J_aload_n hx dX5_on_33 0 rfl ?_
      refine J_getR (q := 70) hx fl_RX5_28 (rfl : k_sh 63 = (5, k_N 5)) rfl rfl dX5_on_34 ?_
      refine J_iconst (v := (0 : Int32)) hx dX5_on_37 (by decide) ?_
      refine J_bipush (v := (40 : Int32)) hx dX5_on_38 (by decide) ?_
      obtain ⟨t6, e7, h⟩ := Ho_bind h
      refine J_callSv hx lkS_RX5_118 [.ref (ad 74), .int ((1641 : Int32) * v1), .ref (ad 70), .int (0 : Int32), .int (40 : Int32)] [] rfl rfl (Nat.le_of_ble_eq_true rfl) (Nat.le_of_ble_eq_true rfl) (s_X5_copies (congrArg Prod.fst (rfl : k_sh 74 = (10, 4923))) (congrArg Prod.fst (rfl : k_sh 70 = (10, 40))) ⟨t6, e7, ⟨rfl, rfl, rfl⟩⟩) dX5_on_40 ?_
      refine J_aload_n hx dX5_on_43 0 rfl ?_
      refine J_aload_n hx dX5_on_44 0 rfl ?_
      refine J_getR (q := 74) hx fl_RX5_40 (rfl : k_sh 63 = (5, k_N 5)) rfl rfl dX5_on_45 ?_
      refine J_sipush (v := (1641 : Int32)) hx dX5_on_48 (by decide) ?_
      refine J_iload_n hx dX5_on_51 1 rfl ?_
      refine J_imul hx dX5_on_52 ?_
      refine J_bipush (v := (40 : Int32)) hx dX5_on_53 (by decide) ?_
      refine J_iadd hx dX5_on_55 ?_
      obtain ⟨b8, h⟩ := Ho_gd h
      refine J_iald hx (rfl : k_sh 74 = (10, 4923)) b8 dX5_on_56 ?_
      obtain ⟨I9, hI9, h⟩ := Ho_let h
      refine J_putI hx flW_RX5_126 (rfl : k_sh 63 = (5, k_N 5)) rfl dX5_on_57 hI9 ?_
      refine J_aload_n hx dX5_on_60 0 rfl ?_
      refine J_getR (q := 74) hx fl_RX5_40 (rfl : k_sh 63 = (5, k_N 5)) rfl rfl dX5_on_61 ?_
      refine J_sipush (v := (1641 : Int32)) hx dX5_on_64 (by decide) ?_
      refine J_iload_n hx dX5_on_67 1 rfl ?_
      refine J_imul hx dX5_on_68 ?_
      refine J_bipush (v := (40 : Int32)) hx dX5_on_69 (by decide) ?_
      refine J_iadd hx dX5_on_71 ?_
      refine J_iconst (v := (1 : Int32)) hx dX5_on_72 (by decide) ?_
      refine J_iadd hx dX5_on_73 ?_
      refine J_aload_n hx dX5_on_74 0 rfl ?_
      refine J_getR (q := 73) hx fl_RX5_37 (rfl : k_sh 63 = (5, k_N 5)) rfl rfl dX5_on_75 ?_
      refine J_iconst (v := (0 : Int32)) hx dX5_on_78 (by decide) ?_
      refine J_sipush (v := (1600 : Int32)) hx dX5_on_79 (by decide) ?_
      obtain ⟨t10, e11, h⟩ := Ho_bind h
      refine J_callSv hx lkS_RX5_118 [.ref (ad 74), .int ((((1641 : Int32) * v1) + (40 : Int32)) + (1 : Int32)), .ref (ad 73), .int (0 : Int32), .int (1600 : Int32)] [] rfl rfl (Nat.le_of_ble_eq_true rfl) (Nat.le_of_ble_eq_true rfl) (s_X5_copies (congrArg Prod.fst (rfl : k_sh 74 = (10, 4923))) (congrArg Prod.fst (rfl : k_sh 73 = (10, 1600))) ⟨t10, e11, ⟨rfl, rfl, rfl⟩⟩) dX5_on_82 ?_
      refine J_aload_n hx dX5_on_85 0 rfl ?_
      refine J_getI hx fl_RX5_126 (rfl : k_sh 63 = (5, k_N 5)) rfl dX5_on_86 ?_
      have h := Ho_some h
      exact J_iret hx hQ dX5_on_89 h
    · have h := Ho_t c5 h
      refine J_aload_n hx dX5_on_18 0 rfl ?_
      refine J_iconst (v := (1 : Int32)) hx dX5_on_19 (by decide) ?_
      obtain ⟨t12, e13, h⟩ := Ho_bind h
      refine J_callVi hx lkV_RX5_85 (rfl : k_sh 63 = (5, k_N 5)) [.int (1 : Int32)] [] rfl rfl (Nat.le_of_ble_eq_true rfl) (Nat.le_of_ble_eq_true rfl) (s_X5_found  ⟨t12, e13, ⟨rfl, rfl, rfl⟩⟩) dX5_on_20 ?_
      have h := Ho_some h
      exact J_iret hx hQ dX5_on_23 h
  · have h := Ho_t c3 h
    refine J_iconst (v := (-1 : Int32)) hx dX5_on_7 (by decide) ?_
    have h := Ho_some h
    exact J_iret hx hQ dX5_on_8 h
abbrev kr_X5_patterns (P : Option Value → StI → StL → Prop) (L : StL) : Int32 × StI → Prop := fun t => P (some (.int t.1)) t.2 L
abbrev g_X5_patterns_L49 (X : k_C) (ad : Nat → Nat) (L : StL) (v1 : Int32) : (Int32 × Int32 × Int32 × StI) → Prop := fun s => J X ad 6 s.2.2.2 L 49 [(0, .ref (ad 63)), (1, .int v1), (3, .int s.1), (4, .int s.2.1), (5, .int s.2.2.1)] []
def f_X5_patterns_L49_b (v1 : Int32) (v3 : Int32) (v4 : Int32) (v5 : Int32) (I : StI) : Option ((Int32 × Int32 × Int32 × StI) ⊕ (Int32 × StI)) :=
  (if v5 < 0 then (if v3 = 0 then some (.inr ((-9 : Int32), I)) else Option.bind (f_X5_answer v3 v4 I) (fun t12 => some (.inr (t12.1, t12.2)))) else Option.bind (f_X5_laysAside I) (fun t14 => k_gd (3 : Int32) 40 (k_let (k_up t14 71 (3 : Int32).toNatClampNeg v5) (fun I17 => Option.bind (f_X5_comesSo v1 I17) (fun t18 => (if t18.1 = 0 then k_let (v5 + (-1 : Int32)) (fun x21 => some (.inl (v3, v4, x21, t18.2))) else k_let (v3 + (1 : Int32)) (fun x22 => k_let (v5 + (-1 : Int32)) (fun x23 => some (.inl (x22, v5, x23, t18.2))))))))))
def f_X5_patterns_L49 (v1 : Int32) (n : Nat) (v3 : Int32) (v4 : Int32) (v5 : Int32) (I : StI) : Option (Int32 × StI) :=
  k_loop (fun s => f_X5_patterns_L49_b v1 s.1 s.2.1 s.2.2.1 s.2.2.2) n (v3, v4, v5, I)
set_option maxRecDepth 100000 in
set_option maxHeartbeats 4000000 in
theorem s_X5_patterns_L49_b {X : k_C} {ad : Nat → Nat} {P : Option Value → StI → StL → Prop} {I : StI} {L : StL} (hx : Ok X cX5_patterns RX5 6 (some .int) 6) (hQ : OkQ X ad P)  {v1 : Int32} {v3 : Int32} {v4 : Int32} {v5 : Int32}  (h : Ho (f_X5_patterns_L49_b v1 v3 v4 v5 I) (Sum.elim (g_X5_patterns_L49 X ad L v1) (kr_X5_patterns P L))) : J X ad 6 I L 49 [(0, .ref (ad 63)), (1, .int v1), (3, .int v3), (4, .int v4), (5, .int v5)] [] := by
  unfold f_X5_patterns_L49_b at h
  refine J_iload hx dX5_patterns_49 4 rfl ?_
  refine J_if_lt hx dX5_patterns_51 87 (by decide) (fun c10 => ?_) (fun c10 => ?_)
  · have h := Ho_t c10 h
    refine J_iload_n hx dX5_patterns_87 2 rfl ?_
    refine J_if_ne hx dX5_patterns_88 96 (by decide) (fun c11 => ?_) (fun c11 => ?_)
    · have h := Ho_f c11 h
      refine J_aload_n hx dX5_patterns_96 0 rfl ?_
      refine J_iload_n hx dX5_patterns_97 2 rfl ?_
      refine J_iload hx dX5_patterns_98 3 rfl ?_
      obtain ⟨t12, e13, h⟩ := Ho_bind h
      refine J_callVi hx lkV_RX5_189 (rfl : k_sh 63 = (5, k_N 5)) [.int v3, .int v4] [] rfl rfl (Nat.le_of_ble_eq_true rfl) (Nat.le_of_ble_eq_true rfl) (s_X5_answer  ⟨t12, e13, ⟨rfl, rfl, rfl⟩⟩) dX5_patterns_100 ?_
      have h := Ho_some h
      exact J_iret hx hQ dX5_patterns_103 h
    · have h := Ho_t c11 h
      refine J_bipush (v := (-9 : Int32)) hx dX5_patterns_91 (by decide) ?_
      refine J_goto hx dX5_patterns_93 103 (by decide) ?_
      have h := Ho_some h
      exact J_iret hx hQ dX5_patterns_103 h
  · have h := Ho_f c10 h
    refine J_aload_n hx dX5_patterns_54 0 rfl ?_
    obtain ⟨t14, e15, h⟩ := Ho_bind h
    refine J_callVv hx lkV_RX5_195 (rfl : k_sh 63 = (5, k_N 5)) [] [] rfl rfl (Nat.le_of_ble_eq_true rfl) (Nat.le_of_ble_eq_true rfl) (s_X5_laysAside  ⟨t14, e15, ⟨rfl, rfl, rfl⟩⟩) dX5_patterns_55 ?_
    refine J_aload_n hx dX5_patterns_58 0 rfl ?_
    refine J_getR (q := 71) hx fl_RX5_31 (rfl : k_sh 63 = (5, k_N 5)) rfl rfl dX5_patterns_59 ?_
    refine J_iconst (v := (3 : Int32)) hx dX5_patterns_62 (by decide) ?_
    refine J_iload hx dX5_patterns_63 4 rfl ?_
    obtain ⟨b16, h⟩ := Ho_gd h
    obtain ⟨I17, hI17, h⟩ := Ho_let h
    refine J_iast hx (rfl : k_sh 71 = (10, 40)) b16 dX5_patterns_65 hI17 ?_
    refine J_aload_n hx dX5_patterns_66 0 rfl ?_
    refine J_iload_n hx dX5_patterns_67 1 rfl ?_
    obtain ⟨t18, e19, h⟩ := Ho_bind h
    refine J_callVi hx lkV_RX5_211 (rfl : k_sh 63 = (5, k_N 5)) [.int v1] [] rfl rfl (Nat.le_of_ble_eq_true rfl) (Nat.le_of_ble_eq_true rfl) (s_X5_comesSo  ⟨t18, e19, ⟨rfl, rfl, rfl⟩⟩) dX5_patterns_68 ?_
    refine J_if_eq hx dX5_patterns_71 81 (by decide) (fun c20 => ?_) (fun c20 => ?_)
    · have h := Ho_t c20 h
      obtain ⟨x21, hx21, h⟩ := Ho_let h
      refine J_iinc (x := x21) (lv' := [(5, .int x21), (0, .ref (ad 63)), (1, .int v1), (3, .int v3), (4, .int v4)]) hx dX5_patterns_81 4 rfl (by rw [hx21]; rfl) (by decide) rfl ?_
      refine J_goto hx dX5_patterns_84 49 (by decide) ?_
      refine J_sub (lv' := [(0, .ref (ad 63)), (1, .int v1), (3, .int v3), (4, .int v4), (5, .int x21)]) hx [1, 2, 3, 4, 0] rfl ?_
      have h := Ho_some h
      exact h
    · have h := Ho_f c20 h
      obtain ⟨x22, hx22, h⟩ := Ho_let h
      refine J_iinc (x := x22) (lv' := [(3, .int x22), (0, .ref (ad 63)), (1, .int v1), (4, .int v4), (5, .int v5)]) hx dX5_patterns_74 2 rfl (by rw [hx22]; rfl) (by decide) rfl ?_
      refine J_iload hx dX5_patterns_77 4 rfl ?_
      refine J_istore (x := v5) (lv' := [(4, .int v5), (3, .int x22), (0, .ref (ad 63)), (1, .int v1), (5, .int v5)]) hx dX5_patterns_79 rfl (by decide) rfl ?_
      obtain ⟨x23, hx23, h⟩ := Ho_let h
      refine J_iinc (x := x23) (lv' := [(5, .int x23), (4, .int v5), (3, .int x22), (0, .ref (ad 63)), (1, .int v1)]) hx dX5_patterns_81 4 rfl (by rw [hx23]; rfl) (by decide) rfl ?_
      refine J_goto hx dX5_patterns_84 49 (by decide) ?_
      refine J_sub (lv' := [(0, .ref (ad 63)), (1, .int v1), (3, .int x22), (4, .int v5), (5, .int x23)]) hx [3, 4, 2, 1, 0] rfl ?_
      have h := Ho_some h
      exact h
set_option maxRecDepth 100000 in
set_option maxHeartbeats 4000000 in
theorem s_X5_patterns_L49 {X : k_C} {ad : Nat → Nat} {P : Option Value → StI → StL → Prop} {I : StI} {L : StL} (hx : Ok X cX5_patterns RX5 6 (some .int) 6) (hQ : OkQ X ad P)  {v1 : Int32} {v3 : Int32} {v4 : Int32} {v5 : Int32}  (n : Nat) (h : Ho (f_X5_patterns_L49 v1 n v3 v4 v5 I) (kr_X5_patterns P L)) : J X ad 6 I L 49 [(0, .ref (ad 63)), (1, .int v1), (3, .int v3), (4, .int v4), (5, .int v5)] [] := by
  exact k_loop_ho (G := g_X5_patterns_L49 X ad L v1) (fun s hs => s_X5_patterns_L49_b hx hQ  hs) n (v3, v4, v5, I) h
def f_X5_patterns (v1 : Int32) (I : StI) : Option (Int32 × StI) :=
  Option.bind (f_X5_isRow v1) (fun t1 => (if t1 = 0 then some ((-1 : Int32), I) else (if (I 63 4) = 0 then some ((-4 : Int32), I) else Option.bind (f_X5_seen v1 I) (fun t5 => (if t5 ≤ 0 then Option.bind (f_X5_asKinds I) (fun t8 => f_X5_patterns_L49 v1 k_fu (0 : Int32) (0 : Int32) (255 : Int32) t8) else Option.bind (f_X5_found t5 I) (fun t24 => some (t24.1, t24.2)))))))
set_option maxRecDepth 100000 in
set_option maxHeartbeats 4000000 in
theorem s_X5_patterns {l : Launch} {ad : Nat → Nat} {P : Option Value → StI → StL → Prop} {I : StI} {L : StL} {v1 : Int32}  (h : Ho (f_X5_patterns v1 I) (kr_X5_patterns P L)) : k_Met l ad 6 yX5_patterns cX5_patterns 6 (some .int) [.ref (ad 63), .int v1] I L P := by
  refine k_enter (by decide +kernel) (Nat.le_of_ble_eq_true rfl) (fun X hl hx hQ => ?_)
  clear hl
  have hx : Ok X cX5_patterns RX5 6 (some .int) 6 := hx
  show J X ad 6 I L 0 [(0, .ref (ad 63)), (1, .int v1)] []
  unfold f_X5_patterns at h
  refine J_iload_n hx dX5_patterns_0 1 rfl ?_
  obtain ⟨t1, e2, h⟩ := Ho_bind h
  refine J_callSi hx lkS_RX5_81 [.int v1] [] rfl rfl (Nat.le_of_ble_eq_true rfl) (Nat.le_of_ble_eq_true rfl) (s_X5_isRow  ⟨t1, e2, ⟨rfl, rfl, rfl⟩⟩) dX5_patterns_1 ?_
  refine J_if_ne hx dX5_patterns_4 9 (by decide) (fun c3 => ?_) (fun c3 => ?_)
  · have h := Ho_f c3 h
    refine J_aload_n hx dX5_patterns_9 0 rfl ?_
    refine J_getI hx fl_RX5_115 (rfl : k_sh 63 = (5, k_N 5)) rfl dX5_patterns_10 ?_
    refine J_if_ne hx dX5_patterns_13 19 (by decide) (fun c4 => ?_) (fun c4 => ?_)
    · have h := Ho_f c4 h
      refine J_aload_n hx dX5_patterns_19 0 rfl ?_
      refine J_iload_n hx dX5_patterns_20 1 rfl ?_
      obtain ⟨t5, e6, h⟩ := Ho_bind h
      refine J_callVi hx lkV_RX5_208 (rfl : k_sh 63 = (5, k_N 5)) [.int v1] [] rfl rfl (Nat.le_of_ble_eq_true rfl) (Nat.le_of_ble_eq_true rfl) (s_X5_seen  ⟨t5, e6, ⟨rfl, rfl, rfl⟩⟩) dX5_patterns_21 ?_
      refine J_istore_n (x := t5) (lv' := [(2, .int t5), (0, .ref (ad 63)), (1, .int v1)]) hx dX5_patterns_24 rfl (by decide) rfl ?_
      refine J_iload_n hx dX5_patterns_25 0 rfl ?_
      refine J_if_le hx dX5_patterns_26 35 (by decide) (fun c7 => ?_) (fun c7 => ?_)
      · have h := Ho_t c7 h
        refine J_aload_n hx dX5_patterns_35 1 rfl ?_
        obtain ⟨t8, e9, h⟩ := Ho_bind h
        refine J_callVv hx lkV_RX5_174 (rfl : k_sh 63 = (5, k_N 5)) [] [] rfl rfl (Nat.le_of_ble_eq_true rfl) (Nat.le_of_ble_eq_true rfl) (s_X5_asKinds  ⟨t8, e9, ⟨rfl, rfl, rfl⟩⟩) dX5_patterns_36 ?_
        refine J_iconst (v := (0 : Int32)) hx dX5_patterns_39 (by decide) ?_
        refine J_istore_n (x := (0 : Int32)) (lv' := [(3, .int (0 : Int32)), (2, .int t5), (0, .ref (ad 63)), (1, .int v1)]) hx dX5_patterns_40 rfl (by decide) rfl ?_
        refine J_iconst (v := (0 : Int32)) hx dX5_patterns_41 (by decide) ?_
        refine J_istore (x := (0 : Int32)) (lv' := [(4, .int (0 : Int32)), (3, .int (0 : Int32)), (2, .int t5), (0, .ref (ad 63)), (1, .int v1)]) hx dX5_patterns_42 rfl (by decide) rfl ?_
        refine J_sipush (v := (255 : Int32)) hx dX5_patterns_44 (by decide) ?_
        refine J_istore (x := (255 : Int32)) (lv' := [(5, .int (255 : Int32)), (4, .int (0 : Int32)), (3, .int (0 : Int32)), (2, .int t5), (0, .ref (ad 63)), (1, .int v1)]) hx dX5_patterns_47 rfl (by decide) rfl ?_
        refine J_sub (lv' := [(0, .ref (ad 63)), (1, .int v1), (3, .int (0 : Int32)), (4, .int (0 : Int32)), (5, .int (255 : Int32))]) hx [4, 5, 2, 1, 0] rfl ?_
        exact s_X5_patterns_L49 hx hQ  k_fu h
      · have h := Ho_f c7 h
        refine J_aload_n hx dX5_patterns_29 1 rfl ?_
        refine J_iload_n hx dX5_patterns_30 0 rfl ?_
        obtain ⟨t24, e25, h⟩ := Ho_bind h
        refine J_callVi hx lkV_RX5_85 (rfl : k_sh 63 = (5, k_N 5)) [.int t5] [] rfl rfl (Nat.le_of_ble_eq_true rfl) (Nat.le_of_ble_eq_true rfl) (s_X5_found  ⟨t24, e25, ⟨rfl, rfl, rfl⟩⟩) dX5_patterns_31 ?_
        have h := Ho_some h
        exact J_iret hx hQ dX5_patterns_34 h
    · have h := Ho_t c4 h
      refine J_bipush (v := (-4 : Int32)) hx dX5_patterns_16 (by decide) ?_
      have h := Ho_some h
      exact J_iret hx hQ dX5_patterns_18 h
  · have h := Ho_t c3 h
    refine J_iconst (v := (-1 : Int32)) hx dX5_patterns_7 (by decide) ?_
    have h := Ho_some h
    exact J_iret hx hQ dX5_patterns_8 h
abbrev kr_X5_put (P : Option Value → StI → StL → Prop) (L : StL) : Int32 × StI → Prop := fun t => P (some (.int t.1)) t.2 L
def f_X5_put (v1 : Int32) (v2 : Int32) (v3 : Int32) (I : StI) : Option (Int32 × StI) :=
  Option.bind (f_X5_isText v1) (fun t1 => (if t1 = 0 then some ((-1 : Int32), I) else k_gd v1 4 ((if 0 ≤ (I 66 v1.toNatClampNeg) then k_gd v1 4 (Option.bind (f_X5_in (v2).toInt64 (0 : Int64) (((I 66 v1.toNatClampNeg) - (1 : Int32))).toInt64) (fun t7 => (if t7 = 0 then Option.bind (f_X5_found (2 : Int32) I) (fun t14 => some (t14.1, t14.2)) else k_gd (((60 : Int32) * v1) + v2) 240 (k_let (I 67 (((60 : Int32) * v1) + v2).toNatClampNeg) (fun x11 => k_gd (((60 : Int32) * v1) + v2) 240 (k_let (k_up I 67 (((60 : Int32) * v1) + v2).toNatClampNeg (v3).toInt8.toInt32) (fun I13 => some ((x11 + (1000 : Int32)), I13)))))))) else Option.bind (f_X5_found (1 : Int32) I) (fun t16 => some (t16.1, t16.2))))))
set_option maxRecDepth 100000 in
set_option maxHeartbeats 4000000 in
theorem s_X5_put {l : Launch} {ad : Nat → Nat} {P : Option Value → StI → StL → Prop} {I : StI} {L : StL} {v1 : Int32} {v2 : Int32} {v3 : Int32}  (h : Ho (f_X5_put v1 v2 v3 I) (kr_X5_put P L)) : k_Met l ad 3 yX5_put cX5_put 5 (some .int) [.ref (ad 63), .int v1, .int v2, .int v3] I L P := by
  refine k_enter (by decide +kernel) (Nat.le_of_ble_eq_true rfl) (fun X hl hx hQ => ?_)
  clear hl
  have hx : Ok X cX5_put RX5 5 (some .int) 3 := hx
  show J X ad 5 I L 0 [(0, .ref (ad 63)), (1, .int v1), (2, .int v2), (3, .int v3)] []
  unfold f_X5_put at h
  refine J_iload_n hx dX5_put_0 1 rfl ?_
  obtain ⟨t1, e2, h⟩ := Ho_bind h
  refine J_callSi hx lkS_RX5_92 [.int v1] [] rfl rfl (Nat.le_of_ble_eq_true rfl) (Nat.le_of_ble_eq_true rfl) (s_X5_isText  ⟨t1, e2, ⟨rfl, rfl, rfl⟩⟩) dX5_put_1 ?_
  refine J_if_ne hx dX5_put_4 9 (by decide) (fun c3 => ?_) (fun c3 => ?_)
  · have h := Ho_f c3 h
    refine J_aload_n hx dX5_put_9 0 rfl ?_
    refine J_getR (q := 66) hx fl_RX5_16 (rfl : k_sh 63 = (5, k_N 5)) rfl rfl dX5_put_10 ?_
    refine J_iload_n hx dX5_put_13 1 rfl ?_
    obtain ⟨b4, h⟩ := Ho_gd h
    refine J_iald hx (rfl : k_sh 66 = (10, 4)) b4 dX5_put_14 ?_
    refine J_if_ge hx dX5_put_15 24 (by decide) (fun c5 => ?_) (fun c5 => ?_)
    · have h := Ho_t c5 h
      refine J_iload_n hx dX5_put_24 2 rfl ?_
      refine J_i2l hx dX5_put_25 ?_
      refine J_lconst (v := (0 : Int64)) hx dX5_put_26 (by decide) ?_
      refine J_aload_n hx dX5_put_27 0 rfl ?_
      refine J_getR (q := 66) hx fl_RX5_16 (rfl : k_sh 63 = (5, k_N 5)) rfl rfl dX5_put_28 ?_
      refine J_iload_n hx dX5_put_31 1 rfl ?_
      obtain ⟨b6, h⟩ := Ho_gd h
      refine J_iald hx (rfl : k_sh 66 = (10, 4)) b6 dX5_put_32 ?_
      refine J_iconst (v := (1 : Int32)) hx dX5_put_33 (by decide) ?_
      refine J_isub hx dX5_put_34 ?_
      refine J_i2l hx dX5_put_35 ?_
      obtain ⟨t7, e8, h⟩ := Ho_bind h
      refine J_callSi hx lkS_RX5_75 [.long (v2).toInt64, .long (0 : Int64), .long (((I 66 v1.toNatClampNeg) - (1 : Int32))).toInt64] [] rfl rfl (Nat.le_of_ble_eq_true rfl) (Nat.le_of_ble_eq_true rfl) (s_X5_in  ⟨t7, e8, ⟨rfl, rfl, rfl⟩⟩) dX5_put_36 ?_
      refine J_if_ne hx dX5_put_39 48 (by decide) (fun c9 => ?_) (fun c9 => ?_)
      · have h := Ho_f c9 h
        refine J_aload_n hx dX5_put_48 0 rfl ?_
        refine J_getR (q := 67) hx fl_RX5_19 (rfl : k_sh 63 = (5, k_N 5)) rfl rfl dX5_put_49 ?_
        refine J_bipush (v := (60 : Int32)) hx dX5_put_52 (by decide) ?_
        refine J_iload_n hx dX5_put_54 1 rfl ?_
        refine J_imul hx dX5_put_55 ?_
        refine J_iload_n hx dX5_put_56 2 rfl ?_
        refine J_iadd hx dX5_put_57 ?_
        obtain ⟨b10, h⟩ := Ho_gd h
        refine J_iald hx (rfl : k_sh 67 = (10, 240)) b10 dX5_put_58 ?_
        obtain ⟨x11, hx11, h⟩ := Ho_let h
        refine J_istore (x := x11) (lv' := [(4, .int x11), (0, .ref (ad 63)), (1, .int v1), (2, .int v2), (3, .int v3)]) hx dX5_put_59 hx11 (by decide) rfl ?_
        refine J_aload_n hx dX5_put_61 1 rfl ?_
        refine J_getR (q := 67) hx fl_RX5_19 (rfl : k_sh 63 = (5, k_N 5)) rfl rfl dX5_put_62 ?_
        refine J_bipush (v := (60 : Int32)) hx dX5_put_65 (by decide) ?_
        refine J_iload_n hx dX5_put_67 2 rfl ?_
        refine J_imul hx dX5_put_68 ?_
        refine J_iload_n hx dX5_put_69 3 rfl ?_
        refine J_iadd hx dX5_put_70 ?_
        refine J_iload_n hx dX5_put_71 4 rfl ?_
        refine J_i2b hx dX5_put_72 ?_
        obtain ⟨b12, h⟩ := Ho_gd h
        obtain ⟨I13, hI13, h⟩ := Ho_let h
        refine J_iast hx (rfl : k_sh 67 = (10, 240)) b12 dX5_put_73 hI13 ?_
        refine J_iload hx dX5_put_74 0 rfl ?_
        refine J_sipush (v := (1000 : Int32)) hx dX5_put_76 (by decide) ?_
        refine J_iadd hx dX5_put_79 ?_
        have h := Ho_some h
        exact J_iret hx hQ dX5_put_80 h
      · have h := Ho_t c9 h
        refine J_aload_n hx dX5_put_42 0 rfl ?_
        refine J_iconst (v := (2 : Int32)) hx dX5_put_43 (by decide) ?_
        obtain ⟨t14, e15, h⟩ := Ho_bind h
        refine J_callVi hx lkV_RX5_85 (rfl : k_sh 63 = (5, k_N 5)) [.int (2 : Int32)] [] rfl rfl (Nat.le_of_ble_eq_true rfl) (Nat.le_of_ble_eq_true rfl) (s_X5_found  ⟨t14, e15, ⟨rfl, rfl, rfl⟩⟩) dX5_put_44 ?_
        have h := Ho_some h
        exact J_iret hx hQ dX5_put_47 h
    · have h := Ho_f c5 h
      refine J_aload_n hx dX5_put_18 0 rfl ?_
      refine J_iconst (v := (1 : Int32)) hx dX5_put_19 (by decide) ?_
      obtain ⟨t16, e17, h⟩ := Ho_bind h
      refine J_callVi hx lkV_RX5_85 (rfl : k_sh 63 = (5, k_N 5)) [.int (1 : Int32)] [] rfl rfl (Nat.le_of_ble_eq_true rfl) (Nat.le_of_ble_eq_true rfl) (s_X5_found  ⟨t16, e17, ⟨rfl, rfl, rfl⟩⟩) dX5_put_20 ?_
      have h := Ho_some h
      exact J_iret hx hQ dX5_put_23 h
  · have h := Ho_t c3 h
    refine J_iconst (v := (-1 : Int32)) hx dX5_put_7 (by decide) ?_
    have h := Ho_some h
    exact J_iret hx hQ dX5_put_8 h
abbrev kr_X5_reset (P : Option Value → StI → StL → Prop) (L : StL) : Int32 × StI → Prop := fun t => P (some (.int t.1)) t.2 L
def f_X5_reset (v1 : Int32) (I : StI) : Option (Int32 × StI) :=
  Option.bind (f_X5_isCaller v1 I) (fun t1 => (if t1 = 0 then some ((-1 : Int32), I) else (if (I 63 11) = (40 : Int32) then some ((-2 : Int32), I) else Option.bind (f_X5_remembers I) (fun t5 => k_gd ((12 : Int32) + v1) 40 (k_let (t5 70 ((12 : Int32) + v1).toNatClampNeg) (fun x8 => Option.bind (f_X5_resets v1 t5) (fun t9 => some (x8, t9))))))))
set_option maxRecDepth 100000 in
set_option maxHeartbeats 4000000 in
theorem s_X5_reset {l : Launch} {ad : Nat → Nat} {P : Option Value → StI → StL → Prop} {I : StI} {L : StL} {v1 : Int32}  (h : Ho (f_X5_reset v1 I) (kr_X5_reset P L)) : k_Met l ad 3 yX5_reset cX5_reset 3 (some .int) [.ref (ad 63), .int v1] I L P := by
  refine k_enter (by decide +kernel) (Nat.le_of_ble_eq_true rfl) (fun X hl hx hQ => ?_)
  clear hl
  have hx : Ok X cX5_reset RX5 3 (some .int) 3 := hx
  show J X ad 3 I L 0 [(0, .ref (ad 63)), (1, .int v1)] []
  unfold f_X5_reset at h
  refine J_aload_n hx dX5_reset_0 0 rfl ?_
  refine J_iload_n hx dX5_reset_1 1 rfl ?_
  obtain ⟨t1, e2, h⟩ := Ho_bind h
  refine J_callVi hx lkV_RX5_166 (rfl : k_sh 63 = (5, k_N 5)) [.int v1] [] rfl rfl (Nat.le_of_ble_eq_true rfl) (Nat.le_of_ble_eq_true rfl) (s_X5_isCaller  ⟨t1, e2, ⟨rfl, rfl, rfl⟩⟩) dX5_reset_2 ?_
  refine J_if_ne hx dX5_reset_5 10 (by decide) (fun c3 => ?_) (fun c3 => ?_)
  · have h := Ho_f c3 h
    refine J_aload_n hx dX5_reset_10 0 rfl ?_
    refine J_getI hx fl_RX5_126 (rfl : k_sh 63 = (5, k_N 5)) rfl dX5_reset_11 ?_
    refine J_bipush (v := (40 : Int32)) hx dX5_reset_14 (by decide) ?_
    refine J_ic_ne hx dX5_reset_16 22 (by decide) (fun c4 => ?_) (fun c4 => ?_)
    · have h := Ho_f c4 h
      refine J_aload_n hx dX5_reset_22 0 rfl ?_
      obtain ⟨t5, e6, h⟩ := Ho_bind h
      refine J_callVv hx lkV_RX5_171 (rfl : k_sh 63 = (5, k_N 5)) [] [] rfl rfl (Nat.le_of_ble_eq_true rfl) (Nat.le_of_ble_eq_true rfl) (s_X5_remembers  ⟨t5, e6, ⟨rfl, rfl, rfl⟩⟩) dX5_reset_23 ?_
      refine J_aload_n hx dX5_reset_26 0 rfl ?_
      refine J_getR (q := 70) hx fl_RX5_28 (rfl : k_sh 63 = (5, k_N 5)) rfl rfl dX5_reset_27 ?_
      refine J_bipush (v := (12 : Int32)) hx dX5_reset_30 (by decide) ?_
      refine J_iload_n hx dX5_reset_32 1 rfl ?_
      refine J_iadd hx dX5_reset_33 ?_
      obtain ⟨b7, h⟩ := Ho_gd h
      refine J_iald hx (rfl : k_sh 70 = (10, 40)) b7 dX5_reset_34 ?_
      obtain ⟨x8, hx8, h⟩ := Ho_let h
      refine J_istore_n (x := x8) (lv' := [(2, .int x8), (0, .ref (ad 63)), (1, .int v1)]) hx dX5_reset_35 hx8 (by decide) rfl ?_
      refine J_aload_n hx dX5_reset_36 1 rfl ?_
      refine J_iload_n hx dX5_reset_37 2 rfl ?_
      obtain ⟨t9, e10, h⟩ := Ho_bind h
      refine J_callVv hx lkV_RX5_122 (rfl : k_sh 63 = (5, k_N 5)) [.int v1] [] rfl rfl (Nat.le_of_ble_eq_true rfl) (Nat.le_of_ble_eq_true rfl) (s_X5_resets  ⟨t9, e10, ⟨rfl, rfl, rfl⟩⟩) dX5_reset_38 ?_
      refine J_iload_n hx dX5_reset_41 0 rfl ?_
      have h := Ho_some h
      exact J_iret hx hQ dX5_reset_42 h
    · have h := Ho_t c4 h
      refine J_bipush (v := (-2 : Int32)) hx dX5_reset_19 (by decide) ?_
      have h := Ho_some h
      exact J_iret hx hQ dX5_reset_21 h
  · have h := Ho_t c3 h
    refine J_iconst (v := (-1 : Int32)) hx dX5_reset_8 (by decide) ?_
    have h := Ho_some h
    exact J_iret hx hQ dX5_reset_9 h
abbrev kr_X5_room (P : Option Value → StI → StL → Prop) (L : StL) : Int32 × StI → Prop := fun t => P (some (.int t.1)) t.2 L
def f_X5_room (v1 : Int32) (I : StI) : Option (Int32 × StI) :=
  Option.bind (f_X5_isNumber v1) (fun t1 => (if t1 = 0 then some ((-1 : Int32), I) else (if (I 63 4) = 0 then some ((-4 : Int32), I) else k_gd (4 : Int32) 40 ((if (I 70 (4 : Int32).toNatClampNeg) = v1 then some ((-4 : Int32), I) else (if (I 63 11) = (40 : Int32) then some ((-2 : Int32), I) else Option.bind (f_X5_remembers I) (fun t8 => k_gd (4 : Int32) 40 (k_let (t8 70 (4 : Int32).toNatClampNeg) (fun x11 => k_gd (4 : Int32) 40 (k_let (k_up t8 70 (4 : Int32).toNatClampNeg v1) (fun I13 => some (x11, I13))))))))))))
set_option maxRecDepth 100000 in
set_option maxHeartbeats 4000000 in
theorem s_X5_room {l : Launch} {ad : Nat → Nat} {P : Option Value → StI → StL → Prop} {I : StI} {L : StL} {v1 : Int32}  (h : Ho (f_X5_room v1 I) (kr_X5_room P L)) : k_Met l ad 3 yX5_room cX5_room 3 (some .int) [.ref (ad 63), .int v1] I L P := by
  refine k_enter (by decide +kernel) (Nat.le_of_ble_eq_true rfl) (fun X hl hx hQ => ?_)
  clear hl
  have hx : Ok X cX5_room RX5 3 (some .int) 3 := hx
  show J X ad 3 I L 0 [(0, .ref (ad 63)), (1, .int v1)] []
  unfold f_X5_room at h
  refine J_iload_n hx dX5_room_0 1 rfl ?_
  obtain ⟨t1, e2, h⟩ := Ho_bind h
  refine J_callSi hx lkS_RX5_181 [.int v1] [] rfl rfl (Nat.le_of_ble_eq_true rfl) (Nat.le_of_ble_eq_true rfl) (s_X5_isNumber  ⟨t1, e2, ⟨rfl, rfl, rfl⟩⟩) dX5_room_1 ?_
  refine J_if_ne hx dX5_room_4 9 (by decide) (fun c3 => ?_) (fun c3 => ?_)
  · have h := Ho_f c3 h
    refine J_aload_n hx dX5_room_9 0 rfl ?_
    refine J_getI hx fl_RX5_115 (rfl : k_sh 63 = (5, k_N 5)) rfl dX5_room_10 ?_
    refine J_if_eq hx dX5_room_13 26 (by decide) (fun c4 => ?_) (fun c4 => ?_)
    · have h := Ho_t c4 h
      refine J_bipush (v := (-4 : Int32)) hx dX5_room_26 (by decide) ?_
      have h := Ho_some h
      exact J_iret hx hQ dX5_room_28 h
    · have h := Ho_f c4 h
      refine J_aload_n hx dX5_room_16 0 rfl ?_
      refine J_getR (q := 70) hx fl_RX5_28 (rfl : k_sh 63 = (5, k_N 5)) rfl rfl dX5_room_17 ?_
      refine J_iconst (v := (4 : Int32)) hx dX5_room_20 (by decide) ?_
      obtain ⟨b5, h⟩ := Ho_gd h
      refine J_iald hx (rfl : k_sh 70 = (10, 40)) b5 dX5_room_21 ?_
      refine J_iload_n hx dX5_room_22 1 rfl ?_
      refine J_ic_ne hx dX5_room_23 29 (by decide) (fun c6 => ?_) (fun c6 => ?_)
      · have h := Ho_f c6 h
        refine J_aload_n hx dX5_room_29 0 rfl ?_
        refine J_getI hx fl_RX5_126 (rfl : k_sh 63 = (5, k_N 5)) rfl dX5_room_30 ?_
        refine J_bipush (v := (40 : Int32)) hx dX5_room_33 (by decide) ?_
        refine J_ic_ne hx dX5_room_35 41 (by decide) (fun c7 => ?_) (fun c7 => ?_)
        · have h := Ho_f c7 h
          refine J_aload_n hx dX5_room_41 0 rfl ?_
          obtain ⟨t8, e9, h⟩ := Ho_bind h
          refine J_callVv hx lkV_RX5_171 (rfl : k_sh 63 = (5, k_N 5)) [] [] rfl rfl (Nat.le_of_ble_eq_true rfl) (Nat.le_of_ble_eq_true rfl) (s_X5_remembers  ⟨t8, e9, ⟨rfl, rfl, rfl⟩⟩) dX5_room_42 ?_
          refine J_aload_n hx dX5_room_45 0 rfl ?_
          refine J_getR (q := 70) hx fl_RX5_28 (rfl : k_sh 63 = (5, k_N 5)) rfl rfl dX5_room_46 ?_
          refine J_iconst (v := (4 : Int32)) hx dX5_room_49 (by decide) ?_
          obtain ⟨b10, h⟩ := Ho_gd h
          refine J_iald hx (rfl : k_sh 70 = (10, 40)) b10 dX5_room_50 ?_
          obtain ⟨x11, hx11, h⟩ := Ho_let h
          refine J_istore_n (x := x11) (lv' := [(2, .int x11), (0, .ref (ad 63)), (1, .int v1)]) hx dX5_room_51 hx11 (by decide) rfl ?_
          refine J_aload_n hx dX5_room_52 1 rfl ?_
          refine J_getR (q := 70) hx fl_RX5_28 (rfl : k_sh 63 = (5, k_N 5)) rfl rfl dX5_room_53 ?_
          refine J_iconst (v := (4 : Int32)) hx dX5_room_56 (by decide) ?_
          refine J_iload_n hx dX5_room_57 2 rfl ?_
          obtain ⟨b12, h⟩ := Ho_gd h
          obtain ⟨I13, hI13, h⟩ := Ho_let h
          refine J_iast hx (rfl : k_sh 70 = (10, 40)) b12 dX5_room_58 hI13 ?_
          refine J_iload_n hx dX5_room_59 0 rfl ?_
          have h := Ho_some h
          exact J_iret hx hQ dX5_room_60 h
        · have h := Ho_t c7 h
          refine J_bipush (v := (-2 : Int32)) hx dX5_room_38 (by decide) ?_
          have h := Ho_some h
          exact J_iret hx hQ dX5_room_40 h
      · have h := Ho_t c6 h
        refine J_bipush (v := (-4 : Int32)) hx dX5_room_26 (by decide) ?_
        have h := Ho_some h
        exact J_iret hx hQ dX5_room_28 h
  · have h := Ho_t c3 h
    refine J_iconst (v := (-1 : Int32)) hx dX5_room_7 (by decide) ?_
    have h := Ho_some h
    exact J_iret hx hQ dX5_room_8 h
abbrev kr_X5_row (P : Option Value → StI → StL → Prop) (L : StL) : Int32 × StI → Prop := fun t => P (some (.int t.1)) t.2 L
abbrev g_X5_row_L34 (X : k_C) (ad : Nat → Nat) (L : StL) (v1 : Int32) (v2 : Int32) : (Int32 × StI) → Prop := fun s => J X ad 4 s.2 L 34 [(0, .ref (ad 63)), (1, .int v1), (2, .int v2), (3, .int s.1)] []
def f_X5_row_L34_b (v1 : Int32) (v2 : Int32) (v3 : Int32) (I : StI) : Option ((Int32 × StI) ⊕ (Int32 × StI)) :=
  (if (40 : Int32) ≤ v3 then some (.inr (v2, I)) else k_gd (((40 : Int32) * v1) + v3) 240 (k_let (k_up I 65 (((40 : Int32) * v1) + v3).toNatClampNeg (0 : Int32)) (fun I10 => k_let (v3 + (1 : Int32)) (fun x11 => some (.inl (x11, I10))))))
def f_X5_row_L34 (v1 : Int32) (v2 : Int32) (n : Nat) (v3 : Int32) (I : StI) : Option (Int32 × StI) :=
  k_loop (fun s => f_X5_row_L34_b v1 v2 s.1 s.2) n (v3, I)
set_option maxRecDepth 100000 in
set_option maxHeartbeats 4000000 in
theorem s_X5_row_L34_b {X : k_C} {ad : Nat → Nat} {P : Option Value → StI → StL → Prop} {I : StI} {L : StL} (hx : Ok X cX5_row RX5 4 (some .int) 3) (hQ : OkQ X ad P)  {v1 : Int32} {v2 : Int32} {v3 : Int32}  (h : Ho (f_X5_row_L34_b v1 v2 v3 I) (Sum.elim (g_X5_row_L34 X ad L v1 v2) (kr_X5_row P L))) : J X ad 4 I L 34 [(0, .ref (ad 63)), (1, .int v1), (2, .int v2), (3, .int v3)] [] := by
  unfold f_X5_row_L34_b at h
  refine J_iload_n hx dX5_row_34 3 rfl ?_
  refine J_bipush (v := (40 : Int32)) hx dX5_row_35 (by decide) ?_
  refine J_ic_ge hx dX5_row_37 58 (by decide) (fun c8 => ?_) (fun c8 => ?_)
  · have h := Ho_t c8 h
    refine J_iload_n hx dX5_row_58 2 rfl ?_
    have h := Ho_some h
    exact J_iret hx hQ dX5_row_59 h
  · have h := Ho_f c8 h
    refine J_aload_n hx dX5_row_40 0 rfl ?_
    refine J_getR (q := 65) hx fl_RX5_13 (rfl : k_sh 63 = (5, k_N 5)) rfl rfl dX5_row_41 ?_
    refine J_bipush (v := (40 : Int32)) hx dX5_row_44 (by decide) ?_
    refine J_iload_n hx dX5_row_46 1 rfl ?_
    refine J_imul hx dX5_row_47 ?_
    refine J_iload_n hx dX5_row_48 3 rfl ?_
    refine J_iadd hx dX5_row_49 ?_
    refine J_iconst (v := (0 : Int32)) hx dX5_row_50 (by decide) ?_
    obtain ⟨b9, h⟩ := Ho_gd h
    obtain ⟨I10, hI10, h⟩ := Ho_let h
    refine J_iast hx (rfl : k_sh 65 = (10, 240)) b9 dX5_row_51 hI10 ?_
    obtain ⟨x11, hx11, h⟩ := Ho_let h
    refine J_iinc (x := x11) (lv' := [(3, .int x11), (0, .ref (ad 63)), (1, .int v1), (2, .int v2)]) hx dX5_row_52 3 rfl (by rw [hx11]; rfl) (by decide) rfl ?_
    refine J_goto hx dX5_row_55 34 (by decide) ?_
    refine J_sub (lv' := [(0, .ref (ad 63)), (1, .int v1), (2, .int v2), (3, .int x11)]) hx [1, 2, 3, 0] rfl ?_
    have h := Ho_some h
    exact h
set_option maxRecDepth 100000 in
set_option maxHeartbeats 4000000 in
theorem s_X5_row_L34 {X : k_C} {ad : Nat → Nat} {P : Option Value → StI → StL → Prop} {I : StI} {L : StL} (hx : Ok X cX5_row RX5 4 (some .int) 3) (hQ : OkQ X ad P)  {v1 : Int32} {v2 : Int32} {v3 : Int32}  (n : Nat) (h : Ho (f_X5_row_L34 v1 v2 n v3 I) (kr_X5_row P L)) : J X ad 4 I L 34 [(0, .ref (ad 63)), (1, .int v1), (2, .int v2), (3, .int v3)] [] := by
  exact k_loop_ho (G := g_X5_row_L34 X ad L v1 v2) (fun s hs => s_X5_row_L34_b hx hQ  hs) n (v3, I) h
def f_X5_row (v1 : Int32) (v2 : Int32) (I : StI) : Option (Int32 × StI) :=
  Option.bind (f_X5_isRow v1) (fun t1 => (if t1 = 0 then some ((-1 : Int32), I) else (if v2 ≤ (40 : Int32) then (if 0 ≤ v2 then k_gd v1 6 (k_let (k_up I 64 v1.toNatClampNeg v2) (fun I7 => f_X5_row_L34 v1 v2 k_fu (0 : Int32) I7)) else Option.bind (f_X5_found (5 : Int32) I) (fun t12 => some (t12.1, t12.2))) else some ((-1 : Int32), I))))
set_option maxRecDepth 100000 in
set_option maxHeartbeats 4000000 in
theorem s_X5_row {l : Launch} {ad : Nat → Nat} {P : Option Value → StI → StL → Prop} {I : StI} {L : StL} {v1 : Int32} {v2 : Int32}  (h : Ho (f_X5_row v1 v2 I) (kr_X5_row P L)) : k_Met l ad 3 yX5_row cX5_row 4 (some .int) [.ref (ad 63), .int v1, .int v2] I L P := by
  refine k_enter (by decide +kernel) (Nat.le_of_ble_eq_true rfl) (fun X hl hx hQ => ?_)
  clear hl
  have hx : Ok X cX5_row RX5 4 (some .int) 3 := hx
  show J X ad 4 I L 0 [(0, .ref (ad 63)), (1, .int v1), (2, .int v2)] []
  unfold f_X5_row at h
  refine J_iload_n hx dX5_row_0 1 rfl ?_
  obtain ⟨t1, e2, h⟩ := Ho_bind h
  refine J_callSi hx lkS_RX5_81 [.int v1] [] rfl rfl (Nat.le_of_ble_eq_true rfl) (Nat.le_of_ble_eq_true rfl) (s_X5_isRow  ⟨t1, e2, ⟨rfl, rfl, rfl⟩⟩) dX5_row_1 ?_
  refine J_if_eq hx dX5_row_4 13 (by decide) (fun c3 => ?_) (fun c3 => ?_)
  · have h := Ho_t c3 h
    refine J_iconst (v := (-1 : Int32)) hx dX5_row_13 (by decide) ?_
    have h := Ho_some h
    exact J_iret hx hQ dX5_row_14 h
  · have h := Ho_f c3 h
    refine J_iload_n hx dX5_row_7 2 rfl ?_
    refine J_bipush (v := (40 : Int32)) hx dX5_row_8 (by decide) ?_
    refine J_ic_le hx dX5_row_10 15 (by decide) (fun c4 => ?_) (fun c4 => ?_)
    · have h := Ho_t c4 h
      refine J_iload_n hx dX5_row_15 2 rfl ?_
      refine J_if_ge hx dX5_row_16 25 (by decide) (fun c5 => ?_) (fun c5 => ?_)
      · have h := Ho_t c5 h
        refine J_aload_n hx dX5_row_25 0 rfl ?_
        refine J_getR (q := 64) hx fl_RX5_7 (rfl : k_sh 63 = (5, k_N 5)) rfl rfl dX5_row_26 ?_
        refine J_iload_n hx dX5_row_29 1 rfl ?_
        refine J_iload_n hx dX5_row_30 2 rfl ?_
        obtain ⟨b6, h⟩ := Ho_gd h
        obtain ⟨I7, hI7, h⟩ := Ho_let h
        refine J_iast hx (rfl : k_sh 64 = (10, 6)) b6 dX5_row_31 hI7 ?_
        refine J_iconst (v := (0 : Int32)) hx dX5_row_32 (by decide) ?_
        refine J_istore_n (x := (0 : Int32)) (lv' := [(3, .int (0 : Int32)), (0, .ref (ad 63)), (1, .int v1), (2, .int v2)]) hx dX5_row_33 rfl (by decide) rfl ?_
        refine J_sub (lv' := [(0, .ref (ad 63)), (1, .int v1), (2, .int v2), (3, .int (0 : Int32))]) hx [1, 2, 3, 0] rfl ?_
        exact s_X5_row_L34 hx hQ  k_fu h
      · have h := Ho_f c5 h
        refine J_aload_n hx dX5_row_19 0 rfl ?_
        refine J_iconst (v := (5 : Int32)) hx dX5_row_20 (by decide) ?_
        obtain ⟨t12, e13, h⟩ := Ho_bind h
        refine J_callVi hx lkV_RX5_85 (rfl : k_sh 63 = (5, k_N 5)) [.int (5 : Int32)] [] rfl rfl (Nat.le_of_ble_eq_true rfl) (Nat.le_of_ble_eq_true rfl) (s_X5_found  ⟨t12, e13, ⟨rfl, rfl, rfl⟩⟩) dX5_row_21 ?_
        have h := Ho_some h
        exact J_iret hx hQ dX5_row_24 h
    · have h := Ho_f c4 h
      refine J_iconst (v := (-1 : Int32)) hx dX5_row_13 (by decide) ?_
      have h := Ho_some h
      exact J_iret hx hQ dX5_row_14 h
abbrev kr_X5_step (P : Option Value → StI → StL → Prop) (L : StL) : Int32 × StI → Prop := fun t => P (some (.int t.1)) t.2 L
def f_X5_step (I : StI) : Option (Int32 × StI) :=
  (if (I 63 4) = 0 then some ((-4 : Int32), I) else k_gd (0 : Int32) 40 ((if (I 70 (0 : Int32).toNatClampNeg) = (99 : Int32) then some ((-4 : Int32), I) else (if (I 63 11) = (40 : Int32) then some ((-2 : Int32), I) else Option.bind (f_X5_remembers I) (fun t5 => Option.bind (f_X5_asKinds t5) (fun t7 => Option.bind (f_X5_isUp 70 t7) (fun t9 => Option.bind (f_X5_goes 70 (0 : Int32) t9 t7) (fun t11 => some (t11.1, t11.2)))))))))
set_option maxRecDepth 100000 in
set_option maxHeartbeats 4000000 in
theorem s_X5_step {l : Launch} {ad : Nat → Nat} {P : Option Value → StI → StL → Prop} {I : StI} {L : StL}   (h : Ho (f_X5_step I) (kr_X5_step P L)) : k_Met l ad 4 yX5_step cX5_step 1 (some .int) [.ref (ad 63)] I L P := by
  refine k_enter (by decide +kernel) (Nat.le_of_ble_eq_true rfl) (fun X hl hx hQ => ?_)
  clear hl
  have hx : Ok X cX5_step RX5 1 (some .int) 4 := hx
  show J X ad 1 I L 0 [(0, .ref (ad 63))] []
  unfold f_X5_step at h
  refine J_aload_n hx dX5_step_0 0 rfl ?_
  refine J_getI hx fl_RX5_115 (rfl : k_sh 63 = (5, k_N 5)) rfl dX5_step_1 ?_
  refine J_if_eq hx dX5_step_4 18 (by decide) (fun c1 => ?_) (fun c1 => ?_)
  · have h := Ho_t c1 h
    refine J_bipush (v := (-4 : Int32)) hx dX5_step_18 (by decide) ?_
    have h := Ho_some h
    exact J_iret hx hQ dX5_step_20 h
  · have h := Ho_f c1 h
    refine J_aload_n hx dX5_step_7 0 rfl ?_
    refine J_getR (q := 70) hx fl_RX5_28 (rfl : k_sh 63 = (5, k_N 5)) rfl rfl dX5_step_8 ?_
    refine J_iconst (v := (0 : Int32)) hx dX5_step_11 (by decide) ?_
    obtain ⟨b2, h⟩ := Ho_gd h
    refine J_iald hx (rfl : k_sh 70 = (10, 40)) b2 dX5_step_12 ?_
    refine J_bipush (v := (99 : Int32)) hx dX5_step_13 (by decide) ?_
    refine J_ic_ne hx dX5_step_15 21 (by decide) (fun c3 => ?_) (fun c3 => ?_)
    · have h := Ho_f c3 h
      refine J_aload_n hx dX5_step_21 0 rfl ?_
      refine J_getI hx fl_RX5_126 (rfl : k_sh 63 = (5, k_N 5)) rfl dX5_step_22 ?_
      refine J_bipush (v := (40 : Int32)) hx dX5_step_25 (by decide) ?_
      refine J_ic_ne hx dX5_step_27 33 (by decide) (fun c4 => ?_) (fun c4 => ?_)
      · have h := Ho_f c4 h
        refine J_aload_n hx dX5_step_33 0 rfl ?_
        obtain ⟨t5, e6, h⟩ := Ho_bind h
        refine J_callVv hx lkV_RX5_171 (rfl : k_sh 63 = (5, k_N 5)) [] [] rfl rfl (Nat.le_of_ble_eq_true rfl) (Nat.le_of_ble_eq_true rfl) (s_X5_remembers  ⟨t5, e6, ⟨rfl, rfl, rfl⟩⟩) dX5_step_34 ?_
        refine J_aload_n hx dX5_step_37 0 rfl ?_
        obtain ⟨t7, e8, h⟩ := Ho_bind h
        refine J_callVv hx lkV_RX5_174 (rfl : k_sh 63 = (5, k_N 5)) [] [] rfl rfl (Nat.le_of_ble_eq_true rfl) (Nat.le_of_ble_eq_true rfl) (s_X5_asKinds  ⟨t7, e8, ⟨rfl, rfl, rfl⟩⟩) dX5_step_38 ?_
        refine J_aload_n hx dX5_step_41 0 rfl ?_
        refine J_aload_n hx dX5_step_42 0 rfl ?_
        refine J_getR (q := 70) hx fl_RX5_28 (rfl : k_sh 63 = (5, k_N 5)) rfl rfl dX5_step_43 ?_
        refine J_iconst (v := (0 : Int32)) hx dX5_step_46 (by decide) ?_
        refine J_aload_n hx dX5_step_47 0 rfl ?_
        refine J_aload_n hx dX5_step_48 0 rfl ?_
        refine J_getR (q := 70) hx fl_RX5_28 (rfl : k_sh 63 = (5, k_N 5)) rfl rfl dX5_step_49 ?_
        obtain ⟨t9, e10, h⟩ := Ho_bind h
        refine J_callVi hx lkV_RX5_158 (rfl : k_sh 63 = (5, k_N 5)) [.ref (ad 70)] [.int (0 : Int32), .ref (ad 70), .ref (ad 63)] rfl rfl (Nat.le_of_ble_eq_true rfl) (Nat.le_of_ble_eq_true rfl) (s_X5_isUp (congrArg Prod.fst (rfl : k_sh 70 = (10, 40))) ⟨t9, e10, ⟨rfl, rfl, rfl⟩⟩) dX5_step_52 ?_
        obtain ⟨t11, e12, h⟩ := Ho_bind h
        refine J_callVi hx lkV_RX5_162 (rfl : k_sh 63 = (5, k_N 5)) [.ref (ad 70), .int (0 : Int32), .int t9] [] rfl rfl (Nat.le_of_ble_eq_true rfl) (Nat.le_of_ble_eq_true rfl) (s_X5_goes (congrArg Prod.fst (rfl : k_sh 70 = (10, 40))) ⟨t11, e12, ⟨rfl, rfl, rfl⟩⟩) dX5_step_55 ?_
        have h := Ho_some h
        exact J_iret hx hQ dX5_step_58 h
      · have h := Ho_t c4 h
        refine J_bipush (v := (-2 : Int32)) hx dX5_step_30 (by decide) ?_
        have h := Ho_some h
        exact J_iret hx hQ dX5_step_32 h
    · have h := Ho_t c3 h
      refine J_bipush (v := (-4 : Int32)) hx dX5_step_18 (by decide) ?_
      have h := Ho_some h
      exact J_iret hx hQ dX5_step_20 h
abbrev kr_X5_tear (P : Option Value → StI → StL → Prop) (L : StL) : Int32 × StI → Prop := fun t => P (some (.int t.1)) t.2 L
def f_X5_tear (v1 : Int32) (I : StI) : Option (Int32 × StI) :=
  Option.bind (f_X5_isRow v1) (fun t1 => (if t1 = 0 then some ((-1 : Int32), I) else k_gd v1 6 ((if 0 ≤ (I 64 v1.toNatClampNeg) then k_gd v1 6 (k_let (k_up I 64 v1.toNatClampNeg (-1 : Int32)) (fun I7 => some ((1 : Int32), I7))) else Option.bind (f_X5_found (1 : Int32) I) (fun t8 => some (t8.1, t8.2))))))
set_option maxRecDepth 100000 in
set_option maxHeartbeats 4000000 in
theorem s_X5_tear {l : Launch} {ad : Nat → Nat} {P : Option Value → StI → StL → Prop} {I : StI} {L : StL} {v1 : Int32}  (h : Ho (f_X5_tear v1 I) (kr_X5_tear P L)) : k_Met l ad 3 yX5_tear cX5_tear 2 (some .int) [.ref (ad 63), .int v1] I L P := by
  refine k_enter (by decide +kernel) (Nat.le_of_ble_eq_true rfl) (fun X hl hx hQ => ?_)
  clear hl
  have hx : Ok X cX5_tear RX5 2 (some .int) 3 := hx
  show J X ad 2 I L 0 [(0, .ref (ad 63)), (1, .int v1)] []
  unfold f_X5_tear at h
  refine J_iload_n hx dX5_tear_0 1 rfl ?_
  obtain ⟨t1, e2, h⟩ := Ho_bind h
  refine J_callSi hx lkS_RX5_81 [.int v1] [] rfl rfl (Nat.le_of_ble_eq_true rfl) (Nat.le_of_ble_eq_true rfl) (s_X5_isRow  ⟨t1, e2, ⟨rfl, rfl, rfl⟩⟩) dX5_tear_1 ?_
  refine J_if_ne hx dX5_tear_4 9 (by decide) (fun c3 => ?_) (fun c3 => ?_)
  · have h := Ho_f c3 h
    refine J_aload_n hx dX5_tear_9 0 rfl ?_
    refine J_getR (q := 64) hx fl_RX5_7 (rfl : k_sh 63 = (5, k_N 5)) rfl rfl dX5_tear_10 ?_
    refine J_iload_n hx dX5_tear_13 1 rfl ?_
    obtain ⟨b4, h⟩ := Ho_gd h
    refine J_iald hx (rfl : k_sh 64 = (10, 6)) b4 dX5_tear_14 ?_
    refine J_if_ge hx dX5_tear_15 24 (by decide) (fun c5 => ?_) (fun c5 => ?_)
    · have h := Ho_t c5 h
      refine J_aload_n hx dX5_tear_24 0 rfl ?_
      refine J_getR (q := 64) hx fl_RX5_7 (rfl : k_sh 63 = (5, k_N 5)) rfl rfl dX5_tear_25 ?_
      refine J_iload_n hx dX5_tear_28 1 rfl ?_
      refine J_iconst (v := (-1 : Int32)) hx dX5_tear_29 (by decide) ?_
      obtain ⟨b6, h⟩ := Ho_gd h
      obtain ⟨I7, hI7, h⟩ := Ho_let h
      refine J_iast hx (rfl : k_sh 64 = (10, 6)) b6 dX5_tear_30 hI7 ?_
      refine J_iconst (v := (1 : Int32)) hx dX5_tear_31 (by decide) ?_
      have h := Ho_some h
      exact J_iret hx hQ dX5_tear_32 h
    · have h := Ho_f c5 h
      refine J_aload_n hx dX5_tear_18 0 rfl ?_
      refine J_iconst (v := (1 : Int32)) hx dX5_tear_19 (by decide) ?_
      obtain ⟨t8, e9, h⟩ := Ho_bind h
      refine J_callVi hx lkV_RX5_85 (rfl : k_sh 63 = (5, k_N 5)) [.int (1 : Int32)] [] rfl rfl (Nat.le_of_ble_eq_true rfl) (Nat.le_of_ble_eq_true rfl) (s_X5_found  ⟨t8, e9, ⟨rfl, rfl, rfl⟩⟩) dX5_tear_20 ?_
      have h := Ho_some h
      exact J_iret hx hQ dX5_tear_23 h
  · have h := Ho_t c3 h
    refine J_iconst (v := (-1 : Int32)) hx dX5_tear_7 (by decide) ?_
    have h := Ho_some h
    exact J_iret hx hQ dX5_tear_8 h
abbrev kr_X5_test (P : Option Value → StI → StL → Prop) (L : StL) : Int32 × StI → Prop := fun t => P (some (.int t.1)) t.2 L
abbrev g_X5_test_L159 (X : k_C) (ad : Nat → Nat) (I : StI) (L : StL) (v4 : Int32) (v5 : Int32) (v6 : Int32) (v7 : Int32) (v8 : Int32) (v9 : Int32) : (Int32 × Int32) → Prop := fun s => J X ad 12 I L 159 [(0, .ref (ad 63)), (4, .int v4), (5, .int v5), (6, .int v6), (7, .int v7), (8, .int v8), (9, .int v9), (10, .int s.1), (11, .int s.2)] []
abbrev g_X5_test_L147 (X : k_C) (ad : Nat → Nat) (I : StI) (L : StL) (v4 : Int32) (v5 : Int32) (v6 : Int32) (v7 : Int32) : (Int32 × Int32) → Prop := fun s => J X ad 12 I L 147 [(0, .ref (ad 63)), (4, .int v4), (5, .int v5), (6, .int v6), (7, .int v7), (8, .int s.1), (9, .int s.2)] []
abbrev g_X5_test_L134 (X : k_C) (ad : Nat → Nat) (I : StI) (L : StL) (v4 : Int32) : (Int32 × Int32 × Int32) → Prop := fun s => J X ad 12 I L 134 [(0, .ref (ad 63)), (4, .int v4), (5, .int s.1), (6, .int s.2.1), (7, .int s.2.2)] []
abbrev g_X5_test_L74 (X : k_C) (ad : Nat → Nat) (L : StL) (v1 : Int32) (v4 : Int32) (v5 : Int32) : (Int32 × StI) → Prop := fun s => J X ad 12 s.2 L 74 [(0, .ref (ad 63)), (1, .int v1), (4, .int v4), (5, .int v5), (6, .int s.1)] []
abbrev g_X5_test_L52 (X : k_C) (ad : Nat → Nat) (L : StL) (v1 : Int32) (v4 : Int32) : (Int32 × StI) → Prop := fun s => J X ad 12 s.2 L 52 [(0, .ref (ad 63)), (1, .int v1), (4, .int v4), (5, .int s.1)] []
def f_X5_test_j246 (v4 : Int32) (v6 : Int32) (v7 : Int32) (v8 : Int32) (s0 : Int32) (I : StI) : Option ((Int32 × Int32 × Int32) ⊕ (Int32 × StI)) :=
  (if v6 ≤ v8 then k_let (v7 + (1 : Int32)) (fun x20 => some (.inl (s0, v6, x20))) else k_let (v7 + (1 : Int32)) (fun x21 => some (.inl (s0, v8, x21))))
set_option maxRecDepth 100000 in
set_option maxHeartbeats 4000000 in
theorem s_X5_test_j246 {X : k_C} {ad : Nat → Nat} {P : Option Value → StI → StL → Prop} {I : StI} {L : StL} (hx : Ok X cX5_test RX5 12 (some .int) 7) (hQ : OkQ X ad P)  {v4 : Int32} {v6 : Int32} {v7 : Int32} {v8 : Int32} {s0 : Int32}  (h : Ho (f_X5_test_j246 v4 v6 v7 v8 s0 I) (Sum.elim (g_X5_test_L134 X ad I L v4) (kr_X5_test P L))) : J X ad 12 I L 246 [(0, .ref (ad 63)), (4, .int v4), (6, .int v6), (7, .int v7), (8, .int v8)] [.int s0] := by
  unfold f_X5_test_j246 at h
  refine J_istore (x := s0) (lv' := [(5, .int s0), (0, .ref (ad 63)), (4, .int v4), (6, .int v6), (7, .int v7), (8, .int v8)]) hx dX5_test_246 rfl (by decide) rfl ?_
  refine J_iload hx dX5_test_248 5 rfl ?_
  refine J_iload hx dX5_test_250 3 rfl ?_
  refine J_ic_ge hx dX5_test_252 260 (by decide) (fun c19 => ?_) (fun c19 => ?_)
  · have h := Ho_t c19 h
    refine J_iload hx dX5_test_260 3 rfl ?_
    refine J_istore (x := v6) (lv' := [(6, .int v6), (5, .int s0), (0, .ref (ad 63)), (4, .int v4), (7, .int v7), (8, .int v8)]) hx dX5_test_262 rfl (by decide) rfl ?_
    obtain ⟨x20, hx20, h⟩ := Ho_let h
    refine J_iinc (x := x20) (lv' := [(7, .int x20), (6, .int v6), (5, .int s0), (0, .ref (ad 63)), (4, .int v4), (8, .int v8)]) hx dX5_test_264 4 rfl (by rw [hx20]; rfl) (by decide) rfl ?_
    refine J_goto hx dX5_test_267 134 (by decide) ?_
    refine J_sub (lv' := [(0, .ref (ad 63)), (4, .int v4), (5, .int s0), (6, .int v6), (7, .int x20)]) hx [3, 4, 2, 1, 0] rfl ?_
    have h := Ho_some h
    exact h
  · have h := Ho_f c19 h
    refine J_iload hx dX5_test_255 5 rfl ?_
    refine J_goto hx dX5_test_257 262 (by decide) ?_
    refine J_istore (x := v8) (lv' := [(6, .int v8), (5, .int s0), (0, .ref (ad 63)), (4, .int v4), (7, .int v7), (8, .int v8)]) hx dX5_test_262 rfl (by decide) rfl ?_
    obtain ⟨x21, hx21, h⟩ := Ho_let h
    refine J_iinc (x := x21) (lv' := [(7, .int x21), (6, .int v8), (5, .int s0), (0, .ref (ad 63)), (4, .int v4), (8, .int v8)]) hx dX5_test_264 4 rfl (by rw [hx21]; rfl) (by decide) rfl ?_
    refine J_goto hx dX5_test_267 134 (by decide) ?_
    refine J_sub (lv' := [(0, .ref (ad 63)), (4, .int v4), (5, .int s0), (6, .int v8), (7, .int x21)]) hx [3, 4, 2, 1, 0] rfl ?_
    have h := Ho_some h
    exact h
def f_X5_test_j201 (v4 : Int32) (v5 : Int32) (v6 : Int32) (v7 : Int32) (v8 : Int32) (v9 : Int32) (v11 : Int32) (s0 : Int32) (s1 : Int32) (I : StI) : Option ((Int32 × Int32) ⊕ ((Int32 × Int32) ⊕ ((Int32 × Int32 × Int32) ⊕ (Int32 × StI)))) :=
  k_let (s0 + s1) (fun x29 => k_let (v11 + (1 : Int32)) (fun x30 => some (.inl (x29, x30))))
set_option maxRecDepth 100000 in
set_option maxHeartbeats 4000000 in
theorem s_X5_test_j201 {X : k_C} {ad : Nat → Nat} {P : Option Value → StI → StL → Prop} {I : StI} {L : StL} (hx : Ok X cX5_test RX5 12 (some .int) 7) (hQ : OkQ X ad P)  {v4 : Int32} {v5 : Int32} {v6 : Int32} {v7 : Int32} {v8 : Int32} {v9 : Int32} {v11 : Int32} {s0 : Int32} {s1 : Int32}  (h : Ho (f_X5_test_j201 v4 v5 v6 v7 v8 v9 v11 s0 s1 I) (Sum.elim (g_X5_test_L159 X ad I L v4 v5 v6 v7 v8 v9) (Sum.elim (g_X5_test_L147 X ad I L v4 v5 v6 v7) (Sum.elim (g_X5_test_L134 X ad I L v4) (kr_X5_test P L))))) : J X ad 12 I L 201 [(0, .ref (ad 63)), (4, .int v4), (5, .int v5), (6, .int v6), (7, .int v7), (8, .int v8), (9, .int v9), (11, .int v11)] [.int s1, .int s0] := by
  unfold f_X5_test_j201 at h
  refine J_iadd hx dX5_test_201 ?_
  obtain ⟨x29, hx29, h⟩ := Ho_let h
  refine J_istore (x := x29) (lv' := [(10, .int x29), (0, .ref (ad 63)), (4, .int v4), (5, .int v5), (6, .int v6), (7, .int v7), (8, .int v8), (9, .int v9), (11, .int v11)]) hx dX5_test_202 hx29 (by decide) rfl ?_
  obtain ⟨x30, hx30, h⟩ := Ho_let h
  refine J_iinc (x := x30) (lv' := [(11, .int x30), (10, .int x29), (0, .ref (ad 63)), (4, .int v4), (5, .int v5), (6, .int v6), (7, .int v7), (8, .int v8), (9, .int v9)]) hx dX5_test_204 8 rfl (by rw [hx30]; rfl) (by decide) rfl ?_
  refine J_goto hx dX5_test_207 159 (by decide) ?_
  refine J_sub (lv' := [(0, .ref (ad 63)), (4, .int v4), (5, .int v5), (6, .int v6), (7, .int v7), (8, .int v8), (9, .int v9), (10, .int x29), (11, .int x30)]) hx [2, 3, 4, 5, 6, 7, 8, 1, 0] rfl ?_
  have h := Ho_some h
  exact h
def f_X5_test_j200 (v4 : Int32) (v5 : Int32) (v6 : Int32) (v7 : Int32) (v8 : Int32) (v9 : Int32) (v11 : Int32) (s0 : Int32) (I : StI) : Option ((Int32 × Int32) ⊕ ((Int32 × Int32) ⊕ ((Int32 × Int32 × Int32) ⊕ (Int32 × StI)))) :=
  f_X5_test_j201 v4 v5 v6 v7 v8 v9 v11 s0 (0 : Int32) I
set_option maxRecDepth 100000 in
set_option maxHeartbeats 4000000 in
theorem s_X5_test_j200 {X : k_C} {ad : Nat → Nat} {P : Option Value → StI → StL → Prop} {I : StI} {L : StL} (hx : Ok X cX5_test RX5 12 (some .int) 7) (hQ : OkQ X ad P)  {v4 : Int32} {v5 : Int32} {v6 : Int32} {v7 : Int32} {v8 : Int32} {v9 : Int32} {v11 : Int32} {s0 : Int32}  (h : Ho (f_X5_test_j200 v4 v5 v6 v7 v8 v9 v11 s0 I) (Sum.elim (g_X5_test_L159 X ad I L v4 v5 v6 v7 v8 v9) (Sum.elim (g_X5_test_L147 X ad I L v4 v5 v6 v7) (Sum.elim (g_X5_test_L134 X ad I L v4) (kr_X5_test P L))))) : J X ad 12 I L 200 [(0, .ref (ad 63)), (4, .int v4), (5, .int v5), (6, .int v6), (7, .int v7), (8, .int v8), (9, .int v9), (11, .int v11)] [.int s0] := by
  unfold f_X5_test_j200 at h
  refine J_iconst (v := (0 : Int32)) hx dX5_test_200 (by decide) ?_
  refine J_sub (lv' := [(0, .ref (ad 63)), (4, .int v4), (5, .int v5), (6, .int v6), (7, .int v7), (8, .int v8), (9, .int v9), (11, .int v11)]) hx [0, 1, 2, 3, 4, 5, 6, 7] rfl ?_
  exact s_X5_test_j201 hx hQ  h
def f_X5_test_L159_b (v4 : Int32) (v5 : Int32) (v6 : Int32) (v7 : Int32) (v8 : Int32) (v9 : Int32) (v10 : Int32) (v11 : Int32) (I : StI) : Option ((Int32 × Int32) ⊕ ((Int32 × Int32) ⊕ ((Int32 × Int32 × Int32) ⊕ (Int32 × StI)))) :=
  (if (6 : Int32) ≤ v11 then (if v10 ≤ v8 then k_let (v9 + (1 : Int32)) (fun x24 => some (.inr (.inl (v8, x24)))) else k_let (v9 + (1 : Int32)) (fun x25 => some (.inr (.inl (v10, x25))))) else Option.bind (f_X5_has v4 v11) (fun t26 => (if t26 = 0 then f_X5_test_j200 v4 v5 v6 v7 v8 v9 v11 v10 I else k_gd (((21 : Int32) * v11) + v7) 126 ((if (I 79 (((21 : Int32) * v11) + v7).toNatClampNeg) = v9 then f_X5_test_j201 v4 v5 v6 v7 v8 v9 v11 v10 (1 : Int32) I else f_X5_test_j200 v4 v5 v6 v7 v8 v9 v11 v10 I)))))
def f_X5_test_L159 (v4 : Int32) (v5 : Int32) (v6 : Int32) (v7 : Int32) (v8 : Int32) (v9 : Int32) (I : StI) (n : Nat) (v10 : Int32) (v11 : Int32) : Option ((Int32 × Int32) ⊕ ((Int32 × Int32 × Int32) ⊕ (Int32 × StI))) :=
  k_loop (fun s => f_X5_test_L159_b v4 v5 v6 v7 v8 v9 s.1 s.2 I) n (v10, v11)
set_option maxRecDepth 100000 in
set_option maxHeartbeats 4000000 in
theorem s_X5_test_L159_b {X : k_C} {ad : Nat → Nat} {P : Option Value → StI → StL → Prop} {I : StI} {L : StL} (hx : Ok X cX5_test RX5 12 (some .int) 7) (hQ : OkQ X ad P)  {v4 : Int32} {v5 : Int32} {v6 : Int32} {v7 : Int32} {v8 : Int32} {v9 : Int32} {v10 : Int32} {v11 : Int32}  (h : Ho (f_X5_test_L159_b v4 v5 v6 v7 v8 v9 v10 v11 I) (Sum.elim (g_X5_test_L159 X ad I L v4 v5 v6 v7 v8 v9) (Sum.elim (g_X5_test_L147 X ad I L v4 v5 v6 v7) (Sum.elim (g_X5_test_L134 X ad I L v4) (kr_X5_test P L))))) : J X ad 12 I L 159 [(0, .ref (ad 63)), (4, .int v4), (5, .int v5), (6, .int v6), (7, .int v7), (8, .int v8), (9, .int v9), (10, .int v10), (11, .int v11)] [] := by
  unfold f_X5_test_L159_b at h
  refine J_iload hx dX5_test_159 8 rfl ?_
  refine J_bipush (v := (6 : Int32)) hx dX5_test_161 (by decide) ?_
  refine J_ic_ge hx dX5_test_163 210 (by decide) (fun c22 => ?_) (fun c22 => ?_)
  · have h := Ho_t c22 h
    refine J_iload hx dX5_test_210 7 rfl ?_
    refine J_iload hx dX5_test_212 5 rfl ?_
    refine J_ic_le hx dX5_test_214 222 (by decide) (fun c23 => ?_) (fun c23 => ?_)
    · have h := Ho_t c23 h
      refine J_iload hx dX5_test_222 5 rfl ?_
      refine J_istore (x := v8) (lv' := [(8, .int v8), (0, .ref (ad 63)), (4, .int v4), (5, .int v5), (6, .int v6), (7, .int v7), (9, .int v9), (10, .int v10), (11, .int v11)]) hx dX5_test_224 rfl (by decide) rfl ?_
      obtain ⟨x24, hx24, h⟩ := Ho_let h
      refine J_iinc (x := x24) (lv' := [(9, .int x24), (8, .int v8), (0, .ref (ad 63)), (4, .int v4), (5, .int v5), (6, .int v6), (7, .int v7), (10, .int v10), (11, .int v11)]) hx dX5_test_226 6 rfl (by rw [hx24]; rfl) (by decide) rfl ?_
      refine J_goto hx dX5_test_229 147 (by decide) ?_
      refine J_sub (lv' := [(0, .ref (ad 63)), (4, .int v4), (5, .int v5), (6, .int v6), (7, .int v7), (8, .int v8), (9, .int x24)]) hx [2, 3, 4, 5, 6, 1, 0] rfl ?_
      have h := Ho_some h
      exact h
    · have h := Ho_f c23 h
      refine J_iload hx dX5_test_217 7 rfl ?_
      refine J_goto hx dX5_test_219 224 (by decide) ?_
      refine J_istore (x := v10) (lv' := [(8, .int v10), (0, .ref (ad 63)), (4, .int v4), (5, .int v5), (6, .int v6), (7, .int v7), (9, .int v9), (10, .int v10), (11, .int v11)]) hx dX5_test_224 rfl (by decide) rfl ?_
      obtain ⟨x25, hx25, h⟩ := Ho_let h
      refine J_iinc (x := x25) (lv' := [(9, .int x25), (8, .int v10), (0, .ref (ad 63)), (4, .int v4), (5, .int v5), (6, .int v6), (7, .int v7), (10, .int v10), (11, .int v11)]) hx dX5_test_226 6 rfl (by rw [hx25]; rfl) (by decide) rfl ?_
      refine J_goto hx dX5_test_229 147 (by decide) ?_
      refine J_sub (lv' := [(0, .ref (ad 63)), (4, .int v4), (5, .int v5), (6, .int v6), (7, .int v7), (8, .int v10), (9, .int x25)]) hx [2, 3, 4, 5, 6, 1, 0] rfl ?_
      have h := Ho_some h
      exact h
  · have h := Ho_f c22 h
    refine J_iload hx dX5_test_166 7 rfl ?_
    refine J_iload hx dX5_test_168 1 rfl ?_
    refine J_iload hx dX5_test_170 8 rfl ?_
    obtain ⟨t26, e27, h⟩ := Ho_bind h
    refine J_callSi hx lkS_RX5_139 [.int v4, .int v11] [.int v10] rfl rfl (Nat.le_of_ble_eq_true rfl) (Nat.le_of_ble_eq_true rfl) (s_X5_has  ⟨t26, e27, ⟨rfl, rfl, rfl⟩⟩) dX5_test_172 ?_
    refine J_if_eq hx dX5_test_175 200 (by decide) (fun c28 => ?_) (fun c28 => ?_)
    · have h := Ho_t c28 h
      refine J_sub (lv' := [(0, .ref (ad 63)), (4, .int v4), (5, .int v5), (6, .int v6), (7, .int v7), (8, .int v8), (9, .int v9), (11, .int v11)]) hx [0, 1, 2, 3, 4, 5, 6, 8] rfl ?_
      exact s_X5_test_j200 hx hQ  h
    · have h := Ho_f c28 h
      refine J_aload_n hx dX5_test_178 0 rfl ?_
      refine J_getR (q := 79) hx fl_RX5_60 (rfl : k_sh 63 = (5, k_N 5)) rfl rfl dX5_test_179 ?_
      refine J_bipush (v := (21 : Int32)) hx dX5_test_182 (by decide) ?_
      refine J_iload hx dX5_test_184 8 rfl ?_
      refine J_imul hx dX5_test_186 ?_
      refine J_iload hx dX5_test_187 4 rfl ?_
      refine J_iadd hx dX5_test_189 ?_
      obtain ⟨b31, h⟩ := Ho_gd h
      refine J_iald hx (rfl : k_sh 79 = (10, 126)) b31 dX5_test_190 ?_
      refine J_iload hx dX5_test_191 6 rfl ?_
      refine J_ic_ne hx dX5_test_193 200 (by decide) (fun c32 => ?_) (fun c32 => ?_)
      · have h := Ho_f c32 h
        refine J_sub (lv' := [(0, .ref (ad 63)), (4, .int v4), (5, .int v5), (6, .int v6), (7, .int v7), (8, .int v8), (9, .int v9), (11, .int v11)]) hx [0, 1, 2, 3, 4, 5, 6, 8] rfl ?_
        exact s_X5_test_j200 hx hQ  h
      · have h := Ho_t c32 h
        refine J_iconst (v := (1 : Int32)) hx dX5_test_196 (by decide) ?_
        refine J_goto hx dX5_test_197 201 (by decide) ?_
        refine J_sub (lv' := [(0, .ref (ad 63)), (4, .int v4), (5, .int v5), (6, .int v6), (7, .int v7), (8, .int v8), (9, .int v9), (11, .int v11)]) hx [0, 1, 2, 3, 4, 5, 6, 8] rfl ?_
        exact s_X5_test_j201 hx hQ  h
set_option maxRecDepth 100000 in
set_option maxHeartbeats 4000000 in
theorem s_X5_test_L159 {X : k_C} {ad : Nat → Nat} {P : Option Value → StI → StL → Prop} {I : StI} {L : StL} (hx : Ok X cX5_test RX5 12 (some .int) 7) (hQ : OkQ X ad P)  {v4 : Int32} {v5 : Int32} {v6 : Int32} {v7 : Int32} {v8 : Int32} {v9 : Int32} {v10 : Int32} {v11 : Int32}  (n : Nat) (h : Ho (f_X5_test_L159 v4 v5 v6 v7 v8 v9 I n v10 v11) (Sum.elim (g_X5_test_L147 X ad I L v4 v5 v6 v7) (Sum.elim (g_X5_test_L134 X ad I L v4) (kr_X5_test P L)))) : J X ad 12 I L 159 [(0, .ref (ad 63)), (4, .int v4), (5, .int v5), (6, .int v6), (7, .int v7), (8, .int v8), (9, .int v9), (10, .int v10), (11, .int v11)] [] := by
  exact k_loop_ho (G := g_X5_test_L159 X ad I L v4 v5 v6 v7 v8 v9) (fun s hs => s_X5_test_L159_b hx hQ  hs) n (v10, v11) h
def f_X5_test_L147_b (v4 : Int32) (v5 : Int32) (v6 : Int32) (v7 : Int32) (v8 : Int32) (v9 : Int32) (I : StI) : Option ((Int32 × Int32) ⊕ ((Int32 × Int32 × Int32) ⊕ (Int32 × StI))) :=
  (if (3 : Int32) ≤ v9 then (if v6 ≤ v8 then Option.map Sum.inr (f_X5_test_j246 v4 v6 v7 v8 v5 I) else Option.map Sum.inr (f_X5_test_j246 v4 v6 v7 v8 v7 I)) else f_X5_test_L159 v4 v5 v6 v7 v8 v9 I k_fu (0 : Int32) (0 : Int32))
def f_X5_test_L147 (v4 : Int32) (v5 : Int32) (v6 : Int32) (v7 : Int32) (I : StI) (n : Nat) (v8 : Int32) (v9 : Int32) : Option ((Int32 × Int32 × Int32) ⊕ (Int32 × StI)) :=
  k_loop (fun s => f_X5_test_L147_b v4 v5 v6 v7 s.1 s.2 I) n (v8, v9)
set_option maxRecDepth 100000 in
set_option maxHeartbeats 4000000 in
theorem s_X5_test_L147_b {X : k_C} {ad : Nat → Nat} {P : Option Value → StI → StL → Prop} {I : StI} {L : StL} (hx : Ok X cX5_test RX5 12 (some .int) 7) (hQ : OkQ X ad P)  {v4 : Int32} {v5 : Int32} {v6 : Int32} {v7 : Int32} {v8 : Int32} {v9 : Int32}  (h : Ho (f_X5_test_L147_b v4 v5 v6 v7 v8 v9 I) (Sum.elim (g_X5_test_L147 X ad I L v4 v5 v6 v7) (Sum.elim (g_X5_test_L134 X ad I L v4) (kr_X5_test P L)))) : J X ad 12 I L 147 [(0, .ref (ad 63)), (4, .int v4), (5, .int v5), (6, .int v6), (7, .int v7), (8, .int v8), (9, .int v9)] [] := by
  unfold f_X5_test_L147_b at h
  refine J_iload hx dX5_test_147 6 rfl ?_
  refine J_iconst (v := (3 : Int32)) hx dX5_test_149 (by decide) ?_
  refine J_ic_ge hx dX5_test_150 232 (by decide) (fun c17 => ?_) (fun c17 => ?_)
  · have h := Ho_t c17 h
    refine J_iload hx dX5_test_232 5 rfl ?_
    refine J_iload hx dX5_test_234 3 rfl ?_
    refine J_ic_ge hx dX5_test_236 244 (by decide) (fun c18 => ?_) (fun c18 => ?_)
    · have h := Ho_t c18 h
      refine J_iload hx dX5_test_244 2 rfl ?_
      refine J_sub (lv' := [(0, .ref (ad 63)), (4, .int v4), (6, .int v6), (7, .int v7), (8, .int v8)]) hx [0, 1, 3, 4, 5] rfl ?_
      have h := Ho_map h
      exact s_X5_test_j246 hx hQ  h
    · have h := Ho_f c18 h
      refine J_iload hx dX5_test_239 4 rfl ?_
      refine J_goto hx dX5_test_241 246 (by decide) ?_
      refine J_sub (lv' := [(0, .ref (ad 63)), (4, .int v4), (6, .int v6), (7, .int v7), (8, .int v8)]) hx [0, 1, 3, 4, 5] rfl ?_
      have h := Ho_map h
      exact s_X5_test_j246 hx hQ  h
  · have h := Ho_f c17 h
    refine J_iconst (v := (0 : Int32)) hx dX5_test_153 (by decide) ?_
    refine J_istore (x := (0 : Int32)) (lv' := [(10, .int (0 : Int32)), (0, .ref (ad 63)), (4, .int v4), (5, .int v5), (6, .int v6), (7, .int v7), (8, .int v8), (9, .int v9)]) hx dX5_test_154 rfl (by decide) rfl ?_
    refine J_iconst (v := (0 : Int32)) hx dX5_test_156 (by decide) ?_
    refine J_istore (x := (0 : Int32)) (lv' := [(11, .int (0 : Int32)), (10, .int (0 : Int32)), (0, .ref (ad 63)), (4, .int v4), (5, .int v5), (6, .int v6), (7, .int v7), (8, .int v8), (9, .int v9)]) hx dX5_test_157 rfl (by decide) rfl ?_
    refine J_sub (lv' := [(0, .ref (ad 63)), (4, .int v4), (5, .int v5), (6, .int v6), (7, .int v7), (8, .int v8), (9, .int v9), (10, .int (0 : Int32)), (11, .int (0 : Int32))]) hx [2, 3, 4, 5, 6, 7, 8, 1, 0] rfl ?_
    exact s_X5_test_L159 hx hQ  k_fu h
set_option maxRecDepth 100000 in
set_option maxHeartbeats 4000000 in
theorem s_X5_test_L147 {X : k_C} {ad : Nat → Nat} {P : Option Value → StI → StL → Prop} {I : StI} {L : StL} (hx : Ok X cX5_test RX5 12 (some .int) 7) (hQ : OkQ X ad P)  {v4 : Int32} {v5 : Int32} {v6 : Int32} {v7 : Int32} {v8 : Int32} {v9 : Int32}  (n : Nat) (h : Ho (f_X5_test_L147 v4 v5 v6 v7 I n v8 v9) (Sum.elim (g_X5_test_L134 X ad I L v4) (kr_X5_test P L))) : J X ad 12 I L 147 [(0, .ref (ad 63)), (4, .int v4), (5, .int v5), (6, .int v6), (7, .int v7), (8, .int v8), (9, .int v9)] [] := by
  exact k_loop_ho (G := g_X5_test_L147 X ad I L v4 v5 v6 v7) (fun s hs => s_X5_test_L147_b hx hQ  hs) n (v8, v9) h
def f_X5_test_L134_b (v4 : Int32) (v5 : Int32) (v6 : Int32) (v7 : Int32) (I : StI) : Option ((Int32 × Int32 × Int32) ⊕ (Int32 × StI)) :=
  (if (21 : Int32) ≤ v7 then Option.bind (f_X5_answer v5 v6 I) (fun t15 => some (.inr (t15.1, t15.2))) else f_X5_test_L147 v4 v5 v6 v7 I k_fu (0 : Int32) (0 : Int32))
def f_X5_test_L134 (v4 : Int32) (I : StI) (n : Nat) (v5 : Int32) (v6 : Int32) (v7 : Int32) : Option (Int32 × StI) :=
  k_loop (fun s => f_X5_test_L134_b v4 s.1 s.2.1 s.2.2 I) n (v5, v6, v7)
set_option maxRecDepth 100000 in
set_option maxHeartbeats 4000000 in
theorem s_X5_test_L134_b {X : k_C} {ad : Nat → Nat} {P : Option Value → StI → StL → Prop} {I : StI} {L : StL} (hx : Ok X cX5_test RX5 12 (some .int) 7) (hQ : OkQ X ad P)  {v4 : Int32} {v5 : Int32} {v6 : Int32} {v7 : Int32}  (h : Ho (f_X5_test_L134_b v4 v5 v6 v7 I) (Sum.elim (g_X5_test_L134 X ad I L v4) (kr_X5_test P L))) : J X ad 12 I L 134 [(0, .ref (ad 63)), (4, .int v4), (5, .int v5), (6, .int v6), (7, .int v7)] [] := by
  unfold f_X5_test_L134_b at h
  refine J_iload hx dX5_test_134 4 rfl ?_
  refine J_bipush (v := (21 : Int32)) hx dX5_test_136 (by decide) ?_
  refine J_ic_ge hx dX5_test_138 270 (by decide) (fun c14 => ?_) (fun c14 => ?_)
  · have h := Ho_t c14 h
    refine J_aload_n hx dX5_test_270 0 rfl ?_
    refine J_iload hx dX5_test_271 2 rfl ?_
    refine J_iload hx dX5_test_273 3 rfl ?_
    obtain ⟨t15, e16, h⟩ := Ho_bind h
    refine J_callVi hx lkV_RX5_189 (rfl : k_sh 63 = (5, k_N 5)) [.int v5, .int v6] [] rfl rfl (Nat.le_of_ble_eq_true rfl) (Nat.le_of_ble_eq_true rfl) (s_X5_answer  ⟨t15, e16, ⟨rfl, rfl, rfl⟩⟩) dX5_test_275 ?_
    have h := Ho_some h
    exact J_iret hx hQ dX5_test_278 h
  · have h := Ho_f c14 h
    refine J_iconst (v := (0 : Int32)) hx dX5_test_141 (by decide) ?_
    refine J_istore (x := (0 : Int32)) (lv' := [(8, .int (0 : Int32)), (0, .ref (ad 63)), (4, .int v4), (5, .int v5), (6, .int v6), (7, .int v7)]) hx dX5_test_142 rfl (by decide) rfl ?_
    refine J_iconst (v := (0 : Int32)) hx dX5_test_144 (by decide) ?_
    refine J_istore (x := (0 : Int32)) (lv' := [(9, .int (0 : Int32)), (8, .int (0 : Int32)), (0, .ref (ad 63)), (4, .int v4), (5, .int v5), (6, .int v6), (7, .int v7)]) hx dX5_test_145 rfl (by decide) rfl ?_
    refine J_sub (lv' := [(0, .ref (ad 63)), (4, .int v4), (5, .int v5), (6, .int v6), (7, .int v7), (8, .int (0 : Int32)), (9, .int (0 : Int32))]) hx [2, 3, 4, 5, 6, 1, 0] rfl ?_
    exact s_X5_test_L147 hx hQ  k_fu h
set_option maxRecDepth 100000 in
set_option maxHeartbeats 4000000 in
theorem s_X5_test_L134 {X : k_C} {ad : Nat → Nat} {P : Option Value → StI → StL → Prop} {I : StI} {L : StL} (hx : Ok X cX5_test RX5 12 (some .int) 7) (hQ : OkQ X ad P)  {v4 : Int32} {v5 : Int32} {v6 : Int32} {v7 : Int32}  (n : Nat) (h : Ho (f_X5_test_L134 v4 I n v5 v6 v7) (kr_X5_test P L)) : J X ad 12 I L 134 [(0, .ref (ad 63)), (4, .int v4), (5, .int v5), (6, .int v6), (7, .int v7)] [] := by
  exact k_loop_ho (G := g_X5_test_L134 X ad I L v4) (fun s hs => s_X5_test_L134_b hx hQ  hs) n (v5, v6, v7) h
def f_X5_test_L74_b (v1 : Int32) (v4 : Int32) (v5 : Int32) (v6 : Int32) (I : StI) : Option ((Int32 × StI) ⊕ ((Int32 × StI) ⊕ (Int32 × StI))) :=
  (if (21 : Int32) ≤ v6 then k_let (v5 + (1 : Int32)) (fun x38 => some (.inr (.inl (x38, I)))) else Option.bind (f_X5_goesOn (1 : Int32) (0 : Int32) I) (fun t39 => k_gd ((12 : Int32) + v1) 40 (k_gd (((21 : Int32) * v5) + v6) 126 (k_let (k_up t39.2 79 (((21 : Int32) * v5) + v6).toNatClampNeg (t39.2 71 ((12 : Int32) + v1).toNatClampNeg)) (fun I43 => k_let (v6 + (1 : Int32)) (fun x44 => some (.inl (x44, I43))))))))
def f_X5_test_L74 (v1 : Int32) (v4 : Int32) (v5 : Int32) (n : Nat) (v6 : Int32) (I : StI) : Option ((Int32 × StI) ⊕ (Int32 × StI)) :=
  k_loop (fun s => f_X5_test_L74_b v1 v4 v5 s.1 s.2) n (v6, I)
set_option maxRecDepth 100000 in
set_option maxHeartbeats 4000000 in
theorem s_X5_test_L74_b {X : k_C} {ad : Nat → Nat} {P : Option Value → StI → StL → Prop} {I : StI} {L : StL} (hx : Ok X cX5_test RX5 12 (some .int) 7) (hQ : OkQ X ad P)  {v1 : Int32} {v4 : Int32} {v5 : Int32} {v6 : Int32}  (h : Ho (f_X5_test_L74_b v1 v4 v5 v6 I) (Sum.elim (g_X5_test_L74 X ad L v1 v4 v5) (Sum.elim (g_X5_test_L52 X ad L v1 v4) (kr_X5_test P L)))) : J X ad 12 I L 74 [(0, .ref (ad 63)), (1, .int v1), (4, .int v4), (5, .int v5), (6, .int v6)] [] := by
  unfold f_X5_test_L74_b at h
  refine J_iload hx dX5_test_74 4 rfl ?_
  refine J_bipush (v := (21 : Int32)) hx dX5_test_76 (by decide) ?_
  refine J_ic_ge hx dX5_test_78 117 (by decide) (fun c37 => ?_) (fun c37 => ?_)
  · have h := Ho_t c37 h
    obtain ⟨x38, hx38, h⟩ := Ho_let h
    refine J_iinc (x := x38) (lv' := [(5, .int x38), (0, .ref (ad 63)), (1, .int v1), (4, .int v4), (6, .int v6)]) hx dX5_test_117 3 rfl (by rw [hx38]; rfl) (by decide) rfl ?_
    refine J_goto hx dX5_test_120 52 (by decide) ?_
    refine J_sub (lv' := [(0, .ref (ad 63)), (1, .int v1), (4, .int v4), (5, .int x38)]) hx [1, 2, 3, 0] rfl ?_
    have h := Ho_some h
    exact h
  · have h := Ho_f c37 h
    refine J_aload_n hx dX5_test_81 0 rfl ?_
    refine J_iconst (v := (1 : Int32)) hx dX5_test_82 (by decide) ?_
    refine J_iconst (v := (0 : Int32)) hx dX5_test_83 (by decide) ?_
    obtain ⟨t39, e40, h⟩ := Ho_bind h
    refine J_callVi hx lkV_RX5_198 (rfl : k_sh 63 = (5, k_N 5)) [.int (1 : Int32), .int (0 : Int32)] [] rfl rfl (Nat.le_of_ble_eq_true rfl) (Nat.le_of_ble_eq_true rfl) (s_X5_goesOn  ⟨t39, e40, ⟨rfl, rfl, rfl⟩⟩) dX5_test_84 ?_
    refine J_istore (x := t39.1) (lv' := [(7, .int t39.1), (0, .ref (ad 63)), (1, .int v1), (4, .int v4), (5, .int v5), (6, .int v6)]) hx dX5_test_87 rfl (by decide) rfl ?_
    refine J_aload_n hx dX5_test_89 1 rfl ?_
    refine J_getR (q := 79) hx fl_RX5_60 (rfl : k_sh 63 = (5, k_N 5)) rfl rfl dX5_test_90 ?_
    refine J_bipush (v := (21 : Int32)) hx dX5_test_93 (by decide) ?_
    refine J_iload hx dX5_test_95 4 rfl ?_
    refine J_imul hx dX5_test_97 ?_
    refine J_iload hx dX5_test_98 5 rfl ?_
    refine J_iadd hx dX5_test_100 ?_
    refine J_aload_n hx dX5_test_101 1 rfl ?_
    refine J_getR (q := 71) hx fl_RX5_31 (rfl : k_sh 63 = (5, k_N 5)) rfl rfl dX5_test_102 ?_
    refine J_bipush (v := (12 : Int32)) hx dX5_test_105 (by decide) ?_
    refine J_iload_n hx dX5_test_107 2 rfl ?_
    refine J_iadd hx dX5_test_108 ?_
    obtain ⟨b41, h⟩ := Ho_gd h
    refine J_iald hx (rfl : k_sh 71 = (10, 40)) b41 dX5_test_109 ?_
    obtain ⟨b42, h⟩ := Ho_gd h
    obtain ⟨I43, hI43, h⟩ := Ho_let h
    refine J_iast hx (rfl : k_sh 79 = (10, 126)) b42 dX5_test_110 hI43 ?_
    obtain ⟨x44, hx44, h⟩ := Ho_let h
    refine J_iinc (x := x44) (lv' := [(6, .int x44), (7, .int t39.1), (0, .ref (ad 63)), (1, .int v1), (4, .int v4), (5, .int v5)]) hx dX5_test_111 5 rfl (by rw [hx44]; rfl) (by decide) rfl ?_
    refine J_goto hx dX5_test_114 74 (by decide) ?_
    refine J_sub (lv' := [(0, .ref (ad 63)), (1, .int v1), (4, .int v4), (5, .int v5), (6, .int x44)]) hx [2, 3, 4, 5, 0] rfl ?_
    have h := Ho_some h
    exact h
set_option maxRecDepth 100000 in
set_option maxHeartbeats 4000000 in
theorem s_X5_test_L74 {X : k_C} {ad : Nat → Nat} {P : Option Value → StI → StL → Prop} {I : StI} {L : StL} (hx : Ok X cX5_test RX5 12 (some .int) 7) (hQ : OkQ X ad P)  {v1 : Int32} {v4 : Int32} {v5 : Int32} {v6 : Int32}  (n : Nat) (h : Ho (f_X5_test_L74 v1 v4 v5 n v6 I) (Sum.elim (g_X5_test_L52 X ad L v1 v4) (kr_X5_test P L))) : J X ad 12 I L 74 [(0, .ref (ad 63)), (1, .int v1), (4, .int v4), (5, .int v5), (6, .int v6)] [] := by
  exact k_loop_ho (G := g_X5_test_L74 X ad L v1 v4 v5) (fun s hs => s_X5_test_L74_b hx hQ  hs) n (v6, I) h
def f_X5_test_L52_b (v1 : Int32) (v4 : Int32) (v5 : Int32) (I : StI) : Option ((Int32 × StI) ⊕ (Int32 × StI)) :=
  (if (6 : Int32) ≤ v5 then Option.map Sum.inr (f_X5_test_L134 v4 I k_fu (-9 : Int32) (7 : Int32) (1 : Int32)) else k_gd v1 7 (k_let (k_up I 72 v1.toNatClampNeg v5) (fun I34 => Option.bind (f_X5_laysAside I34) (fun t35 => f_X5_test_L74 v1 v4 v5 k_fu (1 : Int32) t35))))
def f_X5_test_L52 (v1 : Int32) (v4 : Int32) (n : Nat) (v5 : Int32) (I : StI) : Option (Int32 × StI) :=
  k_loop (fun s => f_X5_test_L52_b v1 v4 s.1 s.2) n (v5, I)
set_option maxRecDepth 100000 in
set_option maxHeartbeats 4000000 in
theorem s_X5_test_L52_b {X : k_C} {ad : Nat → Nat} {P : Option Value → StI → StL → Prop} {I : StI} {L : StL} (hx : Ok X cX5_test RX5 12 (some .int) 7) (hQ : OkQ X ad P)  {v1 : Int32} {v4 : Int32} {v5 : Int32}  (h : Ho (f_X5_test_L52_b v1 v4 v5 I) (Sum.elim (g_X5_test_L52 X ad L v1 v4) (kr_X5_test P L))) : J X ad 12 I L 52 [(0, .ref (ad 63)), (1, .int v1), (4, .int v4), (5, .int v5)] [] := by
  unfold f_X5_test_L52_b at h
  refine J_iload hx dX5_test_52 3 rfl ?_
  refine J_bipush (v := (6 : Int32)) hx dX5_test_54 (by decide) ?_
  refine J_ic_ge hx dX5_test_56 123 (by decide) (fun c13 => ?_) (fun c13 => ?_)
  · have h := Ho_t c13 h
    refine J_bipush (v := (-9 : Int32)) hx dX5_test_123 (by decide) ?_
    refine J_istore (x := (-9 : Int32)) (lv' := [(5, .int (-9 : Int32)), (0, .ref (ad 63)), (1, .int v1), (4, .int v4)]) hx dX5_test_125 rfl (by decide) rfl ?_
    refine J_bipush (v := (7 : Int32)) hx dX5_test_127 (by decide) ?_
    refine J_istore (x := (7 : Int32)) (lv' := [(6, .int (7 : Int32)), (5, .int (-9 : Int32)), (0, .ref (ad 63)), (1, .int v1), (4, .int v4)]) hx dX5_test_129 rfl (by decide) rfl ?_
    refine J_iconst (v := (1 : Int32)) hx dX5_test_131 (by decide) ?_
    refine J_istore (x := (1 : Int32)) (lv' := [(7, .int (1 : Int32)), (6, .int (7 : Int32)), (5, .int (-9 : Int32)), (0, .ref (ad 63)), (1, .int v1), (4, .int v4)]) hx dX5_test_132 rfl (by decide) rfl ?_
    refine J_sub (lv' := [(0, .ref (ad 63)), (4, .int v4), (5, .int (-9 : Int32)), (6, .int (7 : Int32)), (7, .int (1 : Int32))]) hx [3, 5, 2, 1, 0] rfl ?_
    have h := Ho_map h
    exact s_X5_test_L134 hx hQ  k_fu h
  · have h := Ho_f c13 h
    refine J_aload_n hx dX5_test_59 0 rfl ?_
    refine J_getR (q := 72) hx fl_RX5_34 (rfl : k_sh 63 = (5, k_N 5)) rfl rfl dX5_test_60 ?_
    refine J_iload_n hx dX5_test_63 1 rfl ?_
    refine J_iload hx dX5_test_64 3 rfl ?_
    obtain ⟨b33, h⟩ := Ho_gd h
    obtain ⟨I34, hI34, h⟩ := Ho_let h
    refine J_iast hx (rfl : k_sh 72 = (10, 7)) b33 dX5_test_66 hI34 ?_
    refine J_aload_n hx dX5_test_67 0 rfl ?_
    obtain ⟨t35, e36, h⟩ := Ho_bind h
    refine J_callVv hx lkV_RX5_195 (rfl : k_sh 63 = (5, k_N 5)) [] [] rfl rfl (Nat.le_of_ble_eq_true rfl) (Nat.le_of_ble_eq_true rfl) (s_X5_laysAside  ⟨t35, e36, ⟨rfl, rfl, rfl⟩⟩) dX5_test_68 ?_
    refine J_iconst (v := (1 : Int32)) hx dX5_test_71 (by decide) ?_
    refine J_istore (x := (1 : Int32)) (lv' := [(6, .int (1 : Int32)), (0, .ref (ad 63)), (1, .int v1), (4, .int v4), (5, .int v5)]) hx dX5_test_72 rfl (by decide) rfl ?_
    refine J_sub (lv' := [(0, .ref (ad 63)), (1, .int v1), (4, .int v4), (5, .int v5), (6, .int (1 : Int32))]) hx [1, 2, 3, 4, 0] rfl ?_
    exact s_X5_test_L74 hx hQ  k_fu h
set_option maxRecDepth 100000 in
set_option maxHeartbeats 4000000 in
theorem s_X5_test_L52 {X : k_C} {ad : Nat → Nat} {P : Option Value → StI → StL → Prop} {I : StI} {L : StL} (hx : Ok X cX5_test RX5 12 (some .int) 7) (hQ : OkQ X ad P)  {v1 : Int32} {v4 : Int32} {v5 : Int32}  (n : Nat) (h : Ho (f_X5_test_L52 v1 v4 n v5 I) (kr_X5_test P L)) : J X ad 12 I L 52 [(0, .ref (ad 63)), (1, .int v1), (4, .int v4), (5, .int v5)] [] := by
  exact k_loop_ho (G := g_X5_test_L52 X ad L v1 v4) (fun s hs => s_X5_test_L52_b hx hQ  hs) n (v5, I) h
def f_X5_test (v1 : Int32) (v2 : Int32) (I : StI) : Option (Int32 × StI) :=
  Option.bind (f_X5_isCaller v1 I) (fun t1 => (if t1 = 0 then some ((-1 : Int32), I) else Option.bind (f_X5_isRow v2) (fun t4 => (if t4 = 0 then some ((-1 : Int32), I) else Option.bind (f_X5_seen v2 I) (fun t7 => (if t7 ≤ 0 then Option.bind (f_X5_kindsBy v1 v2 I) (fun t10 => (if t10.1 = 0 then some ((-9 : Int32), t10.2) else f_X5_test_L52 v1 t10.1 k_fu (0 : Int32) t10.2)) else Option.bind (f_X5_found t7 I) (fun t45 => some (t45.1, t45.2))))))))
set_option maxRecDepth 100000 in
set_option maxHeartbeats 4000000 in
theorem s_X5_test {l : Launch} {ad : Nat → Nat} {P : Option Value → StI → StL → Prop} {I : StI} {L : StL} {v1 : Int32} {v2 : Int32}  (h : Ho (f_X5_test v1 v2 I) (kr_X5_test P L)) : k_Met l ad 7 yX5_test cX5_test 12 (some .int) [.ref (ad 63), .int v1, .int v2] I L P := by
  refine k_enter (by decide +kernel) (Nat.le_of_ble_eq_true rfl) (fun X hl hx hQ => ?_)
  clear hl
  have hx : Ok X cX5_test RX5 12 (some .int) 7 := hx
  show J X ad 12 I L 0 [(0, .ref (ad 63)), (1, .int v1), (2, .int v2)] []
  unfold f_X5_test at h
  refine J_aload_n hx dX5_test_0 0 rfl ?_
  refine J_iload_n hx dX5_test_1 1 rfl ?_
  obtain ⟨t1, e2, h⟩ := Ho_bind h
  refine J_callVi hx lkV_RX5_166 (rfl : k_sh 63 = (5, k_N 5)) [.int v1] [] rfl rfl (Nat.le_of_ble_eq_true rfl) (Nat.le_of_ble_eq_true rfl) (s_X5_isCaller  ⟨t1, e2, ⟨rfl, rfl, rfl⟩⟩) dX5_test_2 ?_
  refine J_if_eq hx dX5_test_5 15 (by decide) (fun c3 => ?_) (fun c3 => ?_)
  · have h := Ho_t c3 h
    refine J_iconst (v := (-1 : Int32)) hx dX5_test_15 (by decide) ?_
    have h := Ho_some h
    exact J_iret hx hQ dX5_test_16 h
  · have h := Ho_f c3 h
    refine J_iload_n hx dX5_test_8 2 rfl ?_
    obtain ⟨t4, e5, h⟩ := Ho_bind h
    refine J_callSi hx lkS_RX5_81 [.int v2] [] rfl rfl (Nat.le_of_ble_eq_true rfl) (Nat.le_of_ble_eq_true rfl) (s_X5_isRow  ⟨t4, e5, ⟨rfl, rfl, rfl⟩⟩) dX5_test_9 ?_
    refine J_if_ne hx dX5_test_12 17 (by decide) (fun c6 => ?_) (fun c6 => ?_)
    · have h := Ho_f c6 h
      refine J_aload_n hx dX5_test_17 0 rfl ?_
      refine J_iload_n hx dX5_test_18 2 rfl ?_
      obtain ⟨t7, e8, h⟩ := Ho_bind h
      refine J_callVi hx lkV_RX5_208 (rfl : k_sh 63 = (5, k_N 5)) [.int v2] [] rfl rfl (Nat.le_of_ble_eq_true rfl) (Nat.le_of_ble_eq_true rfl) (s_X5_seen  ⟨t7, e8, ⟨rfl, rfl, rfl⟩⟩) dX5_test_19 ?_
      refine J_istore_n (x := t7) (lv' := [(3, .int t7), (0, .ref (ad 63)), (1, .int v1), (2, .int v2)]) hx dX5_test_22 rfl (by decide) rfl ?_
      refine J_iload_n hx dX5_test_23 0 rfl ?_
      refine J_if_le hx dX5_test_24 33 (by decide) (fun c9 => ?_) (fun c9 => ?_)
      · have h := Ho_t c9 h
        refine J_aload_n hx dX5_test_33 1 rfl ?_
        refine J_iload_n hx dX5_test_34 2 rfl ?_
        refine J_iload_n hx dX5_test_35 3 rfl ?_
        obtain ⟨t10, e11, h⟩ := Ho_bind h
        refine J_callVi hx lkV_RX5_214 (rfl : k_sh 63 = (5, k_N 5)) [.int v1, .int v2] [] rfl rfl (Nat.le_of_ble_eq_true rfl) (Nat.le_of_ble_eq_true rfl) (s_X5_kindsBy  ⟨t10, e11, ⟨rfl, rfl, rfl⟩⟩) dX5_test_36 ?_
        refine J_istore (x := t10.1) (lv' := [(4, .int t10.1), (3, .int t7), (0, .ref (ad 63)), (1, .int v1), (2, .int v2)]) hx dX5_test_39 rfl (by decide) rfl ?_
        refine J_iload hx dX5_test_41 0 rfl ?_
        refine J_if_ne hx dX5_test_43 49 (by decide) (fun c12 => ?_) (fun c12 => ?_)
        · have h := Ho_f c12 h
          refine J_iconst (v := (0 : Int32)) hx dX5_test_49 (by decide) ?_
          refine J_istore (x := (0 : Int32)) (lv' := [(5, .int (0 : Int32)), (4, .int t10.1), (3, .int t7), (0, .ref (ad 63)), (1, .int v1), (2, .int v2)]) hx dX5_test_50 rfl (by decide) rfl ?_
          refine J_sub (lv' := [(0, .ref (ad 63)), (1, .int v1), (4, .int t10.1), (5, .int (0 : Int32))]) hx [3, 4, 1, 0] rfl ?_
          exact s_X5_test_L52 hx hQ  k_fu h
        · have h := Ho_t c12 h
          refine J_bipush (v := (-9 : Int32)) hx dX5_test_46 (by decide) ?_
          have h := Ho_some h
          exact J_iret hx hQ dX5_test_48 h
      · have h := Ho_f c9 h
        refine J_aload_n hx dX5_test_27 1 rfl ?_
        refine J_iload_n hx dX5_test_28 0 rfl ?_
        obtain ⟨t45, e46, h⟩ := Ho_bind h
        refine J_callVi hx lkV_RX5_85 (rfl : k_sh 63 = (5, k_N 5)) [.int t7] [] rfl rfl (Nat.le_of_ble_eq_true rfl) (Nat.le_of_ble_eq_true rfl) (s_X5_found  ⟨t45, e46, ⟨rfl, rfl, rfl⟩⟩) dX5_test_29 ?_
        have h := Ho_some h
        exact J_iret hx hQ dX5_test_32 h
    · have h := Ho_t c6 h
      refine J_iconst (v := (-1 : Int32)) hx dX5_test_15 (by decide) ?_
      have h := Ho_some h
      exact J_iret hx hQ dX5_test_16 h
abbrev kr_X5_text (P : Option Value → StI → StL → Prop) (L : StL) : Int32 × StI → Prop := fun t => P (some (.int t.1)) t.2 L
abbrev g_X5_text_L34 (X : k_C) (ad : Nat → Nat) (L : StL) (v1 : Int32) (v2 : Int32) : (Int32 × StI) → Prop := fun s => J X ad 4 s.2 L 34 [(0, .ref (ad 63)), (1, .int v1), (2, .int v2), (3, .int s.1)] []
def f_X5_text_L34_b (v1 : Int32) (v2 : Int32) (v3 : Int32) (I : StI) : Option ((Int32 × StI) ⊕ (Int32 × StI)) :=
  (if (60 : Int32) ≤ v3 then some (.inr (v2, I)) else k_gd (((60 : Int32) * v1) + v3) 240 (k_let (k_up I 67 (((60 : Int32) * v1) + v3).toNatClampNeg (32 : Int32)) (fun I10 => k_let (v3 + (1 : Int32)) (fun x11 => some (.inl (x11, I10))))))
def f_X5_text_L34 (v1 : Int32) (v2 : Int32) (n : Nat) (v3 : Int32) (I : StI) : Option (Int32 × StI) :=
  k_loop (fun s => f_X5_text_L34_b v1 v2 s.1 s.2) n (v3, I)
set_option maxRecDepth 100000 in
set_option maxHeartbeats 4000000 in
theorem s_X5_text_L34_b {X : k_C} {ad : Nat → Nat} {P : Option Value → StI → StL → Prop} {I : StI} {L : StL} (hx : Ok X cX5_text RX5 4 (some .int) 3) (hQ : OkQ X ad P)  {v1 : Int32} {v2 : Int32} {v3 : Int32}  (h : Ho (f_X5_text_L34_b v1 v2 v3 I) (Sum.elim (g_X5_text_L34 X ad L v1 v2) (kr_X5_text P L))) : J X ad 4 I L 34 [(0, .ref (ad 63)), (1, .int v1), (2, .int v2), (3, .int v3)] [] := by
  unfold f_X5_text_L34_b at h
  refine J_iload_n hx dX5_text_34 3 rfl ?_
  refine J_bipush (v := (60 : Int32)) hx dX5_text_35 (by decide) ?_
  refine J_ic_ge hx dX5_text_37 59 (by decide) (fun c8 => ?_) (fun c8 => ?_)
  · have h := Ho_t c8 h
    refine J_iload_n hx dX5_text_59 2 rfl ?_
    have h := Ho_some h
    exact J_iret hx hQ dX5_text_60 h
  · have h := Ho_f c8 h
    refine J_aload_n hx dX5_text_40 0 rfl ?_
    refine J_getR (q := 67) hx fl_RX5_19 (rfl : k_sh 63 = (5, k_N 5)) rfl rfl dX5_text_41 ?_
    refine J_bipush (v := (60 : Int32)) hx dX5_text_44 (by decide) ?_
    refine J_iload_n hx dX5_text_46 1 rfl ?_
    refine J_imul hx dX5_text_47 ?_
    refine J_iload_n hx dX5_text_48 3 rfl ?_
    refine J_iadd hx dX5_text_49 ?_
    refine J_bipush (v := (32 : Int32)) hx dX5_text_50 (by decide) ?_
    obtain ⟨b9, h⟩ := Ho_gd h
    obtain ⟨I10, hI10, h⟩ := Ho_let h
    refine J_iast hx (rfl : k_sh 67 = (10, 240)) b9 dX5_text_52 hI10 ?_
    obtain ⟨x11, hx11, h⟩ := Ho_let h
    refine J_iinc (x := x11) (lv' := [(3, .int x11), (0, .ref (ad 63)), (1, .int v1), (2, .int v2)]) hx dX5_text_53 3 rfl (by rw [hx11]; rfl) (by decide) rfl ?_
    refine J_goto hx dX5_text_56 34 (by decide) ?_
    refine J_sub (lv' := [(0, .ref (ad 63)), (1, .int v1), (2, .int v2), (3, .int x11)]) hx [1, 2, 3, 0] rfl ?_
    have h := Ho_some h
    exact h
set_option maxRecDepth 100000 in
set_option maxHeartbeats 4000000 in
theorem s_X5_text_L34 {X : k_C} {ad : Nat → Nat} {P : Option Value → StI → StL → Prop} {I : StI} {L : StL} (hx : Ok X cX5_text RX5 4 (some .int) 3) (hQ : OkQ X ad P)  {v1 : Int32} {v2 : Int32} {v3 : Int32}  (n : Nat) (h : Ho (f_X5_text_L34 v1 v2 n v3 I) (kr_X5_text P L)) : J X ad 4 I L 34 [(0, .ref (ad 63)), (1, .int v1), (2, .int v2), (3, .int v3)] [] := by
  exact k_loop_ho (G := g_X5_text_L34 X ad L v1 v2) (fun s hs => s_X5_text_L34_b hx hQ  hs) n (v3, I) h
def f_X5_text (v1 : Int32) (v2 : Int32) (I : StI) : Option (Int32 × StI) :=
  Option.bind (f_X5_isText v1) (fun t1 => (if t1 = 0 then some ((-1 : Int32), I) else (if v2 ≤ (60 : Int32) then (if 0 ≤ v2 then k_gd v1 4 (k_let (k_up I 66 v1.toNatClampNeg v2) (fun I7 => f_X5_text_L34 v1 v2 k_fu (0 : Int32) I7)) else Option.bind (f_X5_found (5 : Int32) I) (fun t12 => some (t12.1, t12.2))) else some ((-1 : Int32), I))))
set_option maxRecDepth 100000 in
set_option maxHeartbeats 4000000 in
theorem s_X5_text {l : Launch} {ad : Nat → Nat} {P : Option Value → StI → StL → Prop} {I : StI} {L : StL} {v1 : Int32} {v2 : Int32}  (h : Ho (f_X5_text v1 v2 I) (kr_X5_text P L)) : k_Met l ad 3 yX5_text cX5_text 4 (some .int) [.ref (ad 63), .int v1, .int v2] I L P := by
  refine k_enter (by decide +kernel) (Nat.le_of_ble_eq_true rfl) (fun X hl hx hQ => ?_)
  clear hl
  have hx : Ok X cX5_text RX5 4 (some .int) 3 := hx
  show J X ad 4 I L 0 [(0, .ref (ad 63)), (1, .int v1), (2, .int v2)] []
  unfold f_X5_text at h
  refine J_iload_n hx dX5_text_0 1 rfl ?_
  obtain ⟨t1, e2, h⟩ := Ho_bind h
  refine J_callSi hx lkS_RX5_92 [.int v1] [] rfl rfl (Nat.le_of_ble_eq_true rfl) (Nat.le_of_ble_eq_true rfl) (s_X5_isText  ⟨t1, e2, ⟨rfl, rfl, rfl⟩⟩) dX5_text_1 ?_
  refine J_if_eq hx dX5_text_4 13 (by decide) (fun c3 => ?_) (fun c3 => ?_)
  · have h := Ho_t c3 h
    refine J_iconst (v := (-1 : Int32)) hx dX5_text_13 (by decide) ?_
    have h := Ho_some h
    exact J_iret hx hQ dX5_text_14 h
  · have h := Ho_f c3 h
    refine J_iload_n hx dX5_text_7 2 rfl ?_
    refine J_bipush (v := (60 : Int32)) hx dX5_text_8 (by decide) ?_
    refine J_ic_le hx dX5_text_10 15 (by decide) (fun c4 => ?_) (fun c4 => ?_)
    · have h := Ho_t c4 h
      refine J_iload_n hx dX5_text_15 2 rfl ?_
      refine J_if_ge hx dX5_text_16 25 (by decide) (fun c5 => ?_) (fun c5 => ?_)
      · have h := Ho_t c5 h
        refine J_aload_n hx dX5_text_25 0 rfl ?_
        refine J_getR (q := 66) hx fl_RX5_16 (rfl : k_sh 63 = (5, k_N 5)) rfl rfl dX5_text_26 ?_
        refine J_iload_n hx dX5_text_29 1 rfl ?_
        refine J_iload_n hx dX5_text_30 2 rfl ?_
        obtain ⟨b6, h⟩ := Ho_gd h
        obtain ⟨I7, hI7, h⟩ := Ho_let h
        refine J_iast hx (rfl : k_sh 66 = (10, 4)) b6 dX5_text_31 hI7 ?_
        refine J_iconst (v := (0 : Int32)) hx dX5_text_32 (by decide) ?_
        refine J_istore_n (x := (0 : Int32)) (lv' := [(3, .int (0 : Int32)), (0, .ref (ad 63)), (1, .int v1), (2, .int v2)]) hx dX5_text_33 rfl (by decide) rfl ?_
        refine J_sub (lv' := [(0, .ref (ad 63)), (1, .int v1), (2, .int v2), (3, .int (0 : Int32))]) hx [1, 2, 3, 0] rfl ?_
        exact s_X5_text_L34 hx hQ  k_fu h
      · have h := Ho_f c5 h
        refine J_aload_n hx dX5_text_19 0 rfl ?_
        refine J_iconst (v := (5 : Int32)) hx dX5_text_20 (by decide) ?_
        obtain ⟨t12, e13, h⟩ := Ho_bind h
        refine J_callVi hx lkV_RX5_85 (rfl : k_sh 63 = (5, k_N 5)) [.int (5 : Int32)] [] rfl rfl (Nat.le_of_ble_eq_true rfl) (Nat.le_of_ble_eq_true rfl) (s_X5_found  ⟨t12, e13, ⟨rfl, rfl, rfl⟩⟩) dX5_text_21 ?_
        have h := Ho_some h
        exact J_iret hx hQ dX5_text_24 h
    · have h := Ho_f c4 h
      refine J_iconst (v := (-1 : Int32)) hx dX5_text_13 (by decide) ?_
      have h := Ho_some h
      exact J_iret hx hQ dX5_text_14 h
abbrev kr_X5_trips (P : Option Value → StI → StL → Prop) (L : StL) : Int32 × StI → Prop := fun t => P (some (.int t.1)) t.2 L
abbrev g_X5_trips_L22 (X : k_C) (ad : Nat → Nat) (L : StL) (v1 : Int32) : (Int32 × Int32 × StI) → Prop := fun s => J X ad 5 s.2.2 L 22 [(0, .ref (ad 63)), (1, .int v1), (2, .int s.1), (3, .int s.2.1)] []
def f_X5_trips_j53 (v1 : Int32) (v3 : Int32) (s0 : Int32) (s1 : Int32) (I : StI) : Option ((Int32 × Int32 × StI) ⊕ (Int32 × StI)) :=
  k_let (s0 + s1) (fun x14 => Option.bind (f_X5_has (I 63 24) v1) (fun t15 => (if t15 = 0 then k_let (v3 + (1 : Int32)) (fun x18 => some (.inl (x14, x18, I))) else Option.bind (f_X5_answer v3 x14 I) (fun t19 => some (.inr (t19.1, t19.2))))))
set_option maxRecDepth 100000 in
set_option maxHeartbeats 4000000 in
theorem s_X5_trips_j53 {X : k_C} {ad : Nat → Nat} {P : Option Value → StI → StL → Prop} {I : StI} {L : StL} (hx : Ok X cX5_trips RX5 5 (some .int) 5) (hQ : OkQ X ad P)  {v1 : Int32} {v3 : Int32} {s0 : Int32} {s1 : Int32}  (h : Ho (f_X5_trips_j53 v1 v3 s0 s1 I) (Sum.elim (g_X5_trips_L22 X ad L v1) (kr_X5_trips P L))) : J X ad 5 I L 53 [(0, .ref (ad 63)), (1, .int v1), (3, .int v3)] [.int s1, .int s0] := by
  unfold f_X5_trips_j53 at h
  refine J_iadd hx dX5_trips_53 ?_
  obtain ⟨x14, hx14, h⟩ := Ho_let h
  refine J_istore_n (x := x14) (lv' := [(2, .int x14), (0, .ref (ad 63)), (1, .int v1), (3, .int v3)]) hx dX5_trips_54 hx14 (by decide) rfl ?_
  refine J_aload_n hx dX5_trips_55 1 rfl ?_
  refine J_getI hx fl_RX5_129 (rfl : k_sh 63 = (5, k_N 5)) rfl dX5_trips_56 ?_
  refine J_iload_n hx dX5_trips_59 2 rfl ?_
  obtain ⟨t15, e16, h⟩ := Ho_bind h
  refine J_callSi hx lkS_RX5_139 [.int (I 63 24), .int v1] [] rfl rfl (Nat.le_of_ble_eq_true rfl) (Nat.le_of_ble_eq_true rfl) (s_X5_has  ⟨t15, e16, ⟨rfl, rfl, rfl⟩⟩) dX5_trips_60 ?_
  refine J_if_eq hx dX5_trips_63 73 (by decide) (fun c17 => ?_) (fun c17 => ?_)
  · have h := Ho_t c17 h
    obtain ⟨x18, hx18, h⟩ := Ho_let h
    refine J_iinc (x := x18) (lv' := [(3, .int x18), (2, .int x14), (0, .ref (ad 63)), (1, .int v1)]) hx dX5_trips_73 3 rfl (by rw [hx18]; rfl) (by decide) rfl ?_
    refine J_goto hx dX5_trips_76 22 (by decide) ?_
    refine J_sub (lv' := [(0, .ref (ad 63)), (1, .int v1), (2, .int x14), (3, .int x18)]) hx [2, 3, 1, 0] rfl ?_
    have h := Ho_some h
    exact h
  · have h := Ho_f c17 h
    refine J_aload_n hx dX5_trips_66 1 rfl ?_
    refine J_iload_n hx dX5_trips_67 3 rfl ?_
    refine J_iload_n hx dX5_trips_68 0 rfl ?_
    obtain ⟨t19, e20, h⟩ := Ho_bind h
    refine J_callVi hx lkV_RX5_189 (rfl : k_sh 63 = (5, k_N 5)) [.int v3, .int x14] [] rfl rfl (Nat.le_of_ble_eq_true rfl) (Nat.le_of_ble_eq_true rfl) (s_X5_answer  ⟨t19, e20, ⟨rfl, rfl, rfl⟩⟩) dX5_trips_69 ?_
    have h := Ho_some h
    exact J_iret hx hQ dX5_trips_72 h
def f_X5_trips_L22_b (v1 : Int32) (v2 : Int32) (v3 : Int32) (I : StI) : Option ((Int32 × Int32 × StI) ⊕ (Int32 × StI)) :=
  (if (61 : Int32) ≤ v3 then some (.inr ((-9 : Int32), I)) else Option.bind (f_X5_goesOn (1 : Int32) (0 : Int32) I) (fun t9 => Option.bind (f_X5_has (t9.2 63 23) v1) (fun t11 => (if t11 = 0 then f_X5_trips_j53 v1 v3 v2 (0 : Int32) t9.2 else f_X5_trips_j53 v1 v3 v2 (1 : Int32) t9.2))))
def f_X5_trips_L22 (v1 : Int32) (n : Nat) (v2 : Int32) (v3 : Int32) (I : StI) : Option (Int32 × StI) :=
  k_loop (fun s => f_X5_trips_L22_b v1 s.1 s.2.1 s.2.2) n (v2, v3, I)
set_option maxRecDepth 100000 in
set_option maxHeartbeats 4000000 in
theorem s_X5_trips_L22_b {X : k_C} {ad : Nat → Nat} {P : Option Value → StI → StL → Prop} {I : StI} {L : StL} (hx : Ok X cX5_trips RX5 5 (some .int) 5) (hQ : OkQ X ad P)  {v1 : Int32} {v2 : Int32} {v3 : Int32}  (h : Ho (f_X5_trips_L22_b v1 v2 v3 I) (Sum.elim (g_X5_trips_L22 X ad L v1) (kr_X5_trips P L))) : J X ad 5 I L 22 [(0, .ref (ad 63)), (1, .int v1), (2, .int v2), (3, .int v3)] [] := by
  unfold f_X5_trips_L22_b at h
  refine J_iload_n hx dX5_trips_22 3 rfl ?_
  refine J_bipush (v := (61 : Int32)) hx dX5_trips_23 (by decide) ?_
  refine J_ic_ge hx dX5_trips_25 79 (by decide) (fun c8 => ?_) (fun c8 => ?_)
  · have h := Ho_t c8 h
    refine J_bipush (v := (-9 : Int32)) hx dX5_trips_79 (by decide) ?_
    have h := Ho_some h
    exact J_iret hx hQ dX5_trips_81 h
  · have h := Ho_f c8 h
    refine J_aload_n hx dX5_trips_28 0 rfl ?_
    refine J_iconst (v := (1 : Int32)) hx dX5_trips_29 (by decide) ?_
    refine J_iconst (v := (0 : Int32)) hx dX5_trips_30 (by decide) ?_
    obtain ⟨t9, e10, h⟩ := Ho_bind h
    refine J_callVi hx lkV_RX5_198 (rfl : k_sh 63 = (5, k_N 5)) [.int (1 : Int32), .int (0 : Int32)] [] rfl rfl (Nat.le_of_ble_eq_true rfl) (Nat.le_of_ble_eq_true rfl) (s_X5_goesOn  ⟨t9, e10, ⟨rfl, rfl, rfl⟩⟩) dX5_trips_31 ?_
    refine J_istore (x := t9.1) (lv' := [(4, .int t9.1), (0, .ref (ad 63)), (1, .int v1), (2, .int v2), (3, .int v3)]) hx dX5_trips_34 rfl (by decide) rfl ?_
    refine J_iload_n hx dX5_trips_36 3 rfl ?_
    refine J_aload_n hx dX5_trips_37 1 rfl ?_
    refine J_getI hx fl_RX5_132 (rfl : k_sh 63 = (5, k_N 5)) rfl dX5_trips_38 ?_
    refine J_iload_n hx dX5_trips_41 2 rfl ?_
    obtain ⟨t11, e12, h⟩ := Ho_bind h
    refine J_callSi hx lkS_RX5_139 [.int (t9.2 63 23), .int v1] [.int v2] rfl rfl (Nat.le_of_ble_eq_true rfl) (Nat.le_of_ble_eq_true rfl) (s_X5_has  ⟨t11, e12, ⟨rfl, rfl, rfl⟩⟩) dX5_trips_42 ?_
    refine J_if_eq hx dX5_trips_45 52 (by decide) (fun c13 => ?_) (fun c13 => ?_)
    · have h := Ho_t c13 h
      refine J_iconst (v := (0 : Int32)) hx dX5_trips_52 (by decide) ?_
      refine J_sub (lv' := [(0, .ref (ad 63)), (1, .int v1), (3, .int v3)]) hx [1, 2, 4] rfl ?_
      exact s_X5_trips_j53 hx hQ  h
    · have h := Ho_f c13 h
      refine J_iconst (v := (1 : Int32)) hx dX5_trips_48 (by decide) ?_
      refine J_goto hx dX5_trips_49 53 (by decide) ?_
      refine J_sub (lv' := [(0, .ref (ad 63)), (1, .int v1), (3, .int v3)]) hx [1, 2, 4] rfl ?_
      exact s_X5_trips_j53 hx hQ  h
set_option maxRecDepth 100000 in
set_option maxHeartbeats 4000000 in
theorem s_X5_trips_L22 {X : k_C} {ad : Nat → Nat} {P : Option Value → StI → StL → Prop} {I : StI} {L : StL} (hx : Ok X cX5_trips RX5 5 (some .int) 5) (hQ : OkQ X ad P)  {v1 : Int32} {v2 : Int32} {v3 : Int32}  (n : Nat) (h : Ho (f_X5_trips_L22 v1 n v2 v3 I) (kr_X5_trips P L)) : J X ad 5 I L 22 [(0, .ref (ad 63)), (1, .int v1), (2, .int v2), (3, .int v3)] [] := by
  exact k_loop_ho (G := g_X5_trips_L22 X ad L v1) (fun s hs => s_X5_trips_L22_b hx hQ  hs) n (v2, v3, I) h
def f_X5_trips (v1 : Int32) (I : StI) : Option (Int32 × StI) :=
  Option.bind (f_X5_isCaller v1 I) (fun t1 => (if t1 = 0 then some ((-1 : Int32), I) else Option.bind (f_X5_asKinds I) (fun t4 => Option.bind (f_X5_laysAside t4) (fun t6 => f_X5_trips_L22 v1 k_fu (0 : Int32) (1 : Int32) t6))))
set_option maxRecDepth 100000 in
set_option maxHeartbeats 4000000 in
theorem s_X5_trips {l : Launch} {ad : Nat → Nat} {P : Option Value → StI → StL → Prop} {I : StI} {L : StL} {v1 : Int32}  (h : Ho (f_X5_trips v1 I) (kr_X5_trips P L)) : k_Met l ad 5 yX5_trips cX5_trips 5 (some .int) [.ref (ad 63), .int v1] I L P := by
  refine k_enter (by decide +kernel) (Nat.le_of_ble_eq_true rfl) (fun X hl hx hQ => ?_)
  clear hl
  have hx : Ok X cX5_trips RX5 5 (some .int) 5 := hx
  show J X ad 5 I L 0 [(0, .ref (ad 63)), (1, .int v1)] []
  unfold f_X5_trips at h
  refine J_aload_n hx dX5_trips_0 0 rfl ?_
  refine J_iload_n hx dX5_trips_1 1 rfl ?_
  obtain ⟨t1, e2, h⟩ := Ho_bind h
  refine J_callVi hx lkV_RX5_166 (rfl : k_sh 63 = (5, k_N 5)) [.int v1] [] rfl rfl (Nat.le_of_ble_eq_true rfl) (Nat.le_of_ble_eq_true rfl) (s_X5_isCaller  ⟨t1, e2, ⟨rfl, rfl, rfl⟩⟩) dX5_trips_2 ?_
  refine J_if_ne hx dX5_trips_5 10 (by decide) (fun c3 => ?_) (fun c3 => ?_)
  · have h := Ho_f c3 h
    refine J_aload_n hx dX5_trips_10 0 rfl ?_
    obtain ⟨t4, e5, h⟩ := Ho_bind h
    refine J_callVv hx lkV_RX5_174 (rfl : k_sh 63 = (5, k_N 5)) [] [] rfl rfl (Nat.le_of_ble_eq_true rfl) (Nat.le_of_ble_eq_true rfl) (s_X5_asKinds  ⟨t4, e5, ⟨rfl, rfl, rfl⟩⟩) dX5_trips_11 ?_
    refine J_aload_n hx dX5_trips_14 0 rfl ?_
    obtain ⟨t6, e7, h⟩ := Ho_bind h
    refine J_callVv hx lkV_RX5_195 (rfl : k_sh 63 = (5, k_N 5)) [] [] rfl rfl (Nat.le_of_ble_eq_true rfl) (Nat.le_of_ble_eq_true rfl) (s_X5_laysAside  ⟨t6, e7, ⟨rfl, rfl, rfl⟩⟩) dX5_trips_15 ?_
    refine J_iconst (v := (0 : Int32)) hx dX5_trips_18 (by decide) ?_
    refine J_istore_n (x := (0 : Int32)) (lv' := [(2, .int (0 : Int32)), (0, .ref (ad 63)), (1, .int v1)]) hx dX5_trips_19 rfl (by decide) rfl ?_
    refine J_iconst (v := (1 : Int32)) hx dX5_trips_20 (by decide) ?_
    refine J_istore_n (x := (1 : Int32)) (lv' := [(3, .int (1 : Int32)), (2, .int (0 : Int32)), (0, .ref (ad 63)), (1, .int v1)]) hx dX5_trips_21 rfl (by decide) rfl ?_
    refine J_sub (lv' := [(0, .ref (ad 63)), (1, .int v1), (2, .int (0 : Int32)), (3, .int (1 : Int32))]) hx [2, 3, 1, 0] rfl ?_
    exact s_X5_trips_L22 hx hQ  k_fu h
  · have h := Ho_t c3 h
    refine J_iconst (v := (-1 : Int32)) hx dX5_trips_8 (by decide) ?_
    have h := Ho_some h
    exact J_iret hx hQ dX5_trips_9 h
abbrev kr_X5_tune (P : Option Value → StI → StL → Prop) (L : StL) : Int32 × StI → Prop := fun t => P (some (.int t.1)) t.2 L
def f_X5_tune (v1 : Int32) (v2 : Int32) (I : StI) : Option (Int32 × StI) :=
  Option.bind (f_X5_isCaller v1 I) (fun t1 => (if t1 = 0 then some ((-1 : Int32), I) else Option.bind (f_X5_in (v2).toInt64 (1 : Int64) (40 : Int64)) (fun t4 => (if t4 = 0 then some ((-1 : Int32), I) else Option.bind (f_X5_bestOf ((5 : Int32) + v1) v2 I) (fun t7 => some (t7.1, t7.2))))))
set_option maxRecDepth 100000 in
set_option maxHeartbeats 4000000 in
theorem s_X5_tune {l : Launch} {ad : Nat → Nat} {P : Option Value → StI → StL → Prop} {I : StI} {L : StL} {v1 : Int32} {v2 : Int32}  (h : Ho (f_X5_tune v1 v2 I) (kr_X5_tune P L)) : k_Met l ad 6 yX5_tune cX5_tune 3 (some .int) [.ref (ad 63), .int v1, .int v2] I L P := by
  refine k_enter (by decide +kernel) (Nat.le_of_ble_eq_true rfl) (fun X hl hx hQ => ?_)
  clear hl
  have hx : Ok X cX5_tune RX5 3 (some .int) 6 := hx
  show J X ad 3 I L 0 [(0, .ref (ad 63)), (1, .int v1), (2, .int v2)] []
  unfold f_X5_tune at h
  refine J_aload_n hx dX5_tune_0 0 rfl ?_
  refine J_iload_n hx dX5_tune_1 1 rfl ?_
  obtain ⟨t1, e2, h⟩ := Ho_bind h
  refine J_callVi hx lkV_RX5_166 (rfl : k_sh 63 = (5, k_N 5)) [.int v1] [] rfl rfl (Nat.le_of_ble_eq_true rfl) (Nat.le_of_ble_eq_true rfl) (s_X5_isCaller  ⟨t1, e2, ⟨rfl, rfl, rfl⟩⟩) dX5_tune_2 ?_
  refine J_if_eq hx dX5_tune_5 31 (by decide) (fun c3 => ?_) (fun c3 => ?_)
  · have h := Ho_t c3 h
    refine J_iconst (v := (-1 : Int32)) hx dX5_tune_31 (by decide) ?_
    have h := Ho_some h
    exact J_iret hx hQ dX5_tune_32 h
  · have h := Ho_f c3 h
    refine J_iload_n hx dX5_tune_8 2 rfl ?_
    refine J_i2l hx dX5_tune_9 ?_
    refine J_lconst (v := (1 : Int64)) hx dX5_tune_10 (by decide) ?_
    refine J_ldc2 hx cn_RX5_201 dX5_tune_11 ?_
    obtain ⟨t4, e5, h⟩ := Ho_bind h
    refine J_callSi hx lkS_RX5_75 [.long (v2).toInt64, .long (1 : Int64), .long (40 : Int64)] [] rfl rfl (Nat.le_of_ble_eq_true rfl) (Nat.le_of_ble_eq_true rfl) (s_X5_in  ⟨t4, e5, ⟨rfl, rfl, rfl⟩⟩) dX5_tune_14 ?_
    refine J_if_eq hx dX5_tune_17 31 (by decide) (fun c6 => ?_) (fun c6 => ?_)
    · have h := Ho_t c6 h
      refine J_iconst (v := (-1 : Int32)) hx dX5_tune_31 (by decide) ?_
      have h := Ho_some h
      exact J_iret hx hQ dX5_tune_32 h
    · have h := Ho_f c6 h
      refine J_aload_n hx dX5_tune_20 0 rfl ?_
      refine J_iconst (v := (5 : Int32)) hx dX5_tune_21 (by decide) ?_
      refine J_iload_n hx dX5_tune_22 1 rfl ?_
      refine J_iadd hx dX5_tune_23 ?_
      refine J_iload_n hx dX5_tune_24 2 rfl ?_
      obtain ⟨t7, e8, h⟩ := Ho_bind h
      refine J_callVi hx lkV_RX5_203 (rfl : k_sh 63 = (5, k_N 5)) [.int ((5 : Int32) + v1), .int v2] [] rfl rfl (Nat.le_of_ble_eq_true rfl) (Nat.le_of_ble_eq_true rfl) (s_X5_bestOf  ⟨t7, e8, ⟨rfl, rfl, rfl⟩⟩) dX5_tune_25 ?_
      refine J_goto hx dX5_tune_28 32 (by decide) ?_
      have h := Ho_some h
      exact J_iret hx hQ dX5_tune_32 h
abbrev kr_X5_undo (P : Option Value → StI → StL → Prop) (L : StL) : Int32 × StI → Prop := fun t => P (some (.int t.1)) t.2 L
def f_X5_undo_j45 (v1 : Int32) (v2 : Int32) (I : StI) : Option (Int32 × StI) :=
  k_let (k_up I 63 11 v1) (fun I6 => some (v2, I6))
set_option maxRecDepth 100000 in
set_option maxHeartbeats 4000000 in
theorem s_X5_undo_j45 {X : k_C} {ad : Nat → Nat} {P : Option Value → StI → StL → Prop} {I : StI} {L : StL} (hx : Ok X cX5_undo RX5 3 (some .int) 2) (hQ : OkQ X ad P)  {v1 : Int32} {v2 : Int32}  (h : Ho (f_X5_undo_j45 v1 v2 I) (kr_X5_undo P L)) : J X ad 3 I L 45 [(0, .ref (ad 63)), (1, .int v1), (2, .int v2)] [] := by
  unfold f_X5_undo_j45 at h
  refine J_aload_n hx dX5_undo_45 0 rfl ?_
  refine J_iload_n hx dX5_undo_46 1 rfl ?_
  obtain ⟨I6, hI6, h⟩ := Ho_let h
  refine J_putI hx flW_RX5_126 (rfl : k_sh 63 = (5, k_N 5)) rfl dX5_undo_47 hI6 ?_
  refine J_iload_n hx dX5_undo_50 2 rfl ?_
  have h := Ho_some h
  exact J_iret hx hQ dX5_undo_51 h
def f_X5_undo (v1 : Int32) (I : StI) : Option (Int32 × StI) :=
  Option.bind (f_X5_in (v1).toInt64 (0 : Int64) ((I 63 11)).toInt64) (fun t1 => (if t1 = 0 then some ((-1 : Int32), I) else k_let ((I 63 11) - v1) (fun x4 => (if x4 ≤ 0 then f_X5_undo_j45 v1 x4 I else Option.bind (f_X5_copies 73 ((40 : Int32) * v1) 70 (0 : Int32) (40 : Int32) I) (fun t7 => f_X5_undo_j45 v1 x4 t7)))))
set_option maxRecDepth 100000 in
set_option maxHeartbeats 4000000 in
theorem s_X5_undo {l : Launch} {ad : Nat → Nat} {P : Option Value → StI → StL → Prop} {I : StI} {L : StL} {v1 : Int32}  (h : Ho (f_X5_undo v1 I) (kr_X5_undo P L)) : k_Met l ad 2 yX5_undo cX5_undo 3 (some .int) [.ref (ad 63), .int v1] I L P := by
  refine k_enter (by decide +kernel) (Nat.le_of_ble_eq_true rfl) (fun X hl hx hQ => ?_)
  clear hl
  have hx : Ok X cX5_undo RX5 3 (some .int) 2 := hx
  show J X ad 3 I L 0 [(0, .ref (ad 63)), (1, .int v1)] []
  unfold f_X5_undo at h
  refine J_iload_n hx dX5_undo_0 1 rfl ?_
  refine J_i2l hx dX5_undo_1 ?_
  refine J_lconst (v := (0 : Int64)) hx dX5_undo_2 (by decide) ?_
  refine J_aload_n hx dX5_undo_3 0 rfl ?_
  refine J_getI hx fl_RX5_126 (rfl : k_sh 63 = (5, k_N 5)) rfl dX5_undo_4 ?_
  refine J_i2l hx dX5_undo_7 ?_
  obtain ⟨t1, e2, h⟩ := Ho_bind h
  refine J_callSi hx lkS_RX5_75 [.long (v1).toInt64, .long (0 : Int64), .long ((I 63 11)).toInt64] [] rfl rfl (Nat.le_of_ble_eq_true rfl) (Nat.le_of_ble_eq_true rfl) (s_X5_in  ⟨t1, e2, ⟨rfl, rfl, rfl⟩⟩) dX5_undo_8 ?_
  refine J_if_ne hx dX5_undo_11 16 (by decide) (fun c3 => ?_) (fun c3 => ?_)
  · have h := Ho_f c3 h
    refine J_aload_n hx dX5_undo_16 0 rfl ?_
    refine J_getI hx fl_RX5_126 (rfl : k_sh 63 = (5, k_N 5)) rfl dX5_undo_17 ?_
    refine J_iload_n hx dX5_undo_20 1 rfl ?_
    refine J_isub hx dX5_undo_21 ?_
    obtain ⟨x4, hx4, h⟩ := Ho_let h
    refine J_istore_n (x := x4) (lv' := [(2, .int x4), (0, .ref (ad 63)), (1, .int v1)]) hx dX5_undo_22 hx4 (by decide) rfl ?_
    refine J_iload_n hx dX5_undo_23 0 rfl ?_
    refine J_if_le hx dX5_undo_24 45 (by decide) (fun c5 => ?_) (fun c5 => ?_)
    · have h := Ho_t c5 h
      refine J_sub (lv' := [(0, .ref (ad 63)), (1, .int v1), (2, .int x4)]) hx [1, 2, 0] rfl ?_
      exact s_X5_undo_j45 hx hQ  h
    · have h := Ho_f c5 h
      refine J_aload_n hx dX5_undo_27 1 rfl ?_
      refine J_getR (q := 73) hx fl_RX5_37 (rfl : k_sh 63 = (5, k_N 5)) rfl rfl dX5_undo_28 ?_
      refine J_bipush (v := (40 : Int32)) hx dX5_undo_31 (by decide) ?_
      refine J_iload_n hx dX5_undo_33 2 rfl ?_
      refine J_imul hx dX5_undo_34 ?_
      refine J_aload_n hx dX5_undo_35 1 rfl ?_
      refine J_getR (q := 70) hx fl_RX5_28 (rfl : k_sh 63 = (5, k_N 5)) rfl rfl dX5_undo_36 ?_
      refine J_iconst (v := (0 : Int32)) hx dX5_undo_39 (by decide) ?_
      refine J_bipush (v := (40 : Int32)) hx dX5_undo_40 (by decide) ?_
      obtain ⟨t7, e8, h⟩ := Ho_bind h
      refine J_callSv hx lkS_RX5_118 [.ref (ad 73), .int ((40 : Int32) * v1), .ref (ad 70), .int (0 : Int32), .int (40 : Int32)] [] rfl rfl (Nat.le_of_ble_eq_true rfl) (Nat.le_of_ble_eq_true rfl) (s_X5_copies (congrArg Prod.fst (rfl : k_sh 73 = (10, 1600))) (congrArg Prod.fst (rfl : k_sh 70 = (10, 40))) ⟨t7, e8, ⟨rfl, rfl, rfl⟩⟩) dX5_undo_42 ?_
      refine J_sub (lv' := [(0, .ref (ad 63)), (1, .int v1), (2, .int x4)]) hx [1, 2, 0] rfl ?_
      exact s_X5_undo_j45 hx hQ  h
  · have h := Ho_t c3 h
    refine J_iconst (v := (-1 : Int32)) hx dX5_undo_14 (by decide) ?_
    have h := Ho_some h
    exact J_iret hx hQ dX5_undo_15 h
abbrev kr_X5_up (P : Option Value → StI → StL → Prop) (I : StI) (L : StL) : Int32 → Prop := fun t => P (some (.int t)) I L
def f_X5_up (v1 : Int32) (I : StI) : Option (Int32) :=
  Option.bind (f_X5_in (v1).toInt64 (0 : Int64) (199 : Int64)) (fun t1 => (if t1 = 0 then some ((-1 : Int32)) else (if (I 63 4) ≤ 0 then some ((0 : Int32)) else k_gd (3 : Int32) 40 (Option.bind (f_X5_has (I 70 (3 : Int32).toNatClampNeg) (v1 - v1 / (8 : Int32) * (8 : Int32))) (fun t6 => (if t6 = 0 then some ((0 : Int32)) else some ((1 : Int32))))))))
set_option maxRecDepth 100000 in
set_option maxHeartbeats 4000000 in
theorem s_X5_up {l : Launch} {ad : Nat → Nat} {P : Option Value → StI → StL → Prop} {I : StI} {L : StL} {v1 : Int32}  (h : Ho (f_X5_up v1 I) (kr_X5_up P I L)) : k_Met l ad 2 yX5_up cX5_up 2 (some .int) [.ref (ad 63), .int v1] I L P := by
  refine k_enter (by decide +kernel) (Nat.le_of_ble_eq_true rfl) (fun X hl hx hQ => ?_)
  clear hl
  have hx : Ok X cX5_up RX5 2 (some .int) 2 := hx
  show J X ad 2 I L 0 [(0, .ref (ad 63)), (1, .int v1)] []
  unfold f_X5_up at h
  refine J_iload_n hx dX5_up_0 1 rfl ?_
  refine J_i2l hx dX5_up_1 ?_
  refine J_lconst (v := (0 : Int64)) hx dX5_up_2 (by decide) ?_
  refine J_ldc2 hx cn_RX5_169 dX5_up_3 ?_
  obtain ⟨t1, e2, h⟩ := Ho_bind h
  refine J_callSi hx lkS_RX5_75 [.long (v1).toInt64, .long (0 : Int64), .long (199 : Int64)] [] rfl rfl (Nat.le_of_ble_eq_true rfl) (Nat.le_of_ble_eq_true rfl) (s_X5_in  ⟨t1, e2, ⟨rfl, rfl, rfl⟩⟩) dX5_up_6 ?_
  refine J_if_ne hx dX5_up_9 14 (by decide) (fun c3 => ?_) (fun c3 => ?_)
  · have h := Ho_f c3 h
    refine J_aload_n hx dX5_up_14 0 rfl ?_
    refine J_getI hx fl_RX5_115 (rfl : k_sh 63 = (5, k_N 5)) rfl dX5_up_15 ?_
    refine J_if_le hx dX5_up_18 41 (by decide) (fun c4 => ?_) (fun c4 => ?_)
    · have h := Ho_t c4 h
      refine J_iconst (v := (0 : Int32)) hx dX5_up_41 (by decide) ?_
      have h := Ho_some h
      exact J_iret hx hQ dX5_up_42 h
    · have h := Ho_f c4 h
      refine J_aload_n hx dX5_up_21 0 rfl ?_
      refine J_getR (q := 70) hx fl_RX5_28 (rfl : k_sh 63 = (5, k_N 5)) rfl rfl dX5_up_22 ?_
      refine J_iconst (v := (3 : Int32)) hx dX5_up_25 (by decide) ?_
      obtain ⟨b5, h⟩ := Ho_gd h
      refine J_iald hx (rfl : k_sh 70 = (10, 40)) b5 dX5_up_26 ?_
      refine J_iload_n hx dX5_up_27 1 rfl ?_
      refine J_bipush (v := (8 : Int32)) hx dX5_up_28 (by decide) ?_
      refine J_irem hx (by decide) dX5_up_30 ?_
      obtain ⟨t6, e7, h⟩ := Ho_bind h
      refine J_callSi hx lkS_RX5_139 [.int (I 70 (3 : Int32).toNatClampNeg), .int (v1 - v1 / (8 : Int32) * (8 : Int32))] [] rfl rfl (Nat.le_of_ble_eq_true rfl) (Nat.le_of_ble_eq_true rfl) (s_X5_has  ⟨t6, e7, ⟨rfl, rfl, rfl⟩⟩) dX5_up_31 ?_
      refine J_if_eq hx dX5_up_34 41 (by decide) (fun c8 => ?_) (fun c8 => ?_)
      · have h := Ho_t c8 h
        refine J_iconst (v := (0 : Int32)) hx dX5_up_41 (by decide) ?_
        have h := Ho_some h
        exact J_iret hx hQ dX5_up_42 h
      · have h := Ho_f c8 h
        refine J_iconst (v := (1 : Int32)) hx dX5_up_37 (by decide) ?_
        refine J_goto hx dX5_up_38 42 (by decide) ?_
        have h := Ho_some h
        exact J_iret hx hQ dX5_up_42 h
  · have h := Ho_t c3 h
    refine J_iconst (v := (-1 : Int32)) hx dX5_up_12 (by decide) ?_
    have h := Ho_some h
    exact J_iret hx hQ dX5_up_13 h
abbrev kr_X5_upper (P : Option Value → StI → StL → Prop) (I : StI) (L : StL) : Int64 → Prop := fun t => P (some (.long t)) I L
def f_X5_upper (L : StL) : Option (Int64) :=
  some ((L 63 15))
set_option maxRecDepth 100000 in
set_option maxHeartbeats 4000000 in
theorem s_X5_upper {l : Launch} {ad : Nat → Nat} {P : Option Value → StI → StL → Prop} {I : StI} {L : StL}   (h : Ho (f_X5_upper L) (kr_X5_upper P I L)) : k_Met l ad 1 yX5_upper cX5_upper 1 (some .long) [.ref (ad 63)] I L P := by
  refine k_enter (by decide +kernel) (Nat.le_of_ble_eq_true rfl) (fun X hl hx hQ => ?_)
  clear hl
  have hx : Ok X cX5_upper RX5 1 (some .long) 1 := hx
  show J X ad 1 I L 0 [(0, .ref (ad 63))] []
  unfold f_X5_upper at h
  refine J_aload_n hx dX5_upper_0 0 rfl ?_
  refine J_getL hx fl_RX5_222 (rfl : k_sh 63 = (5, k_N 5)) rfl dX5_upper_1 ?_
  have h := Ho_some h
  exact J_lret hx hQ dX5_upper_4 h
abbrev kr_X5_worst (P : Option Value → StI → StL → Prop) (L : StL) : Int32 × StI → Prop := fun t => P (some (.int t.1)) t.2 L
abbrev g_X5_worst_L37 (X : k_C) (ad : Nat → Nat) (I : StI) (L : StL) (v1 : Int32) (v2 : Int32) (v3 : Int32) : (Int32 × Int32) → Prop := fun s => J X ad 6 I L 37 [(0, .ref (ad 63)), (1, .int v1), (2, .int v2), (3, .int v3), (4, .int s.1), (5, .int s.2)] []
abbrev g_X5_worst_L25 (X : k_C) (ad : Nat → Nat) (L : StL) : (Int32 × Int32 × Int32 × StI) → Prop := fun s => J X ad 6 s.2.2.2 L 25 [(0, .ref (ad 63)), (1, .int s.1), (2, .int s.2.1), (3, .int s.2.2.1)] []
def f_X5_worst_j100 (v1 : Int32) (v3 : Int32) (s0 : Int32) (I : StI) : Option ((Int32 × Int32 × Int32 × StI) ⊕ (Int32 × StI)) :=
  Option.bind (f_X5_goesOn (1 : Int32) (0 : Int32) I) (fun t12 => k_let (v3 + (1 : Int32)) (fun x14 => some (.inl (v1, s0, x14, t12.2))))
set_option maxRecDepth 100000 in
set_option maxHeartbeats 4000000 in
theorem s_X5_worst_j100 {X : k_C} {ad : Nat → Nat} {P : Option Value → StI → StL → Prop} {I : StI} {L : StL} (hx : Ok X cX5_worst RX5 6 (some .int) 5) (hQ : OkQ X ad P)  {v1 : Int32} {v3 : Int32} {s0 : Int32}  (h : Ho (f_X5_worst_j100 v1 v3 s0 I) (Sum.elim (g_X5_worst_L25 X ad L) (kr_X5_worst P L))) : J X ad 6 I L 100 [(0, .ref (ad 63)), (1, .int v1), (3, .int v3)] [.int s0] := by
  unfold f_X5_worst_j100 at h
  refine J_istore_n (x := s0) (lv' := [(2, .int s0), (0, .ref (ad 63)), (1, .int v1), (3, .int v3)]) hx dX5_worst_100 rfl (by decide) rfl ?_
  refine J_aload_n hx dX5_worst_101 1 rfl ?_
  refine J_iconst (v := (1 : Int32)) hx dX5_worst_102 (by decide) ?_
  refine J_iconst (v := (0 : Int32)) hx dX5_worst_103 (by decide) ?_
  obtain ⟨t12, e13, h⟩ := Ho_bind h
  refine J_callVi hx lkV_RX5_198 (rfl : k_sh 63 = (5, k_N 5)) [.int (1 : Int32), .int (0 : Int32)] [] rfl rfl (Nat.le_of_ble_eq_true rfl) (Nat.le_of_ble_eq_true rfl) (s_X5_goesOn  ⟨t12, e13, ⟨rfl, rfl, rfl⟩⟩) dX5_worst_104 ?_
  refine J_istore (x := t12.1) (lv' := [(5, .int t12.1), (2, .int s0), (0, .ref (ad 63)), (1, .int v1), (3, .int v3)]) hx dX5_worst_107 rfl (by decide) rfl ?_
  obtain ⟨x14, hx14, h⟩ := Ho_let h
  refine J_iinc (x := x14) (lv' := [(3, .int x14), (5, .int t12.1), (2, .int s0), (0, .ref (ad 63)), (1, .int v1)]) hx dX5_worst_109 4 rfl (by rw [hx14]; rfl) (by decide) rfl ?_
  refine J_goto hx dX5_worst_112 25 (by decide) ?_
  refine J_sub (lv' := [(0, .ref (ad 63)), (1, .int v1), (2, .int s0), (3, .int x14)]) hx [3, 4, 2, 0] rfl ?_
  have h := Ho_some h
  exact h
def f_X5_worst_j87 (v2 : Int32) (v3 : Int32) (v4 : Int32) (s0 : Int32) (I : StI) : Option ((Int32 × Int32 × Int32 × StI) ⊕ (Int32 × StI)) :=
  (if v2 ≤ v4 then f_X5_worst_j100 s0 v3 v2 I else f_X5_worst_j100 s0 v3 v4 I)
set_option maxRecDepth 100000 in
set_option maxHeartbeats 4000000 in
theorem s_X5_worst_j87 {X : k_C} {ad : Nat → Nat} {P : Option Value → StI → StL → Prop} {I : StI} {L : StL} (hx : Ok X cX5_worst RX5 6 (some .int) 5) (hQ : OkQ X ad P)  {v2 : Int32} {v3 : Int32} {v4 : Int32} {s0 : Int32}  (h : Ho (f_X5_worst_j87 v2 v3 v4 s0 I) (Sum.elim (g_X5_worst_L25 X ad L) (kr_X5_worst P L))) : J X ad 6 I L 87 [(0, .ref (ad 63)), (2, .int v2), (3, .int v3), (4, .int v4)] [.int s0] := by
  unfold f_X5_worst_j87 at h
  refine J_istore_n (x := s0) (lv' := [(1, .int s0), (0, .ref (ad 63)), (2, .int v2), (3, .int v3), (4, .int v4)]) hx dX5_worst_87 rfl (by decide) rfl ?_
  refine J_iload hx dX5_worst_88 4 rfl ?_
  refine J_iload_n hx dX5_worst_90 2 rfl ?_
  refine J_ic_ge hx dX5_worst_91 99 (by decide) (fun c11 => ?_) (fun c11 => ?_)
  · have h := Ho_t c11 h
    refine J_iload_n hx dX5_worst_99 2 rfl ?_
    refine J_sub (lv' := [(0, .ref (ad 63)), (1, .int s0), (3, .int v3)]) hx [1, 0, 3] rfl ?_
    exact s_X5_worst_j100 hx hQ  h
  · have h := Ho_f c11 h
    refine J_iload hx dX5_worst_94 4 rfl ?_
    refine J_goto hx dX5_worst_96 100 (by decide) ?_
    refine J_sub (lv' := [(0, .ref (ad 63)), (1, .int s0), (3, .int v3)]) hx [1, 0, 3] rfl ?_
    exact s_X5_worst_j100 hx hQ  h
def f_X5_worst_j67 (v1 : Int32) (v2 : Int32) (v3 : Int32) (v5 : Int32) (s0 : Int32) (s1 : Int32) (I : StI) : Option ((Int32 × Int32) ⊕ ((Int32 × Int32 × Int32 × StI) ⊕ (Int32 × StI))) :=
  k_let (s0 + s1) (fun x17 => k_let (v5 + (1 : Int32)) (fun x18 => some (.inl (x17, x18))))
set_option maxRecDepth 100000 in
set_option maxHeartbeats 4000000 in
theorem s_X5_worst_j67 {X : k_C} {ad : Nat → Nat} {P : Option Value → StI → StL → Prop} {I : StI} {L : StL} (hx : Ok X cX5_worst RX5 6 (some .int) 5) (hQ : OkQ X ad P)  {v1 : Int32} {v2 : Int32} {v3 : Int32} {v5 : Int32} {s0 : Int32} {s1 : Int32}  (h : Ho (f_X5_worst_j67 v1 v2 v3 v5 s0 s1 I) (Sum.elim (g_X5_worst_L37 X ad I L v1 v2 v3) (Sum.elim (g_X5_worst_L25 X ad L) (kr_X5_worst P L)))) : J X ad 6 I L 67 [(0, .ref (ad 63)), (1, .int v1), (2, .int v2), (3, .int v3), (5, .int v5)] [.int s1, .int s0] := by
  unfold f_X5_worst_j67 at h
  refine J_iadd hx dX5_worst_67 ?_
  obtain ⟨x17, hx17, h⟩ := Ho_let h
  refine J_istore (x := x17) (lv' := [(4, .int x17), (0, .ref (ad 63)), (1, .int v1), (2, .int v2), (3, .int v3), (5, .int v5)]) hx dX5_worst_68 hx17 (by decide) rfl ?_
  obtain ⟨x18, hx18, h⟩ := Ho_let h
  refine J_iinc (x := x18) (lv' := [(5, .int x18), (4, .int x17), (0, .ref (ad 63)), (1, .int v1), (2, .int v2), (3, .int v3)]) hx dX5_worst_70 5 rfl (by rw [hx18]; rfl) (by decide) rfl ?_
  refine J_goto hx dX5_worst_73 37 (by decide) ?_
  refine J_sub (lv' := [(0, .ref (ad 63)), (1, .int v1), (2, .int v2), (3, .int v3), (4, .int x17), (5, .int x18)]) hx [2, 3, 4, 5, 1, 0] rfl ?_
  have h := Ho_some h
  exact h
def f_X5_worst_L37_b (v1 : Int32) (v2 : Int32) (v3 : Int32) (v4 : Int32) (v5 : Int32) (I : StI) : Option ((Int32 × Int32) ⊕ ((Int32 × Int32 × Int32 × StI) ⊕ (Int32 × StI))) :=
  (if (I 63 4) ≤ v5 then (if v2 ≤ v4 then Option.map Sum.inr (f_X5_worst_j87 v2 v3 v4 v1 I) else Option.map Sum.inr (f_X5_worst_j87 v2 v3 v4 v3 I)) else k_gd ((12 : Int32) + v5) 40 ((if (I 71 ((12 : Int32) + v5).toNatClampNeg) = (1 : Int32) then f_X5_worst_j67 v1 v2 v3 v5 v4 (0 : Int32) I else f_X5_worst_j67 v1 v2 v3 v5 v4 (1 : Int32) I)))
def f_X5_worst_L37 (v1 : Int32) (v2 : Int32) (v3 : Int32) (I : StI) (n : Nat) (v4 : Int32) (v5 : Int32) : Option ((Int32 × Int32 × Int32 × StI) ⊕ (Int32 × StI)) :=
  k_loop (fun s => f_X5_worst_L37_b v1 v2 v3 s.1 s.2 I) n (v4, v5)
set_option maxRecDepth 100000 in
set_option maxHeartbeats 4000000 in
theorem s_X5_worst_L37_b {X : k_C} {ad : Nat → Nat} {P : Option Value → StI → StL → Prop} {I : StI} {L : StL} (hx : Ok X cX5_worst RX5 6 (some .int) 5) (hQ : OkQ X ad P)  {v1 : Int32} {v2 : Int32} {v3 : Int32} {v4 : Int32} {v5 : Int32}  (h : Ho (f_X5_worst_L37_b v1 v2 v3 v4 v5 I) (Sum.elim (g_X5_worst_L37 X ad I L v1 v2 v3) (Sum.elim (g_X5_worst_L25 X ad L) (kr_X5_worst P L)))) : J X ad 6 I L 37 [(0, .ref (ad 63)), (1, .int v1), (2, .int v2), (3, .int v3), (4, .int v4), (5, .int v5)] [] := by
  unfold f_X5_worst_L37_b at h
  refine J_iload hx dX5_worst_37 5 rfl ?_
  refine J_aload_n hx dX5_worst_39 0 rfl ?_
  refine J_getI hx fl_RX5_115 (rfl : k_sh 63 = (5, k_N 5)) rfl dX5_worst_40 ?_
  refine J_ic_ge hx dX5_worst_43 76 (by decide) (fun c9 => ?_) (fun c9 => ?_)
  · have h := Ho_t c9 h
    refine J_iload hx dX5_worst_76 4 rfl ?_
    refine J_iload_n hx dX5_worst_78 2 rfl ?_
    refine J_ic_ge hx dX5_worst_79 86 (by decide) (fun c10 => ?_) (fun c10 => ?_)
    · have h := Ho_t c10 h
      refine J_iload_n hx dX5_worst_86 1 rfl ?_
      refine J_sub (lv' := [(0, .ref (ad 63)), (2, .int v2), (3, .int v3), (4, .int v4)]) hx [0, 2, 3, 4] rfl ?_
      have h := Ho_map h
      exact s_X5_worst_j87 hx hQ  h
    · have h := Ho_f c10 h
      refine J_iload_n hx dX5_worst_82 3 rfl ?_
      refine J_goto hx dX5_worst_83 87 (by decide) ?_
      refine J_sub (lv' := [(0, .ref (ad 63)), (2, .int v2), (3, .int v3), (4, .int v4)]) hx [0, 2, 3, 4] rfl ?_
      have h := Ho_map h
      exact s_X5_worst_j87 hx hQ  h
  · have h := Ho_f c9 h
    refine J_iload hx dX5_worst_46 4 rfl ?_
    refine J_aload_n hx dX5_worst_48 0 rfl ?_
    refine J_getR (q := 71) hx fl_RX5_31 (rfl : k_sh 63 = (5, k_N 5)) rfl rfl dX5_worst_49 ?_
    refine J_bipush (v := (12 : Int32)) hx dX5_worst_52 (by decide) ?_
    refine J_iload hx dX5_worst_54 5 rfl ?_
    refine J_iadd hx dX5_worst_56 ?_
    obtain ⟨b15, h⟩ := Ho_gd h
    refine J_iald hx (rfl : k_sh 71 = (10, 40)) b15 dX5_worst_57 ?_
    refine J_iconst (v := (1 : Int32)) hx dX5_worst_58 (by decide) ?_
    refine J_ic_ne hx dX5_worst_59 66 (by decide) (fun c16 => ?_) (fun c16 => ?_)
    · have h := Ho_f c16 h
      refine J_iconst (v := (1 : Int32)) hx dX5_worst_66 (by decide) ?_
      refine J_sub (lv' := [(0, .ref (ad 63)), (1, .int v1), (2, .int v2), (3, .int v3), (5, .int v5)]) hx [0, 1, 2, 3, 5] rfl ?_
      exact s_X5_worst_j67 hx hQ  h
    · have h := Ho_t c16 h
      refine J_iconst (v := (0 : Int32)) hx dX5_worst_62 (by decide) ?_
      refine J_goto hx dX5_worst_63 67 (by decide) ?_
      refine J_sub (lv' := [(0, .ref (ad 63)), (1, .int v1), (2, .int v2), (3, .int v3), (5, .int v5)]) hx [0, 1, 2, 3, 5] rfl ?_
      exact s_X5_worst_j67 hx hQ  h
set_option maxRecDepth 100000 in
set_option maxHeartbeats 4000000 in
theorem s_X5_worst_L37 {X : k_C} {ad : Nat → Nat} {P : Option Value → StI → StL → Prop} {I : StI} {L : StL} (hx : Ok X cX5_worst RX5 6 (some .int) 5) (hQ : OkQ X ad P)  {v1 : Int32} {v2 : Int32} {v3 : Int32} {v4 : Int32} {v5 : Int32}  (n : Nat) (h : Ho (f_X5_worst_L37 v1 v2 v3 I n v4 v5) (Sum.elim (g_X5_worst_L25 X ad L) (kr_X5_worst P L))) : J X ad 6 I L 37 [(0, .ref (ad 63)), (1, .int v1), (2, .int v2), (3, .int v3), (4, .int v4), (5, .int v5)] [] := by
  exact k_loop_ho (G := g_X5_worst_L37 X ad I L v1 v2 v3) (fun s hs => s_X5_worst_L37_b hx hQ  hs) n (v4, v5) h
def f_X5_worst_L25_b (v1 : Int32) (v2 : Int32) (v3 : Int32) (I : StI) : Option ((Int32 × Int32 × Int32 × StI) ⊕ (Int32 × StI)) :=
  (if (61 : Int32) ≤ v3 then Option.bind (f_X5_answer v1 v2 I) (fun t7 => some (.inr (t7.1, t7.2))) else f_X5_worst_L37 v1 v2 v3 I k_fu (0 : Int32) (0 : Int32))
def f_X5_worst_L25  (n : Nat) (v1 : Int32) (v2 : Int32) (v3 : Int32) (I : StI) : Option (Int32 × StI) :=
  k_loop (fun s => f_X5_worst_L25_b s.1 s.2.1 s.2.2.1 s.2.2.2) n (v1, v2, v3, I)
set_option maxRecDepth 100000 in
set_option maxHeartbeats 4000000 in
theorem s_X5_worst_L25_b {X : k_C} {ad : Nat → Nat} {P : Option Value → StI → StL → Prop} {I : StI} {L : StL} (hx : Ok X cX5_worst RX5 6 (some .int) 5) (hQ : OkQ X ad P)  {v1 : Int32} {v2 : Int32} {v3 : Int32}  (h : Ho (f_X5_worst_L25_b v1 v2 v3 I) (Sum.elim (g_X5_worst_L25 X ad L) (kr_X5_worst P L))) : J X ad 6 I L 25 [(0, .ref (ad 63)), (1, .int v1), (2, .int v2), (3, .int v3)] [] := by
  unfold f_X5_worst_L25_b at h
  refine J_iload_n hx dX5_worst_25 3 rfl ?_
  refine J_bipush (v := (61 : Int32)) hx dX5_worst_26 (by decide) ?_
  refine J_ic_ge hx dX5_worst_28 115 (by decide) (fun c6 => ?_) (fun c6 => ?_)
  · have h := Ho_t c6 h
    refine J_aload_n hx dX5_worst_115 0 rfl ?_
    refine J_iload_n hx dX5_worst_116 1 rfl ?_
    refine J_iload_n hx dX5_worst_117 2 rfl ?_
    obtain ⟨t7, e8, h⟩ := Ho_bind h
    refine J_callVi hx lkV_RX5_189 (rfl : k_sh 63 = (5, k_N 5)) [.int v1, .int v2] [] rfl rfl (Nat.le_of_ble_eq_true rfl) (Nat.le_of_ble_eq_true rfl) (s_X5_answer  ⟨t7, e8, ⟨rfl, rfl, rfl⟩⟩) dX5_worst_118 ?_
    have h := Ho_some h
    exact J_iret hx hQ dX5_worst_121 h
  · have h := Ho_f c6 h
    refine J_iconst (v := (0 : Int32)) hx dX5_worst_31 (by decide) ?_
    refine J_istore (x := (0 : Int32)) (lv' := [(4, .int (0 : Int32)), (0, .ref (ad 63)), (1, .int v1), (2, .int v2), (3, .int v3)]) hx dX5_worst_32 rfl (by decide) rfl ?_
    refine J_iconst (v := (0 : Int32)) hx dX5_worst_34 (by decide) ?_
    refine J_istore (x := (0 : Int32)) (lv' := [(5, .int (0 : Int32)), (4, .int (0 : Int32)), (0, .ref (ad 63)), (1, .int v1), (2, .int v2), (3, .int v3)]) hx dX5_worst_35 rfl (by decide) rfl ?_
    refine J_sub (lv' := [(0, .ref (ad 63)), (1, .int v1), (2, .int v2), (3, .int v3), (4, .int (0 : Int32)), (5, .int (0 : Int32))]) hx [2, 3, 4, 5, 1, 0] rfl ?_
    exact s_X5_worst_L37 hx hQ  k_fu h
set_option maxRecDepth 100000 in
set_option maxHeartbeats 4000000 in
theorem s_X5_worst_L25 {X : k_C} {ad : Nat → Nat} {P : Option Value → StI → StL → Prop} {I : StI} {L : StL} (hx : Ok X cX5_worst RX5 6 (some .int) 5) (hQ : OkQ X ad P)  {v1 : Int32} {v2 : Int32} {v3 : Int32}  (n : Nat) (h : Ho (f_X5_worst_L25  n v1 v2 v3 I) (kr_X5_worst P L)) : J X ad 6 I L 25 [(0, .ref (ad 63)), (1, .int v1), (2, .int v2), (3, .int v3)] [] := by
  exact k_loop_ho (G := g_X5_worst_L25 X ad L) (fun s hs => s_X5_worst_L25_b hx hQ  hs) n (v1, v2, v3, I) h
def f_X5_worst (I : StI) : Option (Int32 × StI) :=
  (if (I 63 4) = 0 then some ((-4 : Int32), I) else Option.bind (f_X5_asKinds I) (fun t2 => Option.bind (f_X5_laysAside t2) (fun t4 => f_X5_worst_L25  k_fu (0 : Int32) (8 : Int32) (0 : Int32) t4)))
set_option maxRecDepth 100000 in
set_option maxHeartbeats 4000000 in
theorem s_X5_worst {l : Launch} {ad : Nat → Nat} {P : Option Value → StI → StL → Prop} {I : StI} {L : StL}   (h : Ho (f_X5_worst I) (kr_X5_worst P L)) : k_Met l ad 5 yX5_worst cX5_worst 6 (some .int) [.ref (ad 63)] I L P := by
  refine k_enter (by decide +kernel) (Nat.le_of_ble_eq_true rfl) (fun X hl hx hQ => ?_)
  clear hl
  have hx : Ok X cX5_worst RX5 6 (some .int) 5 := hx
  show J X ad 6 I L 0 [(0, .ref (ad 63))] []
  unfold f_X5_worst at h
  refine J_aload_n hx dX5_worst_0 0 rfl ?_
  refine J_getI hx fl_RX5_115 (rfl : k_sh 63 = (5, k_N 5)) rfl dX5_worst_1 ?_
  refine J_if_ne hx dX5_worst_4 10 (by decide) (fun c1 => ?_) (fun c1 => ?_)
  · have h := Ho_f c1 h
    refine J_aload_n hx dX5_worst_10 0 rfl ?_
    obtain ⟨t2, e3, h⟩ := Ho_bind h
    refine J_callVv hx lkV_RX5_174 (rfl : k_sh 63 = (5, k_N 5)) [] [] rfl rfl (Nat.le_of_ble_eq_true rfl) (Nat.le_of_ble_eq_true rfl) (s_X5_asKinds  ⟨t2, e3, ⟨rfl, rfl, rfl⟩⟩) dX5_worst_11 ?_
    refine J_aload_n hx dX5_worst_14 0 rfl ?_
    obtain ⟨t4, e5, h⟩ := Ho_bind h
    refine J_callVv hx lkV_RX5_195 (rfl : k_sh 63 = (5, k_N 5)) [] [] rfl rfl (Nat.le_of_ble_eq_true rfl) (Nat.le_of_ble_eq_true rfl) (s_X5_laysAside  ⟨t4, e5, ⟨rfl, rfl, rfl⟩⟩) dX5_worst_15 ?_
    refine J_iconst (v := (0 : Int32)) hx dX5_worst_18 (by decide) ?_
    refine J_istore_n (x := (0 : Int32)) (lv' := [(1, .int (0 : Int32)), (0, .ref (ad 63))]) hx dX5_worst_19 rfl (by decide) rfl ?_
    refine J_bipush (v := (8 : Int32)) hx dX5_worst_20 (by decide) ?_
    refine J_istore_n (x := (8 : Int32)) (lv' := [(2, .int (8 : Int32)), (1, .int (0 : Int32)), (0, .ref (ad 63))]) hx dX5_worst_22 rfl (by decide) rfl ?_
    refine J_iconst (v := (0 : Int32)) hx dX5_worst_23 (by decide) ?_
    refine J_istore_n (x := (0 : Int32)) (lv' := [(3, .int (0 : Int32)), (2, .int (8 : Int32)), (1, .int (0 : Int32)), (0, .ref (ad 63))]) hx dX5_worst_24 rfl (by decide) rfl ?_
    refine J_sub (lv' := [(0, .ref (ad 63)), (1, .int (0 : Int32)), (2, .int (8 : Int32)), (3, .int (0 : Int32))]) hx [3, 2, 1, 0] rfl ?_
    exact s_X5_worst_L25 hx hQ  k_fu h
  · have h := Ho_t c1 h
    refine J_bipush (v := (-4 : Int32)) hx dX5_worst_7 (by decide) ?_
    have h := Ho_some h
    exact J_iret hx hQ dX5_worst_9 h
