theorem bind_eta {o : Option (Int32 × StI)} : (o.bind fun t => some (t.1, t.2)) = o := by
  cases o <;> rfl
theorem Sm_found {I : StI} {L : StL} {o : Option (Int32 × StI)} {f : StI → Option (Int32 × StI)} (h : Rel I L) (j : Nat) (h1 : 1 ≤ j) (h2 : j ≤ 5) (ho : o = f_X4_found (nI j) I) (hm : ∀ J : StI, (∀ b k, 63 ≤ b → J b k = I b k) → f J = f_X5_found (nI j) J) : Sm o f L := by
  obtain ⟨I1, I2, f1, f2, f3⟩ := found_sim h h1 h2
  refine Sm_eq (ho.trans f1) ((hm I1 (fun b k hb => ?_)).trans f2) f3
  have z := (C_found j (by omega) I).symm.trans f1
  cases z
  rw [k_up_oth (by omega), k_up_oth (by omega)]
theorem Sm_same {I : StI} {L : StL} {o : Option (Int32 × StI)} {f : StI → Option (Int32 × StI)} (h : Rel I L) (c : Int32) (h1 : o = some (c, I)) (h2 : f I = some (c, I)) : Sm o f L := Sm_eq h1 h2 h
theorem L_lay {I : StI} {L : StL} (h : Rel I L) (v1 v2 v3 : Int32) : Sm (f_X4_lay v1 v2 v3 I) (f_X5_lay v1 v2 v3) L := by
  by_cases hr : 0 ≤ v1.toInt ∧ v1.toInt < 6
  · obtain ⟨r, hr6, rfl⟩ := i_in hr.1 (show v1.toInt < (6 : Nat) from hr.2)
    obtain ⟨a1, a2, a3⟩ := h.1 r hr6
    have n6 : ∀ {T : Type} {o : Option T}, k_gd (nI r) 6 o = o := gd_n hr6 (by decide)
    have c6 : (nI r).toNatClampNeg = r := cl_n (by omega)
    rcases sz_cases (M := 40) a1 with hs | ⟨k, hk, hs⟩
    · refine Sm_found h 1 (by decide) (by decide) ?_ (fun J hJ => ?_)
      · unfold f_X4_lay
        rw [C_isRow, if_pos hr]
        simp only [Option.bind_some, n6, c6, hs, bind_eta]
        rw [if_neg (by decide), show f_X4_findingOfPlace (-1) v2 = some 1 from rfl]
        rfl
      · unfold f_X5_lay
        rw [M_isRow, if_pos hr]
        simp only [Option.bind_some, n6, c6, hJ 64 r (by decide), a2, hs, bind_eta]
        rw [if_neg (by decide), if_neg (by decide)]
        rfl
    · by_cases hp : 0 ≤ v2.toInt ∧ v2.toInt < k
      · obtain ⟨j, hj, rfl⟩ := i_in hp.1 hp.2
        have n40 : ∀ {T : Type} {o : Option T}, k_gd (nI j) 40 o = o := gd_n (by omega) (by decide)
        have n240 : ∀ {T : Type} {o : Option T}, k_gd (nI (40 * r + j)) 240 o = o := gd_n (by omega) (by decide)
        refine Sm_eq (I1 := k_up (k_up I 0 9 (I (k_rq r) j)) (k_rq r) j v3) (I2 := k_up (k_up (k_up (k_up I 0 9 (I (k_rq r) j)) (k_rq r) j v3) 65 (40 * r + j) v3) 63 14 (I (k_rq r) j)) (r := 1) ?_ ?_ ?_
        · unfold f_X4_lay
          rw [C_isRow, if_pos hr]
          simp only [Option.bind_some, n6, c6, hs, C_fop k (show k < 100 by omega), k_let, cl_n (show j < 2147483648 by omega), n40]
          rw [if_neg (by decide), if_pos hp, if_pos rfl]
        · unfold f_X5_lay
          rw [M_isRow, if_pos hr]
          have o1 : ∀ b k, 63 ≤ b → k_up (k_up I 0 9 (I (k_rq r) j)) (k_rq r) j v3 b k = I b k := fun b k hb => by
            rw [k_up_oth (by unfold k_rq; omega), k_up_oth (by omega)]
          simp only [Option.bind_some, n6, c6, o1 64 _ (by decide), a2, hs, o1 65 _ (by decide), M_pl k (show k < 100 by omega), mul40, cl_n (show 40 * r + j < 2147483648 by omega), f_X5_tell, k_let, n240]
          rw [if_neg (by decide), if_pos (nI_ge0 (by omega)), if_pos hp, if_neg (by decide), a3 j (by omega)]
        · obtain ⟨t1, t2, t3, t4⟩ := h.2.2.1
          refine ⟨Rw_set h.1 (v := v3) hr6 (show j < 40 by omega) ?_ ?_ (fun b k hb h1 h2 => ?_), h.2.1.ag ((((Ag.refl.up (by unfold sTx; omega)).up (by unfold sTx k_rq; omega)).up (by unfold sTx; omega)).up (by unfold sTx; omega)), ⟨?_, ?_, fun f a b => ?_, t4⟩, h.2.2.2.ag ((((Ag.refl.up (by unfold sHs; omega)).up (by unfold sHs k_rq; omega)).up (by unfold sHs; omega)).up (by unfold sHs; omega))⟩
          · rw [k_up_oth (by unfold k_rq; omega), k_up_oth (by unfold k_rq; omega), k_up_same]
          · rw [k_up_oth (by omega), k_up_same]
          · unfold sRw at hb
            rw [k_up_oth (by omega), k_up_oth h2, k_up_oth h1, k_up_oth (by omega)]
          · rw [k_up_same, k_up_oth (by omega), k_up_oth (by omega), k_up_oth (by unfold k_rq; omega), k_up_same]
          · rw [k_up_oth (by omega), k_up_oth (by omega), k_up_oth (by unfold k_rq; omega), k_up_oth (by omega), k_up_oth (by omega), k_up_oth (by omega), k_up_oth (by unfold k_rq; omega), k_up_oth (by omega)]
            exact t2
          · rw [k_up_oth (by omega), k_up_oth (by omega), k_up_oth (by unfold k_rq; omega), k_up_oth (by omega), k_up_oth (by omega), k_up_oth (by omega), k_up_oth (by unfold k_rq; omega), k_up_oth (by omega)]
            exact t3 f a b
      · refine Sm_found h 2 (by decide) (by decide) ?_ (fun J hJ => ?_)
        · unfold f_X4_lay
          rw [C_isRow, if_pos hr]
          simp only [Option.bind_some, n6, c6, hs, C_fop k (show k < 100 by omega), bind_eta]
          rw [if_neg (by decide), if_neg hp, if_neg (by decide)]
          rfl
        · unfold f_X5_lay
          rw [M_isRow, if_pos hr]
          simp only [Option.bind_some, n6, c6, hJ 64 r (by decide), a2, hs, M_pl k (show k < 100 by omega), bind_eta]
          rw [if_neg (by decide), if_pos (nI_ge0 (by omega)), if_neg hp, if_pos rfl]
          rfl
  · refine Sm_same h (-1) ?_ ?_
    · unfold f_X4_lay
      rw [C_isRow, if_neg hr]
      rfl
    · unfold f_X5_lay
      rw [M_isRow, if_neg hr]
      rfl
theorem L_tear {I : StI} {L : StL} (h : Rel I L) (v1 : Int32) : Sm (f_X4_tear v1 I) (f_X5_tear v1) L := by
  by_cases hr : 0 ≤ v1.toInt ∧ v1.toInt < 6
  · obtain ⟨r, hr6, rfl⟩ := i_in hr.1 (show v1.toInt < (6 : Nat) from hr.2)
    obtain ⟨a1, a2, a3⟩ := h.1 r hr6
    have n6 : ∀ {T : Type} {o : Option T}, k_gd (nI r) 6 o = o := gd_n hr6 (by decide)
    have c6 : (nI r).toNatClampNeg = r := cl_n (by omega)
    rcases sz_cases (M := 40) a1 with hs | ⟨k, hk, hs⟩
    · refine Sm_found h 1 (by decide) (by decide) ?_ (fun J hJ => ?_)
      · unfold f_X4_tear
        rw [C_isRow, if_pos hr]
        simp only [Option.bind_some, n6, c6, hs, bind_eta]
        rfl
      · unfold f_X5_tear
        rw [M_isRow, if_pos hr]
        simp only [Option.bind_some, n6, c6, hJ 64 r (by decide), a2, hs, bind_eta]
        rw [if_neg (by decide), if_neg (by decide)]
        rfl
    · have hne : ¬ nI k = -1 := by rw [i_eq, i_n (by omega), show (-1 : Int32).toInt = -1 from rfl]; omega
      refine Sm_eq (I1 := k_up I 8 r (-1)) (I2 := k_up (k_up I 8 r (-1)) 64 r (-1)) (r := 1) ?_ ?_ ?_
      · unfold f_X4_tear
        rw [C_isRow, if_pos hr]
        simp only [Option.bind_some, n6, c6, hs, k_let]
        rw [if_neg (by decide), if_neg hne]
      · unfold f_X5_tear
        rw [M_isRow, if_pos hr]
        have e64 : k_up I 8 r (-1) 64 r = nI k := by rw [k_up_oth (by omega), a2, hs]
        simp only [Option.bind_some, n6, c6, e64, k_let]
        rw [if_neg (by decide), if_pos (nI_ge0 (by omega))]
      · refine ⟨fun r' hr' => ?_, h.2.1.ag ((Ag.refl.up (by unfold sTx; omega)).up (by unfold sTx; omega)), h.2.2.1.ag ((Ag.refl.up (by unfold sTd; omega)).up (by unfold sTd; omega)), h.2.2.2.ag ((Ag.refl.up (by unfold sHs; omega)).up (by unfold sHs; omega))⟩
        obtain ⟨b1, b2, b3⟩ := h.1 r' hr'
        by_cases e : r' = r
        · subst e
          refine ⟨?_, ?_, fun i hi => ?_⟩
          · rw [k_up_oth (by omega), k_up_same]
            exact ⟨by decide, by decide⟩
          · rw [k_up_same, k_up_oth (by omega), k_up_same]
          · rw [k_up_oth (by omega), k_up_oth (by omega), k_up_oth (by unfold k_rq; omega), k_up_oth (by unfold k_rq; omega)]
            exact b3 i hi
        · refine ⟨?_, ?_, fun i hi => ?_⟩
          · rw [k_up_oth (by omega), k_up_oth (by omega)]
            exact b1
          · rw [k_up_oth (by omega), k_up_oth (by omega), k_up_oth (by omega), k_up_oth (by omega)]
            exact b2
          · rw [k_up_oth (by omega), k_up_oth (by omega), k_up_oth (by unfold k_rq; omega), k_up_oth (by unfold k_rq; omega)]
            exact b3 i hi
  · refine Sm_same h (-1) ?_ ?_
    · unfold f_X4_tear
      rw [C_isRow, if_neg hr]
      rfl
    · unfold f_X5_tear
      rw [M_isRow, if_neg hr]
      rfl
/-- Arrays.fill -/
theorem J_fill {a N : Nat} {v : Int32} {I : StI} (hs : (k_sh a).2 = N) (hN : N < 9000) : Ho (f_J7_fill_53178 a v I) (fun I' => (∀ k, k < N → I' a k = v) ∧ ∀ b k, ¬ (b = a ∧ k < N) → I' b k = I b k) := by
  unfold f_J7_fill_53178 f_J7_fill_53178_L5
  simp only [k_let, hs]
  refine Ho_loop0 (fun q s => s.1 = nI q ∧ (∀ k, k < q → s.2 a k = v) ∧ ∀ b k, ¬ (b = a ∧ k < q) → s.2 b k = I b k) N (by omega) ?_ ?_ _ ⟨rfl, fun k hk => absurd hk (by omega), fun _ _ _ => rfl⟩
  · intro q s hq hss
    obtain ⟨w, J⟩ := s
    obtain ⟨e1, e2, e3⟩ := hss
    dsimp only at e1 e2 e3
    subst e1
    dsimp only
    unfold f_J7_fill_53178_L5_b
    rw [if_neg (by rw [show Int32.ofNat N = nI N from rfl, nI_leI (by omega) (by omega)]; omega), hs, gd_n (by omega) (by omega), cl_n (by omega), nI_1]
    simp only [k_let, Ho_some_i, Sum.elim_inl]
    refine ⟨trivial, fun k hk => ?_, fun b k hb => ?_⟩
    · by_cases e : k = q
      · subst e; rw [k_up_same]
      · rw [k_up_oth (by omega)]; exact e2 k (by omega)
    · rw [k_up_oth (by omega)]; exact e3 b k (by omega)
  · intro s hss
    obtain ⟨w, J⟩ := s
    obtain ⟨e1, e2, e3⟩ := hss
    dsimp only at e1 e2 e3
    subst e1
    dsimp only
    unfold f_J7_fill_53178_L5_b
    rw [if_pos (by rw [show Int32.ofNat N = nI N from rfl, nI_leI (by omega) (by omega)]; omega), Ho_some_i]
    exact ⟨e2, e3⟩
theorem J_fillB {a N : Nat} {v : Int32} {I : StI} (hs : (k_sh a).2 = N) (hN : N < 9000) : Ho (f_J7_fill_031fb a v I) (fun I' => (∀ k, k < N → I' a k = vp_nar .byte v) ∧ ∀ b k, ¬ (b = a ∧ k < N) → I' b k = I b k) := by
  unfold f_J7_fill_031fb f_J7_fill_031fb_L5
  simp only [k_let, hs]
  refine Ho_loop0 (fun q s => s.1 = nI q ∧ (∀ k, k < q → s.2 a k = vp_nar .byte v) ∧ ∀ b k, ¬ (b = a ∧ k < q) → s.2 b k = I b k) N (by omega) ?_ ?_ _ ⟨rfl, fun k hk => absurd hk (by omega), fun _ _ _ => rfl⟩
  · intro q s hq hss
    obtain ⟨w, J⟩ := s
    obtain ⟨e1, e2, e3⟩ := hss
    dsimp only at e1 e2 e3
    subst e1
    dsimp only
    unfold f_J7_fill_031fb_L5_b
    rw [if_neg (by rw [show Int32.ofNat N = nI N from rfl, nI_leI (by omega) (by omega)]; omega), hs, gd_n (by omega) (by omega), cl_n (by omega), nI_1]
    simp only [k_let, Ho_some_i, Sum.elim_inl]
    refine ⟨trivial, fun k hk => ?_, fun b k hb => ?_⟩
    · by_cases e : k = q
      · subst e; rw [k_up_same]
      · rw [k_up_oth (by omega)]; exact e2 k (by omega)
    · rw [k_up_oth (by omega)]; exact e3 b k (by omega)
  · intro s hss
    obtain ⟨w, J⟩ := s
    obtain ⟨e1, e2, e3⟩ := hss
    dsimp only at e1 e2 e3
    subst e1
    dsimp only
    unfold f_J7_fill_031fb_L5_b
    rw [if_pos (by rw [show Int32.ofNat N = nI N from rfl, nI_leI (by omega) (by omega)]; omega), Ho_some_i]
    exact ⟨e2, e3⟩
