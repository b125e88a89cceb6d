theorem C_isText (v : Int32) : f_X4_isText v = some (if 0 ≤ v.toInt ∧ v.toInt < 4 then 1 else 0) := by
  unfold f_X4_isText
  simp only [i_lt, i_le, Int32.reduceToInt]
  repeat' split
  all_goals first | rfl | omega
theorem M_isText (v : Int32) : f_X5_isText v = some (if 0 ≤ v.toInt ∧ v.toInt < 4 then 1 else 0) := by
  unfold f_X5_isText
  rw [show (0 : Int64) = (0 : Int32).toInt64 from rfl, show (3 : Int64) = (3 : Int32).toInt64 from rfl, in_i]
  simp only [Option.bind_some, k_bo, Int32.reduceToInt]
  repeat' split
  all_goals first | rfl | omega | simp_all
theorem M_rowL {r k : Nat} {J : StI} (hr : r < 6) : Ho (f_X5_row_L34 (nI r) (nI k) k_fu 0 J) (fun u => u.1 = nI k ∧ (∀ i, i < 40 → u.2 65 (40 * r + i) = 0) ∧ ∀ b j, ¬ (b = 65 ∧ 40 * r ≤ j ∧ j < 40 * r + 40) → u.2 b j = J b j) := by
  unfold f_X5_row_L34
  refine Ho_loop0 (fun q s => s.1 = nI q ∧ (∀ i, i < q → s.2 65 (40 * r + i) = 0) ∧ ∀ b j, ¬ (b = 65 ∧ 40 * r ≤ j ∧ j < 40 * r + q) → s.2 b j = J b j) 40 (by decide) ?_ ?_ _ ⟨rfl, fun k hk => absurd hk (by omega), fun _ _ _ => rfl⟩
  · intro q s hq hss
    obtain ⟨w, K⟩ := s
    obtain ⟨e1, e2, e3⟩ := hss
    dsimp only at e1 e2 e3
    subst e1
    dsimp only
    unfold f_X5_row_L34_b
    rw [if_neg (by rw [show (40 : Int32) = nI 40 from rfl, nI_leI (by omega) (by omega)]; omega), mul40, gd_n (by omega) (by omega), cl_n (by omega), nI_1]
    simp only [k_let, Ho_some_i, Sum.elim_inl]
    refine ⟨trivial, fun i hi => ?_, fun b j hb => ?_⟩
    · by_cases e : i = q
      · subst e; rw [k_up_same]
      · rw [k_up_oth (by omega)]; exact e2 i (by omega)
    · rw [k_up_oth (by omega)]; exact e3 b j (by omega)
  · intro s hss
    obtain ⟨w, K⟩ := s
    obtain ⟨e1, e2, e3⟩ := hss
    dsimp only at e1 e2 e3
    subst e1
    dsimp only
    unfold f_X5_row_L34_b
    rw [if_pos (by decide), Ho_some_i]
    exact ⟨rfl, e2, e3⟩
theorem L_row {I : StI} {L : StL} (h : Rel I L) (v1 v2 : Int32) : Sm (f_X4_row v1 v2 I) (f_X5_row v1 v2) L := by
  by_cases hr : 0 ≤ v1.toInt ∧ v1.toInt < 6
  · obtain ⟨r, hr6, rfl⟩ := i_in hr.1 (show v1.toInt < (6 : Nat) from hr.2)
    have n6 : ∀ {T : Type} {o : Option T}, k_gd (nI r) 6 o = o := gd_n hr6 (by decide)
    have c6 : (nI r).toNatClampNeg = r := cl_n (by omega)
    by_cases h40 : v2 ≤ 40
    · by_cases h0 : 0 ≤ v2
      · obtain ⟨k, hk, rfl⟩ := i_in (x := v2) (n := 41) (by rw [i_le] at h0; exact h0) (by rw [i_le] at h40; simp only [Int32.reduceToInt] at h40; omega)
        unfold Sm f_X4_row
        rw [C_isRow, if_pos hr]
        simp only [Option.bind_some, n6, c6, k_let]
        rw [if_neg (by decide), if_pos h40, if_pos h0]
        simp only [Ho_bind_i, Ho_some_i]
        refine (J_fill (a := k_rq r) (N := 40) ?_ (by decide)).mono (fun I1 hp => ?_)
        · match r, hr6 with
          | 0, _ => rfl
          | 1, _ => rfl
          | 2, _ => rfl
          | 3, _ => rfl
          | 4, _ => rfl
          | 5, _ => rfl
          | n + 6, z => exact absurd z (by omega)
        · unfold f_X5_row
          rw [M_isRow, if_pos hr]
          simp only [Option.bind_some, n6, c6, k_let]
          rw [if_neg (by decide), if_pos h40, if_pos h0]
          refine (M_rowL hr6).mono (fun u hu => ⟨hu.1.symm, ?_⟩)
          have ox : ∀ b j, ¬ (b = 65 ∧ 40 * r ≤ j ∧ j < 40 * r + 40) → ¬ (b = 64 ∧ j = r) → ¬ (b = 8 ∧ j = r) → ¬ (b = k_rq r ∧ j < 40) → u.2 b j = I b j := by
            intro b j b1 b2 b3 b4
            rw [hu.2.2 b j b1, k_up_oth b2, k_up_oth b3]
            exact hp.2 b j b4
          have agx : ∀ S : Nat → Nat → Prop, (∀ j, ¬ S 65 j) → (∀ j, ¬ S 64 j) → (∀ j, ¬ S 8 j) → (∀ j, ¬ S (k_rq r) j) → Ag S I u.2 := fun S s1 s2 s3 s4 b j hS => ox b j (fun z => s1 j (z.1 ▸ hS)) (fun z => s2 j (z.1 ▸ hS)) (fun z => s3 j (z.1 ▸ hS)) (fun z => s4 j (z.1 ▸ hS))
          have main : Rw u.2 := by
            intro r' hr'
            obtain ⟨b1, b2, b3⟩ := h.1 r' hr'
            have cs : u.2 8 r' = if r' = r then nI k else I 8 r' := by
              by_cases e : r' = r
              · subst e
                rw [hu.2.2 8 r' (by omega), k_up_oth (by omega), k_up_same, if_pos rfl]
              · rw [ox 8 r' (by omega) (by omega) (by omega) (by unfold k_rq; omega), if_neg e]
            have ms : u.2 64 r' = if r' = r then nI k else I 64 r' := by
              by_cases e : r' = r
              · subst e
                rw [hu.2.2 64 r' (by omega), k_up_same, if_pos rfl]
              · rw [ox 64 r' (by omega) (by omega) (by omega) (by unfold k_rq; omega), if_neg e]
            rw [cs, ms]
            by_cases e : r' = r
            · subst e
              rw [if_pos rfl, if_pos rfl]
              refine ⟨by rw [i_n (by omega)]; omega, rfl, fun i hi => ?_⟩
              rw [hu.2.1 i hi, hu.2.2 (k_rq r') i (by unfold k_rq; omega), k_up_oth (by unfold k_rq; omega), k_up_oth (by unfold k_rq; omega), hp.1 i hi]
              -- equal
            · rw [if_neg e, if_neg e]
              refine ⟨b1, b2, fun i hi => ?_⟩
              rw [ox 65 (40 * r' + i) (by omega) (by omega) (by omega) (by unfold k_rq; omega), ox (k_rq r') i (by unfold k_rq; omega) (by unfold k_rq; omega) (by unfold k_rq; omega) (by unfold k_rq; omega)]
              exact b3 i hi
          exact ⟨main, h.2.1.ag (agx _ (by unfold sTx; omega) (by unfold sTx; omega) (by unfold sTx; omega) (by unfold sTx k_rq; omega)), h.2.2.1.ag (agx _ (by unfold sTd; omega) (by unfold sTd; omega) (by unfold sTd; omega) (by unfold sTd k_rq; omega)), h.2.2.2.ag (agx _ (by unfold sHs; omega) (by unfold sHs; omega) (by unfold sHs; omega) (by unfold sHs k_rq; omega))⟩
      · refine Sm_found h 5 (by decide) (by decide) ?_ (fun J hJ => ?_)
        · unfold f_X4_row
          rw [C_isRow, if_pos hr]
          simp only [Option.bind_some, bind_eta]
          rw [if_neg (by decide), if_pos h40, if_neg h0]
          rfl
        · unfold f_X5_row
          rw [M_isRow, if_pos hr]
          simp only [Option.bind_some, bind_eta]
          rw [if_neg (by decide), if_pos h40, if_neg h0]
          rfl
    · refine Sm_same h (-1) ?_ ?_
      · unfold f_X4_row
        rw [C_isRow, if_pos hr]
        simp only [Option.bind_some]
        rw [if_neg (by decide), if_neg h40]
      · unfold f_X5_row
        rw [M_isRow, if_pos hr]
        simp only [Option.bind_some]
        rw [if_neg (by decide), if_neg h40]
  · refine Sm_same h (-1) ?_ ?_
    · unfold f_X4_row
      rw [C_isRow, if_neg hr]
      rfl
    · unfold f_X5_row
      rw [M_isRow, if_neg hr]
      rfl
theorem M_textL {r k : Nat} {J : StI} (hr : r < 4) : Ho (f_X5_text_L34 (nI r) (nI k) k_fu 0 J) (fun u => u.1 = nI k ∧ (∀ i, i < 60 → u.2 67 (60 * r + i) = 32) ∧ ∀ b j, ¬ (b = 67 ∧ 60 * r ≤ j ∧ j < 60 * r + 60) → u.2 b j = J b j) := by
  unfold f_X5_text_L34
  refine Ho_loop0 (fun q s => s.1 = nI q ∧ (∀ i, i < q → s.2 67 (60 * r + i) = 32) ∧ ∀ b j, ¬ (b = 67 ∧ 60 * r ≤ j ∧ j < 60 * r + q) → s.2 b j = J b j) 60 (by decide) ?_ ?_ _ ⟨rfl, fun k hk => absurd hk (by omega), fun _ _ _ => rfl⟩
  · intro q s hq hss
    obtain ⟨w, K⟩ := s
    obtain ⟨e1, e2, e3⟩ := hss
    dsimp only at e1 e2 e3
    subst e1
    dsimp only
    unfold f_X5_text_L34_b
    rw [if_neg (by rw [show (60 : Int32) = nI 60 from rfl, nI_leI (by omega) (by omega)]; omega), mul60, gd_n (by omega) (by omega), cl_n (by omega), nI_1]
    simp only [k_let, Ho_some_i, Sum.elim_inl]
    refine ⟨trivial, fun i hi => ?_, fun b j hb => ?_⟩
    · by_cases e : i = q
      · subst e; rw [k_up_same]
      · rw [k_up_oth (by omega)]; exact e2 i (by omega)
    · rw [k_up_oth (by omega)]; exact e3 b j (by omega)
  · intro s hss
    obtain ⟨w, K⟩ := s
    obtain ⟨e1, e2, e3⟩ := hss
    dsimp only at e1 e2 e3
    subst e1
    dsimp only
    unfold f_X5_text_L34_b
    rw [if_pos (by decide), Ho_some_i]
    exact ⟨rfl, e2, e3⟩
theorem L_text {I : StI} {L : StL} (h : Rel I L) (v1 v2 : Int32) : Sm (f_X4_text v1 v2 I) (f_X5_text v1 v2) L := by
  by_cases hr : 0 ≤ v1.toInt ∧ v1.toInt < 4
  · obtain ⟨r, hr6, rfl⟩ := i_in hr.1 (show v1.toInt < (4 : Nat) from hr.2)
    have n6 : ∀ {T : Type} {o : Option T}, k_gd (nI r) 4 o = o := gd_n hr6 (by decide)
    have c6 : (nI r).toNatClampNeg = r := cl_n (by omega)
    by_cases h40 : v2 ≤ 60
    · by_cases h0 : 0 ≤ v2
      · obtain ⟨k, hk, rfl⟩ := i_in (x := v2) (n := 61) (by rw [i_le] at h0; exact h0) (by rw [i_le] at h40; simp only [Int32.reduceToInt] at h40; omega)
        unfold Sm f_X4_text
        rw [C_isText, if_pos hr]
        simp only [Option.bind_some, n6, c6, k_let]
        rw [if_neg (by decide), if_pos h40, if_pos h0]
        simp only [Ho_bind_i, Ho_some_i]
        refine (J_fillB (a := k_tq r) (N := 60) ?_ (by decide)).mono (fun I1 hp => ?_)
        · match r, hr6 with
          | 0, _ => rfl
          | 1, _ => rfl
          | 2, _ => rfl
          | 3, _ => rfl
          | n + 4, z => exact absurd z (by omega)
        · unfold f_X5_text
          rw [M_isText, if_pos hr]
          simp only [Option.bind_some, n6, c6, k_let]
          rw [if_neg (by decide), if_pos h40, if_pos h0]
          refine (M_textL hr6).mono (fun u hu => ⟨hu.1.symm, ?_⟩)
          have ox : ∀ b j, ¬ (b = 67 ∧ 60 * r ≤ j ∧ j < 60 * r + 60) → ¬ (b = 66 ∧ j = r) → ¬ (b = 14 ∧ j = r) → ¬ (b = k_tq r ∧ j < 60) → u.2 b j = I b j := by
            intro b j b1 b2 b3 b4
            rw [hu.2.2 b j b1, k_up_oth b2, k_up_oth b3]
            exact hp.2 b j b4
          have agx : ∀ S : Nat → Nat → Prop, (∀ j, ¬ S 67 j) → (∀ j, ¬ S 66 j) → (∀ j, ¬ S 14 j) → (∀ j, ¬ S (k_tq r) j) → Ag S I u.2 := fun S s1 s2 s3 s4 b j hS => ox b j (fun z => s1 j (z.1 ▸ hS)) (fun z => s2 j (z.1 ▸ hS)) (fun z => s3 j (z.1 ▸ hS)) (fun z => s4 j (z.1 ▸ hS))
          have main : Tx u.2 := by
            intro r' hr'
            obtain ⟨b1, b2, b3⟩ := h.2.1 r' hr'
            have cs : u.2 14 r' = if r' = r then nI k else I 14 r' := by
              by_cases e : r' = r
              · subst e
                rw [hu.2.2 14 r' (by omega), k_up_oth (by omega), k_up_same, if_pos rfl]
              · rw [ox 14 r' (by omega) (by omega) (by omega) (by unfold k_tq; omega), if_neg e]
            have ms : u.2 66 r' = if r' = r then nI k else I 66 r' := by
              by_cases e : r' = r
              · subst e
                rw [hu.2.2 66 r' (by omega), k_up_same, if_pos rfl]
              · rw [ox 66 r' (by omega) (by omega) (by omega) (by unfold k_tq; omega), if_neg e]
            rw [cs, ms]
            by_cases e : r' = r
            · subst e
              rw [if_pos rfl, if_pos rfl]
              refine ⟨by rw [i_n (by omega)]; omega, rfl, fun i hi => ?_⟩
              rw [hu.2.1 i hi, hu.2.2 (k_tq r') i (by unfold k_tq; omega), k_up_oth (by unfold k_tq; omega), k_up_oth (by unfold k_tq; omega), hp.1 i hi]
              rfl
            · rw [if_neg e, if_neg e]
              refine ⟨b1, b2, fun i hi => ?_⟩
              rw [ox 67 (60 * r' + i) (by omega) (by omega) (by omega) (by unfold k_tq; omega), ox (k_tq r') i (by unfold k_tq; omega) (by unfold k_tq; omega) (by unfold k_tq; omega) (by unfold k_tq; omega)]
              exact b3 i hi
          exact ⟨h.1.ag (agx _ (by unfold sRw; omega) (by unfold sRw; omega) (by unfold sRw; omega) (by unfold sRw k_tq; omega)), main, h.2.2.1.ag (agx _ (by unfold sTd; omega) (by unfold sTd; omega) (by unfold sTd; omega) (by unfold sTd k_tq; omega)), h.2.2.2.ag (agx _ (by unfold sHs; omega) (by unfold sHs; omega) (by unfold sHs; omega) (by unfold sHs k_tq; omega))⟩
      · refine Sm_found h 5 (by decide) (by decide) ?_ (fun J hJ => ?_)
        · unfold f_X4_text
          rw [C_isText, if_pos hr]
          simp only [Option.bind_some, bind_eta]
          rw [if_neg (by decide), if_pos h40, if_neg h0]
          rfl
        · unfold f_X5_text
          rw [M_isText, if_pos hr]
          simp only [Option.bind_some, bind_eta]
          rw [if_neg (by decide), if_pos h40, if_neg h0]
          rfl
    · refine Sm_same h (-1) ?_ ?_
      · unfold f_X4_text
        rw [C_isText, if_pos hr]
        simp only [Option.bind_some]
        rw [if_neg (by decide), if_neg h40]
      · unfold f_X5_text
        rw [M_isText, if_pos hr]
        simp only [Option.bind_some]
        rw [if_neg (by decide), if_neg h40]
  · refine Sm_same h (-1) ?_ ?_
    · unfold f_X4_text
      rw [C_isText, if_neg hr]
      rfl
    · unfold f_X5_text
      rw [M_isText, if_neg hr]
      rfl
theorem Tx_set {I I' : StI} (h : Tx I) {r j : Nat} {v : Int32} (hr : r < 4) (hj : j < 60) (e1 : I' (k_tq r) j = v) (e2 : I' 67 (60 * r + j) = v) (ho : ∀ b k, sTx b k → ¬ (b = k_tq r ∧ k = j) → ¬ (b = 67 ∧ k = 60 * r + j) → I' b k = I b k) : Tx I' := by
  intro r' hr'
  obtain ⟨a1, a2, a3⟩ := h r' hr'
  rw [ho 14 r' (by unfold sTx; omega) (by unfold k_tq; omega) (by omega), ho 66 r' (by unfold sTx; omega) (by unfold k_tq; omega) (by omega)]
  refine ⟨a1, a2, fun i hi => ?_⟩
  by_cases e : r' = r ∧ i = j
  · obtain ⟨rfl, rfl⟩ := e
    rw [e1, e2]
  · rw [ho 67 _ (by unfold sTx; omega) (by unfold k_tq; omega) (by omega), ho (k_tq r') i (by unfold sTx k_tq; omega) (by unfold k_tq; omega) (by unfold k_tq; omega)]
    exact a3 i hi
theorem L_put {I : StI} {L : StL} (h : Rel I L) (v1 v2 v3 : Int32) : Sm (f_X4_put v1 v2 v3 I) (f_X5_put v1 v2 v3) L := by
  by_cases hr : 0 ≤ v1.toInt ∧ v1.toInt < 4
  · obtain ⟨r, hr6, rfl⟩ := i_in hr.1 (show v1.toInt < (4 : Nat) from hr.2)
    obtain ⟨a1, a2, a3⟩ := h.2.1 r hr6
    have n6 : ∀ {T : Type} {o : Option T}, k_gd (nI r) 4 o = o := gd_n hr6 (by decide)
    have c6 : (nI r).toNatClampNeg = r := cl_n (by omega)
    rcases sz_cases (M := 60) a1 with hs | ⟨k, hk, hs⟩
    · refine Sm_found h 1 (by decide) (by decide) ?_ (fun J hJ => ?_)
      · unfold f_X4_put
        rw [C_isText, if_pos hr]
        simp only [Option.bind_some, n6, c6, hs, bind_eta]
        rw [if_neg (by decide), show f_X4_findingOfPlace (-1) v2 = some 1 from rfl]
        rfl
      · unfold f_X5_put
        rw [M_isText, if_pos hr]
        simp only [Option.bind_some, n6, c6, hJ 66 r (by decide), a2, hs, bind_eta]
        rw [if_neg (by decide), if_neg (by decide)]
        rfl
    · by_cases hp : 0 ≤ v2.toInt ∧ v2.toInt < k
      · obtain ⟨j, hj, rfl⟩ := i_in hp.1 hp.2
        have n40 : ∀ {T : Type} {o : Option T}, k_gd (nI j) 60 o = o := gd_n (by omega) (by decide)
        have n240 : ∀ {T : Type} {o : Option T}, k_gd (nI (60 * r + j)) 240 o = o := gd_n (by omega) (by decide)
        refine Sm_eq (I1 := k_up I (k_tq r) j v3.toInt8.toInt32) (I2 := k_up (k_up I (k_tq r) j v3.toInt8.toInt32) 67 (60 * r + j) v3.toInt8.toInt32) (r := I (k_tq r) j + 1000) ?_ ?_ ?_
        · unfold f_X4_put
          rw [C_isText, if_pos hr]
          simp only [Option.bind_some, n6, c6, hs, C_fop k (show k < 100 by omega), k_let, cl_n (show j < 2147483648 by omega), n40, pk_vb]
          rw [if_neg (by decide), if_pos hp, if_pos rfl]
        · unfold f_X5_put
          rw [M_isText, if_pos hr]
          have o1 : ∀ b k, 63 ≤ b → k_up I (k_tq r) j v3.toInt8.toInt32 b k = I b k := fun b k hb => by
            rw [k_up_oth (by unfold k_tq; omega)]
          simp only [Option.bind_some, n6, c6, o1 66 _ (by decide), a2, hs, o1 67 _ (by decide), M_pl k (show k < 100 by omega), mul60, cl_n (show 60 * r + j < 2147483648 by omega), k_let, n240]
          rw [if_neg (by decide), if_pos (nI_ge0 (by omega)), if_pos hp, if_neg (by decide), a3 j (by omega)]
        · refine ⟨h.1.ag ((Ag.refl.up (by unfold sRw k_tq; omega)).up (by unfold sRw; omega)), Tx_set h.2.1 (v := v3.toInt8.toInt32) hr6 (show j < 60 by omega) ?_ ?_ (fun b k hb h1 h2 => ?_), h.2.2.1.ag ((Ag.refl.up (by unfold sTd k_tq; omega)).up (by unfold sTd; omega)), h.2.2.2.ag ((Ag.refl.up (by unfold sHs k_tq; omega)).up (by unfold sHs; omega))⟩
          · rw [k_up_oth (by unfold k_tq; omega), k_up_same]
          · rw [k_up_same]
          · rw [k_up_oth h2, k_up_oth h1]
      · refine Sm_found h 2 (by decide) (by decide) ?_ (fun J hJ => ?_)
        · unfold f_X4_put
          rw [C_isText, if_pos hr]
          simp only [Option.bind_some, n6, c6, hs, C_fop k (show k < 100 by omega), bind_eta]
          rw [if_neg (by decide), if_neg hp, if_neg (by decide)]
          rfl
        · unfold f_X5_put
          rw [M_isText, if_pos hr]
          simp only [Option.bind_some, n6, c6, hJ 66 r (by decide), a2, hs, M_pl k (show k < 100 by omega), bind_eta]
          rw [if_neg (by decide), if_pos (nI_ge0 (by omega)), if_neg hp, if_pos rfl]
          rfl
  · refine Sm_same h (-1) ?_ ?_
    · unfold f_X4_put
      rw [C_isText, if_neg hr]
      rfl
    · unfold f_X5_put
      rw [M_isText, if_neg hr]
      rfl
