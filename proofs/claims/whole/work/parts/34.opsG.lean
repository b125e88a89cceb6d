theorem L_count {I : StI} {L : StL} (h : Rel I L) (v1 : Int32) : E2 (f_X4_count v1 I) (f_X5_count v1 I) := by
  by_cases hr : 0 ≤ v1.toInt ∧ v1.toInt < 13
  · obtain ⟨w, hw, rfl⟩ := i_in hr.1 (show v1.toInt < (13 : Nat) from hr.2)
    obtain ⟨r, e1, e2⟩ := L_countOf h hw
    refine ⟨r, ?_, e2⟩
    unfold f_X4_count
    rw [if_neg (by rw [i_lt]; simp only [Int32.reduceToInt]; omega), if_pos (by rw [i_lt]; simp only [Int32.reduceToInt]; omega), e1]
    rfl
  · refine ⟨-1, ?_, ?_⟩
    · unfold f_X4_count
      by_cases q : v1 < 0
      · rw [if_pos q]
      · rw [if_neg q, if_neg (by rw [i_lt] at q ⊢; simp only [Int32.reduceToInt] at q ⊢; omega)]
    · have ne : ∀ c : Nat, c < 13 → ¬ v1 = nI c := fun c hc z => hr (by rw [z, i_n (by omega)]; omega)
      unfold f_X5_count
      rw [if_neg (show ¬ v1 = 0 from ne 0 (by decide)), if_neg (show ¬ v1 = 1 from ne 1 (by decide)), if_neg (show ¬ v1 = 2 from ne 2 (by decide)), if_neg (show ¬ v1 = 3 from ne 3 (by decide)), if_neg (show ¬ v1 = 4 from ne 4 (by decide)), if_neg (show ¬ v1 = 5 from ne 5 (by decide)), if_neg (show ¬ v1 = 6 from ne 6 (by decide)), if_neg (show ¬ v1 = 7 from ne 7 (by decide)), if_neg (show ¬ v1 = 8 from ne 8 (by decide)), if_neg (show ¬ v1 = 9 from ne 9 (by decide)), if_neg (show ¬ v1 = 10 from ne 10 (by decide)), if_neg (show ¬ v1 = 11 from ne 11 (by decide)), if_neg (show ¬ v1 = 12 from ne 12 (by decide))]
theorem mark5 : ∀ k : Fin 100, f_J9_floorMod_7cf53 (-(nI k.val)) 4 = some ((4 - (nI k.val - nI k.val / 4 * 4)) - (4 - (nI k.val - nI k.val / 4 * 4)) / 4 * 4) := by decide +kernel
theorem C_isOf {q c : Nat} {I : StI} (hc : 1 ≤ c ∧ c ≤ 5) : f_X0_isOf q (nI c) I = some (if I q 0 = nI c ∨ (c = 1 ∧ I q 0 = 4) ∨ (c = 2 ∧ I q 0 = 5) then 1 else 0) := by
  rcases (show c = 1 ∨ c = 2 ∨ c = 3 ∨ c = 4 ∨ c = 5 by omega) with rfl | rfl | rfl | rfl | rfl
  · rw [show nI 1 = 1 from rfl, C_isOf1]; simp
  · rw [show nI 2 = 2 from rfl, C_isOf2]; simp
  · unfold f_X0_isOf
    rw [if_neg (by decide), if_neg (by decide), if_neg (by decide)]
    by_cases z : I q 0 = nI 3
    · simp [z]
    · simp [z]
  · unfold f_X0_isOf
    rw [if_neg (by decide), if_neg (by decide), if_neg (by decide)]
    by_cases z : I q 0 = nI 4
    · simp [z]
    · simp [z]
  · unfold f_X0_isOf
    rw [if_neg (by decide), if_neg (by decide), if_neg (by decide)]
    by_cases z : I q 0 = nI 5
    · simp [z]
    · simp [z]
theorem L_mark {I : StI} {L : StL} (h : Rel I L) (v1 v2 : Int32) : Sm (f_X4_mark v1 v2 I) (f_X5_mark v1 v2) L := by
  obtain ⟨n, fa, ds, hx⟩ := h.2.2.2
  obtain ⟨hg, hc, -, hm, h4, hk, hrm, -⟩ := hx.vw
  have hn := hg.1.1
  have ci := C_isCaller hn hc.1 v1
  have mi : ∀ J : StI, J 63 4 = I 63 4 → f_X5_isCaller v1 J = some (if 0 ≤ v1.toInt ∧ v1.toInt < n then 1 else 0) := fun J hJ => M_isCaller hn (hJ.trans h4) v1
  have min : f_X5_in v2.toInt64 (1 : Int64) (5 : Int64) = some (if 1 ≤ v2.toInt ∧ v2.toInt ≤ 5 then 1 else 0) := by
    rw [show (1 : Int64) = (1 : Int32).toInt64 from rfl, show (5 : Int64) = (5 : Int32).toInt64 from rfl, in_i]
    rfl
  by_cases hr : 0 ≤ v1.toInt ∧ v1.toInt < n
  · obtain ⟨i, hi, rfl⟩ := i_in hr.1 hr.2
    by_cases h2 : 1 ≤ v2.toInt ∧ v2.toInt ≤ 5
    · obtain ⟨w, hw, rfl⟩ := i_in (n := 6) (x := v2) (by omega) (by omega)
      have hw1 : 1 ≤ w := by rw [i_n (by omega)] at h2; omega
      obtain ⟨d0, d1, d2, d3, d4, d5, d6⟩ := hc.2.2.2.2.2.2 i hi
      have c4 := hc.2.2.2.1
      have hi7 : i < 7 := by omega
      have hmj : ∀ j, j < 40 → I 70 j = rep n ds fa j := fun j hj => by have := hm j hj; rwa [Nat.zero_add] at this
      have hcv := hg.1.2.2 i hi
      have cA : f_X4_mark (nI i) (nI w) I = (if (rep n ds fa (40 + i) = nI w ∨ (w = 1 ∧ rep n ds fa (40 + i) = 4) ∨ (w = 2 ∧ rep n ds fa (40 + i) = 5)) then Option.bind (f_X0_markOf (k_cq 24 i) (nI w) (I 24 4) I) (fun t10 => some (t10, I)) else f_X4_found (nI 3) I) := by
        unfold f_X4_mark
        rw [ci, if_pos hr]
        simp only [Option.bind_some, g_i hi7, m_i hi7, C_isOf (show 1 ≤ w ∧ w ≤ 5 by omega), d0, bind_eta]
        rw [if_neg (by decide), if_neg (by rw [i_le, i_n (by omega)]; simp only [Int32.reduceToInt]; omega), if_pos (by rw [i_lt, i_n (by omega)]; simp only [Int32.reduceToInt]; omega)]
        by_cases z : (rep n ds fa (40 + i) = nI w ∨ (w = 1 ∧ rep n ds fa (40 + i) = 4) ∨ (w = 2 ∧ rep n ds fa (40 + i) = 5))
        · simp only [z, if_true]
          rw [if_neg (by decide)]
        · simp only [z, if_false, if_true]
          rfl
      have wi : ∀ c : Nat, c < 7 → ((nI w = nI c) ↔ w = c) := fun c hc' => nI_eq (by omega) (by omega)
      have mA : ∀ J : StI, (∀ b k, 63 ≤ b → J b k = I b k) → f_X5_mark (nI i) (nI w) J = (if (rep n ds fa (40 + i) = nI w ∨ (w = 1 ∧ rep n ds fa (40 + i) = 4) ∨ (w = 2 ∧ rep n ds fa (40 + i) = 5)) then f_X5_mark_j60 (nI i) (nI w) J else f_X5_found (nI 3) J) := by
        intro J hJ
        unfold f_X5_mark f_X5_mark_j44
        rw [mi J (hJ 63 4 (by decide)), if_pos hr, min, if_pos h2]
        simp only [Option.bind_some, g_i hi7, m_i hi7, k_let, hJ 68 i (by decide), hk i hi]
        rw [if_neg (by decide), if_neg (by decide)]
        have e54 : f_X5_mark_j54 J = f_X5_found (nI 3) J := bind_eta
        rw [e54]
        have w1 : (nI w = (1 : Int32)) ↔ w = 1 := wi 1 (by decide)
        have w2 : (nI w = (2 : Int32)) ↔ w = 2 := wi 2 (by decide)
        by_cases z1 : rep n ds fa (40 + i) = nI w
        · rw [if_pos z1, if_pos (Or.inl z1)]
        · rw [if_neg z1]
          by_cases z2 : w = 1
          · rw [if_pos (w1.mpr z2)]
            by_cases z3 : rep n ds fa (40 + i) = 4
            · rw [if_pos z3, if_pos (Or.inr (Or.inl ⟨z2, z3⟩))]
            · rw [if_neg z3, if_neg (fun y => by have := w2.mp y; omega), if_neg]
              rintro (y | y | y)
              · exact z1 y
              · exact z3 y.2
              · exact absurd (y.1.symm.trans z2) (by decide)
          · rw [if_neg (fun y => z2 (w1.mp y))]
            by_cases z4 : w = 2
            · rw [if_pos (w2.mpr z4)]
              by_cases z5 : rep n ds fa (40 + i) = 5
              · rw [if_pos z5, if_pos (Or.inr (Or.inr ⟨z4, z5⟩))]
              · rw [if_neg z5, if_neg]
                rintro (y | y | y)
                · exact z1 y
                · exact z2 y.1
                · exact z5 y.2
            · rw [if_neg (fun y => z4 (w2.mp y)), if_neg]
              rintro (y | y | y)
              · exact z1 y
              · exact z2 y.1
              · exact z4 y.1
      by_cases z : (rep n ds fa (40 + i) = nI w ∨ (w = 1 ∧ rep n ds fa (40 + i) = 4) ∨ (w = 2 ∧ rep n ds fa (40 + i) = 5))
      · have fin : ∀ x : Int32, f_X0_markOf (k_cq 24 i) (nI w) (I 24 4) I = some x → f_X5_mark_j60 (nI i) (nI w) I = some (x, I) → Sm (f_X4_mark (nI i) (nI w) I) (f_X5_mark (nI i) (nI w)) L := by
          intro x e1 e2
          refine Sm_same h x ?_ ?_
          · rw [cA, if_pos z, e1]; rfl
          · rw [mA I (fun _ _ _ => rfl), if_pos z, e2]
        have m60 : f_X5_mark_j60 (nI i) (nI w) I = (if nI w = 1 then (if rep n ds fa (19 + i) ≤ 0 then some (0, I) else some (rep n ds fa (19 + i) - 1, I)) else if nI w = 2 then some (rep n ds fa (33 + i) - rep n ds fa (47 + i), I) else if nI w = 3 then some (rep n ds fa (5 + i) - 1, I) else if nI w = 4 then (if rep n ds fa (12 + i) = 1 then some (0, I) else (if rep n ds fa 0 - rep n ds fa 0 / 2 * 2 = 0 then some (1, I) else some (0, I))) else some ((4 - (rep n ds fa 0 - rep n ds fa 0 / 4 * 4)) - (4 - (rep n ds fa 0 - rep n ds fa 0 / 4 * 4)) / 4 * 4, I)) := by
          unfold f_X5_mark_j60
          simp only [g_i hi7, m_i hi7, g_5 hi7, m_5 hi7, g_12 hi7, m_12 hi7, g_19 hi7, m_19 hi7, g_33 hi7, m_33 hi7, g_0, n_0, hmj (19 + i) (by omega), hmj (33 + i) (by omega), hmj (5 + i) (by omega), hmj (12 + i) (by omega), hmj 0 (by omega), hrm i hi]
        rcases (show w = 1 ∨ w = 2 ∨ w = 3 ∨ w = 4 ∨ w = 5 by omega) with rfl | rfl | rfl | rfl | rfl
        · refine fin (if rep n ds fa (19 + i) ≤ 0 then rep n ds fa (19 + i) else rep n ds fa (19 + i) - 1) ?_ ?_
          · show (f_J9_max_7cf53 0 (I (k_cq 24 i) 4 - 1)).bind _ = _
            rw [d4, max0 hcv.2.2.2.1.1]
            rfl
          · rw [m60, if_pos (show nI 1 = 1 from rfl)]
            by_cases y : rep n ds fa (19 + i) ≤ 0
            · rw [if_pos y, if_pos y]
              have : rep n ds fa (19 + i) = 0 := by
                rw [i_eq]
                rw [i_le] at y
                have := hcv.2.2.2.1.1
                simp only [Int32.reduceToInt] at y ⊢
                omega
              rw [this]
            · rw [if_neg y, if_neg y]
        · exact fin (rep n ds fa (33 + i) - rep n ds fa (47 + i)) (by rw [← d6, ← d2]; rfl) (by rw [m60]; rfl)
        · exact fin (rep n ds fa (5 + i) - 1) (by rw [← d1]; rfl) (by rw [m60]; rfl)
        · refine fin (if (decide (rep n ds fa (12 + i) ≠ 1) && decide (rep n ds fa 0 - rep n ds fa 0 / 2 * 2 = 0)) = true then 1 else 0) ?_ ?_
          · have z4 : rep n ds fa (40 + i) = 4 := by
              rcases z with z | z | z
              · exact z
              · exact absurd z.1 (by decide)
              · exact absurd z.1 (by decide)
            show (f_X0_callsIn (k_cq 24 i) (I 24 4) I).bind _ = _
            rw [callsIn_eq, d3, d0, c4, z4]
            simp only [Option.bind_some]
            by_cases y1 : rep n ds fa (12 + i) = 1
            · simp [y1]
            · by_cases y2 : rep n ds fa 0 - rep n ds fa 0 / 2 * 2 = 0
              · simp [y1, y2]
              · simp [y1, y2]
          · rw [m60]
            show (if rep n ds fa (12 + i) = 1 then _ else _) = _
            by_cases y1 : rep n ds fa (12 + i) = 1
            · simp [y1]
            · by_cases y2 : rep n ds fa 0 - rep n ds fa 0 / 2 * 2 = 0
              · simp [y1, y2]
              · simp [y1, y2]
        · refine fin _ ?_ m60
          have e0 := hg.1.step0
          have hlt : (rep n ds fa 0).toInt.toNat < 100 := by have := hg.1.2.1; omega
          show (f_J9_floorMod_7cf53 (-(I 24 4)) 4).bind _ = _
          rw [c4, e0, mark5 ⟨_, hlt⟩]
          rfl
      · refine Sm_found h 3 (by decide) (by decide) ?_ (fun J hJ => ?_)
        · rw [cA, if_neg z]
        · rw [mA J hJ, if_neg z]
    · refine Sm_same h (-1) ?_ ?_
      · unfold f_X4_mark
        rw [ci, if_pos hr]
        simp only [Option.bind_some]
        rw [if_neg (by decide)]
        by_cases q : v2 ≤ 0
        · rw [if_pos q]
        · rw [if_neg q, if_neg (by rw [i_le] at q; rw [i_lt]; simp only [Int32.reduceToInt] at q ⊢; omega)]
      · unfold f_X5_mark
        rw [mi I rfl, if_pos hr, min, if_neg h2]
        rfl
  · refine Sm_same h (-1) ?_ ?_
    · unfold f_X4_mark
      rw [ci, if_neg hr]
      rfl
    · unfold f_X5_mark
      rw [mi I rfl, if_neg hr]
      rfl
