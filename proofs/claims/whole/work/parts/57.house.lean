/-! house -/
def nf (r : Int32) (cs : List Dd) : AH := fun j =>
  if j = 3 then 255 else if j = 4 then r
  else if 5 ≤ j ∧ j < 12 then (cs.getD (j - 5) (0, 0, 0)).2.1
  else if 33 ≤ j ∧ j < 40 then (cs.getD (j - 33) (0, 0, 0)).2.2
  else if 40 ≤ j ∧ j < 47 then (cs.getD (j - 40) (0, 0, 0)).1
  else if 47 ≤ j then (cs.getD (j - 47) (0, 0, 0)).2.2 else 0
theorem nf_3 {r : Int32} {cs : List Dd} : nf r cs 3 = 255 := rfl
theorem nf_4 {r : Int32} {cs : List Dd} : nf r cs 4 = r := rfl
theorem nf_5 {r : Int32} {cs : List Dd} {i : Nat} (h : i < 7) : nf r cs (5 + i) = (cs.getD i (0, 0, 0)).2.1 := by
  unfold nf
  rw [if_neg (by omega), if_neg (by omega), if_pos (by omega), show 5 + i - 5 = i by omega]
theorem nf_33 {r : Int32} {cs : List Dd} {i : Nat} (h : i < 7) : nf r cs (33 + i) = (cs.getD i (0, 0, 0)).2.2 := by
  unfold nf
  rw [if_neg (by omega), if_neg (by omega), if_neg (by omega), if_pos (by omega), show 33 + i - 33 = i by omega]
theorem nf_40 {r : Int32} {cs : List Dd} {i : Nat} (h : i < 7) : nf r cs (40 + i) = (cs.getD i (0, 0, 0)).1 := by
  unfold nf
  rw [if_neg (by omega), if_neg (by omega), if_neg (by omega), if_neg (by omega), if_pos (by omega), show 40 + i - 40 = i by omega]
theorem nf_47 {r : Int32} {cs : List Dd} {i : Nat} : nf r cs (47 + i) = (cs.getD i (0, 0, 0)).2.2 := by
  unfold nf
  rw [if_neg (by omega), if_neg (by omega), if_neg (by omega), if_neg (by omega), if_neg (by omega), if_pos (by omega), show 47 + i - 47 = i by omega]
theorem nf_0 {r : Int32} {cs : List Dd} {j : Nat} (h : j < 3 ∨ (12 ≤ j ∧ j < 33)) : nf r cs j = 0 := by
  unfold nf
  rw [if_neg (by omega), if_neg (by omega), if_neg (by omega), if_neg (by omega), if_neg (by omega), if_neg (by omega)]
theorem GV_nf {r : Int32} {cs : List Dd} (h : RV r cs) (h2 : 2 ≤ cs.length) : GV cs.length 0 (nf r cs) := by
  have hl := h.2.1
  refine ⟨⟨hl, by rw [nf_0 (by omega)]; decide, fun i hi => ?_⟩, ⟨255, by decide, rfl⟩, Or.inr ?_⟩
  · obtain ⟨c1, c2⟩ := h.2.2 _ (getD_mem hi)
    rw [nf_5 (by omega), nf_47, nf_0 (j := 12 + i) (by omega), nf_0 (j := 19 + i) (by omega), nf_0 (j := 26 + i) (by omega), nf_33 (by omega)]
    exact ⟨c1, c2, Or.inl rfl, ⟨by decide, by decide⟩, ⟨by decide, by decide⟩, ⟨c2.1, by omega⟩, fun z => absurd z (by decide)⟩
  · rw [nf_4]
    rcases h.1 with ⟨_, z⟩ | z
    · rw [z] at h2
      exact absurd h2 (by decide)
    · exact z
theorem HC_nf {J : StI} {r : Int32} {cs : List Dd} (h : CH J r cs) (hl : cs.length ≤ 7) : HC J 33 (nf r cs) cs.length := by
  obtain ⟨⟨c0, cc⟩, c2, c3, c4, c5, c6, c7⟩ := h
  refine ⟨c0, c2, c3, by rw [nf_0 (by omega)]; exact c4, by rw [nf_0 (by omega)]; exact c5, by rw [nf_0 (by omega)]; exact c6, fun i hi => ?_⟩
  rw [nf_40 (by omega), nf_5 (by omega), nf_47, nf_0 (j := 12 + i) (by omega), nf_0 (j := 19 + i) (by omega), nf_0 (j := 26 + i) (by omega), nf_33 (by omega)]
  exact cc i hi
theorem C_houseK {J : StI} {n : Nat} (h24 : J 24 1 = nI n) : Ho (f_X4_house_L84 k_fu 0 J) (fun t => t.1 = nI n ∧ (∀ p, p < 3 → t.2 (k_dq p) 3 = -1) ∧ ∀ b k, ¬ (51 ≤ b ∧ b ≤ 62) → t.2 b k = J b k) := by
  unfold f_X4_house_L84
  refine Ho_loop0 (fun q x => x.1 = nI q ∧ (∀ p, p < q → x.2 (k_dq p) 3 = -1) ∧ ∀ b k, ¬ (51 ≤ b ∧ b ≤ 62) → x.2 b k = J b k) 3 (by decide) ?_ ?_ _ ⟨rfl, fun p hp => absurd hp (by omega), fun _ _ _ => rfl⟩
  · intro q x hq hx
    obtain ⟨v, K⟩ := x
    obtain ⟨e0, e1, e2⟩ := hx
    dsimp only at e0 e1 e2
    subst e0
    dsimp only
    unfold f_X4_house_L84_b
    rw [if_neg (by rw [show (3 : Int32) = nI 3 from rfl, nI_leI (by omega) (by omega)]; omega), gd_n hq (by decide), cl_n (by omega)]
    unfold k_let
    rw [nI_1]
    refine Ho_s ⟨rfl, fun p hp => ?_, fun b k hb => ?_⟩
    · show k_up K (k_dq q) 3 (-1) (k_dq p) 3 = -1
      by_cases he : p = q
      · subst he; rw [k_up_same]
      · rw [k_up_oth (by unfold k_dq; omega)]
        exact e1 p (by omega)
    · show k_up K (k_dq q) 3 (-1) b k = J b k
      rw [k_up_oth (by unfold k_dq; omega)]
      exact e2 b k hb
  · intro x hx
    obtain ⟨v, K⟩ := x
    obtain ⟨e0, e1, e2⟩ := hx
    dsimp only at e0 e1 e2
    subst e0
    dsimp only
    unfold f_X4_house_L84_b
    rw [if_pos (by decide)]
    refine Ho_s ⟨?_, e1, e2⟩
    show K 24 1 = nI n
    rw [e2 24 1 (by omega)]
    exact h24
theorem M_houseK {J : StI} : Ho (f_X5_house_L160 k_fu 0 J) (fun t => t.1 = J 63 4 ∧ (∀ p, p < 3 → t.2 75 p = 0) ∧ ∀ b k, b ≠ 75 → t.2 b k = J b k) := by
  unfold f_X5_house_L160
  refine Ho_loop0 (fun q x => x.1 = nI q ∧ (∀ p, p < q → x.2 75 p = 0) ∧ ∀ b k, b ≠ 75 → x.2 b k = J b k) 3 (by decide) ?_ ?_ _ ⟨rfl, fun p hp => absurd hp (by omega), fun _ _ _ => rfl⟩
  · intro q x hq hx
    obtain ⟨v, K⟩ := x
    obtain ⟨e0, e1, e2⟩ := hx
    dsimp only at e0 e1 e2
    subst e0
    dsimp only
    unfold f_X5_house_L160_b
    rw [if_neg (by rw [show (3 : Int32) = nI 3 from rfl, nI_leI (by omega) (by omega)]; omega), gd_n hq (by decide), cl_n (by omega)]
    unfold k_let
    rw [nI_1]
    refine Ho_s ⟨rfl, fun p hp => ?_, fun b k hb => ?_⟩
    · show k_up K 75 q (vp_nar .boolean (0 : Int32)) 75 p = 0
      by_cases he : p = q
      · subst he; rw [k_up_same]; rfl
      · rw [k_up_oth (by omega)]
        exact e1 p (by omega)
    · show k_up K 75 q (vp_nar .boolean (0 : Int32)) b k = J b k
      rw [k_up_oth (fun z => hb z.1)]
      exact e2 b k hb
  · intro x hx
    obtain ⟨v, K⟩ := x
    obtain ⟨e0, e1, e2⟩ := hx
    dsimp only at e0 e1 e2
    subst e0
    dsimp only
    unfold f_X5_house_L160_b
    rw [if_pos (by decide)]
    exact Ho_s ⟨e2 63 4 (by decide), e1, e2⟩
theorem take_getD {cs : List Dd} {q i : Nat} : (cs.take q).getD i (0, 0, 0) = if i < q then cs.getD i (0, 0, 0) else (0, 0, 0) := by
  rw [List.getD_eq_getElem?_getD, List.getElem?_take, List.getD_eq_getElem?_getD]
  split <;> rfl
/-- the frame of a new house in the reference -/
def sMh (b k : Nat) : Prop := b = 68 ∨ b = 69 ∨ b = 70 ∨ b = 75 ∨ b = 77 ∨ b = 78 ∨ (b = 63 ∧ (k = 4 ∨ k = 11 ∨ k = 19 ∨ k = 20))
theorem M_houseC {J : StI} {r : Int32} {cs : List Dd} (hl : cs.length ≤ 7) (h4 : J 63 4 = nI cs.length) (hm : HM J 70 0 (nf r [])) (hk : RK J r cs) : Ho (f_X5_house_L102 k_fu 0 J) (fun t => t.1 = nI cs.length ∧ HM t.2 70 0 (nf r cs) ∧ RM t.2 (nf r cs) cs.length ∧ t.2 63 11 = 0 ∧ (∀ p, p < 3 → t.2 75 p = 0) ∧ ∀ b k, b ≠ 69 → b ≠ 70 → b ≠ 75 → ¬ (b = 63 ∧ k = 11) → t.2 b k = J b k) := by
  unfold f_X5_house_L102
  refine Ho_loop0 (fun q x => x.1 = nI q ∧ HM x.2 70 0 (nf r (cs.take q)) ∧ (∀ i, i < q → x.2 69 i = (cs.getD i (0, 0, 0)).2.2) ∧ ∀ b k, b ≠ 69 → b ≠ 70 → x.2 b k = J b k) cs.length (by omega) ?_ ?_ _ ⟨rfl, by rw [List.take_zero]; exact hm, fun i hi => absurd hi (by omega), fun _ _ _ _ => rfl⟩
  · intro q x hq hx
    obtain ⟨v, K⟩ := x
    obtain ⟨e0, e1, e2, e3⟩ := hx
    dsimp only at e0 e1 e2 e3
    subst e0
    dsimp only
    have hq7 : q < 7 := by omega
    obtain ⟨k1, k2, k3⟩ := hk.2.2 q hq
    unfold f_X5_house_L102_b
    rw [e3 63 4 (by decide) (by decide), h4, if_neg (by rw [nI_leI (by omega) (by omega)]; omega), show (2 : Int32) * nI q = nI (2 * q) by rw [show (2 : Int32) = nI 2 from rfl, pk_mul], nI_1, gd_n (show 2 * q < 14 by omega) (by decide), cl_n (show 2 * q < 2147483648 by omega), e3 78 _ (by decide) (by decide), k2, g_5 hq7, m_5 hq7]
    refine Ho_let_i.mpr ?_
    rw [gd_n (show 2 * q + 1 < 14 by omega) (by decide), g_i hq7, m_i hq7, cl_n (show 2 * q + 1 < 2147483648 by omega), k_up_oth (show ¬ (78 = 70 ∧ 2 * q + 1 = 5 + q) by omega), e3 78 _ (by decide) (by decide), k3]
    refine Ho_let_i.mpr ?_
    have hm1 : HM (k_up (k_up K 70 (5 + q) (cs.getD q (0, 0, 0)).2.1) 69 q (cs.getD q (0, 0, 0)).2.2) 70 0 (upd (upd (nf r (cs.take q)) (5 + q) (cs.getD q (0, 0, 0)).2.1) (47 + q) (cs.getD q (0, 0, 0)).2.2) := by
      intro j hj
      rw [upd_o (by omega), k_up_oth (by omega)]
      exact HMh_upd e1 j hj
    refine Ho_bm (M_resets hq7 hm1 (by rw [k_up_same, upd_s])) (fun K2 hp => ?_)
    unfold k_let
    rw [nI_1]
    refine Ho_s ⟨rfl, fun j hj => ?_, fun i hi => ?_, fun b k hb1 hb2 => ?_⟩
    · show K2 70 (0 + j) = nf r (cs.take (q + 1)) j
      rw [hp.1 j hj]
      by_cases j1 : j = 12 + q
      · subst j1; rw [rst_12, nf_0 (by omega)]
      · by_cases j2 : j = 19 + q
        · subst j2; rw [rst_19, nf_0 (by omega)]
        · by_cases j3 : j = 26 + q
          · subst j3; rw [rst_26, nf_0 (by omega)]
          · by_cases j4 : j = 33 + q
            · subst j4
              rw [rst_33, upd_s, nf_33 hq7, take_getD, if_pos (by omega)]
            · rw [rst_o j1 j2 j3 j4, upd_o (by omega)]
              by_cases j5 : j = 5 + q
              · subst j5
                rw [upd_s, nf_5 hq7, take_getD, if_pos (by omega)]
              · rw [upd_o j5]
                unfold nf
                rw [take_getD, take_getD, take_getD, take_getD, take_getD, take_getD, take_getD, take_getD]
                by_cases c1 : 5 ≤ j ∧ j < 12
                · rw [if_pos c1, if_pos c1]
                  by_cases c2 : j - 5 < q
                  · rw [if_pos c2, if_pos (show j - 5 < q + 1 by omega)]
                  · rw [if_neg c2, if_neg (show ¬ j - 5 < q + 1 by omega)]
                · rw [if_neg c1, if_neg c1]
                  by_cases c3 : 33 ≤ j ∧ j < 40
                  · rw [if_pos c3, if_pos c3]
                    by_cases c2 : j - 33 < q
                    · rw [if_pos c2, if_pos (show j - 33 < q + 1 by omega)]
                    · rw [if_neg c2, if_neg (show ¬ j - 33 < q + 1 by omega)]
                  · rw [if_neg c3, if_neg c3, if_neg (show ¬ (40 ≤ j ∧ j < 47) by omega), if_neg (show ¬ (40 ≤ j ∧ j < 47) by omega), if_neg (show ¬ 47 ≤ j by omega), if_neg (show ¬ 47 ≤ j by omega)]
    · show K2 69 i = (cs.getD i (0, 0, 0)).2.2
      rw [hp.2 69 i (by decide)]
      by_cases he : i = q
      · subst he; rw [k_up_same]
      · rw [k_up_oth (by omega), k_up_oth (by omega)]
        exact e2 i (by omega)
    · show K2 b k = J b k
      rw [hp.2 b k hb2, k_up_oth (fun z => hb1 z.1), k_up_oth (fun z => hb2 z.1)]
      exact e3 b k hb1 hb2
  · intro x hx
    obtain ⟨v, K⟩ := x
    obtain ⟨e0, e1, e2, e3⟩ := hx
    dsimp only at e0 e1 e2 e3
    subst e0
    dsimp only
    unfold f_X5_house_L102_b
    rw [List.take_length] at e1
    rw [e3 63 4 (by decide) (by decide), h4, if_pos (by rw [nI_leI (by omega) (by omega)]; omega)]
    refine Ho_let_i.mpr ?_
    rw [Ho_map_i]
    refine M_houseK.mono (fun t ht => ?_)
    refine ⟨?_, fun j hj => ?_, fun i hi => ?_, ?_, ht.2.1, fun b k hb1 hb2 hb3 hb4 => ?_⟩
    · rw [ht.1, k_up_oth (by omega), e3 63 4 (by decide) (by decide)]; exact h4
    · rw [ht.2.2 70 _ (by decide), k_up_oth (by omega)]; exact e1 j hj
    · rw [ht.2.2 69 _ (by decide), k_up_oth (by omega), nf_47]; exact e2 i hi
    · rw [ht.2.2 63 11 (by decide), k_up_same]
    · rw [ht.2.2 b k hb3, k_up_oth hb4]; exact e3 b k hb1 hb2
theorem M_houseZ {J : StI} {r : Int32} {cs : List Dd} (hl : cs.length ≤ 7) (h4 : J 63 4 = nI cs.length) (hk : RK J r cs) : Ho (f_X5_house_L62 k_fu 0 J) (fun t => t.1 = nI cs.length ∧ HM t.2 70 0 (nf r cs) ∧ RM t.2 (nf r cs) cs.length ∧ t.2 63 11 = 0 ∧ (∀ p, p < 3 → t.2 75 p = 0) ∧ ∀ b k, b ≠ 69 → b ≠ 70 → b ≠ 75 → ¬ (b = 63 ∧ k = 11) → t.2 b k = J b k) := by
  unfold f_X5_house_L62
  refine Ho_loop0 (fun q x => x.1 = nI q ∧ (∀ j, j < q → x.2 70 j = 0) ∧ ∀ b k, b ≠ 70 → x.2 b k = J b k) 40 (by decide) ?_ ?_ _ ⟨rfl, fun i hi => absurd hi (by omega), fun _ _ _ => rfl⟩
  · intro q x hq hx
    obtain ⟨v, K⟩ := x
    obtain ⟨e0, e1, e3⟩ := hx
    dsimp only at e0 e1 e3
    subst e0
    dsimp only
    unfold f_X5_house_L62_b
    rw [if_neg (by rw [show (40 : Int32) = nI 40 from rfl, nI_leI (by omega) (by omega)]; omega), gd_n hq (by decide), cl_n (by omega)]
    unfold k_let
    rw [nI_1]
    refine Ho_s ⟨rfl, fun j hj => ?_, fun b k hb => ?_⟩
    · show k_up K 70 q 0 70 j = 0
      by_cases he : j = q
      · subst he; rw [k_up_same]
      · rw [k_up_oth (by omega)]; exact e1 j (by omega)
    · show k_up K 70 q 0 b k = J b k
      rw [k_up_oth (fun z => hb z.1)]; exact e3 b k hb
  · intro x hx
    obtain ⟨v, K⟩ := x
    obtain ⟨e0, e1, e3⟩ := hx
    dsimp only at e0 e1 e3
    subst e0
    dsimp only
    unfold f_X5_house_L62_b
    rw [if_pos (by decide), g_3, n_3]
    refine Ho_let_i.mpr ?_
    rw [g_4, n_4, k_up_oth (show ¬ (63 = 70 ∧ 19 = 3) by omega), e3 63 19 (by decide), hk.1]
    refine Ho_let_i.mpr ?_
    rw [Ho_map_i]
    have o1 : ∀ b k, b ≠ 70 → k_up (k_up K 70 3 255) 70 4 r b k = J b k := fun b k hb => by rw [k_up_oth (fun z => hb z.1), k_up_oth (fun z => hb z.1)]; exact e3 b k hb
    refine (M_houseC (r := r) (cs := cs) hl ((o1 63 4 (by decide)).trans h4) (fun j hj => ?_) ⟨(o1 63 19 (by decide)).trans hk.1, (o1 63 20 (by decide)).trans hk.2.1, fun i hi => ?_⟩).mono (fun t ht => ?_)
    · rw [Nat.zero_add]
      by_cases j4 : j = 4
      · subst j4; rw [k_up_same]; rfl
      · rw [k_up_oth (by omega)]
        by_cases j3 : j = 3
        · subst j3; rw [k_up_same]; rfl
        · rw [k_up_oth (by omega), e1 j hj]
          unfold nf
          rw [if_neg j3, if_neg j4]
          repeat' split
          all_goals rfl
    · rw [o1 77 i (by decide), o1 78 _ (by decide), o1 78 _ (by decide)]
      exact hk.2.2 i hi
    · exact ⟨ht.1, ht.2.1, ht.2.2.1, ht.2.2.2.1, ht.2.2.2.2.1, fun b k h1 h2 h3 h4 => (ht.2.2.2.2.2 b k h1 h2 h3 h4).trans (o1 b k h2)⟩
theorem k_H15' : k_isH 15 := k_H15
theorem L_house {I : StI} {L : StL} (h : Rel I L) (v1 : Int32) : Sm (f_X4_house v1 I) (f_X5_house v1) L := by
  by_cases hr : 0 ≤ v1.toInt ∧ v1.toInt < 4
  · obtain ⟨t, ht, rfl⟩ := i_in hr.1 (show v1.toInt < (4 : Nat) from hr.2)
    have n4 : ∀ {T : Type} {o : Option T}, k_gd (nI t) 4 o = o := gd_n ht (by decide)
    have c4 : (nI t).toNatClampNeg = t := cl_n (by omega)
    obtain ⟨a1, a2, a3⟩ := h.2.1 t ht
    rcases sz_cases (M := 60) a1 with hs | ⟨N, hN, hs⟩
    · refine Sm_found h 1 (by decide) (by decide) ?_ (fun J hJ => ?_)
      · unfold f_X4_house
        rw [C_isText, if_pos hr, Option.bind_some, if_neg (by decide), n4, c4, if_pos hs, bind_eta]
        rfl
      · unfold f_X5_house
        rw [M_isText, if_pos hr, Option.bind_some, if_neg (by decide), n4, c4, if_neg (by rw [hJ 66 t (by decide), a2, hs]; decide), bind_eta]
        rfl
    · have hm1 : ¬ nI N = -1 := by
        intro z
        have := congrArg Int32.toInt z
        rw [i_n (by omega), k_m1] at this
        omega
      have h66 : ∀ J : StI, (∀ b k, 63 ≤ b → J b k = I b k) → J 66 t = nI N := fun J hJ => by rw [hJ 66 t (by decide), a2]; exact hs
      have h67 : ∀ J : StI, (∀ b k, 63 ≤ b → J b k = I b k) → ∀ i, i < N → J 67 (60 * t + i) = I (k_tq t) i := fun J hJ i hi => by rw [hJ 67 _ (by decide)]; exact a3 i (by omega)
      by_cases hok : (rdT (I (k_tq t)) N).1 = -9
      · have hrv := rdS_rv (s := I (k_tq t)) (N := N) (N + 1) 0 0 [] (by omega) hN RV_0 hok
        generalize hrd : rdT (I (k_tq t)) N = R at hok
        have hrd' : rdS (I (k_tq t)) N (N + 1) 0 0 [] = R := hrd
        rw [hrd'] at hrv
        obtain ⟨R1, r, cs⟩ := R
        dsimp only at hok hrv
        obtain ⟨hrv, h2⟩ := hrv
        have hl := hrv.2.1
        have hgv := GV_nf hrv h2
        have hC : Ho (f_X4_house (nI t) I) (fun u => u.1 = nI cs.length ∧ (HC u.2 15 (nf r cs) cs.length ∧ u.2 15 7 = 0) ∧ (HC u.2 24 (nf r cs) cs.length ∧ u.2 24 7 = 0) ∧ u.2 42 3 = 0 ∧ (∀ p, p < 3 → u.2 (k_dq p) 3 = -1) ∧ ∀ b k, ¬ sC 33 b → ¬ sC 15 b → ¬ sC 24 b → b ≠ 42 → ¬ (51 ≤ b ∧ b ≤ 62) → u.2 b k = I b k) := by
          unfold f_X4_house
          rw [C_isText, if_pos hr]
          refine Ho_b1 (Ho_n0 ?_)
          rw [n4, c4, hs, if_neg hm1, n4, n4]
          refine Ho_bm (C_reads (s := I (k_tq t)) ht hN (fun _ _ => rfl)) (fun u hu => ?_)
          rw [hrd] at hu
          obtain ⟨u1, u2, u3⟩ := hu
          dsimp only at u1 u3
          have u1' : u.1 = -9 := u1.trans hok
          have hch := u3 u1'
          have hHC := HC_nf hch hl
          rw [if_pos u1']
          refine Ho_bm (C_become (h := 15) (g := 33) k_H15 k_H33 (by decide) hl hHC) (fun J1 hp1 => ?_)
          have hHC1 : HC J1 33 (nf r cs) cs.length := hHC.ag hl (fun b k hb => hp1.2.2 b k (by unfold sC at hb ⊢; omega))
          have h337 : u.2 33 7 = 0 := hch.2.2.2.2.2.2
          refine Ho_bm (C_become (h := 24) (g := 33) k_H24 k_H33 (by decide) hl hHC1) (fun J2 hp2 => ?_)
          refine Ho_let_i.mpr ?_
          refine (C_houseK (n := cs.length) (by rw [k_up_oth (by omega)]; exact hp2.1.1)).mono (fun w hw => ?_)
          have o2 : ∀ b k, ¬ (51 ≤ b ∧ b ≤ 62) → b ≠ 42 → w.2 b k = J2 b k := fun b k h1 h2 => by rw [hw.2.2 b k h1, k_up_oth (fun z => h2 z.1)]
          refine ⟨hw.1, ⟨hp1.1.ag hl (fun b k hb => ?_), ?_⟩, ⟨hp2.1.ag hl (fun b k hb => ?_), ?_⟩, ?_, hw.2.1, fun b k b1 b2 b3 b4 b5 => ?_⟩
          · rw [o2 b k (by unfold sC at hb; omega) (by unfold sC at hb; omega)]
            exact hp2.2.2 b k (by unfold sC at hb ⊢; omega)
          · rw [o2 15 7 (by omega) (by omega), hp2.2.2 15 7 (by unfold sC; omega), hp1.2.1]; exact h337
          · exact o2 b k (by unfold sC at hb; omega) (by unfold sC at hb; omega)
          · rw [o2 24 7 (by omega) (by omega), hp2.2.1, hp1.2.2 33 7 (by unfold sC; omega)]; exact h337
          · rw [hw.2.2 42 3 (by omega), k_up_same]
          · rw [o2 b k b5 b4, hp2.2.2 b k b3, hp1.2.2 b k b2]; exact u2 b k b1
        refine hC.mono (fun w hw => ?_)
        obtain ⟨w1, w2, w3, w4, w5, w6⟩ := hw
        have hJ : ∀ b k, 63 ≤ b → w.2 b k = I b k := fun b k hb => w6 b k (by unfold sC; omega) (by unfold sC; omega) (by unfold sC; omega) (by omega) (by omega)
        have hM : Ho (f_X5_house (nI t) w.2) (fun u => u.1 = nI cs.length ∧ u.2 63 4 = nI cs.length ∧ KM u.2 68 (nf r cs) cs.length ∧ RM u.2 (nf r cs) cs.length ∧ HM u.2 70 0 (nf r cs) ∧ u.2 63 11 = 0 ∧ (∀ p, p < 3 → u.2 75 p = 0) ∧ ∀ b k, ¬ sMh b k → u.2 b k = w.2 b k) := by
          unfold f_X5_house
          rw [M_isText, if_pos hr]
          refine Ho_b1 (Ho_n0 ?_)
          rw [n4, c4, h66 _ hJ, if_pos (nI_ge0 (by omega))]
          refine Ho_bm (M_reads (s := I (k_tq t)) ht hN (h66 _ hJ) (h67 _ hJ)) (fun u hu => ?_)
          rw [hrd] at hu
          obtain ⟨u1, u2, u3⟩ := hu
          dsimp only at u1 u3
          have u1' : u.1 = -9 := u1.trans hok
          have hrk := u3 u1'
          rw [if_pos u1', hrk.2.1]
          refine Ho_let_i.mpr ?_
          refine Ho_bm (M_copies (a := 77) (b := 68) (i := 0) (j := 0) (m := 7) (by decide) (by decide) (by decide) (by decide) (by decide)) (fun J1 hp1 => ?_)
          have o1 : ∀ b k, b ≠ 68 → ¬ (b = 63 ∧ k = 4) → J1 b k = u.2 b k := fun b k h1 h2 => by rw [hp1.2 b k (fun z => h1 z.1), k_up_oth h2]
          have h4 : J1 63 4 = nI cs.length := by rw [hp1.2 63 4 (by omega), k_up_same]
          refine (M_houseZ (r := r) (cs := cs) hl h4 ⟨(o1 63 19 (by decide) (by decide)).trans hrk.1, (o1 63 20 (by decide) (by decide)).trans hrk.2.1, fun i hi => ?_⟩).mono (fun x hx => ?_)
          · rw [o1 77 i (by decide) (by omega), o1 78 _ (by decide) (by omega), o1 78 _ (by decide) (by omega)]
            exact hrk.2.2 i hi
          · obtain ⟨x1, x2, x3, x4, x5, x6⟩ := hx
            refine ⟨x1, ?_, fun i hi => ?_, x3, x2, x4, x5, fun b k hb => ?_⟩
            · rw [x6 63 4 (by decide) (by decide) (by decide) (by decide)]; exact h4
            · rw [x6 68 i (by decide) (by decide) (by decide) (by omega), nf_40 (by omega)]
              have := hp1.1 i (by omega)
              rw [Nat.zero_add] at this
              rw [this, k_up_oth (by omega)]
              exact (hrk.2.2 i hi).1
            · unfold sMh at hb
              rw [x6 b k (by omega) (by omega) (by omega) (by omega), o1 b k (by omega) (by omega)]
              exact u2 b k (by omega) (by omega)
        refine hM.mono (fun x hx => ?_)
        obtain ⟨x1, x2, x3, x4, x5, x6, x7, x8⟩ := hx
        have g : ∀ b k, ¬ sMh b k → ¬ sC 33 b → ¬ sC 15 b → ¬ sC 24 b → b ≠ 42 → ¬ (51 ≤ b ∧ b ≤ 62) → x.2 b k = I b k := fun b k h1 h2 h3 h4 h5 h6 => (x8 b k h1).trans (w6 b k h2 h3 h4 h5 h6)
        refine ⟨w1.trans x1.symm, h.1.ag (fun b k hb => ?_), h.2.1.ag (fun b k hb => ?_), h.2.2.1.ag (fun b k hb => ?_), cs.length, nf r cs, [], hgv, ⟨by decide, fun d hd => absurd hd (by simp), fun _ => rfl⟩, x2, x3, x4, ⟨w2.1.ag hl (fun b k hb => x8 b k (by unfold sC at hb; unfold sMh; omega)), (x8 15 7 (by unfold sMh; omega)).trans w2.2⟩, ⟨w3.1.ag hl (fun b k hb => x8 b k (by unfold sC at hb; unfold sMh; omega)), (x8 24 7 (by unfold sMh; omega)).trans w3.2⟩, x5, ⟨(x8 42 3 (by unfold sMh; omega)).trans w4, fun j hj => absurd hj (by show ¬ j < 0; omega)⟩, x6, fun d hd => absurd hd (by show ¬ d < 0; omega), fun p hp => Or.inl ⟨(x8 _ 3 (by unfold sMh k_dq; omega)).trans (w5 p hp), x7 p hp⟩, fun z => absurd z (by omega)⟩
        · unfold sRw at hb
          exact g b k (by unfold sMh; omega) (by unfold sC; omega) (by unfold sC; omega) (by unfold sC; omega) (by omega) (by omega)
        · unfold sTx at hb
          exact g b k (by unfold sMh; omega) (by unfold sC; omega) (by unfold sC; omega) (by unfold sC; omega) (by omega) (by omega)
        · unfold sTd at hb
          exact g b k (by unfold sMh; omega) (by unfold sC; omega) (by unfold sC; omega) (by unfold sC; omega) (by omega) (by omega)
      · refine Sm_aside h (-4) (I 0 9) ?_ (fun J hJ => ?_)
        · unfold f_X4_house
          rw [C_isText, if_pos hr]
          refine Ho_b1 (Ho_n0 ?_)
          rw [n4, c4, hs, if_neg hm1, n4, n4]
          refine Ho_bm (C_reads (s := I (k_tq t)) ht hN (fun _ _ => rfl)) (fun u hu => ?_)
          rw [if_neg (by rw [hu.1]; exact hok)]
          exact Ho_s ⟨rfl, hu.2.1 0 9 (by unfold sC; omega), fun b k hb1 hb2 => hu.2.1 b k (by unfold sCs at hb1; unfold sC; omega)⟩
        · unfold f_X5_house
          rw [M_isText, if_pos hr]
          refine Ho_b1 (Ho_n0 ?_)
          rw [n4, c4, h66 J hJ, if_pos (nI_ge0 (by omega))]
          refine Ho_bm (M_reads (s := I (k_tq t)) ht hN (h66 J hJ) (h67 J hJ)) (fun u hu => ?_)
          rw [if_neg (by rw [hu.1]; exact hok)]
          refine Ho_s ⟨rfl, ?_, fun b k hb1 hb2 => hu.2.1 b k (by unfold sMs at hb1; omega) (by unfold sMs at hb1; omega)⟩
          show u.2 63 14 = I 0 9
          rw [hu.2.1 63 14 (by omega) (by omega), hJ 63 14 (by decide)]
          exact h.2.2.1.1
  · refine Sm_same h (-1) ?_ ?_
    · unfold f_X4_house
      rw [C_isText, if_neg hr, Option.bind_some, if_pos rfl]
    · unfold f_X5_house
      rw [M_isText, if_neg hr, Option.bind_some, if_pos rfl]
