/-! undo, keep, on -/
theorem DL_take {n k : Nat} {ds : List Dd} (h : DL n ds) : DL n (ds.take k) := by
  refine ⟨?_, fun x hx => h.2.1 x (List.mem_of_mem_take hx), fun z => ?_⟩
  · rw [List.length_take]
    have := h.1
    omega
  · rw [h.2.2 z]
    exact List.take_nil
theorem rep_take {n q : Nat} {es : List Dd} {fa : AH} (hq : q < es.length) : rep n (es.take (q + 1)) fa = dAp n (es.getD q (0, 0, 0)) (rep n (es.take q) fa) := by
  rw [List.take_succ, List.getD_eq_getElem?_getD, List.getElem?_eq_getElem hq]
  exact rep_app
theorem getD_mem {q : Nat} {es : List Dd} (hq : q < es.length) : es.getD q (0, 0, 0) ∈ es := by
  rw [List.getD_eq_getElem?_getD, List.getElem?_eq_getElem hq]
  exact List.getElem_mem hq
theorem C_doAll {J : StI} {n : Nat} {fa : AH} {es : List Dd} (h1 : GV n 0 fa) (hl : DL n es) (hd : DC J 42 es) (hc : HC J 15 fa n) (h7 : J 15 7 = 0) : Ho (f_X4_doAllAgain J) (fun I' => HC I' 24 (rep n es fa) n ∧ I' 24 7 = 0 ∧ ∀ b k, ¬ sC 24 b → I' b k = J b k) := by
  have hn := h1.1.1
  have hl40 := hl.1
  unfold f_X4_doAllAgain
  refine Ho_bm (C_become (h := 24) (g := 15) k_H24 k_H15 (by decide) hn hc) (fun J1 hp => ?_)
  unfold f_X4_doAllAgain_L13
  refine Ho_loop0 (fun q x => x.1 = nI q ∧ HC x.2 24 (rep n (es.take q) fa) n ∧ x.2 24 7 = 0 ∧ ∀ b k, ¬ sC 24 b → x.2 b k = J b k) es.length (by omega) ?_ ?_ _ ⟨rfl, by rw [List.take_zero]; exact hp.1, by rw [← h7]; exact hp.2.1, hp.2.2⟩
  · intro q x hq hx
    obtain ⟨v, K⟩ := x
    obtain ⟨e0, e1, e2, e3⟩ := hx
    dsimp only at e0 e1 e2 e3
    subst e0
    dsimp only
    unfold f_X4_doAllAgain_L13_b
    have n40 : ∀ {T : Type} {o : Option T}, k_gd (nI q) 40 o = o := gd_n (by omega) (by decide)
    have hdq := hd.2 q hq
    have e43 : K 43 q = (es.getD q (0, 0, 0)).1 := by rw [e3 43 q (by unfold sC; omega), ← hdq]
    have e44 : K 44 q = (es.getD q (0, 0, 0)).2.1 := by rw [e3 44 q (by unfold sC; omega), ← hdq]
    have e45 : K 45 q = (es.getD q (0, 0, 0)).2.2 := by rw [e3 45 q (by unfold sC; omega), ← hdq]
    rw [e3 42 3 (by unfold sC; omega), hd.1, if_neg (by rw [nI_leI (by omega) (by omega)]; omega), n40, n40, n40, cl_n (by omega), e43, e44, e45]
    refine Ho_bm (C_carry (m := 40) (AV_rep h1 (DL_take hl)).1 (by decide) e1 e2 (hl.2.1 _ (getD_mem hq))) (fun K2 hp2 => ?_)
    unfold k_let
    rw [nI_1]
    refine Ho_s ⟨rfl, ?_, hp2.2.1, fun b k hb => (hp2.2.2 b k hb).trans (e3 b k hb)⟩
    rw [rep_take hq]
    exact hp2.1
  · intro x hx
    obtain ⟨v, K⟩ := x
    obtain ⟨e0, e1, e2, e3⟩ := hx
    dsimp only at e0 e1 e2 e3
    subst e0
    dsimp only
    unfold f_X4_doAllAgain_L13_b
    rw [e3 42 3 (by unfold sC; omega), hd.1, if_pos (by rw [nI_leI (by omega) (by omega)]; omega)]
    rw [List.take_length] at e1
    exact Ho_s ⟨e1, e2, e3⟩
theorem L_undo {I : StI} {L : StL} (h : Rel I L) (v1 : Int32) : Sm (f_X4_undo v1 I) (f_X5_undo v1) L := by
  obtain ⟨n, fa, ds, hx⟩ := h.2.2.2
  have hca := hx.ca
  have hl := hx.2.1
  have hl40 := hl.1
  have hn := hx.1.1.1
  have h42 : I 42 3 = nI ds.length := hca.1.1
  have h11 : I 63 11 = nI ds.length := (hx.ma (J := I) (fun _ _ _ => rfl)).2.2.1
  have min : f_X5_in v1.toInt64 (0 : Int64) (nI ds.length).toInt64 = some (if 0 ≤ v1.toInt ∧ v1.toInt ≤ ds.length then 1 else 0) := by
    rw [show (0 : Int64) = (0 : Int32).toInt64 from rfl, in_i, i_n (by omega)]
    rfl
  by_cases h2 : 0 ≤ v1.toInt ∧ v1.toInt ≤ ds.length
  · obtain ⟨k, hk, rfl⟩ := i_in (n := ds.length + 1) h2.1 (by omega)
    have hlen : (ds.take k).length = k := by rw [List.length_take]; omega
    refine Sm_deeds h hx (DL_take (k := k) hl) (nI (ds.length - k)) ?_ (fun J hJ => ?_)
    · unfold f_X4_undo
      rw [h42, if_neg (nI_pos (by omega)), if_pos (by rw [nI_leI (by omega) (by omega)]; omega), pk_sub (by omega)]
      refine Ho_let_i.mpr (Ho_let_i.mpr ?_)
      have hd' : DC (k_up I 42 3 (nI k)) 42 (ds.take k) := by
        refine ⟨by rw [k_up_same, hlen], fun j hj => ?_⟩
        rw [k_up_oth (by omega), k_up_oth (by omega), k_up_oth (by omega), hca.1.2 j (by omega), List.getD_eq_getElem?_getD, List.getD_eq_getElem?_getD, List.getElem?_take, if_pos (by omega)]
      have hc15 : HC (k_up I 42 3 (nI k)) 15 fa n := by
        obtain ⟨x1, x2, x3, x4, x5, x6, x7⟩ := hx
        exact x6.1.ag hn (fun b k' hb => k_up_oth (by unfold sC at hb; omega))
      have h157 : k_up I 42 3 (nI k) 15 7 = 0 := by
        obtain ⟨x1, x2, x3, x4, x5, x6, x7⟩ := hx
        rw [k_up_oth (by omega)]; exact x6.2
      refine Ho_bm (C_doAll hx.1 (DL_take hl) hd' hc15 h157) (fun I2 hp => Ho_s ⟨rfl, ?_, hp.1, hp.2.1, fun b k' hb => ?_⟩)
      · exact hd'.ag (fun b k' b1 b2 => hp.2.2 b k' (by unfold sC; omega))
      · show I2 b k' = I b k'
        rw [hp.2.2 b k' (fun z => hb (Or.inl z)), k_up_oth (fun z => hb (Or.inr (by omega)))]
    · obtain ⟨m1, m2, m3, m4⟩ := hx.ma hJ
      have h11' : J 63 11 = nI ds.length := by rw [hJ 63 11 (by decide)]; exact h11
      unfold f_X5_undo f_X5_undo_j45
      rw [h11', min, if_pos h2]
      refine Ho_b1 (Ho_n0 ?_)
      rw [pk_sub (by omega)]
      refine Ho_let_i.mpr ?_
      by_cases he : k = ds.length
      · subst he
        rw [if_pos (by rw [Nat.sub_self]; decide), List.take_length]
        have o1 : ∀ b k, ¬ (b = 63 ∧ k = 11) → k_up J 63 11 (nI ds.length) b k = J b k := fun b k hb => k_up_oth hb
        exact Ho_s ⟨rfl, m1.ag (fun k => o1 70 k (by omega)), fun d hd => (m2 d hd).ag (fun k => o1 73 k (by omega)), (show k_up J 63 11 (nI ds.length) 63 11 = nI ds.length from k_up_same), fun b k hb => o1 b k (by unfold sMd at hb; omega)⟩
      · rw [if_neg (nI_nle (by omega) (by omega)), show (40 : Int32) * nI k = nI (40 * k) by rw [show (40 : Int32) = nI 40 from rfl, pk_mul]]
        refine Ho_bm (M_copies (a := 73) (b := 70) (i := 40 * k) (j := 0) (m := 40) (by decide) (by show 40 * k + 40 ≤ 1600; omega) (by decide) (by decide) (by decide)) (fun J2 hp => ?_)
        refine Ho_s ⟨rfl, fun j hj => ?_, fun d hd j hj => ?_, ?_, fun b k' hb => ?_⟩
        · show k_up J2 63 11 (nI k) 70 (0 + j) = _
          rw [k_up_oth (by omega), hp.1 j hj]
          exact m2 k (by omega) j hj
        · show k_up J2 63 11 (nI k) 73 (40 * d + j) = _
          rw [hlen] at hd
          rw [k_up_oth (by omega), hp.2 73 _ (by omega), List.take_take, Nat.min_eq_left (by omega)]
          exact m2 d (by omega) j hj
        · show k_up J2 63 11 (nI k) 63 11 = _
          rw [k_up_same, hlen]
        · show k_up J2 63 11 (nI k) b k' = J b k'
          unfold sMd at hb
          rw [k_up_oth (by omega), hp.2 b k' (by omega)]
  · refine Sm_same h (-1) ?_ ?_
    · unfold f_X4_undo
      by_cases q : v1 < 0
      · rw [if_pos q]
      · rw [if_neg q, if_neg (by rw [h42, i_le, i_n (by omega)]; rw [i_lt] at q; simp only [Int32.reduceToInt] at q; omega)]
    · unfold f_X5_undo
      rw [h11, min, if_neg h2, Option.bind_some, if_pos rfl]
theorem C_becomeD {q r : Nat} {I : StI} {ds : List Dd} (hqr : q + 4 ≤ r ∨ r + 4 ≤ q) (hl : ds.length ≤ 40) (hd : DC I r ds) : Ho (f_X2_become q r I) (fun I' => DC I' q ds ∧ ∀ b k, ¬ (q ≤ b ∧ b ≤ q + 3) → I' b k = I b k) := by
  obtain ⟨d1, d2⟩ := hd
  unfold f_X2_become
  rw [d1]
  refine Ho_let_i.mpr ?_
  unfold f_X2_become_L10
  refine Ho_loop0 (fun t x => x.1 = nI t ∧ x.2 q 3 = nI ds.length ∧ (∀ j, j < t → (x.2 (q + 1) j, x.2 (q + 2) j, x.2 (q + 3) j) = ds.getD j (0, 0, 0)) ∧ ∀ b k, ¬ (q ≤ b ∧ b ≤ q + 3) → x.2 b k = I b k) ds.length (by omega) ?_ ?_ _ ⟨rfl, k_up_same, fun j hj => absurd hj (by omega), fun b k hb => k_up_oth (by omega)⟩
  · intro t x ht hx
    obtain ⟨v, K⟩ := x
    obtain ⟨e0, e1, e2, e3⟩ := hx
    dsimp only at e0 e1 e2 e3
    subst e0
    dsimp only
    unfold f_X2_become_L10_b
    have n40 : ∀ {T : Type} {o : Option T}, k_gd (nI t) 40 o = o := gd_n (by omega) (by decide)
    have o1 : ∀ {M : StI} {a b k k' : Nat} {v : Int32}, a ≤ 3 → b ≤ 3 → k_up M (q + a) k v (r + b) k' = M (r + b) k' := fun {M a b k k' v} ha hb => k_up_oth (by omega)
    have hg := d2 t ht
    have g1 : K (r + 1) t = (ds.getD t (0, 0, 0)).1 := by rw [e3 _ _ (by omega), ← hg]
    have g2 : K (r + 2) t = (ds.getD t (0, 0, 0)).2.1 := by rw [e3 _ _ (by omega), ← hg]
    have g3 : K (r + 3) t = (ds.getD t (0, 0, 0)).2.2 := by rw [e3 _ _ (by omega), ← hg]
    rw [e1, if_neg (by rw [nI_leI (by omega) (by omega)]; omega)]
    simp only [k_let, n40, cl_n (show t < 2147483648 by omega), o1 (show 1 ≤ 3 by decide) (show 2 ≤ 3 by decide), o1 (show 1 ≤ 3 by decide) (show 3 ≤ 3 by decide), o1 (show 2 ≤ 3 by decide) (show 3 ≤ 3 by decide), g1, g2, g3, nI_1]
    refine Ho_s ⟨rfl, ?_, fun j hj => ?_, fun b k hb => ?_⟩
    · show k_up (k_up (k_up K (q + 1) t _) (q + 2) t _) (q + 3) t _ q 3 = _
      rw [k_up_oth (by omega), k_up_oth (by omega), k_up_oth (by omega)]; exact e1
    · show (k_up (k_up (k_up K (q + 1) t _) (q + 2) t _) (q + 3) t _ (q + 1) j, k_up (k_up (k_up K (q + 1) t _) (q + 2) t _) (q + 3) t _ (q + 2) j, k_up (k_up (k_up K (q + 1) t _) (q + 2) t _) (q + 3) t _ (q + 3) j) = _
      by_cases he : j = t
      · subst he
        rw [k_up_oth (by omega), k_up_oth (by omega), k_up_same, k_up_oth (i := q + 2) (by omega), k_up_same, k_up_same]
      · rw [k_up_oth (by omega), k_up_oth (by omega), k_up_oth (by omega), k_up_oth (i := q + 2) (by omega), k_up_oth (i := q + 2) (by omega), k_up_oth (i := q + 2) (by omega), k_up_oth (i := q + 3) (by omega), k_up_oth (i := q + 3) (by omega), k_up_oth (i := q + 3) (by omega)]
        exact e2 j (by omega)
    · show k_up (k_up (k_up K (q + 1) t _) (q + 2) t _) (q + 3) t _ b k = _
      rw [k_up_oth (by omega), k_up_oth (by omega), k_up_oth (by omega)]
      exact e3 b k hb
  · intro x hx
    obtain ⟨v, K⟩ := x
    obtain ⟨e0, e1, e2, e3⟩ := hx
    dsimp only at e0 e1 e2 e3
    subst e0
    dsimp only
    unfold f_X2_become_L10_b
    rw [e1, if_pos (by rw [nI_leI (by omega) (by omega)]; omega)]
    exact Ho_s ⟨⟨e1, e2⟩, e3⟩
theorem C_isKept (v : Int32) : f_X4_isKeptPlace v = some (if 0 ≤ v.toInt ∧ v.toInt ≤ 2 then 1 else 0) := by
  unfold f_X4_isKeptPlace
  simp only [i_lt, i_le, Int32.reduceToInt]
  repeat' split
  all_goals first | rfl | omega
theorem M_isPlace (v : Int32) : f_X5_isPlace v = some (if 0 ≤ v.toInt ∧ v.toInt ≤ 2 then 1 else 0) := by
  unfold f_X5_isPlace
  rw [show (0 : Int64) = (0 : Int32).toInt64 from rfl, show (2 : Int64) = (2 : Int32).toInt64 from rfl, in_i]
  simp only [Option.bind_some, k_bo, Int32.reduceToInt]
  repeat' split
  all_goals first | rfl | omega | simp_all
theorem mul1641 {p : Nat} : (1641 : Int32) * nI p = nI (1641 * p) := by rw [show (1641 : Int32) = nI 1641 from rfl, pk_mul]
theorem L_on {I : StI} {L : StL} (h : Rel I L) (v1 : Int32) : Sm (f_X4_on v1 I) (f_X5_on v1) L := by
  obtain ⟨n, fa, ds, hx⟩ := h.2.2.2
  have hn := hx.1.1.1
  by_cases h2 : 0 ≤ v1.toInt ∧ v1.toInt ≤ 2
  · obtain ⟨p, hp, rfl⟩ := i_in (n := 3) h2.1 (by omega)
    have n3 : ∀ {T : Type} {o : Option T}, k_gd (nI p) 3 o = o := gd_n hp (by decide)
    have c3 : (nI p).toNatClampNeg = p := cl_n (by omega)
    have hkp : Kp I n fa p := by
      obtain ⟨x1, x2, x3, x4, x5, x6, x7, x8, x9, x10, x11, x12, x13⟩ := hx
      exact x12 p hp
    rcases hkp with ⟨k1, k2⟩ | ⟨es, e1, e2, e3, e4, e5, e6, e7⟩
    · refine Sm_found h 1 (by decide) (by decide) ?_ (fun J hJ => ?_)
      · unfold f_X4_on
        rw [C_isKept, if_pos h2, Option.bind_some, if_neg (by decide), n3, c3, if_pos k1, bind_eta]
        rfl
      · unfold f_X5_on
        rw [M_isPlace, if_pos h2, Option.bind_some, if_neg (by decide), n3, c3, if_pos (by rw [hJ 75 p (by decide)]; exact k2), bind_eta]
        rfl
    · have hel := e1.1
      refine Sm_deeds h hx e1 (nI es.length) ?_ (fun J hJ => ?_)
      · unfold f_X4_on
        rw [C_isKept, if_pos h2]
        refine Ho_b1 (Ho_n0 ?_)
        rw [n3, c3, e3.1, if_neg (by
          intro z
          have := congrArg Int32.toInt z
          rw [i_n (by omega), k_m1] at this
          omega), n3]
        refine Ho_bm (C_becomeD (q := 42) (r := k_dq p) (by unfold k_dq; omega) hel e3) (fun J1 hp1 => ?_)
        have hc15 : HC J1 15 fa n ∧ J1 15 7 = 0 := by
          obtain ⟨x1, x2, x3, x4, x5, x6, x7⟩ := hx
          exact ⟨x6.1.ag hn (fun b k' hb => hp1.2 b k' (by unfold sC at hb; omega)), by rw [hp1.2 15 7 (by omega)]; exact x6.2⟩
        refine Ho_bm (C_doAll hx.1 e1 hp1.1 hc15.1 hc15.2) (fun J2 hp2 => ?_)
        have hd2 : DC J2 42 es := hp1.1.ag (fun b k' b1 b2 => hp2.2.2 b k' (by unfold sC; omega))
        refine Ho_s ⟨hd2.1, hd2, hp2.1, hp2.2.1, fun b k' hb => ?_⟩
        show J2 b k' = I b k'
        rw [hp2.2.2 b k' (fun z => hb (Or.inl z)), hp1.2 b k' (fun z => hb (Or.inr (by omega)))]
      · unfold f_X5_on
        rw [M_isPlace, if_pos h2]
        refine Ho_b1 (Ho_n0 ?_)
        rw [n3, c3, if_neg (by rw [hJ 75 p (by decide), e4]; decide), mul1641]
        refine Ho_bm (M_copies (a := 74) (b := 70) (i := 1641 * p) (j := 0) (m := 40) (by decide) (by show 1641 * p + 40 ≤ 4923; omega) (by decide) (by decide) (by decide)) (fun J1 hp1 => ?_)
        rw [show (40 : Int32) = nI 40 from rfl, nI_add, nI_1, gd_n (by omega) (by decide), cl_n (by omega)]
        refine Ho_let_i.mpr ?_
        have e74 : J1 74 (1641 * p + 40) = nI es.length := by rw [hp1.2 74 _ (by omega), hJ 74 _ (by decide)]; exact e5
        rw [e74]
        refine Ho_bm (M_copies (a := 74) (b := 73) (i := 1641 * p + 40 + 1) (j := 0) (m := 1600) (by decide) (by show 1641 * p + 40 + 1 + 1600 ≤ 4923; omega) (by decide) (by decide) (by decide)) (fun J2 hp2 => ?_)
        have h63 : J2 63 11 = nI es.length := by rw [hp2.2 63 11 (by omega), k_up_same]
        refine Ho_s ⟨h63, fun j hj => ?_, fun d hd j hj => ?_, h63, fun b k' hb => ?_⟩
        · show J2 70 (0 + j) = _
          rw [hp2.2 70 _ (by omega), k_up_oth (by omega), hp1.1 j hj, hJ 74 _ (by decide)]
          exact e6 j hj
        · show J2 73 (40 * d + j) = _
          have := hp2.1 (40 * d + j) (by omega)
          rw [Nat.zero_add] at this
          rw [this, k_up_oth (by omega), hp1.2 74 _ (by omega), hJ 74 _ (by decide)]
          have := e7 d hd j hj
          rw [← this]
          congr 1
          omega
        · show J2 b k' = J b k'
          unfold sMd at hb
          rw [hp2.2 b k' (by omega), k_up_oth (by omega), hp1.2 b k' (by omega)]
  · refine Sm_same h (-1) ?_ ?_
    · unfold f_X4_on
      rw [C_isKept, if_neg h2, Option.bind_some, if_pos rfl]
    · unfold f_X5_on
      rw [M_isPlace, if_neg h2, Option.bind_some, if_pos rfl]
theorem L_keep {I : StI} {L : StL} (h : Rel I L) (v1 : Int32) : Sm (f_X4_keep v1 I) (f_X5_keep v1) L := by
  obtain ⟨n, fa, ds, hx⟩ := h.2.2.2
  obtain ⟨hg, hc, h7, hm, h4, hk, hrm, -⟩ := hx.vw
  have hn := hg.1.1
  have hl := hx.2.1
  have hl40 := hl.1
  have hca := hx.ca
  by_cases h2 : 0 ≤ v1.toInt ∧ v1.toInt ≤ 2
  · by_cases h0 : n = 0
    · subst h0
      refine Sm_same h (-4) ?_ ?_
      · unfold f_X4_keep
        rw [C_isKept, if_pos h2, Option.bind_some, if_neg (by decide), if_pos (by rw [hc.1]; rfl)]
      · unfold f_X5_keep
        rw [M_isPlace, if_pos h2, Option.bind_some, if_neg (by decide), if_pos (by rw [h4]; rfl)]
    · obtain ⟨p, hp, rfl⟩ := i_in (n := 3) h2.1 (by omega)
      have n3 : ∀ {T : Type} {o : Option T}, k_gd (nI p) 3 o = o := gd_n hp (by decide)
      have c3 : (nI p).toNatClampNeg = p := cl_n (by omega)
      have hC : Ho (f_X4_keep (nI p) I) (fun t => t.1 = nI ds.length ∧ DC t.2 (k_dq p) ds ∧ ∀ b k, ¬ (k_dq p ≤ b ∧ b ≤ k_dq p + 3) → t.2 b k = I b k) := by
        unfold f_X4_keep
        rw [C_isKept, if_pos h2]
        refine Ho_b1 (Ho_n0 ?_)
        rw [if_neg (by rw [hc.1]; exact k_ne0 (by omega) (by omega)), n3, c3]
        refine Ho_bm (C_becomeD (q := k_dq p) (r := 42) (by unfold k_dq; omega) hl40 hca.1) (fun J1 hp1 => Ho_s ⟨?_, hp1.1, hp1.2⟩)
        show J1 42 3 = _
        rw [hp1.2 42 3 (by unfold k_dq; omega)]
        exact hca.1.1
      refine hC.mono (fun t ht => ?_)
      obtain ⟨t1, t2, t3⟩ := ht
      have hJ : ∀ b k, 63 ≤ b → t.2 b k = I b k := fun b k hb => t3 b k (by unfold k_dq; omega)
      obtain ⟨m1, m2, m3, m4⟩ := hx.ma hJ
      have hM : Ho (f_X5_keep (nI p) t.2) (fun u => u.1 = nI ds.length ∧ u.2 75 p = 1 ∧ u.2 74 (1641 * p + 40) = nI ds.length ∧ HM u.2 74 (1641 * p) (rep n ds fa) ∧ (∀ d, d < ds.length → HM u.2 74 (1641 * p + 41 + 40 * d) (rep n (ds.take d) fa)) ∧ (∀ b k, ¬ (b = 74 ∧ 1641 * p ≤ k ∧ k < 1641 * p + 1641) → ¬ (b = 75 ∧ k = p) → u.2 b k = t.2 b k)) := by
        unfold f_X5_keep
        rw [M_isPlace, if_pos h2]
        refine Ho_b1 (Ho_n0 ?_)
        rw [if_neg (by rw [hJ 63 4 (by decide), h4]; exact k_ne0 (by omega) (by omega)), mul1641]
        refine Ho_bm (M_copies (a := 70) (b := 74) (i := 0) (j := 1641 * p) (m := 40) (by decide) (by decide) (by show 1641 * p + 40 ≤ 4923; omega) (by decide) (by decide)) (fun J1 hp1 => ?_)
        rw [show (40 : Int32) = nI 40 from rfl, nI_add, nI_1, gd_n (by omega) (by decide), cl_n (by omega)]
        refine Ho_let_i.mpr ?_
        have e63 : J1 63 11 = nI ds.length := by rw [hp1.2 63 11 (by omega)]; exact m3
        rw [e63]
        refine Ho_bm (M_copies (a := 73) (b := 74) (i := 0) (j := 1641 * p + 40 + 1) (m := 1600) (by decide) (by decide) (by show 1641 * p + 40 + 1 + 1600 ≤ 4923; omega) (by decide) (by decide)) (fun J2 hp2 => ?_)
        rw [n3, c3]
        refine Ho_let_i.mpr ?_
        refine Ho_s ⟨?_, ?_, ?_, fun j hj => ?_, fun d hd j hj => ?_, fun b k hb hb2 => ?_⟩
        · show k_up J2 75 p (vp_nar .boolean (1 : Int32)) 63 11 = _
          rw [k_up_oth (by omega), hp2.2 63 11 (by omega), k_up_oth (by omega)]; exact e63
        · show k_up J2 75 p (vp_nar .boolean (1 : Int32)) 75 p = _
          rw [k_up_same]; rfl
        · show k_up J2 75 p (vp_nar .boolean (1 : Int32)) 74 _ = _
          rw [k_up_oth (by omega), hp2.2 74 _ (by omega), k_up_same]
        · show k_up J2 75 p (vp_nar .boolean (1 : Int32)) 74 _ = _
          rw [k_up_oth (by omega), hp2.2 74 _ (by omega), k_up_oth (by omega), hp1.1 j hj]
          exact m1 j hj
        · show k_up J2 75 p (vp_nar .boolean (1 : Int32)) 74 _ = _
          have := hp2.1 (40 * d + j) (by omega)
          rw [show 1641 * p + 40 + 1 + (40 * d + j) = 1641 * p + 41 + 40 * d + j by omega] at this
          rw [k_up_oth (by omega), this, Nat.zero_add, k_up_oth (by omega), hp1.2 73 _ (by omega)]
          exact m2 d hd j hj
        · show k_up J2 75 p (vp_nar .boolean (1 : Int32)) b k = t.2 b k
          rw [k_up_oth hb2, hp2.2 b k (by omega), k_up_oth (by omega), hp1.2 b k (by omega)]
      refine hM.mono (fun u hu => ?_)
      obtain ⟨u1, u2, u3, u4, u5, u6⟩ := hu
      have g : ∀ b k, ¬ (k_dq p ≤ b ∧ b ≤ k_dq p + 3) → b ≠ 74 → b ≠ 75 → u.2 b k = I b k := fun b k h1 h2 h3 => (u6 b k (fun z => h2 z.1) (fun z => h3 z.1)).trans (t3 b k h1)
      refine ⟨t1.trans u1.symm, h.1.ag (fun b k hb => ?_), h.2.1.ag (fun b k hb => ?_), h.2.2.1.ag (fun b k hb => ?_), n, fa, ds, ?_⟩
      · exact g b k (by unfold sRw at hb; unfold k_dq; omega) (by unfold sRw at hb; omega) (by unfold sRw at hb; omega)
      · exact g b k (by unfold sTx at hb; unfold k_dq; omega) (by unfold sTx at hb; omega) (by unfold sTx at hb; omega)
      · exact g b k (by unfold sTd at hb; unfold k_dq; omega) (by unfold sTd at hb; omega) (by unfold sTd at hb; omega)
      · obtain ⟨x1, x2, x3, x4, x5, x6, x7, x8, x9, x10, x11, x12, x13⟩ := hx
        refine ⟨x1, x2, ?_, fun i hi => ?_, fun i hi => ?_, ⟨x6.1.ag hn (fun b k hb => ?_), ?_⟩, ⟨x7.1.ag hn (fun b k hb => ?_), ?_⟩, x8.ag (fun k => ?_), x9.ag (fun b k b1 b2 => ?_), ?_, fun d hd => (x11 d hd).ag (fun k => ?_), fun q hq => ?_, x13⟩
        · rw [g 63 4 (by unfold k_dq; omega) (by decide) (by decide)]; exact x3
        · rw [g 68 i (by unfold k_dq; omega) (by decide) (by decide)]; exact x4 i hi
        · rw [g 69 i (by unfold k_dq; omega) (by decide) (by decide)]; exact x5 i hi
        · exact g b k (by unfold sC at hb; unfold k_dq; omega) (by unfold sC at hb; omega) (by unfold sC at hb; omega)
        · rw [g 15 7 (by unfold k_dq; omega) (by decide) (by decide)]; exact x6.2
        · exact g b k (by unfold sC at hb; unfold k_dq; omega) (by unfold sC at hb; omega) (by unfold sC at hb; omega)
        · rw [g 24 7 (by unfold k_dq; omega) (by decide) (by decide)]; exact x7.2
        · exact g 70 k (by unfold k_dq; omega) (by decide) (by decide)
        · exact g b k (by unfold k_dq; omega) (by omega) (by omega)
        · rw [g 63 11 (by unfold k_dq; omega) (by decide) (by decide)]; exact x10
        · exact g 73 k (by unfold k_dq; omega) (by decide) (by decide)
        · by_cases he : q = p
          · subst he
            exact Or.inr ⟨ds, x2, h0, t2.ag (fun b k b1 b2 => u6 b k (by unfold k_dq at b2; omega) (by unfold k_dq at b2; omega)), u2, u3, u4, u5⟩
          · have hb74 : ∀ k, 1641 * q ≤ k → k < 1641 * q + 1641 → u.2 74 k = I 74 k := fun k k1 k2 => (u6 74 k (by omega) (by omega)).trans (t3 74 k (by unfold k_dq; omega))
            have hb75 : u.2 75 q = I 75 q := (u6 75 q (by omega) (by omega)).trans (t3 75 q (by unfold k_dq; omega))
            have hbd : ∀ b k, k_dq q ≤ b → b ≤ k_dq q + 3 → u.2 b k = I b k := fun b k b1 b2 => g b k (by unfold k_dq at b1 b2 ⊢; omega) (by unfold k_dq at b2; omega) (by unfold k_dq at b2; omega)
            rcases x12 q hq with ⟨k1, k2⟩ | ⟨es, e1, e2, e3, e4, e5, e6, e7⟩
            · exact Or.inl ⟨by rw [hbd _ 3 (by omega) (by omega)]; exact k1, by rw [hb75]; exact k2⟩
            · have hel := e1.1
              exact Or.inr ⟨es, e1, e2, e3.ag hbd, by rw [hb75]; exact e4, by rw [hb74 _ (by omega) (by omega)]; exact e5, fun j hj => by rw [hb74 _ (by omega) (by omega)]; exact e6 j hj, fun d hd j hj => by rw [hb74 _ (by omega) (by omega)]; exact e7 d hd j hj⟩
  · refine Sm_same h (-1) ?_ ?_
    · unfold f_X4_keep
      rw [C_isKept, if_neg h2, Option.bind_some, if_pos rfl]
    · unfold f_X5_keep
      rw [M_isPlace, if_neg h2, Option.bind_some, if_pos rfl]
