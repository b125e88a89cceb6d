/-! what is found of a row that was seen; patterns -/
theorem seen_sim {I J : StI} {r : Nat} (h : Rw I) (hJ : ∀ b k, 63 ≤ b → J b k = I b k) (hr : r < 6) : ∃ j, j ≤ 5 ∧ f_X4_findingOfSeen (nI r) I = some (nI j) ∧ f_X5_seen (nI r) J = some (nI j) ∧ (j = 0 → ∃ K, 1 ≤ K ∧ K ≤ 20 ∧ I 8 r = nI K) := by
  obtain ⟨⟨z1, z2⟩, h64, h65⟩ := h r hr
  have n6 : ∀ {T : Type} {o : Option T}, k_gd (nI r) 6 o = o := gd_n hr (by decide)
  have c6 : (nI r).toNatClampNeg = r := cl_n (by omega)
  have e64 : J 64 r = I 8 r := (hJ 64 r (by decide)).trans h64
  have min : f_X5_in (I 8 r).toInt64 (1 : Int64) (20 : Int64) = some (if 1 ≤ (I 8 r).toInt ∧ (I 8 r).toInt ≤ 20 then 1 else 0) := by
    rw [show (1 : Int64) = (1 : Int32).toInt64 from rfl, show (20 : Int64) = (20 : Int32).toInt64 from rfl, in_i]
    rfl
  unfold f_X4_findingOfSeen f_X5_seen
  rw [n6, n6, c6, e64, n6, min]
  simp only [k_let, Option.bind_some]
  by_cases hm : (I 8 r).toInt = -1
  · have e : I 8 r = -1 := i_eq.mpr hm
    exact ⟨1, by decide, by rw [if_pos e]; rfl, by rw [if_neg (by rw [e]; decide)]; rfl, fun z => absurd z (by decide)⟩
  · rw [if_neg (fun z => hm (by rw [z]; rfl)), if_pos (show 0 ≤ I 8 r by rw [i_le]; simp only [Int32.reduceToInt]; omega)]
    by_cases hk : 1 ≤ (I 8 r).toInt ∧ (I 8 r).toInt ≤ 20
    · rw [if_neg (show ¬ I 8 r < 1 by rw [i_lt]; simp only [Int32.reduceToInt]; omega), if_pos (show I 8 r ≤ 20 by rw [i_le]; simp only [Int32.reduceToInt]; omega), if_pos hk, if_neg (by decide)]
      obtain ⟨K, hK, eK⟩ := i_in (n := 21) (x := I 8 r) (by omega) (by omega)
      rw [eK, i_n (by omega)] at hk
      have key := loop_rel0 (f := fun s => f_X4_findingOfSeen_L29_b (nI r) (I 8 r) s I) (g := fun s => f_X5_seen_L32_b (nI r) s J) (fun q s t => s = nI q ∧ t = nI q) (fun a b => a = b ∧ (a = 0 ∨ a = 3)) K (by omega) ?_ ?_ 0 0 ⟨rfl, rfl⟩
      · obtain ⟨x, y, k1, k2, k3, k4⟩ := key
        subst k3
        rcases k4 with rfl | rfl
        · exact ⟨0, by decide, k1, k2, fun _ => ⟨K, by omega, by omega, eK⟩⟩
        · exact ⟨3, by decide, k1, k2, fun z => absurd z (by decide)⟩
      · rintro q s t hq ⟨rfl, rfl⟩
        unfold f_X4_findingOfSeen_L29_b f_X5_seen_L32_b
        have min2 : f_X5_in (I (k_rq r) q).toInt64 (0 : Int64) (7 : Int64) = some (if 0 ≤ (I (k_rq r) q).toInt ∧ (I (k_rq r) q).toInt ≤ 7 then 1 else 0) := by
          rw [show (0 : Int64) = (0 : Int32).toInt64 from rfl, show (7 : Int64) = (7 : Int32).toInt64 from rfl, in_i]
          rfl
        have e65 : J 65 (40 * r + q) = I (k_rq r) q := (hJ 65 _ (by decide)).trans (h65 q (by omega))
        have n40 : ∀ {T : Type} {o : Option T}, k_gd (nI q) 40 o = o := gd_n (by omega) (by decide)
        simp only [n6, c6, e64, eK, n40, mul40, gd_n (show 40 * r + q < 240 by omega) (by decide), cl_n (show 40 * r + q < 2147483648 by omega), cl_n (show q < 2147483648 by omega), e65, min2, Option.bind_some, k_let, nI_1]
        have hl : ¬ nI K ≤ nI q := by rw [nI_leI (by omega) (by omega)]; omega
        simp only [hl, if_false]
        by_cases hv : 0 ≤ (I (k_rq r) q).toInt ∧ (I (k_rq r) q).toInt ≤ 7
        · left
          refine ⟨_, _, ?_, ?_, rfl, rfl⟩
          · rw [if_neg (by rw [i_lt]; simp only [Int32.reduceToInt]; omega), if_pos (by rw [i_le]; simp only [Int32.reduceToInt]; omega)]
          · rw [if_pos hv, if_neg (by decide)]
        · right
          refine ⟨3, 3, ?_, ?_, rfl, Or.inr rfl⟩
          · by_cases q0 : I (k_rq r) q < 0
            · rw [if_pos q0]
            · rw [if_neg q0, if_neg (by rw [i_lt] at q0; rw [i_le]; simp only [Int32.reduceToInt] at q0 ⊢; omega)]
          · rw [if_neg hv, if_pos rfl]
      · rintro s t ⟨rfl, rfl⟩
        unfold f_X4_findingOfSeen_L29_b f_X5_seen_L32_b
        have hl : nI K ≤ nI K := by rw [nI_leI (by omega) (by omega)]; omega
        simp only [n6, c6, e64, eK, hl, if_true]
        exact ⟨0, 0, rfl, rfl, rfl, Or.inl rfl⟩
    · refine ⟨5, by decide, ?_, ?_, fun z => absurd z (by decide)⟩
      · by_cases q : I 8 r < 1
        · rw [if_pos q]; rfl
        · rw [if_neg q, if_neg (by rw [i_lt] at q; rw [i_le]; simp only [Int32.reduceToInt] at q ⊢; omega)]; rfl
      · rw [if_neg hk, if_pos rfl]; rfl
theorem k_m1 : (-1 : Int32).toInt = -1 := by decide
def pPt (n K : Nat) (a : AH) (s : Nat → Int32) : Nat → Int32 × Int32
  | 0 => (0, 0)
  | q + 1 => if aSn n (upd a 3 (nI (255 - q))) s K = true then ((pPt n K a s q).1 + 1, nI (255 - q)) else pPt n K a s q
theorem C_patL {N : Nat} (hN : N = 256) {I : StI} {n r K : Nat} {a : AH} {s : Nat → Int32} (hg : AV n 40 a) (hc : HC I 24 a n) (h7 : I 24 7 = 0) (hr : r < 6) (hK : K ≤ 20) (h8 : I 8 r = nI K) (hs : ∀ i, i < K → I (k_rq r) i = s i) : Ho (f_X4_patterns_L48 (nI r) k_fu 0 0 255 I) (fun t => t.1 = (if (pPt n K a s N).1 = 0 then -9 else (pPt n K a s N).1) ∧ t.2 0 9 = (if (pPt n K a s N).1 = 0 then I 0 9 else (pPt n K a s N).2) ∧ CF I t.2) := by
  have hn := hg.1
  unfold f_X4_patterns_L48
  refine Ho_loop0 (fun q x => (x.1, x.2.1) = pPt n K a s q ∧ x.2.2.1.toInt = (255 : Int) - (q : Int) ∧ CF I x.2.2.2 ∧ x.2.2.2 0 9 = I 0 9) N (by omega) ?_ ?_ _ ⟨rfl, (by show (255 : Int32).toInt = (255 : Int) - ((0 : Nat) : Int); decide), fun _ _ _ _ => rfl, rfl⟩
  · intro q x hq hx
    obtain ⟨m, l, v, J⟩ := x
    obtain ⟨e0, e1, e2, e9⟩ := hx
    dsimp only at e0 e1 e2 e9
    obtain ⟨p, hp, rfl⟩ := i_in (n := 256) (x := v) (by omega) (by omega)
    rw [i_n (by omega)] at e1
    have hpq : p = 255 - q := by omega
    dsimp only
    unfold f_X4_patterns_L48_b
    rw [if_neg (by rw [i_lt, i_n (by omega)]; simp only [Int32.reduceToInt]; omega)]
    refine Ho_bm (C_lay hn hc h7 e2) (fun J1 hp1 => ?_)
    refine Ho_let_i.mpr ?_
    have hcf : CF I (k_up J1 33 3 (nI p)) := (CF.trans33 e2 hp1.2.2).up33 (Or.inl (by unfold sCs; omega))
    refine Ho_bm (C_goesAsSeen (s := s) (K := K) (AV_lo (v := nI p) hg (Or.inl rfl)) (by omega) (HC_pat hp1.1) (by rw [k_up_oth (by omega)]; exact hp1.2.1) hr (by omega) (by rw [hcf 8 r (by unfold sCs; omega) (by omega)]; exact h8) (fun i hi => by rw [hcf (k_rq r) i (by unfold sCs k_rq; omega) (by unfold k_rq; omega)]; exact hs i hi)) (fun t ht => ?_)
    obtain ⟨tv, tJ⟩ := t
    dsimp only at ht ⊢
    have hCF : CF I tJ := CF.trans33 hcf ht.2
    have h09 : tJ 0 9 = I 0 9 := by rw [ht.2 0 9 (by unfold sC; omega), k_up_oth (by omega), hp1.2.2 0 9 (by unfold sC; omega)]; exact e9
    have hv1 : (nI p + (-1 : Int32)).toInt = 255 - ((q + 1 : Nat) : Int) := by
      rw [i_add (by rw [i_n (by omega)]; simp only [k_m1]; omega) (by rw [i_n (by omega)]; simp only [k_m1]; omega), i_n (by omega)]
      simp only [k_m1]
      omega
    by_cases hA : aSn n (upd a 3 (nI p)) s K = true
    · rw [if_neg (by rw [ht.1, if_pos hA]; decide)]
      refine Ho_s ⟨?_, hv1, hCF, h09⟩
      show (m + 1, nI p) = if aSn n (upd a 3 (nI (255 - q))) s K = true then ((pPt n K a s q).1 + 1, nI (255 - q)) else pPt n K a s q
      rw [← hpq, if_pos hA, ← e0]
    · rw [if_pos (by rw [ht.1, if_neg hA])]
      refine Ho_s ⟨?_, hv1, hCF, h09⟩
      show (m, l) = if aSn n (upd a 3 (nI (255 - q))) s K = true then ((pPt n K a s q).1 + 1, nI (255 - q)) else pPt n K a s q
      rw [← hpq, if_neg hA, e0]
  · intro x hx
    obtain ⟨m, l, v, J⟩ := x
    obtain ⟨e0, e1, e2, e9⟩ := hx
    dsimp only at e0 e1 e2 e9
    dsimp only
    unfold f_X4_patterns_L48_b
    rw [if_pos (by rw [i_lt, e1]; simp only [Int32.reduceToInt]; omega), ← e0]
    by_cases hm : m = 0
    · rw [if_pos hm]
      refine Ho_s ⟨?_, ?_, e2⟩
      · rw [if_pos hm]
      · rw [if_pos hm]; exact e9
    · rw [if_neg hm]
      simp only [k_let]
      refine Ho_s ⟨?_, ?_, e2.up33 (Or.inr ⟨rfl, rfl⟩)⟩
      · rw [if_neg hm]
      · rw [if_neg hm]; show k_up J 0 9 l 0 9 = l
        rw [k_up_same]
theorem M_patL {N : Nat} (hN : N = 256) {J0 J1 : StI} {n r K : Nat} {a : AH} {s : Nat → Int32} (hg : AV n 40 a) (hm : HM J0 70 0 a) (h4 : J0 63 4 = nI n) (hk : KM J1 72 a n) (hF : MF J0 J1) (h14 : J1 63 14 = J0 63 14) (hr : r < 6) (hK : K ≤ 20) (h8 : J0 64 r = nI K) (hs : ∀ i, i < K → J0 65 (40 * r + i) = s i) : Ho (f_X5_patterns_L49 (nI r) k_fu 0 0 255 J1) (fun t => t.1 = (if (pPt n K a s N).1 = 0 then -9 else (pPt n K a s N).1) ∧ t.2 63 14 = (if (pPt n K a s N).1 = 0 then J0 63 14 else (pPt n K a s N).2) ∧ MF J0 t.2) := by
  have hn := hg.1
  unfold f_X5_patterns_L49
  refine Ho_loop0 (fun q x => (x.1, x.2.1) = pPt n K a s q ∧ x.2.2.1.toInt = (255 : Int) - (q : Int) ∧ MF J0 x.2.2.2 ∧ KM x.2.2.2 72 a n ∧ x.2.2.2 63 14 = J0 63 14) N (by omega) ?_ ?_ _ ⟨rfl, (by show (255 : Int32).toInt = (255 : Int) - ((0 : Nat) : Int); decide), hF, hk, h14⟩
  · intro q x hq hx
    obtain ⟨m, l, v, J⟩ := x
    obtain ⟨e0, e1, e2, e3, e9⟩ := hx
    dsimp only at e0 e1 e2 e3 e9
    obtain ⟨p, hp, rfl⟩ := i_in (n := 256) (x := v) (by omega) (by omega)
    rw [i_n (by omega)] at e1
    have hpq : p = 255 - q := by omega
    dsimp only
    unfold f_X5_patterns_L49_b
    rw [if_neg (by rw [i_lt, i_n (by omega)]; simp only [Int32.reduceToInt]; omega)]
    refine Ho_bm (M_lay (n := n) (I := J0) (J := J) (a := a) hm e2) (fun J2 hp2 => ?_)
    rw [g_3, n_3]
    refine Ho_let_i.mpr ?_
    have hcf : MF J0 (k_up J2 71 3 (nI p)) := hp2.2.2.up (Or.inl (Or.inl rfl))
    refine Ho_bm (M_comesSo (s := s) (K := K) (AV_lo (v := nI p) hg (Or.inl rfl)) (by omega) (HM_upd (v := nI p) hp2.1) (fun i hi => ?_) ?_ hr (by omega) (by rw [hcf 64 r (by unfold sMs; omega) (by omega)]; exact h8) (fun i hi => by rw [hcf 65 _ (by unfold sMs; omega) (by omega)]; exact hs i hi)) (fun t ht => ?_)
    · rw [k_up_oth (by omega), hp2.2.1 72 i (by decide), upd_o (by omega)]
      exact e3 i hi
    · rw [hcf 63 4 (by unfold sMs; omega) (by omega)]
      exact h4
    · obtain ⟨tv, tJ⟩ := t
      dsimp only at ht ⊢
      have hMF : MF J0 tJ := hcf.goes ht.2
      have hKM : KM tJ 72 a n := fun i hi => by
        rw [ht.2 72 i (by unfold sA; omega), k_up_oth (by omega), hp2.2.1 72 i (by decide)]
        exact e3 i hi
      have h14' : tJ 63 14 = J0 63 14 := by
        rw [ht.2 63 14 (by unfold sA; omega), k_up_oth (by omega), hp2.2.1 63 14 (by decide)]
        exact e9
      have hv1 : (nI p + (-1 : Int32)).toInt = 255 - ((q + 1 : Nat) : Int) := by
        rw [i_add (by rw [i_n (by omega)]; simp only [k_m1]; omega) (by rw [i_n (by omega)]; simp only [k_m1]; omega), i_n (by omega)]
        simp only [k_m1]
        omega
      by_cases hA : aSn n (upd a 3 (nI p)) s K = true
      · rw [if_neg (by rw [ht.1, if_pos hA]; decide)]
        refine Ho_s ⟨?_, hv1, hMF, hKM, h14'⟩
        show (m + 1, nI p) = if aSn n (upd a 3 (nI (255 - q))) s K = true then ((pPt n K a s q).1 + 1, nI (255 - q)) else pPt n K a s q
        rw [← hpq, if_pos hA, ← e0]
      · rw [if_pos (by rw [ht.1, if_neg hA])]
        refine Ho_s ⟨?_, hv1, hMF, hKM, h14'⟩
        show (m, l) = if aSn n (upd a 3 (nI (255 - q))) s K = true then ((pPt n K a s q).1 + 1, nI (255 - q)) else pPt n K a s q
        rw [← hpq, if_neg hA, e0]
  · intro x hx
    obtain ⟨m, l, v, J⟩ := x
    obtain ⟨e0, e1, e2, e3, e9⟩ := hx
    dsimp only at e0 e1 e2 e3 e9
    dsimp only
    unfold f_X5_patterns_L49_b f_X5_answer
    rw [if_pos (by rw [i_lt, e1]; simp only [Int32.reduceToInt]; omega), ← e0]
    by_cases hm : m = 0
    · rw [if_pos hm]
      refine Ho_s ⟨?_, ?_, e2⟩
      · rw [if_pos hm]
      · rw [if_pos hm]; exact e9
    · rw [if_neg hm]
      refine Ho_s ⟨?_, ?_, e2.up (Or.inr ⟨rfl, rfl⟩)⟩
      · rw [if_neg hm]
      · rw [if_neg hm]; show k_up J 63 14 l 63 14 = l
        rw [k_up_same]
theorem k_ne0 {n : Nat} (h : 0 < n) (h2 : n < 2147483648) : nI n ≠ 0 := by
  intro z
  have := congrArg Int32.toInt z
  rw [i_n h2] at this
  simp only [Int32.reduceToInt] at this
  omega
theorem k_npos {n : Nat} (h : 0 < n) (h2 : n < 2147483648) : ¬ nI n ≤ 0 := by
  rw [i_le, i_n h2]
  simp only [Int32.reduceToInt]
  omega
theorem L_patterns {I : StI} {L : StL} (h : Rel I L) (v1 : Int32) : Sm (f_X4_patterns v1 I) (f_X5_patterns v1) L := by
  obtain ⟨n, fa, ds, hx⟩ := h.2.2.2
  obtain ⟨hg, hc, h7, hm, h4, hk, hrm, -⟩ := hx.vw
  have hn := hg.1.1
  by_cases hr : 0 ≤ v1.toInt ∧ v1.toInt < 6
  · by_cases h0 : n = 0
    · subst h0
      refine Sm_same h (-4) ?_ ?_
      · unfold f_X4_patterns
        rw [C_isRow, if_pos hr, Option.bind_some, if_neg (by decide), if_pos (by rw [hc.1]; rfl)]
      · unfold f_X5_patterns
        rw [M_isRow, if_pos hr, Option.bind_some, if_neg (by decide), if_pos (by rw [h4]; rfl)]
    · obtain ⟨r, hr6, rfl⟩ := i_in hr.1 (show v1.toInt < (6 : Nat) from hr.2)
      obtain ⟨j, hj, s1, -, s3⟩ := seen_sim (I := I) (J := I) h.1 (fun _ _ _ => rfl) hr6
      have s2 : ∀ J : StI, (∀ b k, 63 ≤ b → J b k = I b k) → f_X5_seen (nI r) J = some (nI j) := by
        intro J hJ
        obtain ⟨j', -, t1, t2, -⟩ := seen_sim (I := I) (J := J) h.1 hJ hr6
        rw [t2, ← t1, s1]
      by_cases hj0 : j = 0
      · subst hj0
        obtain ⟨K, k1, k2, k3⟩ := s3 rfl
        obtain ⟨N, hN⟩ : ∃ N : Nat, N = 256 := ⟨256, rfl⟩
        refine Sm_aside h (if (pPt n K (rep n ds fa) (I (k_rq r)) N).1 = 0 then -9 else (pPt n K (rep n ds fa) (I (k_rq r)) N).1) (if (pPt n K (rep n ds fa) (I (k_rq r)) N).1 = 0 then I 0 9 else (pPt n K (rep n ds fa) (I (k_rq r)) N).2) ?_ (fun J hJ => ?_)
        · unfold f_X4_patterns
          rw [C_isRow, if_pos hr]
          refine Ho_b1 (Ho_n0 ?_)
          rw [if_neg (by rw [hc.1]; exact k_ne0 (by omega) (by omega)), s1]
          refine Ho_b1 ?_
          rw [if_pos (by decide)]
          exact C_patL hN hg.1 hc h7 hr6 k2 k3 (fun _ _ => rfl)
        · have h4' : J 63 4 = nI n := by rw [hJ 63 4 (by decide)]; exact h4
          unfold f_X5_patterns
          rw [M_isRow, if_pos hr]
          refine Ho_b1 (Ho_n0 ?_)
          rw [if_neg (by rw [h4']; exact k_ne0 (by omega) (by omega)), s2 J hJ]
          refine Ho_b1 ?_
          rw [if_pos (by decide)]
          refine Ho_bm (M_kin (I := J) hn (fun i hi => by rw [hJ 68 i (by decide)]; exact hk i hi)) (fun J1 hp1 => ?_)
          refine (M_patL hN (J0 := J) (s := I (k_rq r)) hg.1 (fun j hj => by rw [hJ 70 _ (by decide)]; exact hm j hj) h4' hp1.1 hp1.2.1 (hp1.2.2 63 14 (by decide)) hr6 k2 (by rw [hJ 64 r (by decide), (h.1 r hr6).2.1]; exact k3) (fun i hi => by rw [hJ 65 _ (by decide)]; exact (h.1 r hr6).2.2 i (by omega))).mono (fun u hu => ⟨hu.1, ?_, hu.2.2⟩)
          rw [hu.2.1, hJ 63 14 (by decide), h.2.2.1.1]
      · refine Sm_found h j (by omega) hj ?_ (fun J hJ => ?_)
        · unfold f_X4_patterns
          rw [C_isRow, if_pos hr, Option.bind_some, if_neg (by decide), if_neg (by rw [hc.1]; exact k_ne0 (by omega) (by omega)), s1, Option.bind_some, if_neg (k_ne0 (by omega) (by omega)), bind_eta]
        · unfold f_X5_patterns
          rw [M_isRow, if_pos hr, Option.bind_some, if_neg (by decide), if_neg (by rw [hJ 63 4 (by decide), h4]; exact k_ne0 (by omega) (by omega)), s2 J hJ, Option.bind_some, if_neg (k_npos (by omega) (by omega)), bind_eta]
  · refine Sm_same h (-1) ?_ ?_
    · unfold f_X4_patterns
      rw [C_isRow, if_neg hr, Option.bind_some, if_pos rfl]
    · unfold f_X5_patterns
      rw [M_isRow, if_neg hr, Option.bind_some, if_pos rfl]
