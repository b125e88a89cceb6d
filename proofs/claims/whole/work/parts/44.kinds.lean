/-! kinds -/
theorem HC_kind {J : StI} {n i0 : Nat} {a : AH} {v : Int32} (h : HC J 33 a n) (hn : n ≤ 7) (h0 : i0 < n) : HC (k_up J (k_cq 33 i0) 0 v) 33 (upd a (40 + i0) v) n := by
  obtain ⟨c1, c2, c3, c4, c5, c6, cc⟩ := h
  have h33 : ∀ k, k_up J (k_cq 33 i0) 0 v 33 k = J 33 k := fun k => k_up_oth (by unfold k_cq; omega)
  refine ⟨by rw [h33]; exact c1, by rw [h33, upd_o (by omega)]; exact c2, by rw [h33, upd_o (by omega)]; exact c3, by rw [h33, upd_o (by omega)]; exact c4, by rw [h33, upd_o (by omega)]; exact c5, by rw [h33, upd_o (by omega)]; exact c6, fun i hi => ?_⟩
  obtain ⟨d0, d1, d2, d3, d4, d5, d6⟩ := cc i hi
  have hq : ∀ k, k ≠ 0 → k_up J (k_cq 33 i0) 0 v (k_cq 33 i) k = J (k_cq 33 i) k := fun k hk => k_up_oth (fun z => hk z.2)
  rw [hq 1 (by decide), hq 2 (by decide), hq 3 (by decide), hq 4 (by decide), hq 5 (by decide), hq 6 (by decide), upd_o (j := 5 + i) (by omega), upd_o (j := 47 + i) (by omega), upd_o (j := 12 + i) (by omega), upd_o (j := 19 + i) (by omega), upd_o (j := 26 + i) (by omega), upd_o (j := 33 + i) (by omega)]
  refine ⟨?_, d1, d2, d3, d4, d5, d6⟩
  by_cases e : i = i0
  · subst e
    rw [k_up_same, upd_s]
  · rw [k_up_oth (fun z => e (k_cq_inj z.1)), upd_o (by omega)]
    exact d0
theorem AV_kind {n m i0 : Nat} {a : AH} {v : Int32} (h : AV n m a) (h0 : i0 < n) : AV n m (upd a (40 + i0) v) := by
  obtain ⟨hn, hs, hc⟩ := h
  refine ⟨hn, by rw [upd_o (by omega)]; exact hs, fun i hi => ?_⟩
  rw [upd_o (j := 5 + i) (by omega), upd_o (j := 47 + i) (by omega), upd_o (j := 12 + i) (by omega), upd_o (j := 19 + i) (by omega), upd_o (j := 26 + i) (by omega), upd_o (j := 33 + i) (by omega)]
  exact hc i hi
theorem HM_hi {J : StI} {a : AH} {t o i0 : Nat} {v : Int32} (h : HM J t o a) : HM J t o (upd a (40 + i0) v) := fun j hj => by
  rw [upd_o (by omega)]
  exact h j hj
/-- the kinds aside, but for one -/
def KMx (I : StI) (a : AH) (n i : Nat) : Prop := ∀ x, x < n → x ≠ i → I 72 x = a (40 + x)
theorem KMx.set {I : StI} {a : AH} {n i : Nat} {v : Int32} (h : KMx I a n i) : KM (k_up I 72 i v) 72 (upd a (40 + i) v) n := by
  intro x hx
  by_cases e : x = i
  · subst e
    rw [k_up_same, upd_s]
  · rw [k_up_oth (fun z => e z.2), upd_o (by omega)]
    exact h x hx e
def kSt (n i K : Nat) (a : AH) (s : Nat → Int32) (kd : Nat) : Bool := aSn n (upd a (40 + i) (nI kd)) s K
theorem C_kindsL {I J0 : StI} {n i r K : Nat} {a : AH} {s : Nat → Int32} (hg : AV n 40 a) (hc : HC I 24 a n) (h7 : I 24 7 = 0) (hi : i < n) (hr : r < 6) (hK : K ≤ 20) (h8 : I 8 r = nI K) (hs : ∀ i, i < K → I (k_rq r) i = s i) (hJ : CF I J0) (h9 : J0 0 9 = I 0 9) : Ho (f_X4_kindsAsSeen (nI i) (nI r) J0) (fun t => t.1 = setOf (kSt n i K a s) 6 ∧ CF I t.2 ∧ t.2 0 9 = I 0 9) := by
  have hn := hg.1
  have hi7 : i < 7 := by omega
  unfold f_X4_kindsAsSeen f_X4_kindsAsSeen_L5
  refine Ho_loop0 (fun q x => x.1 = setOf (kSt n i K a s) q ∧ x.2.1 = nI q ∧ CF I x.2.2 ∧ x.2.2 0 9 = I 0 9) 6 (by decide) ?_ ?_ _ ⟨rfl, rfl, hJ, h9⟩
  · intro q x hq hx
    obtain ⟨m, v, J⟩ := x
    obtain ⟨e0, e1, e2, e9⟩ := hx
    dsimp only at e0 e1 e2 e9
    subst e0 e1
    dsimp only
    unfold f_X4_kindsAsSeen_L5_b
    rw [if_neg (by rw [show (6 : Int32) = nI 6 from rfl, nI_leI (by omega) (by omega)]; omega)]
    refine Ho_bm (C_lay hn hc h7 e2) (fun J1 hp1 => ?_)
    rw [g_i hi7, m_i hi7]
    refine Ho_let_i.mpr ?_
    have hcf : CF I (k_up J1 (k_cq 33 i) 0 (nI q)) := (CF.trans33 e2 hp1.2.2).up33 (Or.inl (by unfold sCs k_cq; omega))
    refine Ho_bm (C_goesAsSeen (s := s) (K := K) (AV_kind (v := nI q) hg hi) (by omega) (HC_kind hp1.1 hn hi) (by rw [k_up_oth (by unfold k_cq; omega)]; exact hp1.2.1) hr (by omega) (by rw [hcf 8 r (by unfold sCs; omega) (by omega)]; exact h8) (fun i hi => by rw [hcf (k_rq r) i (by unfold sCs k_rq; omega) (by unfold k_rq; omega)]; exact hs i hi)) (fun t ht => ?_)
    obtain ⟨tv, tJ⟩ := t
    dsimp only at ht ⊢
    have hCF : CF I tJ := CF.trans33 hcf ht.2
    have h09 : tJ 0 9 = I 0 9 := by rw [ht.2 0 9 (by unfold sC; omega), k_up_oth (by unfold k_cq; omega), hp1.2.2 0 9 (by unfold sC; omega)]; exact e9
    have e : setOf (kSt n i K a s) (q + 1) = if kSt n i K a s q then setOf (kSt n i K a s) q ||| ((1 : Int32) <<< (nI q &&& 31)) else setOf (kSt n i K a s) q := rfl
    by_cases hA : kSt n i K a s q = true
    · rw [if_neg (by rw [ht.1, show aSn n (upd a (40 + i) (nI q)) s K = true from hA, if_pos rfl]; decide)]
      unfold k_let
      rw [nI_1]
      refine Ho_s ⟨?_, rfl, hCF, h09⟩
      rw [e, if_pos hA]
    · rw [if_pos (by rw [ht.1, show aSn n (upd a (40 + i) (nI q)) s K = false from Bool.eq_false_iff.mpr hA]; rfl)]
      unfold k_let
      rw [nI_1]
      refine Ho_s ⟨?_, rfl, hCF, h09⟩
      rw [e, if_neg hA]
  · intro x hx
    obtain ⟨m, v, J⟩ := x
    obtain ⟨e0, e1, e2, e9⟩ := hx
    dsimp only at e0 e1 e2 e9
    subst e0 e1
    dsimp only
    unfold f_X4_kindsAsSeen_L5_b
    rw [if_pos (by decide)]
    exact Ho_s ⟨rfl, e2, e9⟩
theorem M_kindsBy {J0 : StI} {n i r K : Nat} {a : AH} {s : Nat → Int32} (hg : AV n 40 a) (hm : HM J0 70 0 a) (h4 : J0 63 4 = nI n) (hk : KM J0 68 a n) (hi : i < n) (hr : r < 6) (hK : K ≤ 20) (h8 : J0 64 r = nI K) (hs : ∀ i, i < K → J0 65 (40 * r + i) = s i) : Ho (f_X5_kindsBy (nI i) (nI r) J0) (fun t => t.1 = setOf (kSt n i K a s) 6 ∧ MF J0 t.2 ∧ t.2 63 14 = J0 63 14 ∧ KMx t.2 a n i) := by
  have hn := hg.1
  have hi7 : i < 7 := by omega
  unfold f_X5_kindsBy
  refine Ho_bm (M_kin (I := J0) hn hk) (fun J1 hp1 => ?_)
  unfold f_X5_kindsBy_L9
  refine Ho_loop0 (fun q x => x.1 = setOf (kSt n i K a s) q ∧ x.2.1 = nI q ∧ MF J0 x.2.2 ∧ x.2.2 63 14 = J0 63 14 ∧ KMx x.2.2 a n i) 6 (by decide) ?_ ?_ _ ⟨rfl, rfl, hp1.2.1, hp1.2.2 63 14 (by decide), fun x hx _ => hp1.1 x hx⟩
  · intro q x hq hx
    obtain ⟨m, v, J⟩ := x
    obtain ⟨e0, e1, e2, e9, e3⟩ := hx
    dsimp only at e0 e1 e2 e9 e3
    subst e0 e1
    dsimp only
    unfold f_X5_kindsBy_L9_b
    rw [if_neg (by rw [show (6 : Int32) = nI 6 from rfl, nI_leI (by omega) (by omega)]; omega), g_i hi7, m_i hi7]
    unfold k_let
    have e2' : MF J0 (k_up J 72 i (nI q)) := e2.up (Or.inl (by unfold sMs; omega))
    refine Ho_bm (M_lay (n := n) (I := J0) (J := k_up J 72 i (nI q)) (a := a) hm e2') (fun J2 hp2 => ?_)
    refine Ho_bm (M_comesSo (s := s) (K := K) (AV_kind (v := nI q) hg hi) (by omega) (HM_hi hp2.1) (fun x hx => ?_) ?_ hr (by omega) (by rw [hp2.2.2 64 r (by unfold sMs; omega) (by omega)]; exact h8) (fun i hi => by rw [hp2.2.2 65 _ (by unfold sMs; omega) (by omega)]; exact hs i hi)) (fun t ht => ?_)
    · rw [hp2.2.1 72 x (by decide)]
      exact e3.set x hx
    · rw [hp2.2.2 63 4 (by unfold sMs; omega) (by omega)]
      exact h4
    · obtain ⟨tv, tJ⟩ := t
      dsimp only at ht ⊢
      have hMF : MF J0 tJ := hp2.2.2.goes ht.2
      have hKM : KMx tJ a n i := fun x hx hne => by
        rw [ht.2 72 x (by unfold sA; omega), hp2.2.1 72 x (by decide), k_up_oth (fun z => hne z.2)]
        exact e3 x hx hne
      have h14' : tJ 63 14 = J0 63 14 := by
        rw [ht.2 63 14 (by unfold sA; omega), hp2.2.1 63 14 (by decide), k_up_oth (by omega)]
        exact e9
      have e : setOf (kSt n i K a s) (q + 1) = if kSt n i K a s q then setOf (kSt n i K a s) q ||| ((1 : Int32) <<< (nI q &&& 31)) else setOf (kSt n i K a s) q := rfl
      unfold f_X5_kindsBy_j45
      by_cases hA : kSt n i K a s q = true
      · rw [if_neg (by rw [ht.1, show aSn n (upd a (40 + i) (nI q)) s K = true from hA, if_pos rfl]; decide)]
        unfold k_let
        rw [nI_1]
        refine Ho_s ⟨?_, rfl, hMF, h14', hKM⟩
        rw [e, if_pos hA]
      · rw [if_pos (by rw [ht.1, show aSn n (upd a (40 + i) (nI q)) s K = false from Bool.eq_false_iff.mpr hA]; rfl)]
        unfold k_let
        rw [nI_1]
        refine Ho_s ⟨?_, rfl, hMF, h14', hKM⟩
        rw [e, if_neg hA]
        exact Int32.or_zero
  · intro x hx
    obtain ⟨m, v, J⟩ := x
    obtain ⟨e0, e1, e2, e9, e3⟩ := hx
    dsimp only at e0 e1 e2 e9 e3
    subst e0 e1
    dsimp only
    unfold f_X5_kindsBy_L9_b
    rw [if_pos (by decide)]
    exact Ho_s ⟨rfl, e2, e9, e3⟩
/-- the reference's findings of a row, from any store that holds it -/
theorem seen_all {I : StI} {r : Nat} (h : Rw I) (hr : r < 6) : ∃ j, j ≤ 5 ∧ f_X4_findingOfSeen (nI r) I = some (nI j) ∧ (∀ J : StI, (∀ b k, 63 ≤ b → J b k = I b k) → f_X5_seen (nI r) J = some (nI j)) ∧ (j = 0 → ∃ K, 1 ≤ K ∧ K ≤ 20 ∧ I 8 r = nI K) := by
  obtain ⟨j, hj, s1, -, s3⟩ := seen_sim (I := I) (J := I) h (fun _ _ _ => rfl) hr
  refine ⟨j, hj, s1, fun J hJ => ?_, s3⟩
  obtain ⟨j', -, t1, t2, -⟩ := seen_sim (I := I) (J := J) h hJ hr
  rw [t2, ← t1, s1]
theorem L_kinds {I : StI} {L : StL} (h : Rel I L) (v1 v2 : Int32) : Sm (f_X4_kinds v1 v2 I) (f_X5_kinds v1 v2) L := by
  obtain ⟨n, fa, ds, hx⟩ := h.2.2.2
  obtain ⟨hg, hc, h7, hm, h4, hk, hrm, -⟩ := hx.vw
  have hn := hg.1.1
  by_cases hi : 0 ≤ v1.toInt ∧ v1.toInt < n
  · by_cases hr : 0 ≤ v2.toInt ∧ v2.toInt < 6
    · obtain ⟨i, hin, rfl⟩ := i_in hi.1 hi.2
      obtain ⟨r, hr6, rfl⟩ := i_in hr.1 (show v2.toInt < (6 : Nat) from hr.2)
      obtain ⟨j, hj, s1, s2, s3⟩ := seen_all h.1 hr6
      by_cases hj0 : j = 0
      · subst hj0
        obtain ⟨K, k1, k2, k3⟩ := s3 rfl
        refine Sm_aside h (setOf (kSt n i K (rep n ds fa) (I (k_rq r))) 6) (I 0 9) ?_ (fun J hJ => ?_)
        · unfold f_X4_kinds
          rw [C_isCaller hn hc.1, if_pos hi]
          refine Ho_b1 (Ho_n0 ?_)
          rw [C_isRow, if_pos hr]
          refine Ho_b1 (Ho_n0 ?_)
          rw [s1]
          refine Ho_b1 ?_
          rw [if_pos (by decide)]
          refine Ho_bm (C_kindsL hg.1 hc h7 hin hr6 k2 k3 (fun _ _ => rfl) (fun _ _ _ _ => rfl) rfl) (fun t ht => Ho_s ⟨ht.1, ht.2.2, ht.2.1⟩)
        · have h4' : J 63 4 = nI n := by rw [hJ 63 4 (by decide)]; exact h4
          unfold f_X5_kinds
          rw [M_isCaller hn h4', if_pos hi]
          refine Ho_b1 (Ho_n0 ?_)
          rw [M_isRow, if_pos hr]
          refine Ho_b1 (Ho_n0 ?_)
          rw [s2 J hJ]
          refine Ho_b1 ?_
          rw [if_pos (by decide)]
          refine Ho_bm (M_kindsBy (J0 := J) (s := I (k_rq r)) hg.1 (fun j hj => by rw [hJ 70 _ (by decide)]; exact hm j hj) h4' (fun i hi => by rw [hJ 68 i (by decide)]; exact hk i hi) hin hr6 k2 (by rw [hJ 64 r (by decide), (h.1 r hr6).2.1]; exact k3) (fun i hi => by rw [hJ 65 _ (by decide)]; exact (h.1 r hr6).2.2 i (by omega))) (fun t ht => Ho_s ⟨ht.1, ?_, ht.2.1⟩)
          show t.2 63 14 = _
          rw [ht.2.2.1, hJ 63 14 (by decide), h.2.2.1.1]
      · refine Sm_found h j (by omega) hj ?_ (fun J hJ => ?_)
        · unfold f_X4_kinds
          rw [C_isCaller hn hc.1, if_pos hi, Option.bind_some, if_neg (by decide), C_isRow, if_pos hr, Option.bind_some, if_neg (by decide), s1, Option.bind_some, if_neg (k_ne0 (by omega) (by omega)), bind_eta]
        · unfold f_X5_kinds
          rw [M_isCaller hn (by rw [hJ 63 4 (by decide)]; exact h4), if_pos hi, Option.bind_some, if_neg (by decide), M_isRow, if_pos hr, Option.bind_some, if_neg (by decide), s2 J hJ, Option.bind_some, if_neg (k_npos (by omega) (by omega)), bind_eta]
    · refine Sm_same h (-1) ?_ ?_
      · unfold f_X4_kinds
        rw [C_isCaller hn hc.1, if_pos hi, Option.bind_some, if_neg (by decide), C_isRow, if_neg hr, Option.bind_some, if_pos rfl]
      · unfold f_X5_kinds
        rw [M_isCaller hn h4, if_pos hi, Option.bind_some, if_neg (by decide), M_isRow, if_neg hr, Option.bind_some, if_pos rfl]
  · refine Sm_same h (-1) ?_ ?_
    · unfold f_X4_kinds
      rw [C_isCaller hn hc.1, if_neg hi, Option.bind_some, if_pos rfl]
    · unfold f_X5_kinds
      rw [M_isCaller hn h4, if_neg hi, Option.bind_some, if_pos rfl]
