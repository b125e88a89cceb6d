/-! best, tune, mend -/
def chz (val lab : Nat → Int32) : Nat → Int32 × Int32 → Int32 × Int32
  | 0, s => s
  | k + 1, s => if val k ≤ (chz val lab k s).1 then chz val lab k s else (val k, lab k)
theorem chz_init {val lab : Nat → Int32} {m w w' : Int32} (h : ¬ val 0 ≤ m) : ∀ k, chz val lab (k + 1) (m, w) = chz val lab (k + 1) (m, w')
  | 0 => by
    show (if val 0 ≤ m then _ else _) = (if val 0 ≤ m then _ else _)
    rw [if_neg h, if_neg h]
  | k + 1 => by
    show (if val (k + 1) ≤ (chz val lab (k + 1) (m, w)).1 then chz val lab (k + 1) (m, w) else _) = (if val (k + 1) ≤ (chz val lab (k + 1) (m, w')).1 then chz val lab (k + 1) (m, w') else _)
    rw [chz_init h k]
theorem C_offer {w v : Int32} {J : StI} : Ho (f_X1_offer w v J) (fun J' => (J' 48 0, J' 48 1) = (if v ≤ J 48 0 then (J 48 0, J 48 1) else (v, w)) ∧ ∀ b k, b ≠ 48 → J' b k = J b k) := by
  unfold f_X1_offer
  by_cases h : v ≤ J 48 0
  · rw [if_pos h, if_pos h]
    exact Ho_s ⟨rfl, fun _ _ _ => rfl⟩
  · rw [if_neg h, if_neg h]
    refine Ho_s ⟨by simp [k_up], fun b k hb => ?_⟩
    rw [k_up_oth (fun z => hb z.1), k_up_oth (fun z => hb z.1)]
theorem HC_room {J : StI} {n : Nat} {a : AH} {v : Int32} (h : HC J 33 a n) : HC (k_up J 33 2 v) 33 (upd a 4 v) n := by
  obtain ⟨c1, c2, c3, c4, c5, c6, cc⟩ := h
  refine ⟨by rw [k_up_oth (by omega)]; exact c1, by rw [k_up_same, upd_s], by rw [k_up_oth (by omega), upd_o (by omega)]; exact c3, by rw [k_up_oth (by omega), upd_o (by omega)]; exact c4, by rw [k_up_oth (by omega), upd_o (by omega)]; exact c5, by rw [k_up_oth (by omega), upd_o (by omega)]; exact c6, fun i hi => ?_⟩
  have hq : ∀ k, k_up J 33 2 v (k_cq 33 i) k = J (k_cq 33 i) k := fun k => k_up_oth (by unfold k_cq; omega)
  rw [hq, hq, hq, hq, hq, hq, hq, upd_o (by omega), upd_o (by omega), upd_o (by omega), upd_o (by omega), upd_o (by omega), upd_o (by omega), upd_o (by omega)]
  exact cc i hi
theorem HC_pat {J : StI} {n : Nat} {a : AH} {v : Int32} (h : HC J 33 a n) : HC (k_up J 33 3 v) 33 (upd a 3 v) n := by
  obtain ⟨c1, c2, c3, c4, c5, c6, cc⟩ := h
  refine ⟨by rw [k_up_oth (by omega)]; exact c1, by rw [k_up_oth (by omega), upd_o (by omega)]; exact c2, by rw [k_up_same, upd_s], by rw [k_up_oth (by omega), upd_o (by omega)]; exact c4, by rw [k_up_oth (by omega), upd_o (by omega)]; exact c5, by rw [k_up_oth (by omega), upd_o (by omega)]; exact c6, fun i hi => ?_⟩
  have hq : ∀ k, k_up J 33 3 v (k_cq 33 i) k = J (k_cq 33 i) k := fun k => k_up_oth (by unfold k_cq; omega)
  rw [hq, hq, hq, hq, hq, hq, hq, upd_o (by omega), upd_o (by omega), upd_o (by omega), upd_o (by omega), upd_o (by omega), upd_o (by omega), upd_o (by omega)]
  exact cc i hi
theorem HC_lim {J : StI} {n i0 : Nat} {a : AH} {v : Int32} (h : HC J 33 a n) (hn : n ≤ 7) (h0 : i0 < n) : HC (k_up J (k_cq 33 i0) 1 v) 33 (upd a (5 + i0) v) n := by
  obtain ⟨c1, c2, c3, c4, c5, c6, cc⟩ := h
  have h33 : ∀ k, k_up J (k_cq 33 i0) 1 v 33 k = J 33 k := fun k => k_up_oth (by unfold k_cq; omega)
  refine ⟨by rw [h33]; exact c1, by rw [h33, upd_o (by omega)]; exact c2, by rw [h33, upd_o (by omega)]; exact c3, by rw [h33, upd_o (by omega)]; exact c4, by rw [h33, upd_o (by omega)]; exact c5, by rw [h33, upd_o (by omega)]; exact c6, fun i hi => ?_⟩
  obtain ⟨d0, d1, d2, d3, d4, d5, d6⟩ := cc i hi
  have hq : ∀ k, k ≠ 1 → k_up J (k_cq 33 i0) 1 v (k_cq 33 i) k = J (k_cq 33 i) k := fun k hk => k_up_oth (fun z => hk z.2)
  rw [hq 0 (by decide), hq 2 (by decide), hq 3 (by decide), hq 4 (by decide), hq 5 (by decide), hq 6 (by decide), upd_o (j := 40 + i) (by omega), upd_o (j := 47 + i) (by omega), upd_o (j := 12 + i) (by omega), upd_o (j := 19 + i) (by omega), upd_o (j := 26 + i) (by omega), upd_o (j := 33 + i) (by omega)]
  refine ⟨d0, ?_, d2, d3, d4, d5, d6⟩
  by_cases e : i = i0
  · subst e
    rw [k_up_same, upd_s]
  · rw [k_up_oth (fun z => e (k_cq_inj z.1)), upd_o (by omega)]
    exact d1
theorem HM_upd {J : StI} {a : AH} {j : Nat} {v : Int32} (h : HM J 71 0 a) : HM (k_up J 71 j v) 71 0 (upd a j v) := by
  intro x hx
  rw [Nat.zero_add]
  have hxx := h x hx
  rw [Nat.zero_add] at hxx
  by_cases e : x = j
  · subst e
    rw [k_up_same, upd_s]
  · rw [k_up_oth (fun z => e z.2), upd_o e]
    exact hxx
theorem AV_lo {n m j : Nat} {a : AH} {v : Int32} (h : AV n m a) (hj : j = 3 ∨ j = 4) : AV n m (upd a j v) := by
  obtain ⟨hn, h0, hc⟩ := h
  refine ⟨hn, by rw [upd_o (by omega)]; exact h0, fun i hi => ?_⟩
  rw [upd_o (by omega), upd_o (by omega), upd_o (by omega), upd_o (by omega), upd_o (by omega), upd_o (by omega)]
  exact hc i hi
theorem AV_lim {n m i0 : Nat} {a : AH} {v : Int32} (h : AV n m a) (h0 : i0 < n) (hv : 1 ≤ v.toInt ∧ v.toInt ≤ 9) : AV n m (upd a (5 + i0) v) := by
  obtain ⟨hn, hs, hc⟩ := h
  refine ⟨hn, by rw [upd_o (by omega)]; exact hs, fun i hi => ?_⟩
  obtain ⟨v1, v2, v3, v4, v5, v6, v7⟩ := hc i hi
  rw [upd_o (j := 47 + i) (by omega), upd_o (j := 12 + i) (by omega), upd_o (j := 19 + i) (by omega), upd_o (j := 26 + i) (by omega), upd_o (j := 33 + i) (by omega)]
  refine ⟨?_, v2, v3, v4, v5, v6, v7⟩
  by_cases e : i = i0
  · subst e
    rw [upd_s]; exact hv
  · rw [upd_o (by omega)]; exact v1
/-- place pl of a house, tried with 1 .. 9 -/
def valP (n N pl : Nat) (a : AH) (q : Nat) : Int32 := sm n 0 N (upd a pl (nI (q + 1)))
theorem M_bestOf {J0 : StI} {n N pl : Nat} {a : AH} (hn : n ≤ 7) (hm : HM J0 70 0 a) (h4 : J0 63 4 = nI n) (hk : KM J0 68 a n) (hN : N ≤ 40) (hpl : pl < 40) (hav : ∀ q, q < 9 → AV n 40 (upd a pl (nI (q + 1)))) : Ho (f_X5_bestOf (nI pl) (nI N) J0) (fun t => (t.2 63 14, t.1) = chz (valP n N pl a) (fun q => nI (q + 1)) 9 (-1, 0) ∧ MF J0 t.2) := by
  unfold f_X5_bestOf
  refine Ho_bm (M_kin (I := J0) hn hk) (fun J1 hp1 => ?_)
  unfold f_X5_bestOf_L12
  refine Ho_loop0 (fun q s => (s.2.1, s.1) = chz (valP n N pl a) (fun q => nI (q + 1)) q (-1, 0) ∧ s.2.2.1 = nI (q + 1) ∧ MF J0 s.2.2.2 ∧ KM s.2.2.2 72 a n) 9 (by decide) ?_ ?_ _ ⟨rfl, rfl, hp1.2.1, hp1.1⟩
  · intro q s hq hs
    obtain ⟨w, mo, v, J⟩ := s
    obtain ⟨e0, e1, e2, e3⟩ := hs
    dsimp only at e0 e1 e2 e3
    subst e1
    dsimp only
    unfold f_X5_bestOf_L12_b
    rw [if_neg (by rw [show (10 : Int32) = nI 10 from rfl, nI_leI (by omega) (by omega)]; omega)]
    refine Ho_bm (M_lay (n := n) (I := J0) (J := J) (a := a) hm e2) (fun J2 hp2 => ?_)
    rw [gd_n hpl (by decide), cl_n (by omega)]
    refine Ho_bm (M_goesOn (u := 0) (m := 40) (N := N) (hav q hq) (by omega) (HM_upd (v := nI (q + 1)) hp2.1) (fun i hi => ?_) ?_) (fun t ht => ?_)
    · rw [k_up_oth (by omega), hp2.2.1 72 i (by decide), upd_o (by omega)]
      exact e3 i hi
    · rw [k_up_oth (by omega), hp2.2.2 63 4 (by unfold sMs; omega) (by omega)]
      exact h4
    · obtain ⟨t1, t2, t3⟩ := ht
      have hMF : MF J0 t.2 := (hp2.2.2.up (Or.inl (Or.inl rfl))).goes t3
      have hKM : KM t.2 72 a n := fun i hi => by
        rw [t3 72 i (by unfold sA; omega), k_up_oth (by omega), hp2.2.1 72 i (by decide)]
        exact e3 i hi
      have hv : t.1 = valP n N pl a q := t1
      have hm1 : mo = (chz (valP n N pl a) (fun q => nI (q + 1)) q (-1, 0)).1 := by rw [← e0]
      unfold f_X5_bestOf_j52
      simp only [k_let, nI_1]
      by_cases hle : t.1 ≤ mo
      · rw [if_pos hle, if_pos hle]
        refine Ho_s ⟨?_, rfl, hMF, hKM⟩
        show (mo, w) = _
        rw [e0]
        show _ = if valP n N pl a q ≤ _ then _ else _
        rw [if_pos (by rw [← hm1, ← hv]; exact hle)]
      · rw [if_neg hle, if_neg hle]
        refine Ho_s ⟨?_, rfl, hMF, hKM⟩
        show (t.1, nI (q + 1)) = if valP n N pl a q ≤ _ then _ else _
        rw [if_neg (by rw [← hm1, ← hv]; exact hle), hv]
  · intro s hs
    obtain ⟨w, mo, v, J⟩ := s
    obtain ⟨e0, e1, e2, e3⟩ := hs
    dsimp only at e0 e1 e2 e3
    subst e1
    dsimp only
    unfold f_X5_bestOf_L12_b f_X5_answer
    rw [if_pos (by decide)]
    refine Ho_s ⟨?_, e2.up (Or.inr ⟨rfl, rfl⟩)⟩
    show (k_up J 63 14 mo 63 14, w) = _
    rw [k_up_same, e0]
theorem C_bestL {I J0 : StI} {n N : Nat} {a : AH} (hg : AV n 40 a) (hc : HC I 24 a n) (h7 : I 24 7 = 0) (hN : N ≤ 40) (hJ : CF I J0) (h48 : (J0 48 0, J0 48 1) = (-1, -9)) : Ho (f_X4_best_L36 (nI N) k_fu 1 J0) (fun t => (t.2 0 9, t.1) = chz (valP n N 4 a) (fun q => nI (q + 1)) 9 (-1, -9) ∧ CF I t.2) := by
  have hn := hg.1
  unfold f_X4_best_L36
  refine Ho_loop0 (fun q s => s.1 = nI (q + 1) ∧ (s.2 48 0, s.2 48 1) = chz (valP n N 4 a) (fun q => nI (q + 1)) q (-1, -9) ∧ CF I s.2) 9 (by decide) ?_ ?_ _ ⟨rfl, h48, hJ⟩
  · intro q s hq hs
    obtain ⟨v, J⟩ := s
    obtain ⟨e1, e0, e2⟩ := hs
    dsimp only at e0 e1 e2
    subst e1
    dsimp only
    unfold f_X4_best_L36_b
    rw [if_neg (by rw [show (9 : Int32) = nI 9 from rfl, nI_ltI (by omega) (by omega)]; omega)]
    refine Ho_bm (C_lay hn hc h7 e2) (fun J1 hp => ?_)
    refine Ho_bm (C_answeredIn (m := 40) (N := N) (AV_lo (v := nI (q + 1)) hg (Or.inr rfl)) (by omega) (HC_room hp.1)) (fun t ht => ?_)
    have e7 : k_up J1 33 2 (nI (q + 1)) 33 7 = 0 := by rw [k_up_oth (by omega)]; exact hp.2.1
    rw [e7] at ht
    refine Ho_bm C_offer (fun J3 h3 => ?_)
    have e48 : ∀ k, t.2 48 k = J 48 k := fun k => by rw [ht.2.2.2 48 k (by unfold sC; omega), k_up_oth (by omega), hp.2.2 48 k (by unfold sC; omega)]
    have hv : t.1 = valP n N 4 a q := ht.1
    simp only [k_let, nI_1]
    refine Ho_s ⟨rfl, ?_, ?_⟩
    · show (J3 48 0, J3 48 1) = if valP n N 4 a q ≤ _ then _ else _
      rw [h3.1, e48, e48, hv, ← e0]
    · intro b k hb1 hb2
      show J3 b k = I b k
      rw [h3.2 b k (by unfold sCs at hb1; omega), ht.2.2.2 b k (by unfold sC; unfold sCs at hb1; omega), k_up_oth (by unfold sCs at hb1; omega), hp.2.2 b k (by unfold sC; unfold sCs at hb1; omega)]
      exact e2 b k hb1 hb2
  · intro s hs
    obtain ⟨v, J⟩ := s
    obtain ⟨e1, e0, e2⟩ := hs
    dsimp only at e0 e1 e2
    subst e1
    dsimp only
    unfold f_X4_best_L36_b
    rw [if_pos (by decide)]
    simp only [k_let]
    refine Ho_s ⟨?_, e2.up33 (Or.inr ⟨rfl, rfl⟩)⟩
    show (k_up J 0 9 (J 48 0) 0 9, k_up J 0 9 (J 48 0) 48 1) = _
    rw [k_up_same, k_up_oth (by omega), e0]
theorem valP_0 {n N pl q : Nat} {a : AH} (hn : n ≤ 7) (hN : N ≤ 40) : ¬ valP n N pl a q ≤ -1 := by
  have := (sm_rng (u := 0) (a := upd a pl (nI (q + 1))) hn N (by omega)).1
  rw [i_le]
  unfold valP
  simp only [Int32.reduceToInt]
  omega
theorem C_best {I : StI} {n N : Nat} {a : AH} (hg : AV n 40 a) (hc : HC I 24 a n) (h7 : I 24 7 = 0) (h0 : 0 < n) (h1 : 1 ≤ N) (hN : N ≤ 40) : Ho (f_X4_best (nI N) I) (fun t => (t.2 0 9, t.1) = chz (valP n N 4 a) (fun q => nI (q + 1)) 9 (-1, 0) ∧ CF I t.2) := by
  have hn := hg.1
  unfold f_X4_best
  rw [if_neg (by rw [show (1 : Int32) = nI 1 from rfl, nI_ltI (by omega) (by omega)]; omega), if_pos (by rw [show (40 : Int32) = nI 40 from rfl, nI_leI (by omega) (by omega)]; omega), if_neg (by
    rw [hc.1]
    intro z
    have := congrArg Int32.toInt z
    rw [i_n (by omega)] at this
    simp only [Int32.reduceToInt] at this
    omega)]
  unfold f_X1_begin
  refine Ho_b1 ?_
  rw [← chz_init (w := -9) (valP_0 hn hN) 8]
  refine C_bestL hg hc h7 hN ?_ ?_
  · intro b k hb1 hb2
    rw [k_up_oth (by unfold sCs at hb1; omega), k_up_oth (by unfold sCs at hb1; omega)]
  · simp [k_up]
theorem M_best {J : StI} {n N : Nat} {a : AH} (hg : AV n 40 a) (hm : HM J 70 0 a) (h4 : J 63 4 = nI n) (hk : KM J 68 a n) (h0 : 0 < n) (h1 : 1 ≤ N) (hN : N ≤ 40) : Ho (f_X5_best (nI N) J) (fun t => (t.2 63 14, t.1) = chz (valP n N 4 a) (fun q => nI (q + 1)) 9 (-1, 0) ∧ MF J t.2) := by
  have hn := hg.1
  have min : f_X5_in (nI N).toInt64 (1 : Int64) (40 : Int64) = some 1 := by
    rw [show (1 : Int64) = (1 : Int32).toInt64 from rfl, show (40 : Int64) = (40 : Int32).toInt64 from rfl, in_i, if_pos]
    rw [i_n (by omega)]
    simp only [Int32.reduceToInt]
    omega
  unfold f_X5_best
  rw [min]
  refine Ho_b1 (Ho_n0 ?_)
  rw [if_neg (by
    rw [h4]
    intro z
    have := congrArg Int32.toInt z
    rw [i_n (by omega)] at this
    simp only [Int32.reduceToInt] at this
    omega)]
  refine Ho_bm (M_bestOf (pl := 4) (N := N) hn hm h4 hk hN (by decide) (fun q hq => AV_lo hg (Or.inr rfl))) (fun t ht => Ho_s ht)
theorem Sm_pair {I : StI} {L : StL} {o : Option (Int32 × StI)} {f : StI → Option (Int32 × StI)} (h : Rel I L) (p : Int32 × Int32) (hc : Ho o (fun t => (t.2 0 9, t.1) = p ∧ CF I t.2)) (hm : ∀ J : StI, (∀ b k, 63 ≤ b → J b k = I b k) → Ho (f J) (fun u => (u.2 63 14, u.1) = p ∧ MF J u.2)) : Sm o f L :=
  Sm_aside h p.2 p.1 (hc.mono (fun _ ht => ⟨by rw [← ht.1], by rw [← ht.1], ht.2⟩)) (fun J hJ => (hm J hJ).mono (fun _ ht => ⟨by rw [← ht.1], by rw [← ht.1], ht.2⟩))
theorem L_best {I : StI} {L : StL} (h : Rel I L) (v1 : Int32) : Sm (f_X4_best v1 I) (f_X5_best v1) L := by
  obtain ⟨n, fa, ds, hx⟩ := h.2.2.2
  obtain ⟨hg, hc, h7, hm, h4, hk, hrm, -⟩ := hx.vw
  have hn := hg.1.1
  have min : f_X5_in v1.toInt64 (1 : Int64) (40 : Int64) = some (if 1 ≤ v1.toInt ∧ v1.toInt ≤ 40 then 1 else 0) := by
    rw [show (1 : Int64) = (1 : Int32).toInt64 from rfl, show (40 : Int64) = (40 : Int32).toInt64 from rfl, in_i]
    rfl
  by_cases h2 : 1 ≤ v1.toInt ∧ v1.toInt ≤ 40
  · by_cases h0 : n = 0
    · subst h0
      refine Sm_same h (-4) ?_ ?_
      · unfold f_X4_best
        rw [if_neg (by rw [i_lt]; simp only [Int32.reduceToInt]; omega), if_pos (by rw [i_le]; simp only [Int32.reduceToInt]; omega), if_pos (by rw [hc.1]; rfl)]
      · unfold f_X5_best
        rw [min, if_pos h2, Option.bind_some, if_neg (by decide), if_pos (by rw [h4]; rfl)]
    · obtain ⟨N, hN, rfl⟩ := i_in (n := 41) (by omega : 0 ≤ v1.toInt) (by omega)
      rw [i_n (by omega)] at h2
      exact Sm_pair h _ (C_best hg.1 hc h7 (by omega) (by omega) (by omega)) (fun J hJ => M_best hg.1 (fun j hj => by rw [hJ 70 _ (by decide)]; exact hm j hj) (by rw [hJ 63 4 (by decide)]; exact h4) (fun i hi => by rw [hJ 68 i (by decide)]; exact hk i hi) (by omega) (by omega) (by omega))
  · refine Sm_same h (-1) ?_ ?_
    · unfold f_X4_best
      by_cases q : v1 < 1
      · rw [if_pos q]
      · rw [if_neg q, if_neg (by rw [i_lt] at q; rw [i_le]; simp only [Int32.reduceToInt] at q ⊢; omega)]
    · unfold f_X5_best
      rw [min, if_neg h2, Option.bind_some, if_pos rfl]
theorem C_tuneL {I J0 : StI} {n N i : Nat} {a : AH} (hg : AV n 40 a) (hc : HC I 24 a n) (h7 : I 24 7 = 0) (hi : i < n) (hN : N ≤ 40) (hJ : CF I J0) (h48 : (J0 48 0, J0 48 1) = (-1, -9)) : Ho (f_X4_tune_L31 (nI i) (nI N) k_fu 1 J0) (fun t => (t.2 0 9, t.1) = chz (valP n N (5 + i) a) (fun q => nI (q + 1)) 9 (-1, -9) ∧ CF I t.2) := by
  have hn := hg.1
  have hi7 : i < 7 := by omega
  unfold f_X4_tune_L31
  refine Ho_loop0 (fun q s => s.1 = nI (q + 1) ∧ (s.2 48 0, s.2 48 1) = chz (valP n N (5 + i) a) (fun q => nI (q + 1)) q (-1, -9) ∧ CF I s.2) 9 (by decide) ?_ ?_ _ ⟨rfl, h48, hJ⟩
  · intro q s hq hs
    obtain ⟨v, J⟩ := s
    obtain ⟨e1, e0, e2⟩ := hs
    dsimp only at e0 e1 e2
    subst e1
    dsimp only
    unfold f_X4_tune_L31_b
    rw [if_neg (by rw [show (9 : Int32) = nI 9 from rfl, nI_ltI (by omega) (by omega)]; omega)]
    refine Ho_bm (C_lay hn hc h7 e2) (fun J1 hp => ?_)
    rw [g_i hi7, m_i hi7]
    refine Ho_bm (C_answeredIn (m := 40) (N := N) (AV_lim (v := nI (q + 1)) hg hi (by rw [i_n (by omega)]; omega)) (by omega) (HC_lim hp.1 hn hi)) (fun t ht => ?_)
    have e7 : k_up J1 (k_cq 33 i) 1 (nI (q + 1)) 33 7 = 0 := by rw [k_up_oth (by omega)]; exact hp.2.1
    rw [e7] at ht
    refine Ho_bm C_offer (fun J3 h3 => ?_)
    have e48 : ∀ k, t.2 48 k = J 48 k := fun k => by rw [ht.2.2.2 48 k (by unfold sC; omega), k_up_oth (by unfold k_cq; omega), hp.2.2 48 k (by unfold sC; omega)]
    have hv : t.1 = valP n N (5 + i) a q := ht.1
    simp only [k_let, nI_1]
    refine Ho_s ⟨rfl, ?_, ?_⟩
    · show (J3 48 0, J3 48 1) = if valP n N (5 + i) a q ≤ _ then _ else _
      rw [h3.1, e48, e48, hv, ← e0]
    · intro b k hb1 hb2
      show J3 b k = I b k
      rw [h3.2 b k (by unfold sCs at hb1; omega), ht.2.2.2 b k (by unfold sC; unfold sCs at hb1; omega), k_up_oth (by unfold k_cq; unfold sCs at hb1; omega), hp.2.2 b k (by unfold sC; unfold sCs at hb1; omega)]
      exact e2 b k hb1 hb2
  · intro s hs
    obtain ⟨v, J⟩ := s
    obtain ⟨e1, e0, e2⟩ := hs
    dsimp only at e0 e1 e2
    subst e1
    dsimp only
    unfold f_X4_tune_L31_b
    rw [if_pos (by decide)]
    simp only [k_let]
    refine Ho_s ⟨?_, e2.up33 (Or.inr ⟨rfl, rfl⟩)⟩
    show (k_up J 0 9 (J 48 0) 0 9, k_up J 0 9 (J 48 0) 48 1) = _
    rw [k_up_same, k_up_oth (by omega), e0]
theorem L_tune {I : StI} {L : StL} (h : Rel I L) (v1 v2 : Int32) : Sm (f_X4_tune v1 v2 I) (f_X5_tune v1 v2) L := by
  obtain ⟨n, fa, ds, hx⟩ := h.2.2.2
  obtain ⟨hg, hc, h7, hm, h4, hk, hrm, -⟩ := hx.vw
  have hn := hg.1.1
  have min : f_X5_in v2.toInt64 (1 : Int64) (40 : Int64) = some (if 1 ≤ v2.toInt ∧ v2.toInt ≤ 40 then 1 else 0) := by
    rw [show (1 : Int64) = (1 : Int32).toInt64 from rfl, show (40 : Int64) = (40 : Int32).toInt64 from rfl, in_i]
    rfl
  by_cases hr : 0 ≤ v1.toInt ∧ v1.toInt < n
  · by_cases h2 : 1 ≤ v2.toInt ∧ v2.toInt ≤ 40
    · have hb1 : ¬ v2 < 1 := by rw [i_lt]; simp only [Int32.reduceToInt]; omega
      have hb2 : v2 ≤ 40 := by rw [i_le]; simp only [Int32.reduceToInt]; omega
      obtain ⟨i, hi, rfl⟩ := i_in hr.1 hr.2
      obtain ⟨N, hN, rfl⟩ := i_in (n := 41) (by omega : 0 ≤ v2.toInt) (by omega)
      refine Sm_pair h (chz (valP n N (5 + i) (rep n ds fa)) (fun q => nI (q + 1)) 9 (-1, 0)) ?_ (fun J hJ => ?_)
      · unfold f_X4_tune
        rw [C_isCaller hn hc.1, if_pos hr]
        refine Ho_b1 (Ho_n0 ?_)
        rw [if_neg hb1, if_pos hb2]
        unfold f_X1_begin
        refine Ho_b1 ?_
        rw [← chz_init (w := -9) (valP_0 hn (by omega)) 8]
        refine C_tuneL hg.1 hc h7 hi (by omega) ?_ ?_
        · intro b k hb1 hb2
          rw [k_up_oth (by unfold sCs at hb1; omega), k_up_oth (by unfold sCs at hb1; omega)]
        · simp [k_up]
      · have h4' : J 63 4 = nI n := by rw [hJ 63 4 (by decide)]; exact h4
        unfold f_X5_tune
        rw [M_isCaller hn h4', if_pos hr, min, if_pos h2]
        refine Ho_b1 (Ho_n0 (Ho_b1 (Ho_n0 ?_)))
        rw [show (5 : Int32) + nI i = nI (5 + i) from nI_add 5 i]
        refine Ho_bm (M_bestOf (pl := 5 + i) (N := N) hn (fun j hj => by rw [hJ 70 _ (by decide)]; exact hm j hj) h4' (fun i hi => by rw [hJ 68 i (by decide)]; exact hk i hi) (by omega) (by omega) (fun q hq => AV_lim hg.1 hi (by rw [i_n (by omega)]; omega))) (fun t ht => Ho_s ht)
    · refine Sm_same h (-1) ?_ ?_
      · unfold f_X4_tune
        rw [C_isCaller hn hc.1, if_pos hr, Option.bind_some, if_neg (by decide)]
        by_cases q : v2 < 1
        · rw [if_pos q]
        · rw [if_neg q, if_neg (by rw [i_lt] at q; rw [i_le]; simp only [Int32.reduceToInt] at q ⊢; omega)]
      · unfold f_X5_tune
        rw [M_isCaller hn h4, if_pos hr, Option.bind_some, if_neg (by decide), min, if_neg h2, Option.bind_some, if_pos rfl]
  · refine Sm_same h (-1) ?_ ?_
    · unfold f_X4_tune
      rw [C_isCaller hn hc.1, if_neg hr, Option.bind_some, if_pos rfl]
    · unfold f_X5_tune
      rw [M_isCaller hn h4, if_neg hr, Option.bind_some, if_pos rfl]
/-- the pattern with DAY q turned -/
def patP (a : AH) (q : Nat) : Int32 := a 3 ^^^ ((1 : Int32) <<< (nI q &&& 31))
def valM (n N : Nat) (a : AH) (q : Nat) : Int32 := sm n 0 N (upd a 3 (patP a q))
def mdR (n N : Nat) (a : AH) : Int32 × Int32 := chz (valM n N a) nI 8 (sm n 0 N a, -9)
theorem C_mendL {I J0 : StI} {n N : Nat} {a : AH} (hg : AV n 40 a) (hc : HC I 24 a n) (h7 : I 24 7 = 0) (hN : N ≤ 40) (hJ : CF I J0) (h09 : J0 0 9 = I 0 9) (h48 : (J0 48 0, J0 48 1) = (sm n 0 N a, -9)) : Ho (f_X4_mend_L54 (nI N) k_fu 0 J0) (fun t => t.1 = (mdR n N a).2 ∧ t.2 0 9 = (if (mdR n N a).2 = -9 then I 0 9 else (mdR n N a).1) ∧ CF I t.2) := by
  have hn := hg.1
  unfold f_X4_mend_L54
  refine Ho_loop0 (fun q s => s.1 = nI q ∧ (s.2 48 0, s.2 48 1) = chz (valM n N a) nI q (sm n 0 N a, -9) ∧ CF I s.2 ∧ s.2 0 9 = I 0 9) 8 (by decide) ?_ ?_ _ ⟨rfl, h48, hJ, h09⟩
  · intro q s hq hs
    obtain ⟨v, J⟩ := s
    obtain ⟨e1, e0, e2, e9⟩ := hs
    dsimp only at e0 e1 e2 e9
    subst e1
    dsimp only
    unfold f_X4_mend_L54_b
    rw [if_neg (by rw [show (8 : Int32) = nI 8 from rfl, nI_leI (by omega) (by omega)]; omega)]
    refine Ho_bm (C_lay hn hc h7 e2) (fun J1 hp => ?_)
    rw [show J1 33 3 = a 3 from hp.1.2.2.1, show a 3 ^^^ ((1 : Int32) <<< (nI q &&& 31)) = patP a q from rfl]
    refine Ho_bm (C_answeredIn (m := 40) (N := N) (AV_lo (v := patP a q) hg (Or.inl rfl)) (by omega) (HC_pat hp.1)) (fun t ht => ?_)
    have e7 : k_up J1 33 3 (patP a q) 33 7 = 0 := by rw [k_up_oth (by omega)]; exact hp.2.1
    rw [e7] at ht
    refine Ho_bm C_offer (fun J3 h3 => ?_)
    have e48 : ∀ k, t.2 48 k = J 48 k := fun k => by rw [ht.2.2.2 48 k (by unfold sC; omega), k_up_oth (by omega), hp.2.2 48 k (by unfold sC; omega)]
    have hv : t.1 = valM n N a q := ht.1
    simp only [k_let, nI_1]
    refine Ho_s ⟨rfl, ?_, ?_, ?_⟩
    · show (J3 48 0, J3 48 1) = if valM n N a q ≤ _ then _ else _
      rw [h3.1, e48, e48, hv, ← e0]
    · intro b k hb1 hb2
      show J3 b k = I b k
      rw [h3.2 b k (by unfold sCs at hb1; omega), ht.2.2.2 b k (by unfold sC; unfold sCs at hb1; omega), k_up_oth (by unfold sCs at hb1; omega), hp.2.2 b k (by unfold sC; unfold sCs at hb1; omega)]
      exact e2 b k hb1 hb2
    · show J3 0 9 = I 0 9
      rw [h3.2 0 9 (by omega), ht.2.2.2 0 9 (by unfold sC; omega), k_up_oth (by omega), hp.2.2 0 9 (by unfold sC; omega)]
      exact e9
  · intro s hs
    obtain ⟨v, J⟩ := s
    obtain ⟨e1, e0, e2, e9⟩ := hs
    dsimp only at e0 e1 e2 e9
    subst e1
    dsimp only
    have p1 : J 48 0 = (mdR n N a).1 := by unfold mdR; rw [← e0]
    have p2 : J 48 1 = (mdR n N a).2 := by unfold mdR; rw [← e0]
    unfold f_X4_mend_L54_b
    rw [if_pos (by decide)]
    by_cases q : J 48 1 = -9
    · rw [if_pos q]
      refine Ho_s ⟨p2, ?_, e2⟩
      rw [if_pos (by rw [← p2]; exact q)]
      exact e9
    · rw [if_neg q]
      refine Ho_s ⟨?_, ?_, e2.up33 (Or.inr ⟨rfl, rfl⟩)⟩
      · show k_up J 0 9 (J 48 0) 48 1 = _
        rw [k_up_oth (by omega)]; exact p2
      · rw [if_neg (by rw [← p2]; exact q)]
        show k_up J 0 9 (J 48 0) 0 9 = _
        rw [k_up_same]; exact p1
theorem C_mend {I : StI} {n N : Nat} {a : AH} (hg : AV n 40 a) (hc : HC I 24 a n) (h7 : I 24 7 = 0) (h0 : 0 < n) (h1 : 1 ≤ N) (hN : N ≤ 40) : Ho (f_X4_mend (nI N) I) (fun t => t.1 = (mdR n N a).2 ∧ t.2 0 9 = (if (mdR n N a).2 = -9 then I 0 9 else (mdR n N a).1) ∧ CF I t.2) := by
  have hn := hg.1
  unfold f_X4_mend
  rw [if_neg (by rw [show (1 : Int32) = nI 1 from rfl, nI_ltI (by omega) (by omega)]; omega), if_pos (by rw [show (40 : Int32) = nI 40 from rfl, nI_leI (by omega) (by omega)]; omega), if_neg (by
    rw [hc.1]
    intro z
    have := congrArg Int32.toInt z
    rw [i_n (by omega)] at this
    simp only [Int32.reduceToInt] at this
    omega)]
  refine Ho_bm (C_lay hn hc h7 (J := I) (fun _ _ _ _ => rfl)) (fun J1 hp => ?_)
  refine Ho_bm (C_answeredIn (m := 40) (N := N) hg (by omega) hp.1) (fun t ht => ?_)
  rw [hp.2.1] at ht
  unfold f_X1_begin
  refine Ho_b1 ?_
  refine C_mendL hg hc h7 hN ?_ ?_ ?_
  · intro b k hb1 hb2
    rw [k_up_oth (by unfold sCs at hb1; omega), k_up_oth (by unfold sCs at hb1; omega), ht.2.2.2 b k (by unfold sC; unfold sCs at hb1; omega), hp.2.2 b k (by unfold sC; unfold sCs at hb1; omega)]
  · rw [k_up_oth (by omega), k_up_oth (by omega), ht.2.2.2 0 9 (by unfold sC; omega), hp.2.2 0 9 (by unfold sC; omega)]
  · rw [← ht.1]
    simp [k_up]
theorem M_mend {J0 : StI} {n N : Nat} {a : AH} (hg : AV n 40 a) (hm : HM J0 70 0 a) (h4 : J0 63 4 = nI n) (hk : KM J0 68 a n) (h0 : 0 < n) (h1 : 1 ≤ N) (hN : N ≤ 40) : Ho (f_X5_mend (nI N) J0) (fun t => t.1 = (mdR n N a).2 ∧ t.2 63 14 = (if (mdR n N a).2 = -9 then J0 63 14 else (mdR n N a).1) ∧ MF J0 t.2) := by
  have hn := hg.1
  have min : f_X5_in (nI N).toInt64 (1 : Int64) (40 : Int64) = some 1 := by
    rw [show (1 : Int64) = (1 : Int32).toInt64 from rfl, show (40 : Int64) = (40 : Int32).toInt64 from rfl, in_i, if_pos]
    rw [i_n (by omega)]
    simp only [Int32.reduceToInt]
    omega
  unfold f_X5_mend
  rw [min]
  refine Ho_b1 (Ho_n0 ?_)
  rw [if_neg (by
    rw [h4]
    intro z
    have := congrArg Int32.toInt z
    rw [i_n (by omega)] at this
    simp only [Int32.reduceToInt] at this
    omega)]
  refine Ho_bm (M_kin (I := J0) hn hk) (fun J1 hp1 => ?_)
  refine Ho_bm (M_lay (n := n) (I := J0) (J := J1) (a := a) hm hp1.2.1) (fun J2 hp2 => ?_)
  refine Ho_bm (M_goesOn (u := 0) (m := 40) (N := N) hg (by omega) hp2.1 (fun i hi => by rw [hp2.2.1 72 i (by decide)]; exact hp1.1 i hi) (by rw [hp2.2.1 63 4 (by decide), hp1.2.2 63 4 (by decide)]; exact h4)) (fun t ht => ?_)
  unfold f_X5_mend_L45
  refine Ho_loop0 (fun q s => (s.1, s.2.1) = chz (valM n N a) nI q (sm n 0 N a, -9) ∧ s.2.2.1 = nI q ∧ MF J0 s.2.2.2 ∧ KM s.2.2.2 72 a n ∧ s.2.2.2 63 14 = J0 63 14) 8 (by decide) ?_ ?_ _ ⟨by show (t.1, (-9 : Int32)) = _; rw [ht.1]; rfl, rfl, hp2.2.2.goes ht.2.2, fun i hi => ?_, ?_⟩
  · intro q s hq hs
    obtain ⟨mo, w, v, J⟩ := s
    obtain ⟨e0, e1, e2, e3, e9⟩ := hs
    dsimp only at e0 e1 e2 e3 e9
    subst e1
    dsimp only
    unfold f_X5_mend_L45_b
    rw [if_neg (by rw [show (8 : Int32) = nI 8 from rfl, nI_leI (by omega) (by omega)]; omega)]
    refine Ho_bm (M_lay (n := n) (I := J0) (J := J) (a := a) hm e2) (fun J2 hp2 => ?_)
    have h3 : J2 71 3 = a 3 := by have := hp2.1 3 (by decide); rwa [Nat.zero_add] at this
    rw [show (3 : Int32) = nI 3 from rfl, gd_n (by decide) (by decide), gd_n (by decide) (by decide), cl_n (by decide), h3]
    refine Ho_bm (M_goesOn (u := 0) (m := 40) (N := N) (AV_lo (v := patP a q) hg (Or.inl rfl)) (by omega) (HM_upd (v := patP a q) hp2.1) (fun i hi => ?_) ?_) (fun t ht => ?_)
    · rw [k_up_oth (by omega), hp2.2.1 72 i (by decide), upd_o (by omega)]
      exact e3 i hi
    · rw [k_up_oth (by omega), hp2.2.2 63 4 (by unfold sMs; omega) (by omega)]
      exact h4
    · obtain ⟨t1, t2, t3⟩ := ht
      have hMF : MF J0 t.2 := (hp2.2.2.up (Or.inl (Or.inl rfl))).goes t3
      have hKM : KM t.2 72 a n := fun i hi => by
        rw [t3 72 i (by unfold sA; omega), k_up_oth (by omega), hp2.2.1 72 i (by decide)]
        exact e3 i hi
      have h14 : t.2 63 14 = J0 63 14 := by
        rw [t3 63 14 (by unfold sA; omega), k_up_oth (by omega), hp2.2.1 63 14 (by decide)]
        exact e9
      have hv : t.1 = valM n N a q := t1
      have hm1 : mo = (chz (valM n N a) nI q (sm n 0 N a, -9)).1 := by rw [← e0]
      unfold f_X5_mend_j89
      simp only [k_let, nI_1]
      by_cases hle : t.1 ≤ mo
      · rw [if_pos hle, if_pos hle]
        refine Ho_s ⟨?_, rfl, hMF, hKM, h14⟩
        show (mo, w) = _
        rw [e0]
        show _ = if valM n N a q ≤ _ then _ else _
        rw [if_pos (by rw [← hm1, ← hv]; exact hle)]
      · rw [if_neg hle, if_neg hle]
        refine Ho_s ⟨?_, rfl, hMF, hKM, h14⟩
        show (t.1, nI q) = if valM n N a q ≤ _ then _ else _
        rw [if_neg (by rw [← hm1, ← hv]; exact hle), hv]
  · intro s hs
    obtain ⟨mo, w, v, J⟩ := s
    obtain ⟨e0, e1, e2, e3, e9⟩ := hs
    dsimp only at e0 e1 e2 e3 e9
    subst e1
    dsimp only
    have p1 : mo = (mdR n N a).1 := by unfold mdR; rw [← e0]
    have p2 : w = (mdR n N a).2 := by unfold mdR; rw [← e0]
    unfold f_X5_mend_L45_b f_X5_answer
    rw [if_pos (by decide)]
    by_cases q : w = -9
    · rw [if_pos q]
      refine Ho_s ⟨by rw [← p2]; exact q.symm, ?_, e2⟩
      rw [if_pos (by rw [← p2]; exact q)]
      exact e9
    · rw [if_neg q]
      refine Ho_s ⟨p2, ?_, e2.up (Or.inr ⟨rfl, rfl⟩)⟩
      rw [if_neg (by rw [← p2]; exact q)]
      show k_up J 63 14 mo 63 14 = _
      rw [k_up_same]; exact p1
  · show t.2 72 i = _
    rw [ht.2.2 72 i (by unfold sA; omega), hp2.2.1 72 i (by decide)]
    exact hp1.1 i hi
  · show t.2 63 14 = _
    rw [ht.2.2 63 14 (by unfold sA; omega), hp2.2.1 63 14 (by decide), hp1.2.2 63 14 (by decide)]
theorem L_mend {I : StI} {L : StL} (h : Rel I L) (v1 : Int32) : Sm (f_X4_mend v1 I) (f_X5_mend v1) L := by
  obtain ⟨n, fa, ds, hx⟩ := h.2.2.2
  obtain ⟨hg, hc, h7, hm, h4, hk, hrm, -⟩ := hx.vw
  have hn := hg.1.1
  have min : f_X5_in v1.toInt64 (1 : Int64) (40 : Int64) = some (if 1 ≤ v1.toInt ∧ v1.toInt ≤ 40 then 1 else 0) := by
    rw [show (1 : Int64) = (1 : Int32).toInt64 from rfl, show (40 : Int64) = (40 : Int32).toInt64 from rfl, in_i]
    rfl
  by_cases h2 : 1 ≤ v1.toInt ∧ v1.toInt ≤ 40
  · by_cases h0 : n = 0
    · subst h0
      refine Sm_same h (-4) ?_ ?_
      · unfold f_X4_mend
        rw [if_neg (by rw [i_lt]; simp only [Int32.reduceToInt]; omega), if_pos (by rw [i_le]; simp only [Int32.reduceToInt]; omega), if_pos (by rw [hc.1]; rfl)]
      · unfold f_X5_mend
        rw [min, if_pos h2, Option.bind_some, if_neg (by decide), if_pos (by rw [h4]; rfl)]
    · obtain ⟨N, hN, rfl⟩ := i_in (n := 41) (by omega : 0 ≤ v1.toInt) (by omega)
      rw [i_n (by omega)] at h2
      refine Sm_aside h _ _ (C_mend hg.1 hc h7 (by omega) (by omega) (by omega)) (fun J hJ => (M_mend hg.1 (fun j hj => by rw [hJ 70 _ (by decide)]; exact hm j hj) (by rw [hJ 63 4 (by decide)]; exact h4) (fun i hi => by rw [hJ 68 i (by decide)]; exact hk i hi) (by omega) (by omega) (by omega)).mono (fun u hu => ⟨hu.1, ?_, hu.2.2⟩))
      rw [hu.2.1, hJ 63 14 (by decide), h.2.2.1.1]
  · refine Sm_same h (-1) ?_ ?_
    · unfold f_X4_mend
      by_cases q : v1 < 1
      · rw [if_pos q]
      · rw [if_neg q, if_neg (by rw [i_lt] at q; rw [i_le]; simp only [Int32.reduceToInt] at q ⊢; omega)]
    · unfold f_X5_mend
      rw [min, if_neg h2, Option.bind_some, if_pos rfl]
