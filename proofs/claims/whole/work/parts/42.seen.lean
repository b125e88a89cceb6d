/-! a row that was seen: does a house go so; what is found of the row -/
def aSn (n : Nat) (a : AH) (s : Nat → Int32) : Nat → Bool
  | 0 => true
  | q + 1 => aSn n a s q && decide (sr n 0 (upv (it n 0 q a)) (it n 0 q a) = s q)
theorem aSn_no {n q : Nat} {a : AH} {s : Nat → Int32} (h : sr n 0 (upv (it n 0 q a)) (it n 0 q a) ≠ s q) : ∀ r, aSn n a s (q + 1 + r) = false
  | 0 => by
    show (aSn n a s q && decide _) = false
    rw [decide_eq_false h, Bool.and_false]
  | r + 1 => by
    show (aSn n a s (q + 1 + r) && decide _) = false
    rw [aSn_no h r, Bool.false_and]
theorem aSn_no' {n q K : Nat} {a : AH} {s : Nat → Int32} (h : sr n 0 (upv (it n 0 q a)) (it n 0 q a) ≠ s q) (hq : q < K) : aSn n a s K = false := by
  have := aSn_no h (K - (q + 1))
  rwa [show q + 1 + (K - (q + 1)) = K by omega] at this
theorem C_goesAsSeen {J0 : StI} {n r K m : Nat} {a : AH} {s : Nat → Int32} (hg : AV n m a) (hm : m + K < 400) (hc : HC J0 33 a n) (h7 : J0 33 7 = 0) (hr : r < 6) (hK : K ≤ 40) (h8 : J0 8 r = nI K) (hs : ∀ i, i < K → J0 (k_rq r) i = s i) : Ho (f_X4_goesAsSeen (nI r) J0) (fun t => t.1 = (if aSn n a s K = true then 1 else 0) ∧ ∀ b k, ¬ sC 33 b → t.2 b k = J0 b k) := by
  have hn := hg.1
  have n6 : ∀ {T : Type} {o : Option T}, k_gd (nI r) 6 o = o := gd_n hr (by decide)
  have c6 : (nI r).toNatClampNeg = r := cl_n (by omega)
  unfold f_X4_goesAsSeen f_X4_goesAsSeen_L2
  refine Ho_loop0 (fun q s' => s'.1 = nI q ∧ HC s'.2 33 (it n 0 q a) n ∧ s'.2 33 7 = 0 ∧ (∀ b k, ¬ sC 33 b → s'.2 b k = J0 b k) ∧ aSn n a s q = true) K (by omega) ?_ ?_ _ ⟨rfl, hc, h7, fun _ _ _ => rfl, rfl⟩
  · intro q s' hq hs'
    obtain ⟨v, J⟩ := s'
    obtain ⟨e1, e2, e7, e3, e4⟩ := hs'
    dsimp only at e1 e2 e7 e3 e4
    subst e1
    dsimp only
    unfold f_X4_goesAsSeen_L2_b
    have hq2 := AV_it (u := 0) hg q (by omega)
    rw [n6, c6, e3 8 r (by unfold sC; omega), h8, if_neg (by rw [nI_leI (by omega) (by omega)]; omega), C_isUp (by omega) hq2 e2]
    refine Ho_b1 ?_
    refine Ho_bm (C_pass (up := upv (it n 0 q a)) hq2 e2) (fun t ht => ?_)
    rw [e7] at ht
    have hfr : ∀ b k, ¬ sC 33 b → t.2 b k = J0 b k := fun b k hb => (ht.2.2.2 b k hb).trans (e3 b k hb)
    rw [n6, gd_n (show q < 40 by omega) (by decide), cl_n (show q < 2147483648 by omega), hfr (k_rq r) q (by unfold sC k_rq; omega), hs q hq, ht.1]
    by_cases he : sr n 0 (upv (it n 0 q a)) (it n 0 q a) = s q
    · rw [if_pos he]
      simp only [k_let, nI_1]
      refine Ho_s ⟨rfl, ht.2.1, ht.2.2.1, hfr, ?_⟩
      show (aSn n a s q && decide (sr n 0 (upv (it n 0 q a)) (it n 0 q a) = s q)) = true
      rw [e4, decide_eq_true he]
      rfl
    · rw [if_neg he]
      refine Ho_s ⟨?_, hfr⟩
      rw [aSn_no' he hq, if_neg (by decide)]
  · intro s' hs'
    obtain ⟨v, J⟩ := s'
    obtain ⟨e1, e2, e7, e3, e4⟩ := hs'
    dsimp only at e1 e2 e7 e3 e4
    subst e1
    dsimp only
    unfold f_X4_goesAsSeen_L2_b
    rw [n6, c6, e3 8 r (by unfold sC; omega), h8, if_pos (by rw [nI_leI (by omega) (by omega)]; omega)]
    refine Ho_s ⟨?_, e3⟩
    rw [if_pos e4]
theorem M_comesSo {J0 : StI} {n r K m : Nat} {a : AH} {s : Nat → Int32} (hg : AV n m a) (hm : m + K < 399) (hc : HM J0 71 0 a) (hk : KM J0 72 a n) (h4 : J0 63 4 = nI n) (hr : r < 6) (hK : K ≤ 40) (h8 : J0 64 r = nI K) (hs : ∀ i, i < K → J0 65 (40 * r + i) = s i) : Ho (f_X5_comesSo (nI r) J0) (fun t => t.1 = (if aSn n a s K = true then 1 else 0) ∧ ∀ b k, ¬ sA b k → t.2 b k = J0 b k) := by
  have hn := hg.1
  have n6 : ∀ {T : Type} {o : Option T}, k_gd (nI r) 6 o = o := gd_n hr (by decide)
  have c6 : (nI r).toNatClampNeg = r := cl_n (by omega)
  unfold f_X5_comesSo f_X5_comesSo_L2
  refine Ho_loop0 (fun q s' => s'.1 = nI q ∧ HM s'.2 71 0 (it n 0 q a) ∧ (∀ b k, ¬ sA b k → s'.2 b k = J0 b k) ∧ aSn n a s q = true) K (by omega) ?_ ?_ _ ⟨rfl, hc, fun _ _ _ => rfl, rfl⟩
  · intro q s' hq hs'
    obtain ⟨v, J⟩ := s'
    obtain ⟨e1, e2, e3, e4⟩ := hs'
    dsimp only at e1 e2 e3 e4
    subst e1
    dsimp only
    unfold f_X5_comesSo_L2_b
    have hq2 := AV_it (u := 0) hg q (by omega)
    rw [n6, c6, e3 64 r (by unfold sA; omega), h8, if_neg (by rw [nI_leI (by omega) (by omega)]; omega)]
    refine Ho_bm (M_goesOn (u := 0) (m := m + q) (N := 1) hq2 (by omega) e2 (fun i hi => ?_) ?_) (fun t ht => ?_)
    · rw [e3 72 i (by unfold sA; omega), hk i hi]
      exact (it_hi hn (by omega) q).symm
    · rw [e3 63 4 (by unfold sA; omega)]; exact h4
    · have hfr : ∀ b k, ¬ sA b k → t.2 b k = J0 b k := fun b k hb => (ht.2.2 b k hb).trans (e3 b k hb)
      have ht1 : t.1 = sr n 0 (upv (it n 0 q a)) (it n 0 q a) := ht.1.trans (Int32.zero_add _)
      rw [mul40, gd_n (show 40 * r + q < 240 by omega) (by decide), cl_n (show 40 * r + q < 2147483648 by omega), hfr 65 (40 * r + q) (by unfold sA; omega), hs q hq, ht1]
      by_cases he : sr n 0 (upv (it n 0 q a)) (it n 0 q a) = s q
      · rw [if_pos he]
        simp only [k_let, nI_1]
        refine Ho_s ⟨rfl, ht.2.1, hfr, ?_⟩
        show (aSn n a s q && decide (sr n 0 (upv (it n 0 q a)) (it n 0 q a) = s q)) = true
        rw [e4, decide_eq_true he]
        rfl
      · rw [if_neg he]
        refine Ho_s ⟨?_, hfr⟩
        rw [aSn_no' he hq, if_neg (by decide)]
  · intro s' hs'
    obtain ⟨v, J⟩ := s'
    obtain ⟨e1, e2, e3, e4⟩ := hs'
    dsimp only at e1 e2 e3 e4
    subst e1
    dsimp only
    unfold f_X5_comesSo_L2_b
    rw [n6, c6, e3 64 r (by unfold sA; omega), h8, if_pos (by rw [nI_leI (by omega) (by omega)]; omega)]
    refine Ho_s ⟨?_, e3⟩
    rw [if_pos e4]
