/-! trips -/
theorem M_goesOne {n m : Nat} {I : StI} {a b : AH} (hv : AV n m b) (hm : m + 1 < 400) (hc : HM I 71 0 b) (hk : KM I 72 b n) (h4 : I 63 4 = nI n) : Ho (f_X5_goesOn 1 0 I) (fun t => HM t.2 71 0 (sg n 0 (upv b) b) ∧ t.2 63 23 = (if wel n 0 (upv b) b = true then wst n 0 b else 0) ∧ t.2 63 24 = setOf (trb n 0 (upv b) b) n ∧ ∀ c k, ¬ sA c k → t.2 c k = I c k) := by
  unfold f_X5_goesOn f_X5_goesOn_L5
  refine Ho_loop0 (fun q s => (q = 0 → s.2.1 = 0 ∧ s.2.2 = I) ∧ (q = 1 → s.2.1 = 1 ∧ HM s.2.2 71 0 (sg n 0 (upv b) b) ∧ s.2.2 63 23 = (if wel n 0 (upv b) b = true then wst n 0 b else 0) ∧ s.2.2 63 24 = setOf (trb n 0 (upv b) b) n ∧ ∀ c k, ¬ sA c k → s.2.2 c k = I c k)) 1 (by decide) ?_ ?_ _ ⟨fun _ => ⟨rfl, rfl⟩, fun z => absurd z (by decide)⟩
  · intro q s hq hs
    obtain ⟨v, w, J⟩ := s
    have q0 : q = 0 := by omega
    subst q0
    obtain ⟨e1, e2⟩ := hs.1 rfl
    dsimp only at e1 e2
    subst e1 e2
    dsimp only
    unfold f_X5_goesOn_L5_b
    rw [if_neg (by decide), M_isUp (Or.inr rfl) (by omega) hv hc]
    refine Ho_b1 ?_
    refine Ho_bm (M_goes (u := 0) (up := upv b) (Or.inr rfl) hv hc hk h4) (fun t hp => ?_)
    simp only [k_let]
    refine Ho_s ⟨fun z => absurd z (by decide), fun _ => ⟨rfl, hp.2.1, hp.2.2.1, hp.2.2.2.1, fun c k hb => ?_⟩⟩
    unfold sA at hb
    exact hp.2.2.2.2 c k (by omega) (by omega)
  · intro s hs
    obtain ⟨v, w, J⟩ := s
    obtain ⟨e1, e2⟩ := hs.2 rfl
    dsimp only at e1 e2
    subst e1
    dsimp only
    unfold f_X5_goesOn_L5_b
    rw [if_pos (by decide)]
    exact Ho_s e2
theorem hasb_0 {i : Nat} (hi : i < 7) : hasb 0 i = false := k_lt7 (P := fun i => hasb 0 i = false) (by decide) (by decide) (by decide) (by decide) (by decide) (by decide) (by decide) hi
def tAc (n i : Nat) (a : AH) (q : Nat) : Bool := cls (it n 0 q a) 0 i && wel n 0 (upv (it n 0 q a)) (it n 0 q a)
def tTc (n i : Nat) (a : AH) (q : Nat) : Bool := trb n 0 (upv (it n 0 q a)) (it n 0 q a) i
def tCn (n i : Nat) (a : AH) : Nat → Nat
  | 0 => 0
  | q + 1 => tCn n i a q + if tAc n i a q then 1 else 0
def tFi (n i : Nat) (a : AH) : Nat → Option Nat
  | 0 => none
  | q + 1 => match tFi n i a q with
    | some j => some j
    | none => if tTc n i a q then some q else none
theorem tFi_mono {n i : Nat} {a : AH} {q j : Nat} (h : tFi n i a q = some j) : ∀ r, tFi n i a (q + r) = some j
  | 0 => h
  | r + 1 => by
    show (match tFi n i a (q + r) with
    | some j => some j
    | none => if tTc n i a (q + r) then some (q + r) else none) = some j
    rw [tFi_mono h r]
theorem tFi_hit {n i q : Nat} {a : AH} (h : tFi n i a q = none) (ht : tTc n i a q = true) (hq : q < 60) : tFi n i a 60 = some q := by
  have h1 : tFi n i a (q + 1) = some q := by
    show (match tFi n i a q with
    | some j => some j
    | none => if tTc n i a q then some q else none) = some q
    rw [h, if_pos ht]
  have := tFi_mono h1 (60 - (q + 1))
  rwa [show q + 1 + (60 - (q + 1)) = 60 by omega] at this
theorem tFi_miss {n i q : Nat} {a : AH} (h : tFi n i a q = none) (ht : ¬ tTc n i a q = true) : tFi n i a (q + 1) = none := by
  show (match tFi n i a q with
    | some j => some j
    | none => if tTc n i a q then some q else none) = none
  rw [h, if_neg ht]
def tR (n i : Nat) (a : AH) : Int32 := match tFi n i a 60 with
  | some j => nI (j + 1)
  | none => -9
def tT (n i : Nat) (a : AH) (old : Int32) : Int32 := match tFi n i a 60 with
  | some j => nI (tCn n i a j)
  | none => old
theorem tR_s {n i j : Nat} {a : AH} {o : Int32} (h : tFi n i a 60 = some j) : tR n i a = nI (j + 1) ∧ tT n i a o = nI (tCn n i a j) := by
  unfold tR tT
  rw [h]
  exact ⟨rfl, rfl⟩
theorem tR_n {n i : Nat} {a : AH} {o : Int32} (h : tFi n i a 60 = none) : tR n i a = -9 ∧ tT n i a o = o := by
  unfold tR tT
  rw [h]
  exact ⟨rfl, rfl⟩
theorem cNw_wel {n i : Nat} {up : Int32} {a : AH} (hc : cls a 0 i = true) (hw : wel n 0 up a = true) : (cNw n 0 up a i).1 ≠ 1 := by
  have h1 := CV.called (n := n) hc
  unfold cNw cAns
  rw [if_pos hc, if_pos hw]
  split
  · exact h1
  · show (0 : Int32) ≠ 1
    decide
theorem C_trips {I : StI} {n i : Nat} {a : AH} (hg : AV n 40 a) (hc : HC I 24 a n) (h7 : I 24 7 = 0) (hi : i < n) : Ho (f_X4_trips (nI i) I) (fun t => t.1 = tR n i a ∧ t.2 0 9 = tT n i a (I 0 9) ∧ CF I t.2) := by
  have hn := hg.1
  have hi7 : i < 7 := by omega
  unfold f_X4_trips
  rw [C_isCaller hn hc.1, if_pos (by rw [i_n (by omega)]; omega)]
  refine Ho_b1 (Ho_n0 ?_)
  refine Ho_bm (C_lay hn hc h7 (J := I) (fun _ _ _ _ => rfl)) (fun J1 hp => ?_)
  rw [g_i hi7, m_i hi7]
  unfold f_X4_trips_L36
  refine Ho_loop0 (fun q s => s.1 = nI (tCn n i a q) ∧ s.2.1 = nI (q + 1) ∧ HC s.2.2 33 (it n 0 q a) n ∧ s.2.2 33 7 = 0 ∧ (∀ b k, ¬ sC 33 b → s.2.2 b k = I b k) ∧ tFi n i a q = none) 60 (by decide) ?_ ?_ _ ⟨rfl, rfl, hp.1, hp.2.1, hp.2.2, rfl⟩
  · intro q s hq hs
    obtain ⟨c, v, J⟩ := s
    obtain ⟨e0, e1, e2, e7, e3, e4⟩ := hs
    dsimp only at e0 e1 e2 e7 e3 e4
    subst e0 e1
    dsimp only
    unfold f_X4_trips_L36_b
    have hq2 := AV_it (u := 0) hg q (by omega)
    have hcc := e2.2.2.2.2.2.2 i hi
    rw [if_neg (by rw [show (60 : Int32) = nI 60 from rfl, nI_ltI (by omega) (by omega)]; omega), callsIn_eq, C_isUp (by omega) hq2 e2, hcc.1, hcc.2.2.2.1, e2.2.2.2.1]
    refine Ho_b1 (Ho_b1 ?_)
    refine Ho_bm (C_pass (up := upv (it n 0 q a)) hq2 e2) (fun t ht => ?_)
    rw [e7] at ht
    have h2 : HC t.2 33 (it n 0 (q + 1) a) n := ht.2.1
    have hhow : t.2 (k_cq 33 i) 3 = (cNw n 0 (upv (it n 0 q a)) (it n 0 q a) i).1 := by
      rw [(h2.2.2.2.2.2.2 i hi).2.2.2.1]
      exact sg_12 hn hi
    have hfr : ∀ b k, ¬ sC 33 b → t.2 b k = I b k := fun b k hb => (ht.2.2.2 b k hb).trans (e3 b k hb)
    have hcl : cls (it n 0 q a) 0 i = (decide (it n 0 q a (12 + i) ≠ 1) && (decide (it n 0 q a (40 + i) ≠ 4) || decide (it n 0 q a 0 - it n 0 q a 0 / 2 * 2 = 0))) := by
      unfold cls
      rw [hasb_0 hi7, Bool.not_false, Bool.and_true]
    rw [← hcl]
    unfold f_X4_trips_j78 f_X4_trips_j101
    by_cases hC : cls (it n 0 q a) 0 i = true
    · have hps := set_pos (p := cls (it n 0 q a) 0) hn hi hC
      by_cases hW : wel n 0 (upv (it n 0 q a)) (it n 0 q a) = true
      · have hne : ¬ t.2 (k_cq 33 i) 3 = 1 := by rw [hhow]; exact cNw_wel hC hW
        have hsr : ¬ t.1 ≤ 0 := by
          rw [ht.1]
          unfold sr
          rw [if_pos hW, i_le]
          unfold wst
          simp only [Int32.reduceToInt]
          omega
        have hA : tAc n i a q = true := by unfold tAc; rw [hC, hW]; rfl
        have hT : ¬ tTc n i a q = true := by unfold tTc trb; rw [hC, hW]; simp
        rw [if_neg hsr, if_pos hC, if_neg (by decide), if_neg hne, if_neg (by decide), if_neg (by decide)]
        simp only [k_let, nI_1]
        refine Ho_s ⟨?_, rfl, h2, ht.2.2.1, hfr, tFi_miss e4 hT⟩
        show nI (tCn n i a q + 1) = nI (tCn n i a q + if tAc n i a q then 1 else 0)
        rw [if_pos hA]
      · have hsr : t.1 ≤ 0 := by
          rw [ht.1]
          unfold sr
          rw [if_neg hW]
          decide
        have hA : ¬ tAc n i a q = true := by unfold tAc; rw [hC]; simpa using hW
        rw [if_pos hsr, if_pos hC, if_neg (by decide)]
        by_cases hh : t.2 (k_cq 33 i) 3 = 1
        · have hT : tTc n i a q = true := by
            unfold tTc trb
            rw [hhow] at hh
            rw [hC, hh]
            simpa using hW
          rw [if_pos hh]
          obtain ⟨r1, r2⟩ := tR_s (o := I 0 9) (tFi_hit e4 hT hq)
          refine Ho_s ⟨r1.symm, ?_, ?_⟩
          · show k_up t.2 0 9 (nI (tCn n i a q)) 0 9 = _
            rw [k_up_same, r2]
          · exact CF.up33 (CF.trans33 (fun _ _ _ _ => rfl) hfr) (Or.inr ⟨rfl, rfl⟩)
        · have hT : ¬ tTc n i a q = true := by
            unfold tTc trb
            rw [hhow] at hh
            rw [decide_eq_false hh]
            simp
          rw [if_neg hh, if_neg (by decide), if_pos rfl]
          simp only [k_let, nI_1]
          refine Ho_s ⟨?_, rfl, h2, ht.2.2.1, hfr, tFi_miss e4 hT⟩
          show nI (tCn n i a q) = nI (tCn n i a q + if tAc n i a q then 1 else 0)
          rw [if_neg hA]
          rfl
    · have hA : ¬ tAc n i a q = true := by unfold tAc; simp [hC]
      have hT : ¬ tTc n i a q = true := by unfold tTc trb; simp [hC]
      rw [if_neg hC, if_pos rfl, if_pos rfl, if_pos rfl, if_pos rfl]
      simp only [k_let, nI_1, ite_self]
      refine Ho_s ⟨?_, rfl, h2, ht.2.2.1, hfr, tFi_miss e4 hT⟩
      show nI (tCn n i a q) = nI (tCn n i a q + if tAc n i a q then 1 else 0)
      rw [if_neg hA]
      rfl
  · intro s hs
    obtain ⟨c, v, J⟩ := s
    obtain ⟨e0, e1, e2, e7, e3, e4⟩ := hs
    dsimp only at e0 e1 e2 e7 e3 e4
    subst e1
    dsimp only
    unfold f_X4_trips_L36_b
    rw [if_pos (by decide)]
    obtain ⟨r1, r2⟩ := tR_n (o := I 0 9) e4
    refine Ho_s ⟨r1.symm, ?_, CF.trans33 (fun _ _ _ _ => rfl) e3⟩
    rw [r2]
    exact e3 0 9 (by unfold sC; omega)
theorem M_trips {J0 : StI} {n i : Nat} {a : AH} (hg : AV n 40 a) (hm : HM J0 70 0 a) (h4 : J0 63 4 = nI n) (hk : KM J0 68 a n) (hi : i < n) : Ho (f_X5_trips (nI i) J0) (fun t => t.1 = tR n i a ∧ t.2 63 14 = tT n i a (J0 63 14) ∧ MF J0 t.2) := by
  have hn := hg.1
  have hi7 : i < 7 := by omega
  unfold f_X5_trips
  rw [M_isCaller hn h4, if_pos (by rw [i_n (by omega)]; omega)]
  refine Ho_b1 (Ho_n0 ?_)
  refine Ho_bm (M_kin (I := J0) hn hk) (fun J1 hp1 => ?_)
  refine Ho_bm (M_lay (n := n) (I := J0) (J := J1) (a := a) hm hp1.2.1) (fun J2 hp2 => ?_)
  unfold f_X5_trips_L22
  refine Ho_loop0 (fun q s => s.1 = nI (tCn n i a q) ∧ s.2.1 = nI (q + 1) ∧ HM s.2.2 71 0 (it n 0 q a) ∧ KM s.2.2 72 a n ∧ MF J0 s.2.2 ∧ s.2.2 63 14 = J0 63 14 ∧ tFi n i a q = none) 60 (by decide) ?_ ?_ _ ⟨rfl, rfl, hp2.1, fun j hj => ?_, hp2.2.2, ?_, rfl⟩
  · intro q s hq hs
    obtain ⟨c, v, J⟩ := s
    obtain ⟨e0, e1, e2, e3, e9, e14, e4⟩ := hs
    dsimp only at e0 e1 e2 e3 e9 e14 e4
    subst e0 e1
    dsimp only
    unfold f_X5_trips_L22_b
    have h4' : J 63 4 = nI n := by rw [e9 63 4 (by unfold sMs; omega) (by omega)]; exact h4
    have hq2 := AV_it (u := 0) hg q (by omega)
    rw [if_neg (by rw [show (61 : Int32) = nI 61 from rfl, nI_leI (by omega) (by omega)]; omega)]
    refine Ho_bm (M_goesOne (a := a) hq2 (by omega) e2 (fun j hj => by rw [e3 j hj]; exact (it_hi hn (by omega) q).symm) h4') (fun t ht => ?_)
    obtain ⟨t1, t2, t3, t4⟩ := ht
    have hKM : KM t.2 72 a n := fun j hj => by
      rw [t4 72 j (by unfold sA; omega)]
      exact e3 j hj
    have hMF := e9.goes t4
    have h14 : t.2 63 14 = J0 63 14 := by rw [t4 63 14 (by unfold sA; omega)]; exact e14
    have ha : hasb (t.2 63 23) i = tAc n i a q := by
      rw [t2]
      unfold tAc
      by_cases hW : wel n 0 (upv (it n 0 q a)) (it n 0 q a) = true
      · rw [if_pos hW, hW, Bool.and_true]
        exact has_set hn hi
      · rw [if_neg hW, hasb_0 hi7]
        simp [hW]
    have htr : hasb (t.2 63 24) i = tTc n i a q := by
      rw [t3]
      exact has_set hn hi
    have hx : ∀ x : Int32, nI (tCn n i a q) + x = nI (tCn n i a (q + 1)) → Ho (f_X5_trips_j53 (nI i) (nI (q + 1)) (nI (tCn n i a q)) x t.2) (Sum.elim (fun s => s.1 = nI (tCn n i a (q + 1)) ∧ s.2.1 = nI (q + 1 + 1) ∧ HM s.2.2 71 0 (it n 0 (q + 1) a) ∧ KM s.2.2 72 a n ∧ MF J0 s.2.2 ∧ s.2.2 63 14 = J0 63 14 ∧ tFi n i a (q + 1) = none) (fun t => t.1 = tR n i a ∧ t.2 63 14 = tT n i a (J0 63 14) ∧ MF J0 t.2)) := by
      intro x hx
      unfold f_X5_trips_j53 f_X5_answer
      simp only [k_let, nI_1, hx]
      rw [M_has, htr]
      refine Ho_b1 ?_
      by_cases hT : tTc n i a q = true
      · rw [if_pos hT, if_neg (by decide)]
        obtain ⟨r1, r2⟩ := tR_s (o := J0 63 14) (tFi_hit e4 hT hq)
        have hA : ¬ tAc n i a q = true := by
          unfold tTc trb at hT
          unfold tAc
          intro z
          simp only [Bool.and_eq_true, Bool.not_eq_true'] at hT z
          rw [z.2] at hT
          exact absurd hT.1.2 (by decide)
        refine Ho_s ⟨r1.symm, ?_, hMF.up (Or.inr ⟨rfl, rfl⟩)⟩
        show k_up t.2 63 14 (nI (tCn n i a (q + 1))) 63 14 = _
        rw [k_up_same, r2]
        show nI (tCn n i a q + if tAc n i a q then 1 else 0) = _
        rw [if_neg hA]
        rfl
      · rw [if_neg hT, if_pos rfl]
        exact Ho_s ⟨rfl, rfl, t1, hKM, hMF, h14, tFi_miss e4 hT⟩
    rw [M_has, ha]
    refine Ho_b1 ?_
    by_cases hA : tAc n i a q = true
    · rw [if_pos hA, if_neg (by decide)]
      refine hx 1 ?_
      show nI (tCn n i a q) + 1 = nI (tCn n i a q + if tAc n i a q then 1 else 0)
      rw [if_pos hA, nI_1]
    · rw [if_neg hA, if_pos rfl]
      refine hx 0 ?_
      show nI (tCn n i a q) + 0 = nI (tCn n i a q + if tAc n i a q then 1 else 0)
      rw [if_neg hA, show (0 : Int32) = nI 0 from rfl, nI_add]
  · intro s hs
    obtain ⟨c, v, J⟩ := s
    obtain ⟨e0, e1, e2, e3, e9, e14, e4⟩ := hs
    dsimp only at e0 e1 e2 e3 e9 e14 e4
    subst e1
    dsimp only
    unfold f_X5_trips_L22_b
    rw [if_pos (by decide)]
    obtain ⟨r1, r2⟩ := tR_n (o := J0 63 14) e4
    refine Ho_s ⟨r1.symm, ?_, e9⟩
    rw [r2]
    exact e14
  · show J2 72 j = _
    rw [hp2.2.1 72 j (by decide)]
    exact hp1.1 j hj
  · show J2 63 14 = _
    rw [hp2.2.1 63 14 (by decide), hp1.2.2 63 14 (by decide)]
theorem L_trips {I : StI} {L : StL} (h : Rel I L) (v1 : Int32) : Sm (f_X4_trips v1 I) (f_X5_trips v1) L := by
  obtain ⟨n, fa, ds, hx⟩ := h.2.2.2
  obtain ⟨hg, hc, h7, hm, h4, hk, hrm, -⟩ := hx.vw
  have hn := hg.1.1
  by_cases hr : 0 ≤ v1.toInt ∧ v1.toInt < n
  · obtain ⟨i, hi, rfl⟩ := i_in hr.1 hr.2
    refine Sm_aside h _ _ (C_trips hg.1 hc h7 hi) (fun J hJ => (M_trips hg.1 (fun j hj => by rw [hJ 70 _ (by decide)]; exact hm j hj) (by rw [hJ 63 4 (by decide)]; exact h4) (fun i hi => by rw [hJ 68 i (by decide)]; exact hk i hi) hi).mono (fun u hu => ⟨hu.1, ?_, hu.2.2⟩))
    rw [hu.2.1, hJ 63 14 (by decide), h.2.2.1.1]
  · refine Sm_same h (-1) ?_ ?_
    · unfold f_X4_trips
      rw [C_isCaller hn hc.1, if_neg hr, Option.bind_some, if_pos rfl]
    · unfold f_X5_trips
      rw [M_isCaller hn h4, if_neg hr, Option.bind_some, if_pos rfl]
