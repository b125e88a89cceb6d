/-! worst -/
def ctr (p : Nat → Bool) : Nat → Nat
  | 0 => 0
  | k + 1 => ctr p k + if p k then 0 else 1
theorem ctr_le (p : Nat → Bool) : ∀ k, ctr p k ≤ k
  | 0 => Nat.le_refl 0
  | k + 1 => by
    have := ctr_le p k
    show ctr p k + (if p k then 0 else 1) ≤ k + 1
    split <;> omega
theorem ctr_congr {p q : Nat → Bool} : ∀ {n : Nat}, (∀ j, j < n → p j = q j) → ctr p n = ctr q n
  | 0, _ => rfl
  | n + 1, h => by
    show ctr p n + (if p n then _ else _) = ctr q n + (if q n then _ else _)
    rw [ctr_congr (n := n) (fun j hj => h j (by omega)), h n (by omega)]
theorem ctr_set0 : ∀ b0 b1 b2 b3 b4 b5 b6 : Bool, ∀ n : Fin 8, nI n.val - pcn (setOf (b7 b0 b1 b2 b3 b4 b5 b6) n.val) = nI (ctr (b7 b0 b1 b2 b3 b4 b5 b6) n.val) := by decide +kernel
theorem ctr_set (p : Nat → Bool) {n : Nat} (hn : n ≤ 7) : nI n - pcn (setOf p n) = nI (ctr p n) := by
  have e : ctr p n = ctr (b7 (p 0) (p 1) (p 2) (p 3) (p 4) (p 5) (p 6)) n := by
    apply ctr_congr
    intro j hj
    exact k_lt7 (P := fun j => p j = b7 (p 0) (p 1) (p 2) (p 3) (p 4) (p 5) (p 6) j) rfl rfl rfl rfl rfl rfl rfl (by omega)
  rw [b7_eq p hn, e]
  exact ctr_set0 _ _ _ _ _ _ _ ⟨n, by omega⟩
/-- how many are not open -/
def nop (n : Nat) (a : AH) : Int32 := nI (ctr (fun i => decide (a (12 + i) = 1)) n)
theorem C_notOpen {h n : Nat} {I : StI} {a : AH} (hn : n ≤ 7) (hc : HC I h a n) : f_X3_notOpen h I = some (nop n a) := by
  unfold f_X3_notOpen
  rw [C_open hn hc, Option.bind_some, pcn_eq, Option.bind_some, hc.1]
  unfold opn
  rw [ctr_set _ hn]
  rfl
def wmn (n : Nat) (a : AH) : Nat → Int32 × Int32
  | 0 => (nop n a, 0)
  | q + 1 => if (wmn n a q).1 ≤ nop n (it n 0 (q + 1) a) then wmn n a q else (nop n (it n 0 (q + 1) a), nI (q + 1))
def wm8 (n : Nat) (a : AH) : Nat → Int32 × Int32
  | 0 => (8, 0)
  | q + 1 => if (wm8 n a q).1 ≤ nop n (it n 0 q a) then wm8 n a q else (nop n (it n 0 q a), nI q)
theorem wm8_eq {n : Nat} {a : AH} (hn : n ≤ 7) : ∀ q, wm8 n a (q + 1) = wmn n a q
  | 0 => by
    show (if (8 : Int32) ≤ nop n a then ((8 : Int32), (0 : Int32)) else (nop n a, 0)) = (nop n a, 0)
    rw [if_neg]
    have := ctr_le (fun i => decide (a (12 + i) = 1)) n
    unfold nop
    rw [show (8 : Int32) = nI 8 from rfl, nI_leI (by omega) (by omega)]
    omega
  | q + 1 => by
    show (if (wm8 n a (q + 1)).1 ≤ nop n (it n 0 (q + 1) a) then wm8 n a (q + 1) else _) = (if (wmn n a q).1 ≤ _ then wmn n a q else _)
    rw [wm8_eq hn q]
theorem it_hi {n j : Nat} {u : Int32} {a : AH} (hn : n ≤ 7) (hj : 40 ≤ j) : ∀ k, it n u k a j = a j
  | 0 => rfl
  | k + 1 => by
    show sg n u (upv (it n u k a)) (it n u k a) j = a j
    rw [sg_o (by omega) (Or.inr hj) hn]
    exact it_hi hn hj k
theorem C_worst {I : StI} {n : Nat} {a : AH} (hg : AV n 40 a) (hc : HC I 24 a n) (h7 : I 24 7 = 0) (h0 : 0 < n) : Ho (f_X4_worst I) (fun t => (t.2 0 9, t.1) = wmn n a 60 ∧ CF I t.2) := by
  have hn := hg.1
  unfold f_X4_worst
  rw [if_neg (by
    rw [hc.1]
    intro z
    have := congrArg Int32.toInt z
    rw [i_n (by omega)] at this
    simp only [Int32.reduceToInt] at this
    omega)]
  refine Ho_bm (C_lay hn hc h7 (J := I) (fun _ _ _ _ => rfl)) (fun J1 hp => ?_)
  rw [C_notOpen hn hp.1]
  refine Ho_b1 ?_
  unfold f_X4_worst_L36
  refine Ho_loop0 (fun q s => (s.1, s.2.1) = wmn n a q ∧ s.2.2.1 = nI (q + 1) ∧ HC s.2.2.2 33 (it n 0 q a) n ∧ s.2.2.2 33 7 = 0 ∧ CF I s.2.2.2) 60 (by decide) ?_ ?_ _ ⟨rfl, rfl, hp.1, hp.2.1, CF.trans33 (fun _ _ _ _ => rfl) hp.2.2⟩
  · intro q s hq hs
    obtain ⟨mo, w, v, J⟩ := s
    obtain ⟨e0, e1, e2, e7, e3⟩ := hs
    dsimp only at e0 e1 e2 e7 e3
    subst e1
    dsimp only
    unfold f_X4_worst_L36_b
    have hq2 := AV_it (u := 0) hg q (by omega)
    rw [if_neg (by rw [show (60 : Int32) = nI 60 from rfl, nI_ltI (by omega) (by omega)]; omega), C_isUp (by omega) hq2 e2]
    refine Ho_b1 ?_
    refine Ho_bm (C_pass (up := upv (it n 0 q a)) hq2 e2) (fun t ht => ?_)
    rw [e7] at ht
    have h2 : HC t.2 33 (it n 0 (q + 1) a) n := ht.2.1
    rw [C_notOpen hn h2]
    refine Ho_b1 ?_
    have hm1 : mo = (wmn n a q).1 := by rw [← e0]
    by_cases hle : mo ≤ nop n (it n 0 (q + 1) a)
    · rw [if_pos hle]
      simp only [k_let, nI_1]
      refine Ho_s ⟨?_, rfl, h2, ht.2.2.1, CF.trans33 e3 ht.2.2.2⟩
      show (mo, w) = if (wmn n a q).1 ≤ _ then _ else _
      rw [if_pos (by rw [← hm1]; exact hle), e0]
    · rw [if_neg hle]
      refine Ho_b1 ?_
      simp only [k_let, nI_1]
      refine Ho_s ⟨?_, rfl, h2, ht.2.2.1, CF.trans33 e3 ht.2.2.2⟩
      show (nop n (it n 0 (q + 1) a), nI (q + 1)) = if (wmn n a q).1 ≤ _ then _ else _
      rw [if_neg (by rw [← hm1]; exact hle)]
  · intro s hs
    obtain ⟨mo, w, v, J⟩ := s
    obtain ⟨e0, e1, e2, e7, e3⟩ := hs
    dsimp only at e0 e1 e2 e7 e3
    subst e1
    dsimp only
    unfold f_X4_worst_L36_b
    rw [if_pos (by decide)]
    simp only [k_let]
    refine Ho_s ⟨?_, e3.up33 (Or.inr ⟨rfl, rfl⟩)⟩
    show (k_up J 0 9 mo 0 9, w) = _
    rw [k_up_same, e0]
theorem M_worst {J0 : StI} {n : Nat} {a : AH} (hg : AV n 40 a) (hm : HM J0 70 0 a) (h4 : J0 63 4 = nI n) (hk : KM J0 68 a n) (h0 : 0 < n) : Ho (f_X5_worst J0) (fun t => (t.2 63 14, t.1) = wmn n a 60 ∧ MF J0 t.2) := by
  have hn := hg.1
  unfold f_X5_worst
  rw [if_neg (by
    rw [h4]
    intro z
    have := congrArg Int32.toInt z
    rw [i_n (by omega)] at this
    simp only [Int32.reduceToInt] at this
    omega)]
  refine Ho_bm (M_kin (I := J0) hn hk) (fun J1 hp1 => ?_)
  refine Ho_bm (M_lay (n := n) (I := J0) (J := J1) (a := a) hm hp1.2.1) (fun J2 hp2 => ?_)
  unfold f_X5_worst_L25
  refine Ho_loop0 (fun q s => (s.2.1, s.1) = wm8 n a q ∧ s.2.2.1 = nI q ∧ HM s.2.2.2 71 0 (it n 0 q a) ∧ KM s.2.2.2 72 a n ∧ MF J0 s.2.2.2) 61 (by decide) ?_ ?_ _ ⟨rfl, rfl, hp2.1, fun i hi => ?_, hp2.2.2⟩
  · intro q s hq hs
    obtain ⟨w, mo, v, J⟩ := s
    obtain ⟨e0, e1, e2, e3, e9⟩ := hs
    dsimp only at e0 e1 e2 e3 e9
    subst e1
    dsimp only
    unfold f_X5_worst_L25_b
    have h4' : J 63 4 = nI n := by rw [e9 63 4 (by unfold sMs; omega) (by omega)]; exact h4
    have hq2 := AV_it (u := 0) hg q (by omega)
    have hm1 : mo = (wm8 n a q).1 := by rw [← e0]
    rw [if_neg (by rw [show (61 : Int32) = nI 61 from rfl, nI_leI (by omega) (by omega)]; omega)]
    unfold f_X5_worst_L37
    refine Ho_loop0 (fun i r => r.1 = nI (ctr (fun i => decide (it n 0 q a (12 + i) = 1)) i) ∧ r.2 = nI i) n (by omega) ?_ ?_ _ ⟨rfl, rfl⟩
    · intro i r hi hr
      obtain ⟨c, x⟩ := r
      obtain ⟨r1, r2⟩ := hr
      dsimp only at r1 r2
      subst r1 r2
      dsimp only
      have hi7 : i < 7 := by omega
      have hcl := ctr_le (fun i => decide (it n 0 q a (12 + i) = 1)) i
      have hj := e2 (12 + i) (by omega)
      rw [Nat.zero_add] at hj
      unfold f_X5_worst_L37_b f_X5_worst_j67
      rw [if_neg (by rw [h4', nI_leI (by omega) (by omega)]; omega), g_12 hi7, m_12 hi7, hj]
      simp only [k_let, nI_1]
      by_cases hh : it n 0 q a (12 + i) = 1
      · rw [if_pos hh]
        refine Ho_s ⟨?_, rfl⟩
        show nI (ctr _ i) + 0 = nI (ctr _ i + if decide (it n 0 q a (12 + i) = 1) = true then 0 else 1)
        rw [if_pos (by simpa using hh), show (0 : Int32) = nI 0 from rfl, nI_add]
      · rw [if_neg hh]
        refine Ho_s ⟨?_, rfl⟩
        show nI (ctr _ i + 1) = nI (ctr _ i + if decide (it n 0 q a (12 + i) = 1) = true then 0 else 1)
        rw [if_neg (by simpa using hh)]
    · intro r hr
      obtain ⟨c, x⟩ := r
      obtain ⟨r1, r2⟩ := hr
      dsimp only at r1 r2
      subst r2
      dsimp only
      have r1 : c = nop n (it n 0 q a) := r1
      have key : ∀ w' m', (m', w') = wm8 n a (q + 1) → Ho (Option.map Sum.inr (f_X5_worst_j100 w' (nI q) m' J)) (Sum.elim (fun _ => False) (Sum.elim (fun s => (s.2.1, s.1) = wm8 n a (q + 1) ∧ s.2.2.1 = nI (q + 1) ∧ HM s.2.2.2 71 0 (it n 0 (q + 1) a) ∧ KM s.2.2.2 72 a n ∧ MF J0 s.2.2.2) (fun t => (t.2 63 14, t.1) = wmn n a 60 ∧ MF J0 t.2)) : (Int32 × Int32) ⊕ ((Int32 × Int32 × Int32 × StI) ⊕ (Int32 × StI)) → Prop) := by
        intro w' m' hw
        rw [Ho_map_i]
        unfold f_X5_worst_j100
        refine Ho_bm (M_goesOn (u := 0) (m := 40 + q) (N := 1) hq2 (by omega) e2 (fun i hi => ?_) h4') (fun t ht => ?_)
        · rw [e3 i hi]
          exact (it_hi hn (by omega) q).symm
        · simp only [k_let, nI_1]
          refine Ho_s ⟨hw, rfl, ht.2.1, fun i hi => ?_, e9.goes ht.2.2⟩
          show t.2 72 i = _
          rw [ht.2.2 72 i (by unfold sA; omega)]
          exact e3 i hi
      unfold f_X5_worst_L37_b f_X5_worst_j87
      rw [if_pos (by rw [h4', nI_leI (by omega) (by omega)]; omega)]
      by_cases hle : mo ≤ c
      · rw [if_pos hle, if_pos hle]
        refine key w mo ?_
        show (mo, w) = if (wm8 n a q).1 ≤ _ then _ else _
        rw [if_pos (by rw [← hm1, ← r1]; exact hle), e0]
      · rw [if_neg hle, if_neg hle]
        refine key (nI q) c ?_
        show (c, nI q) = if (wm8 n a q).1 ≤ _ then _ else _
        rw [if_neg (by rw [← hm1, ← r1]; exact hle), r1]
  · intro s hs
    obtain ⟨w, mo, v, J⟩ := s
    obtain ⟨e0, e1, e2, e3, e9⟩ := hs
    dsimp only at e0 e1 e2 e3 e9
    subst e1
    dsimp only
    unfold f_X5_worst_L25_b f_X5_answer
    rw [if_pos (by decide)]
    refine Ho_s ⟨?_, e9.up (Or.inr ⟨rfl, rfl⟩)⟩
    show (k_up J 63 14 mo 63 14, w) = _
    rw [k_up_same, e0, wm8_eq hn 60]
  · show J2 72 i = _
    rw [hp2.2.1 72 i (by decide)]
    exact hp1.1 i hi
theorem L_worst {I : StI} {L : StL} (h : Rel I L) : Sm (f_X4_worst I) f_X5_worst L := by
  obtain ⟨n, fa, ds, hx⟩ := h.2.2.2
  obtain ⟨hg, hc, h7, hm, h4, hk, hrm, -⟩ := hx.vw
  have hn := hg.1.1
  by_cases h0 : n = 0
  · subst h0
    refine Sm_same h (-4) ?_ ?_
    · unfold f_X4_worst
      rw [if_pos (by rw [hc.1]; rfl)]
    · unfold f_X5_worst
      rw [if_pos (by rw [h4]; rfl)]
  · exact Sm_pair h _ (C_worst hg.1 hc h7 (by omega)) (fun J hJ => M_worst hg.1 (fun j hj => by rw [hJ 70 _ (by decide)]; exact hm j hj) (by rw [hJ 63 4 (by decide)]; exact h4) (fun i hi => by rw [hJ 68 i (by decide)]; exact hk i hi) (by omega))
