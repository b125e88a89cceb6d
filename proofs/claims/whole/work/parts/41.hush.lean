/-! hush -/
theorem pc_rng0 : ∀ n : Fin 8, ∀ u : Fin 128, u.val < 2 ^ n.val → 0 ≤ (pcn (nI u.val)).toInt ∧ (pcn (nI u.val)).toInt ≤ n.val ∧ f_X5_bits (nI u.val) = some (pcn (nI u.val)) := by decide +kernel
theorem shl0 : ∀ n : Fin 8, (1 : Int32) <<< (nI n.val &&& 31) = nI (2 ^ n.val) ∧ 2 ^ n.val ≤ 128 ∧ 0 < 2 ^ n.val := by decide +kernel
theorem pc_rng {n u : Nat} (hn : n ≤ 7) (hu : u < 2 ^ n) : 0 ≤ (pcn (nI u)).toInt ∧ (pcn (nI u)).toInt ≤ n ∧ f_X5_bits (nI u) = some (pcn (nI u)) :=
  pc_rng0 ⟨n, by omega⟩ ⟨u, by have := (shl0 ⟨n, by omega⟩).2.1; dsimp only at this; omega⟩ hu
theorem shl {n : Nat} (hn : n ≤ 7) : (1 : Int32) <<< (nI n &&& 31) = nI (2 ^ n) ∧ 2 ^ n ≤ 128 ∧ 0 < 2 ^ n := shl0 ⟨n, by omega⟩
/-- u is the best of S -/
def BI (v b : Nat → Int) (S : Nat → Prop) (u : Nat) : Prop := S u ∧ ∀ x, S x → v x < v u ∨ (v x = v u ∧ (b u < b x ∨ (b u = b x ∧ u ≤ x)))
theorem BI.uniq {v b : Nat → Int} {S : Nat → Prop} {u w : Nat} (h1 : BI v b S u) (h2 : BI v b S w) : u = w := by
  have a := h1.2 w h2.1
  have c := h2.2 u h1.1
  omega
theorem BI.mono {v b : Nat → Int} {S T : Nat → Prop} {u : Nat} (h : BI v b S u) (hst : ∀ x, S x ↔ T x) : BI v b T u := ⟨(hst u).mp h.1, fun x hx => h.2 x ((hst x).mpr hx)⟩
def hV (n N : Nat) (a : AH) (u : Nat) : Int := (sm n (nI u) N a).toInt
def hB (u : Nat) : Int := (pcn (nI u)).toInt
theorem HC_hush {J : StI} {n : Nat} {a : AH} {v : Int32} (h : HC J 33 a n) : HC (k_up J 33 7 v) 33 a n := by
  obtain ⟨c1, c2, c3, c4, c5, c6, cc⟩ := h
  refine ⟨by rw [k_up_oth (by omega)]; exact c1, by rw [k_up_oth (by omega)]; exact c2, by rw [k_up_oth (by omega)]; exact c3, by rw [k_up_oth (by omega)]; exact c4, by rw [k_up_oth (by omega)]; exact c5, by rw [k_up_oth (by omega)]; exact c6, fun i hi => ?_⟩
  have hq : ∀ k, k_up J 33 7 v (k_cq 33 i) k = J (k_cq 33 i) k := fun k => k_up_oth (by unfold k_cq; omega)
  rw [hq, hq, hq, hq, hq, hq, hq]
  exact cc i hi
/-- the class has offered all smaller sets, and of those of m the ones under q -/
def hS (n m q : Nat) (u : Nat) : Prop := u < 2 ^ n ∧ (hB u < m ∨ (hB u = m ∧ u < q))
def hI (n N : Nat) (a : AH) (m q : Nat) (J : StI) : Prop := (m = 0 ∧ q = 0 ∧ J 48 0 = -1) ∨ ∃ u, BI (hV n N a) hB (hS n m q) u ∧ J 48 0 = sm n (nI u) N a ∧ J 48 1 = nI u
theorem C_hushL {I J0 : StI} {n N m : Nat} {a : AH} (hg : AV n 40 a) (hc : HC I 24 a n) (h7 : I 24 7 = 0) (hN : N ≤ 20) (hm : m ≤ n) (hJ : CF I J0) (h0 : hI n N a m 0 J0) : Ho (f_X4_offerSetsOf (nI m) (nI N) J0) (fun J => hI n N a m (2 ^ n) J ∧ CF I J) := by
  have hn := hg.1
  obtain ⟨s1, s2, s3⟩ := shl hn
  have h24 : J0 24 1 = nI n := by rw [hJ 24 1 (by unfold sCs; omega) (by omega)]; exact hc.1
  unfold f_X4_offerSetsOf
  simp only [k_let]
  rw [h24, s1]
  unfold f_X4_offerSetsOf_L13
  refine Ho_loop0 (fun q s => s.1 = nI q ∧ hI n N a m q s.2 ∧ CF I s.2) (2 ^ n) (by omega) ?_ ?_ _ ⟨rfl, h0, hJ⟩
  · intro q s hq hs
    obtain ⟨v, J⟩ := s
    obtain ⟨e1, e0, e2⟩ := hs
    dsimp only at e0 e1 e2
    subst e1
    dsimp only
    unfold f_X4_offerSetsOf_L13_b
    obtain ⟨p1, p2, -⟩ := pc_rng hn hq
    rw [if_neg (by rw [nI_leI (by omega) (by omega)]; omega), pcn_eq]
    refine Ho_b1 ?_
    by_cases hb : pcn (nI q) = nI m
    · have hbq : hB q = m := by unfold hB; rw [hb, i_n (by omega)]
      rw [if_pos hb]
      refine Ho_bm (C_lay hn hc h7 e2) (fun J1 hp => ?_)
      refine Ho_bm (C_answeredIn (m := 40) (N := N) hg (by omega) (HC_hush (v := nI q) hp.1)) (fun t ht => ?_)
      rw [k_up_same] at ht
      refine Ho_bm C_offer (fun J3 h3 => ?_)
      have e48 : ∀ k, t.2 48 k = J 48 k := fun k => by rw [ht.2.2.2 48 k (by unfold sC; omega), k_up_oth (by omega), hp.2.2 48 k (by unfold sC; omega)]
      have hr := sm_rng (u := nI q) (a := a) hn N (by omega)
      simp only [k_let, nI_1]
      refine Ho_s ⟨rfl, Or.inr ?_, ?_⟩
      · have h31 := h3.1
        rw [e48, e48, ht.1] at h31
        rcases e0 with ⟨z1, z2, z3⟩ | ⟨u, ⟨hu, hall⟩, w1, w2⟩
        · rw [if_neg (by rw [z3, i_le]; simp only [Int32.reduceToInt]; omega)] at h31
          refine ⟨q, ⟨⟨hq, Or.inr ⟨hbq, by omega⟩⟩, fun x hx => ?_⟩, congrArg Prod.fst h31, congrArg Prod.snd h31⟩
          subst z1 z2
          obtain ⟨x1, x2⟩ := hx
          have x0 := (pc_rng hn x1).1
          unfold hB at x2
          have : x = 0 := by omega
          subst this
          right
          exact ⟨rfl, Or.inr ⟨rfl, Nat.le_refl _⟩⟩
        · by_cases hle : sm n (nI q) N a ≤ J 48 0
          · rw [if_pos hle] at h31
            have hle2 : hV n N a q ≤ hV n N a u := by rw [w1, i_le] at hle; exact hle
            refine ⟨u, ⟨⟨hu.1, by have := hu.2; omega⟩, fun x hx => ?_⟩, (congrArg Prod.fst h31).trans w1, (congrArg Prod.snd h31).trans w2⟩
            obtain ⟨x1, x2⟩ := hx
            by_cases hxq : x = q
            · subst hxq
              have := hu.2
              omega
            · exact hall x ⟨x1, by omega⟩
          · rw [if_neg hle] at h31
            have hle2 : hV n N a u < hV n N a q := by rw [w1, i_le] at hle; unfold hV; omega
            refine ⟨q, ⟨⟨hq, Or.inr ⟨hbq, by omega⟩⟩, fun x hx => ?_⟩, congrArg Prod.fst h31, congrArg Prod.snd h31⟩
            obtain ⟨x1, x2⟩ := hx
            by_cases hxq : x = q
            · subst hxq
              omega
            · have := hall x ⟨x1, by omega⟩
              omega
      · intro b k hb1 hb2
        show J3 b k = I b k
        rw [h3.2 b k (by unfold sCs at hb1; omega), ht.2.2.2 b k (by unfold sC; unfold sCs at hb1; omega), k_up_oth (by unfold sCs at hb1; omega), hp.2.2 b k (by unfold sC; unfold sCs at hb1; omega)]
        exact e2 b k hb1 hb2
    · have hbq : hB q ≠ m := by
        intro z
        apply hb
        rw [i_eq, i_n (by omega)]
        exact z
      rw [if_neg hb]
      simp only [k_let, nI_1]
      refine Ho_s ⟨rfl, ?_, e2⟩
      rcases e0 with ⟨z1, z2, z3⟩ | ⟨u, hu, w1, w2⟩
      · exfalso
        subst z1 z2
        apply hbq
        decide
      · refine Or.inr ⟨u, hu.mono (fun x => ?_), w1, w2⟩
        unfold hS
        constructor
        · rintro ⟨x1, x2⟩
          exact ⟨x1, by omega⟩
        · rintro ⟨x1, x2⟩
          refine ⟨x1, ?_⟩
          by_cases hxq : x = q
          · subst hxq; omega
          · omega
  · intro s hs
    obtain ⟨v, J⟩ := s
    obtain ⟨e1, e0, e2⟩ := hs
    dsimp only at e0 e1 e2
    subst e1
    dsimp only
    unfold f_X4_offerSetsOf_L13_b
    rw [if_pos (by rw [nI_leI (by omega) (by omega)]; omega)]
    exact Ho_s ⟨e0, e2⟩
theorem C_hush {I : StI} {n N : Nat} {a : AH} (hg : AV n 40 a) (hc : HC I 24 a n) (h7 : I 24 7 = 0) (h0 : 0 < n) (h1 : 1 ≤ N) (hN : N ≤ 20) : Ho (f_X4_hush (nI N) I) (fun t => ∃ u, BI (hV n N a) hB (fun x => x < 2 ^ n) u ∧ t.1 = nI u ∧ t.2 0 9 = sm n (nI u) N a ∧ CF I t.2) := by
  have hn := hg.1
  obtain ⟨s1, s2, s3⟩ := shl hn
  unfold f_X4_hush
  rw [if_neg (by rw [show (1 : Int32) = nI 1 from rfl, nI_ltI (by omega) (by omega)]; omega), if_pos (by rw [show (20 : Int32) = nI 20 from rfl, nI_leI (by omega) (by omega)]; omega), if_neg (by
    rw [hc.1]
    intro z
    have := congrArg Int32.toInt z
    rw [i_n (by omega)] at this
    simp only [Int32.reduceToInt] at this
    omega)]
  unfold f_X1_begin
  refine Ho_b1 ?_
  unfold f_X4_hush_L36
  refine Ho_loop0 (fun m s => s.1 = nI m ∧ hI n N a m 0 s.2 ∧ CF I s.2) (n + 1) (by omega) ?_ ?_ _ ⟨rfl, Or.inl ⟨rfl, rfl, ?_⟩, ?_⟩
  · intro m s hm hs
    obtain ⟨v, J⟩ := s
    obtain ⟨e1, e0, e2⟩ := hs
    dsimp only at e0 e1 e2
    subst e1
    dsimp only
    unfold f_X4_hush_L36_b
    have h24 : J 24 1 = nI n := by rw [e2 24 1 (by unfold sCs; omega) (by omega)]; exact hc.1
    rw [if_neg (by rw [h24, nI_ltI (by omega) (by omega)]; omega)]
    refine Ho_bm (C_hushL hg hc h7 hN (by omega) e2 e0) (fun J1 hp => ?_)
    simp only [k_let, nI_1]
    refine Ho_s ⟨rfl, ?_, hp.2⟩
    rcases hp.1 with ⟨z1, z2, z3⟩ | ⟨u, hu, w1, w2⟩
    · omega
    · refine Or.inr ⟨u, hu.mono (fun x => ?_), w1, w2⟩
      unfold hS
      constructor
      · rintro ⟨x1, x2⟩
        exact ⟨x1, by omega⟩
      · rintro ⟨x1, x2⟩
        exact ⟨x1, by omega⟩
  · intro s hs
    obtain ⟨v, J⟩ := s
    obtain ⟨e1, e0, e2⟩ := hs
    dsimp only at e0 e1 e2
    subst e1
    dsimp only
    unfold f_X4_hush_L36_b
    have h24 : J 24 1 = nI n := by rw [e2 24 1 (by unfold sCs; omega) (by omega)]; exact hc.1
    rw [if_pos (by rw [h24, nI_ltI (by omega) (by omega)]; omega)]
    rcases e0 with ⟨z1, z2, z3⟩ | ⟨u, hu, w1, w2⟩
    · omega
    · simp only [k_let]
      refine Ho_s ⟨u, hu.mono (fun x => ?_), ?_, ?_, e2.up33 (Or.inr ⟨rfl, rfl⟩)⟩
      · unfold hS
        constructor
        · rintro ⟨x1, x2⟩
          exact x1
        · intro x1
          have := (pc_rng hn x1).2.1
          refine ⟨x1, Or.inl ?_⟩
          unfold hB
          omega
      · show k_up J 0 9 (J 48 0) 48 1 = _
        rw [k_up_oth (by omega)]; exact w2
      · show k_up J 0 9 (J 48 0) 0 9 = _
        rw [k_up_same]; exact w1
  · show k_up (k_up I 48 0 (-1)) 48 1 (-9) 48 0 = -1
    simp [k_up]
  · intro b k hb1 hb2
    show k_up (k_up I 48 0 (-1)) 48 1 (-9) b k = I b k
    rw [k_up_oth (by unfold sCs at hb1; omega), k_up_oth (by unfold sCs at hb1; omega)]
theorem M_hush {J0 : StI} {n N : Nat} {a : AH} (hg : AV n 40 a) (hm : HM J0 70 0 a) (h4 : J0 63 4 = nI n) (hk : KM J0 68 a n) (h0 : 0 < n) (h1 : 1 ≤ N) (hN : N ≤ 20) : Ho (f_X5_hush (nI N) J0) (fun t => ∃ u, BI (hV n N a) hB (fun x => x < 2 ^ n) u ∧ t.1 = nI u ∧ t.2 63 14 = sm n (nI u) N a ∧ MF J0 t.2) := by
  have hn := hg.1
  obtain ⟨s1, s2, s3⟩ := shl hn
  have min : f_X5_in (nI N).toInt64 (1 : Int64) (20 : Int64) = some 1 := by
    rw [show (1 : Int64) = (1 : Int32).toInt64 from rfl, show (20 : Int64) = (20 : Int32).toInt64 from rfl, in_i, if_pos]
    rw [i_n (by omega)]
    simp only [Int32.reduceToInt]
    omega
  unfold f_X5_hush
  rw [min]
  refine Ho_b1 (Ho_n0 ?_)
  rw [if_neg (by
    rw [h4]
    intro z
    have := congrArg Int32.toInt z
    rw [i_n (by omega)] at this
    simp only [Int32.reduceToInt] at this
    omega)]
  refine Ho_bm (M_kin (I := J0) hn hk) (fun J1 hp1 => ?_)
  unfold f_X5_hush_L35
  refine Ho_loop0 (fun q s => ((q = 0 ∧ s.1 = 0 ∧ s.2.1 = -1) ∨ ∃ u, BI (hV n N a) hB (fun x => x < q) u ∧ s.1 = nI u ∧ s.2.1 = sm n (nI u) N a) ∧ s.2.2.1 = nI q ∧ MF J0 s.2.2.2 ∧ KM s.2.2.2 72 a n) (2 ^ n) (by omega) ?_ ?_ _ ⟨Or.inl ⟨rfl, rfl, rfl⟩, rfl, hp1.2.1, hp1.1⟩
  · intro q s hq hs
    obtain ⟨w, mo, v, J⟩ := s
    obtain ⟨e0, e1, e2, e3⟩ := hs
    dsimp only at e0 e1 e2 e3
    subst e1
    dsimp only
    unfold f_X5_hush_L35_b
    have h4' : J 63 4 = nI n := by rw [e2 63 4 (by unfold sMs; omega) (by omega)]; exact h4
    rw [h4', s1, if_neg (by rw [nI_leI (by omega) (by omega)]; omega)]
    refine Ho_bm (M_lay (n := n) (I := J0) (J := J) (a := a) hm e2) (fun J2 hp2 => ?_)
    refine Ho_bm (M_goesOn (u := nI q) (m := 40) (N := N) hg (by omega) hp2.1 (fun i hi => by rw [hp2.2.1 72 i (by decide)]; exact e3 i hi) (by rw [hp2.2.1 63 4 (by decide)]; exact h4')) (fun t ht => ?_)
    obtain ⟨t1, t2, t3⟩ := ht
    have hMF : MF J0 t.2 := hp2.2.2.goes t3
    have hKM : KM t.2 72 a n := fun i hi => by
      rw [t3 72 i (by unfold sA; omega), hp2.2.1 72 i (by decide)]
      exact e3 i hi
    have hr := sm_rng (u := nI q) (a := a) hn N (by omega)
    have hbq := (pc_rng hn hq).2.2
    unfold f_X5_hush_j83
    rcases e0 with ⟨z1, z2, z3⟩ | ⟨u, ⟨hu, hall⟩, w1, w2⟩
    · rw [if_pos (by rw [z3, t1, i_lt]; simp only [Int32.reduceToInt]; omega)]
      simp only [k_let, nI_1]
      refine Ho_s ⟨Or.inr ⟨q, ⟨by omega, fun x hx => ?_⟩, rfl, t1⟩, rfl, hMF, hKM⟩
      have : x = q := by omega
      subst this
      exact Or.inr ⟨rfl, Or.inr ⟨rfl, Nat.le_refl _⟩⟩
    · have hbu := (pc_rng hn (show u < 2 ^ n by omega)).2.2
      by_cases hlt : mo < t.1
      · rw [if_pos hlt]
        simp only [k_let, nI_1]
        have hlt2 : hV n N a u < hV n N a q := by rw [w2, t1, i_lt] at hlt; exact hlt
        refine Ho_s ⟨Or.inr ⟨q, ⟨by omega, fun x hx => ?_⟩, rfl, t1⟩, rfl, hMF, hKM⟩
        by_cases hxq : x = q
        · subst hxq; omega
        · have := hall x (by omega)
          omega
      · rw [if_neg hlt]
        have hlt2 : hV n N a q ≤ hV n N a u := by rw [w2, t1, i_lt] at hlt; unfold hV; omega
        by_cases heq : t.1 = mo
        · have heq2 : hV n N a q = hV n N a u := by unfold hV; rw [← t1, heq, w2]
          rw [if_pos heq, w1, hbq, hbu]
          refine Ho_b1 (Ho_b1 ?_)
          by_cases hb : pcn (nI u) ≤ pcn (nI q)
          · rw [if_pos hb]
            have hb2 : hB u ≤ hB q := by rw [i_le] at hb; exact hb
            simp only [k_let, nI_1]
            refine Ho_s ⟨Or.inr ⟨u, ⟨by omega, fun x hx => ?_⟩, rfl, w2⟩, rfl, hMF, hKM⟩
            by_cases hxq : x = q
            · subst hxq; omega
            · exact hall x (by omega)
          · rw [if_neg hb]
            have hb2 : hB q < hB u := by rw [i_le] at hb; unfold hB; omega
            simp only [k_let, nI_1]
            refine Ho_s ⟨Or.inr ⟨q, ⟨by omega, fun x hx => ?_⟩, rfl, t1⟩, rfl, hMF, hKM⟩
            by_cases hxq : x = q
            · subst hxq; omega
            · have := hall x (by omega)
              omega
        · have hne : hV n N a q ≠ hV n N a u := by
            intro z
            apply heq
            rw [i_eq, t1, w2]
            exact z
          rw [if_neg heq]
          simp only [k_let, nI_1]
          refine Ho_s ⟨Or.inr ⟨u, ⟨by omega, fun x hx => ?_⟩, w1, w2⟩, rfl, hMF, hKM⟩
          by_cases hxq : x = q
          · subst hxq; omega
          · exact hall x (by omega)
  · intro s hs
    obtain ⟨w, mo, v, J⟩ := s
    obtain ⟨e0, e1, e2, e3⟩ := hs
    dsimp only at e0 e1 e2 e3
    subst e1
    dsimp only
    unfold f_X5_hush_L35_b f_X5_answer
    have h4' : J 63 4 = nI n := by rw [e2 63 4 (by unfold sMs; omega) (by omega)]; exact h4
    rw [h4', s1, if_pos (by rw [nI_leI (by omega) (by omega)]; omega)]
    rcases e0 with ⟨z1, z2, z3⟩ | ⟨u, hu, w1, w2⟩
    · omega
    · refine Ho_s ⟨u, hu, w1, ?_, e2.up (Or.inr ⟨rfl, rfl⟩)⟩
      show k_up J 63 14 mo 63 14 = _
      rw [k_up_same, w2]
theorem L_hush {I : StI} {L : StL} (h : Rel I L) (v1 : Int32) : Sm (f_X4_hush v1 I) (f_X5_hush v1) L := by
  obtain ⟨n, fa, ds, hx⟩ := h.2.2.2
  obtain ⟨hg, hc, h7, hm, h4, hk, hrm, -⟩ := hx.vw
  have hn := hg.1.1
  have min : f_X5_in v1.toInt64 (1 : Int64) (20 : Int64) = some (if 1 ≤ v1.toInt ∧ v1.toInt ≤ 20 then 1 else 0) := by
    rw [show (1 : Int64) = (1 : Int32).toInt64 from rfl, show (20 : Int64) = (20 : Int32).toInt64 from rfl, in_i]
    rfl
  by_cases h2 : 1 ≤ v1.toInt ∧ v1.toInt ≤ 20
  · by_cases h0 : n = 0
    · subst h0
      refine Sm_same h (-4) ?_ ?_
      · unfold f_X4_hush
        rw [if_neg (by rw [i_lt]; simp only [Int32.reduceToInt]; omega), if_pos (by rw [i_le]; simp only [Int32.reduceToInt]; omega), if_pos (by rw [hc.1]; rfl)]
      · unfold f_X5_hush
        rw [min, if_pos h2, Option.bind_some, if_neg (by decide), if_pos (by rw [h4]; rfl)]
    · obtain ⟨N, hN, rfl⟩ := i_in (n := 21) (by omega : 0 ≤ v1.toInt) (by omega)
      rw [i_n (by omega)] at h2
      obtain ⟨t, et, u, hu, t1, t2, t3⟩ := C_hush (N := N) hg.1 hc h7 (by omega) (by omega) (by omega)
      refine Sm_aside h (nI u) (sm n (nI u) N (rep n ds fa)) ⟨t, et, t1, t2, t3⟩ (fun J hJ => (M_hush (N := N) hg.1 (fun j hj => by rw [hJ 70 _ (by decide)]; exact hm j hj) (by rw [hJ 63 4 (by decide)]; exact h4) (fun i hi => by rw [hJ 68 i (by decide)]; exact hk i hi) (by omega) (by omega) (by omega)).mono (fun r hr => ?_))
      obtain ⟨w, hw, r1, r2, r3⟩ := hr
      have := hw.uniq hu
      subst this
      exact ⟨r1, r2, r3⟩
  · refine Sm_same h (-1) ?_ ?_
    · unfold f_X4_hush
      by_cases q : v1 < 1
      · rw [if_pos q]
      · rw [if_neg q, if_neg (by rw [i_lt] at q; rw [i_le]; simp only [Int32.reduceToInt] at q ⊢; omega)]
    · unfold f_X5_hush
      rw [min, if_neg h2, Option.bind_some, if_pos rfl]
