/-! hush -/
theorem pc_rng0 : ∀ n : Fin 8, ∀ u : Fin 128, u.val < 2 ^ n.val → 0 ≤ (pcn (nI u.val)).toInt ∧ (pcn (nI u.val)).toInt ≤ n.val ∧ f_X5_bits (nI u.val) = some (pcn (nI u.val)) := by decide +kernel
theorem shl0 : ∀ n : Fin 8, (1 : Int32) <<< (nI n.val &&& 31) = nI (2 ^ n.val) ∧ 2 ^ n.val ≤ 128 ∧ 0 < 2 ^ n.val := by decide +kernel
theorem pc_rng {n u : Nat} (hn : n ≤ 7) (hu : u < 2 ^ n) : 0 ≤ (pcn (nI u)).toInt ∧ (pcn (nI u)).toInt ≤ n ∧ f_X5_bits (nI u) = some (pcn (nI u)) :=
  pc_rng0 ⟨n, by omega⟩ ⟨u, by have := (shl0 ⟨n, by omega⟩).2.1; dsimp only at this; omega⟩ hu
theorem shl {n : Nat} (hn : n ≤ 7) : (1 : Int32) <<< (nI n &&& 31) = nI (2 ^ n) ∧ 2 ^ n ≤ 128 ∧ 0 < 2 ^ n := shl0 ⟨n, by omega⟩
/-- u is the best of S -/
def BI (v b : Nat → Int) (S : Nat → Prop) (u : Nat) : Prop := S u ∧ ∀ x, S x → v x < v u ∨ (v x = v u ∧ (b u < b x ∨ (b u = b x ∧ u ≤ x)))
theorem BI.uniq {v b : Nat → Int} {S : Nat → Prop} {u w : Nat} (h1 : BI v b S u) (h2 : BI v b S w) : u = w := by
  have a := h1.2 w h2.1
  have c := h2.2 u h1.1
  omega
theorem BI.mono {v b : Nat → Int} {S T : Nat → Prop} {u : Nat} (h : BI v b S u) (hst : ∀ x, S x ↔ T x) : BI v b T u := ⟨(hst u).mp h.1, fun x hx => h.2 x ((hst x).mpr hx)⟩
def hV (n N : Nat) (a : AH) (u : Nat) : Int := (sm n (nI u) N a).toInt
def hB (u : Nat) : Int := (pcn (nI u)).toInt
theorem HC_hush {J : StI} {n : Nat} {a : AH} {v : Int32} (h : HC J 33 a n) : HC (k_up J 33 7 v) 33 a n := by
  obtain ⟨c1, c2, c3, c4, c5, c6, cc⟩ := h
  refine ⟨by rw [k_up_oth (by omega)]; exact c1, by rw [k_up_oth (by omega)]; exact c2, by rw [k_up_oth (by omega)]; exact c3, by rw [k_up_oth (by omega)]; exact c4, by rw [k_up_oth (by omega)]; exact c5, by rw [k_up_oth (by omega)]; exact c6, fun i hi => ?_⟩
  have hq : ∀ k, k_up J 33 7 v (k_cq 33 i) k = J (k_cq 33 i) k := fun k => k_up_oth (by unfold k_cq; omega)
  rw [hq, hq, hq, hq, hq, hq, hq]
  exact cc i hi
/-- the class has offered all smaller sets, and of those of m the ones under q -/
def hS (n m q : Nat) (u : Nat) : Prop := u < 2 ^ n ∧ (hB u < m ∨ (hB u = m ∧ u < q))
def hI (n N : Nat) (a : AH) (m q : Nat) (J : StI) : Prop := (m = 0 ∧ q = 0 ∧ J 48 0 = -1) ∨ ∃ u, BI (hV n N a) hB (hS n m q) u ∧ J 48 0 = sm n (nI u) N a ∧ J 48 1 = nI u
theorem C_hushL {I J0 : StI} {n N m : Nat} {a : AH} (hg : AV n 40 a) (hc : HC I 24 a n) (h7 : I 24 7 = 0) (hN : N ≤ 20) (hm : m ≤ n) (hJ : CF I J0) (h0 : hI n N a m 0 J0) : Ho (f_X4_offerSetsOf (nI m) (nI N) J0) (fun J => hI n N a m (2 ^ n) J ∧ CF I J) := by
  have hn := hg.1
  obtain ⟨s1, s2, s3⟩ := shl hn
  have h24 : J0 24 1 = nI n := by rw [hJ 24 1 (by unfold sCs; omega) (by omega)]; exact hc.1
  unfold f_X4_offerSetsOf
  simp only [k_let]
  rw [h24, s1]
  unfold f_X4_offerSetsOf_L13
  refine Ho_loop0 (fun q s => s.1 = nI q ∧ hI n N a m q s.2 ∧ CF I s.2) (2 ^ n) (by omega) ?_ ?_ _ ⟨rfl, h0, hJ⟩
  · intro q s hq hs
    obtain ⟨v, J⟩ := s
    obtain ⟨e1, e0, e2⟩ := hs
    dsimp only at e0 e1 e2
    subst e1
    dsimp only
    unfold f_X4_offerSetsOf_L13_b
    obtain ⟨p1, p2, -⟩ := pc_rng hn hq
    rw [if_neg (by rw [nI_leI (by omega) (by omega)]; omega), pcn_eq]
    refine Ho_b1 ?_
    by_cases hb : pcn (nI q) = nI m
    · have hbq : hB q = m := by unfold hB; rw [hb, i_n (by omega)]
      rw [if_pos hb]
      refine Ho_bm (C_lay hn hc h7 e2) (fun J1 hp => ?_)
      refine Ho_bm (C_answeredIn (m := 40) (N := N) hg (by omega) (HC_hush (v := nI q) hp.1)) (fun t ht => ?_)
      rw [k_up_same] at ht
      refine Ho_bm C_offer (fun J3 h3 => ?_)
      have e48 : ∀ k, t.2 48 k = J 48 k := fun k => by rw [ht.2.2.2 48 k (by unfold sC; omega), k_up_oth (by omega), hp.2.2 48 k (by unfold sC; omega)]
      have hr := sm_rng (u := nI q) (a := a) hn N (by omega)
      simp only [k_let, nI_1]
      refine Ho_s ⟨rfl, Or.inr ?_, ?_⟩
      · have h31 := h3.1
        rw [e48, e48, ht.1] at h31
        rcases e0 with ⟨z1, z2, z3⟩ | ⟨u, ⟨hu, hall⟩, w1, w2⟩
        · rw [if_neg (by rw [z3, i_le]; simp only [Int32.reduceToInt]; omega)] at h31
          refine ⟨q, ⟨⟨hq, Or.inr ⟨hbq, by omega⟩⟩, fun x hx => ?_⟩, congrArg Prod.fst h31, congrArg Prod.snd h31⟩
          subst z1 z2
          obtain ⟨x1, x2⟩ := hx
          have x0 := (pc_rng hn x1).1
          unfold hB at x2
          have : x = 0 := by omega
          subst this
          right
          exact ⟨rfl, Or.inr ⟨rfl, Nat.le_refl _⟩⟩
        · by_cases hle : sm n (nI q) N a ≤ J 48 0
          · rw [if_pos hle] at h31
            have hle2 : hV n N a q ≤ hV n N a u := by rw [w1, i_le] at hle; exact hle
            refine ⟨u, ⟨⟨hu.1, by have := hu.2; omega⟩, fun x hx => ?_⟩, (congrArg Prod.fst h31).trans w1, (congrArg Prod.snd h31).trans w2⟩
            obtain ⟨x1, x2⟩ := hx
            by_cases hxq : x = q
            · subst hxq
              have := hu.2
              omega
            · exact hall x ⟨x1, by omega⟩
          · rw [if_neg hle] at h31
            have hle2 : hV n N a u < hV n N a q := by rw [w1, i_le] at hle; unfold hV; omega
            refine ⟨q, ⟨⟨hq, Or.inr ⟨hbq, by omega⟩⟩, fun x hx => ?_⟩, congrArg Prod.fst h31, congrArg Prod.snd h31⟩
            obtain ⟨x1, x2⟩ := hx
            by_cases hxq : x = q
            · subst hxq
              omega
            · have := hall x ⟨x1, by omega⟩
              omega
      · intro b k hb1 hb2
        show J3 b k = I b k
        rw [h3.2 b k (by unfold sCs at hb1; omega), ht.2.2.2 b k (by unfold sC; unfold sCs at hb1; omega), k_up_oth (by unfold sCs at hb1; omega), hp.2.2 b k (by unfold sC; unfold sCs at hb1; omega)]
        exact e2 b k hb1 hb2
    · have hbq : hB q ≠ m := by
        intro z
        apply hb
        rw [i_eq, i_n (by omega)]
        exact z
      rw [if_neg hb]
      simp only [k_let, nI_1]
      refine Ho_s ⟨rfl, ?_, e2⟩
      rcases e0 with ⟨z1, z2, z3⟩ | ⟨u, hu, w1, w2⟩
      · exfalso
        subst z1 z2
        apply hbq
        decide
      · refine Or.inr ⟨u, hu.mono (fun x => ?_), w1, w2⟩
        unfold hS
        constructor
        · rintro ⟨x1, x2⟩
          exact ⟨x1, by omega⟩
        · rintro ⟨x1, x2⟩
          refine ⟨x1, ?_⟩
          by_cases hxq : x = q
          · subst hxq; omega
          · omega
  · intro s hs
    obtain ⟨v, J⟩ := s
    obtain ⟨e1, e0, e2⟩ := hs
    dsimp only at e0 e1 e2
    subst e1
    dsimp only
    unfold f_X4_offerSetsOf_L13_b
    rw [if_pos (by rw [nI_leI (by omega) (by omega)]; omega)]
    exact Ho_s ⟨e0, e2⟩
