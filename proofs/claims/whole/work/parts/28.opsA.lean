/-! rows and texts: both answer alike -/
def Sm (o : Option (Int32 × StI)) (f : StI → Option (Int32 × StI)) (L : StL) : Prop := Ho o (fun t => Ho (f t.2) (fun u => t.1 = u.1 ∧ Rel u.2 L))
theorem Sm_eq {o : Option (Int32 × StI)} {f : StI → Option (Int32 × StI)} {L : StL} {r : Int32} {I1 I2 : StI} (h1 : o = some (r, I1)) (h2 : f I1 = some (r, I2)) (h3 : Rel I2 L) : Sm o f L := by
  unfold Sm
  rw [h1, Ho_some_i]
  show Ho (f I1) _
  rw [h2, Ho_some_i]
  exact ⟨rfl, h3⟩
theorem Rel.of {I I' : StI} {L L' : StL} (h : Rel I L) (h1 : Ag sRw I I') (h2 : Ag sTx I I') (h3 : Td I' L') (h4 : Ag sHs I I') : Rel I' L' := ⟨h.1.ag h1, h.2.1.ag h2, h3, h.2.2.2.ag h4⟩
theorem found_sim {I : StI} {L : StL} (h : Rel I L) {j : Nat} (h1 : 1 ≤ j) (h2 : j ≤ 5) : ∃ I1 I2, f_X4_found (nI j) I = some (-3, I1) ∧ f_X5_found (nI j) I1 = some (-3, I2) ∧ Rel I2 L := by
  refine ⟨_, _, C_found j (by omega) I, M_found j (by omega) _, ?_⟩
  obtain ⟨hR, hT, ⟨t1, t2, t3, t4⟩, hH⟩ := h
  have ag : ∀ S : Nat → Nat → Prop, ¬ S 0 12 → ¬ S 47 j → ¬ S 63 17 → ¬ S 76 j → Ag S I (k_up (k_up (k_up (k_up I 0 12 (nI j)) 47 j (I 47 j + 1)) 63 17 (nI j)) 76 j (k_up (k_up I 0 12 (nI j)) 47 j (I 47 j + 1) 76 j + 1)) := fun S a b c d => (((Ag.refl.up a).up b).up c).up d
  refine ⟨hR.ag (ag _ (by unfold sRw; omega) (by unfold sRw; omega) (by unfold sRw; omega) (by unfold sRw; omega)), hT.ag (ag _ (by unfold sTx; omega) (by unfold sTx; omega) (by unfold sTx; omega) (by unfold sTx; omega)), ⟨?_, ?_, fun f a b => ?_, t4⟩, hH.ag (ag _ (by unfold sHs; omega) (by unfold sHs; omega) (by unfold sHs; omega) (by unfold sHs; omega))⟩
  · simp only [k_up]
    simpa using t1
  · simp [k_up]
  · by_cases e : f = j
    · subst e
      simp [k_up]
      exact t3 f a b
    · simp [k_up, e]
      exact t3 f a b
theorem sz_cases {s : Int32} {M : Nat} (h : -1 ≤ s.toInt ∧ s.toInt ≤ M) : s = -1 ∨ ∃ k, k ≤ M ∧ s = nI k := by
  by_cases h0 : s.toInt = -1
  · exact Or.inl (i_eq.mpr h0)
  · exact Or.inr ⟨s.toInt.toNat, by omega, i_of s (by omega)⟩
theorem C_fop (k : Nat) (hk : k < 100) (i : Int32) : f_X4_findingOfPlace (nI k) i = some (if 0 ≤ i.toInt ∧ i.toInt < k then 0 else 2) := by
  unfold f_X4_findingOfPlace
  rw [if_neg (by rw [i_eq, i_n (by omega), show (-1 : Int32).toInt = -1 from rfl]; omega)]
  simp only [i_lt, i_n (show k < 2147483648 by omega), Int32.reduceToInt]
  repeat' split
  all_goals first | rfl | omega
theorem M_pl (k : Nat) (hk : k < 100) (i : Int32) : f_X5_in i.toInt64 (0 : Int64) (nI k - 1).toInt64 = some (if 0 ≤ i.toInt ∧ i.toInt < k then 1 else 0) := by
  rw [show (0 : Int64) = (0 : Int32).toInt64 from rfl, in_i]
  have e1 : (nI k - 1).toInt = (k : Int) - 1 := by
    rw [i_sub (by rw [i_n (by omega)]; simp only [Int32.reduceToInt]; omega) (by rw [i_n (by omega)]; simp only [Int32.reduceToInt]; omega), i_n (by omega)]
    rfl
  rw [e1]
  congr 1
  simp only [Int32.reduceToInt]
  repeat' split
  all_goals first | rfl | omega
theorem nI_ge0 {k : Nat} (h : k < 2147483648) : (0 : Int32) ≤ nI k := by rw [i_le, i_n h]; simp only [Int32.reduceToInt]; omega
theorem bd_n {P : Prop} [Decidable P] (h : P) : (if P then (1 : Int32) else 0) = 1 := if_pos h
theorem mul40 {r i : Nat} : (40 : Int32) * nI r + nI i = nI (40 * r + i) := by
  rw [show (40 : Int32) = nI 40 from rfl, pk_mul, nI_add]
theorem mul60 {r i : Nat} : (60 : Int32) * nI r + nI i = nI (60 * r + i) := by
  rw [show (60 : Int32) = nI 60 from rfl, pk_mul, nI_add]
/-- a place of a row is set on both sides -/
theorem Rw_set {I I' : StI} (h : Rw I) {r j : Nat} {v : Int32} (hr : r < 6) (hj : j < 40) (e1 : I' (k_rq r) j = v) (e2 : I' 65 (40 * r + j) = v) (ho : ∀ b k, sRw b k → ¬ (b = k_rq r ∧ k = j) → ¬ (b = 65 ∧ k = 40 * r + j) → I' b k = I b k) : Rw I' := by
  intro r' hr'
  obtain ⟨a1, a2, a3⟩ := h r' hr'
  rw [ho 8 r' (by unfold sRw; omega) (by unfold k_rq; omega) (by omega), ho 64 r' (by unfold sRw; omega) (by unfold k_rq; omega) (by omega)]
  refine ⟨a1, a2, fun i hi => ?_⟩
  by_cases e : r' = r ∧ i = j
  · obtain ⟨rfl, rfl⟩ := e
    rw [e1, e2]
  · rw [ho 65 _ (by unfold sRw; omega) (by unfold k_rq; omega) (by omega), ho (k_rq r') i (by unfold sRw k_rq; omega) (by unfold k_rq; omega) (by unfold k_rq; omega)]
    exact a3 i hi
theorem L_at {I : StI} {L : StL} (h : Rel I L) (v1 v2 : Int32) : Sm (f_X4_at v1 v2 I) (f_X5_at v1 v2) L := by
  by_cases hr : 0 ≤ v1.toInt ∧ v1.toInt < 6
  · obtain ⟨r, hr6, rfl⟩ := i_in hr.1 (show v1.toInt < (6 : Nat) from hr.2)
    obtain ⟨a1, a2, a3⟩ := h.1 r hr6
    have n6 : ∀ {T : Type} {o : Option T}, k_gd (nI r) 6 o = o := gd_n hr6 (by decide)
    have c6 : (nI r).toNatClampNeg = r := cl_n (by omega)
    rcases sz_cases (M := 40) a1 with hs | ⟨k, hk, hs⟩
    · obtain ⟨I1, I2, f1, f2, f3⟩ := found_sim h (j := 1) (by decide) (by decide)
      refine Sm_eq (I1 := I1) (I2 := I2) (r := -3) ?_ ?_ f3
      · unfold f_X4_at
        rw [C_isRow, if_pos hr]
        simp only [Option.bind_some, n6, c6, hs]
        rw [if_neg (by decide), show f_X4_findingOfPlace (-1) v2 = some 1 from rfl]
        simp only [Option.bind_some]
        rw [if_neg (by decide), show (1 : Int32) = nI 1 from rfl, f1]
        rfl
      · have e64 : I1 64 r = -1 := by
          have := f3.1 r hr6
          have q1 : I1 64 r = I 64 r := by
            have z := (C_found 1 (by decide) I).symm.trans f1
            cases z
            rw [k_up_oth (by omega), k_up_oth (by omega)]
          rw [q1, a2, hs]
        unfold f_X5_at
        rw [M_isRow, if_pos hr]
        simp only [Option.bind_some, n6, c6, e64]
        rw [if_neg (by decide), if_neg (by decide), show (1 : Int32) = nI 1 from rfl, f2]
        rfl
    · by_cases hp : 0 ≤ v2.toInt ∧ v2.toInt < k
      · obtain ⟨j, hj, rfl⟩ := i_in hp.1 hp.2
        have e1 : k_gd (nI j) 40 (some ((1 : Int32), k_up I 0 9 (I (k_rq r) j))) = some ((1 : Int32), k_up I 0 9 (I (k_rq r) j)) := gd_n (by omega) (by decide)
        refine Sm_eq (I1 := k_up I 0 9 (I (k_rq r) j)) (I2 := k_up (k_up I 0 9 (I (k_rq r) j)) 63 14 (I (k_rq r) j)) (r := 1) ?_ ?_ ?_
        · unfold f_X4_at
          rw [C_isRow, if_pos hr]
          simp only [Option.bind_some, n6, c6, hs, C_fop k (by omega), k_let, cl_n (show j < 2147483648 by omega), e1]
          rw [if_neg (by decide), if_pos hp, if_pos rfl]
        · unfold f_X5_at
          rw [M_isRow, if_pos hr]
          have o1 : ∀ b k, b ≠ 0 → k_up I 0 9 (I (k_rq r) j) b k = I b k := fun b k hb => k_up_oth (fun z => hb z.1)
          simp only [Option.bind_some, n6, c6, o1 64 _ (by decide), a2, hs, o1 65 _ (by decide), M_pl k (by omega), mul40, cl_n (show 40 * r + j < 2147483648 by omega), f_X5_tell, k_let]
          rw [if_neg (by decide), if_pos (nI_ge0 (by omega)), if_pos hp, if_neg (by decide), gd_n (by omega) (by decide), a3 j (by omega)]
        · refine h.of ((Ag.refl.up (by unfold sRw; omega)).up (by unfold sRw; omega)) ((Ag.refl.up (by unfold sTx; omega)).up (by unfold sTx; omega)) ?_ ((Ag.refl.up (by unfold sHs; omega)).up (by unfold sHs; omega))
          obtain ⟨t1, t2, t3, t4⟩ := h.2.2.1
          refine ⟨by simp [k_up], by simp [k_up]; exact t2, fun f a b => ?_, t4⟩
          simp [k_up]
          exact t3 f a b
      · obtain ⟨I1, I2, f1, f2, f3⟩ := found_sim h (j := 2) (by decide) (by decide)
        refine Sm_eq (I1 := I1) (I2 := I2) (r := -3) ?_ ?_ f3
        · unfold f_X4_at
          rw [C_isRow, if_pos hr]
          simp only [Option.bind_some, n6, c6, hs, C_fop k (by omega)]
          rw [if_neg (by decide), if_neg hp, if_neg (by decide), show (2 : Int32) = nI 2 from rfl, f1]
          rfl
        · have e64 : I1 64 r = nI k := by
            have z := (C_found 2 (by decide) I).symm.trans f1
            cases z
            rw [k_up_oth (by omega), k_up_oth (by omega), a2, hs]
          unfold f_X5_at
          rw [M_isRow, if_pos hr]
          simp only [Option.bind_some, n6, c6, e64, M_pl k (by omega)]
          rw [if_neg (by decide), if_pos (nI_ge0 (by omega)), if_neg hp, if_pos rfl, show (2 : Int32) = nI 2 from rfl, f2]
          rfl
  · refine Sm_eq (I1 := I) (I2 := I) (r := -1) ?_ ?_ h
    · unfold f_X4_at
      rw [C_isRow, if_neg hr]
      rfl
    · unfold f_X5_at
      rw [M_isRow, if_neg hr]
      rfl
