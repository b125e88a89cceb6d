/-! reads -/
theorem loop_rel {σ τ T U : Type} {f : σ → Option (σ ⊕ T)} {g : τ → Option (τ ⊕ U)} (R : Nat → σ → τ → Prop) (K : T → U → Prop) (N : Nat) (hs : ∀ i s t, i < N → R i s t → (∃ s' t', f s = some (.inl s') ∧ g t = some (.inl t') ∧ R (i + 1) s' t') ∨ (∃ a b, f s = some (.inr a) ∧ g t = some (.inr b) ∧ K a b)) (he : ∀ s t, R N s t → ∃ a b, f s = some (.inr a) ∧ g t = some (.inr b) ∧ K a b) : ∀ (n i : Nat) (s : σ) (t : τ), i ≤ N → N - i < n → R i s t → ∃ a b, k_loop f n s = some a ∧ k_loop g n t = some b ∧ K a b
  | 0, _, _, _, _, h, _ => absurd h (Nat.not_lt_zero _)
  | n + 1, i, s, t, hi, hn, hR => by
    have fin : (∃ a b, f s = some (.inr a) ∧ g t = some (.inr b) ∧ K a b) → ∃ a b, k_loop f (n + 1) s = some a ∧ k_loop g (n + 1) t = some b ∧ K a b := by
      intro ⟨a, b, h1, h2, h3⟩
      refine ⟨a, b, ?_, ?_, h3⟩
      · show (f s).bind _ = _
        rw [h1]; rfl
      · show (g t).bind _ = _
        rw [h2]; rfl
    rcases Nat.lt_or_ge i N with h | h
    · rcases hs i s t h hR with ⟨s', t', h1, h2, h3⟩ | h1
      · obtain ⟨a, b, e1, e2, e3⟩ := loop_rel R K N hs he n (i + 1) s' t' (by omega) (by omega) h3
        refine ⟨a, b, ?_, ?_, e3⟩
        · show (f s).bind _ = _
          rw [h1]; exact e1
        · show (g t).bind _ = _
          rw [h2]; exact e2
      · exact fin h1
    · have e : i = N := by omega
      subst e
      exact fin (he s t hR)
theorem loop_rel0 {σ τ T U : Type} {f : σ → Option (σ ⊕ T)} {g : τ → Option (τ ⊕ U)} (R : Nat → σ → τ → Prop) (K : T → U → Prop) (N : Nat) (hN : N < 10000) (hs : ∀ i s t, i < N → R i s t → (∃ s' t', f s = some (.inl s') ∧ g t = some (.inl t') ∧ R (i + 1) s' t') ∨ (∃ a b, f s = some (.inr a) ∧ g t = some (.inr b) ∧ K a b)) (he : ∀ s t, R N s t → ∃ a b, f s = some (.inr a) ∧ g t = some (.inr b) ∧ K a b) (s : σ) (t : τ) (h : R 0 s t) : ∃ a b, k_loop f k_fu s = some a ∧ k_loop g k_fu t = some b ∧ K a b :=
  loop_rel R K N hs he k_fu 0 s t (Nat.zero_le _) (by show N - 0 < 10000; omega) h
/-- both answer, and alike -/
def E2 {α : Type} (o1 o2 : Option α) : Prop := ∃ r, o1 = some r ∧ o2 = some r
theorem E2.of {α : Type} {o1 o2 : Option α} {r : α} (h1 : o1 = some r) (h2 : o2 = some r) : E2 o1 o2 := ⟨r, h1, h2⟩
theorem C_isCaller {I : StI} {n : Nat} (hn : n ≤ 7) (h : I 24 1 = nI n) (v : Int32) : f_X4_isCaller v I = some (if 0 ≤ v.toInt ∧ v.toInt < n then 1 else 0) := by
  unfold f_X4_isCaller
  simp only [i_lt, i_le, h, i_n (show n < 2147483648 by omega), Int32.reduceToInt]
  repeat' split
  all_goals first | rfl | omega
theorem M_isCaller {I : StI} {n : Nat} (hn : n ≤ 7) (h : I 63 4 = nI n) (v : Int32) : f_X5_isCaller v I = some (if 0 ≤ v.toInt ∧ v.toInt < n then 1 else 0) := by
  unfold f_X5_isCaller
  rw [h, M_pl n (by omega)]
  simp only [Option.bind_some, bo_eq]
theorem told_of {I : StI} {L : StL} (h : Rel I L) (x : Int32) : Rel (k_up (k_up I 0 9 x) 63 14 x) L := by
  refine h.of ((Ag.refl.up (by unfold sRw; omega)).up (by unfold sRw; omega)) ((Ag.refl.up (by unfold sTx; omega)).up (by unfold sTx; omega)) ?_ ((Ag.refl.up (by unfold sHs; omega)).up (by unfold sHs; omega))
  obtain ⟨t1, t2, t3, t4⟩ := h.2.2.1
  refine ⟨by simp [k_up], by simp [k_up]; exact t2, fun f a b => ?_, t4⟩
  simp [k_up]
  exact t3 f a b
theorem L_caller {I : StI} {L : StL} (h : Rel I L) (v1 v2 : Int32) : Sm (f_X4_caller v1 v2 I) (f_X5_caller v1 v2) L := by
  obtain ⟨n, fa, ds, hx⟩ := h.2.2.2
  obtain ⟨hg, hc, -, hm, h4, hk, hrm, -⟩ := hx.vw
  have hn := hg.1.1
  have ci := C_isCaller hn hc.1 v1
  have mi : ∀ J : StI, J 63 4 = I 63 4 → f_X5_isCaller v1 J = some (if 0 ≤ v1.toInt ∧ v1.toInt < n then 1 else 0) := fun J hJ => M_isCaller hn (hJ.trans h4) v1
  by_cases hr : 0 ≤ v1.toInt ∧ v1.toInt < n
  · obtain ⟨i, hi, rfl⟩ := i_in hr.1 hr.2
    by_cases h2 : 0 ≤ v2.toInt ∧ v2.toInt < 7
    · obtain ⟨w, hw, rfl⟩ := i_in h2.1 (show v2.toInt < (7 : Nat) from h2.2)
      obtain ⟨d0, d1, d2, d3, d4, d5, d6⟩ := hc.2.2.2.2.2.2 i hi
      have hi7 : i < 7 := by omega
      have hmj : ∀ j, j < 40 → I 70 j = rep n ds fa j := fun j hj => by have := hm j hj; rwa [Nat.zero_add] at this
      have key : ∀ x : Int32, f_X0_tell (k_cq 24 i) (nI w) I = some x → (∀ J : StI, (∀ b k, 63 ≤ b → J b k = I b k) → f_X5_caller (nI i) (nI w) J = some (1, k_up J 63 14 x)) → Sm (f_X4_caller (nI i) (nI w) I) (f_X5_caller (nI i) (nI w)) L := by
        intro x hx1 hx2
        refine Sm_eq (I1 := k_up I 0 9 x) (I2 := k_up (k_up I 0 9 x) 63 14 x) (r := 1) ?_ (hx2 _ (fun b k hb => k_up_oth (by omega))) (told_of h x)
        unfold f_X4_caller
        rw [ci, if_pos hr]
        simp only [Option.bind_some, g_i hi7, m_i hi7, hx1, k_let]
        rw [if_neg (by decide), if_neg (by rw [i_lt]; simp only [Int32.reduceToInt]; omega), if_pos (by rw [i_lt]; simp only [Int32.reduceToInt]; omega)]
      have mcall : ∀ J : StI, (∀ b k, 63 ≤ b → J b k = I b k) → f_X5_caller (nI i) (nI w) J = (if nI w = 0 then some (1, k_up J 63 14 (J 68 i)) else if nI w = 1 then some (1, k_up J 63 14 (J 70 (5 + i))) else if nI w = 2 then some (1, k_up J 63 14 (J 69 i)) else if nI w = 3 then some (1, k_up J 63 14 (J 70 (12 + i))) else if nI w = 4 then some (1, k_up J 63 14 (J 70 (19 + i))) else if nI w = 5 then some (1, k_up J 63 14 (J 70 (26 + i))) else if nI w = 6 then some (1, k_up J 63 14 (J 70 (33 + i))) else some (-1, J)) := by
        intro J hJ
        unfold f_X5_caller f_X5_tell
        rw [mi J (hJ 63 4 (by decide)), if_pos hr]
        simp only [Option.bind_some, g_i hi7, m_i hi7, g_5 hi7, m_5 hi7, g_12 hi7, m_12 hi7, g_19 hi7, m_19 hi7, g_26 hi7, m_26 hi7, g_33 hi7, m_33 hi7, k_let]
        rw [if_neg (by decide)]
      rcases (show w = 0 ∨ w = 1 ∨ w = 2 ∨ w = 3 ∨ w = 4 ∨ w = 5 ∨ w = 6 by omega) with rfl | rfl | rfl | rfl | rfl | rfl | rfl
      · exact key (rep n ds fa (40 + i)) (by rw [← d0]; rfl) (fun J hJ => (mcall J hJ).trans (by rw [hJ 68 i (by decide), hk i hi]; rfl))
      · exact key (rep n ds fa (5 + i)) (by rw [← d1]; rfl) (fun J hJ => (mcall J hJ).trans (by rw [hJ 70 (5 + i) (by decide), hmj _ (by omega)]; rfl))
      · exact key (rep n ds fa (47 + i)) (by rw [← d2]; rfl) (fun J hJ => (mcall J hJ).trans (by rw [hJ 69 i (by decide), hrm i hi]; rfl))
      · exact key (rep n ds fa (12 + i)) (by rw [← d3]; rfl) (fun J hJ => (mcall J hJ).trans (by rw [hJ 70 (12 + i) (by decide), hmj _ (by omega)]; rfl))
      · exact key (rep n ds fa (19 + i)) (by rw [← d4]; rfl) (fun J hJ => (mcall J hJ).trans (by rw [hJ 70 (19 + i) (by decide), hmj _ (by omega)]; rfl))
      · exact key (rep n ds fa (26 + i)) (by rw [← d5]; rfl) (fun J hJ => (mcall J hJ).trans (by rw [hJ 70 (26 + i) (by decide), hmj _ (by omega)]; rfl))
      · exact key (rep n ds fa (33 + i)) (by rw [← d6]; rfl) (fun J hJ => (mcall J hJ).trans (by rw [hJ 70 (33 + i) (by decide), hmj _ (by omega)]; rfl))
    · refine Sm_same h (-1) ?_ ?_
      · unfold f_X4_caller
        rw [ci, if_pos hr]
        simp only [Option.bind_some]
        rw [if_neg (by decide)]
        by_cases q : v2 < 0
        · rw [if_pos q]
        · rw [if_neg q, if_neg (by rw [i_lt] at q ⊢; simp only [Int32.reduceToInt] at q ⊢; omega)]
      · unfold f_X5_caller
        rw [mi I rfl, if_pos hr]
        simp only [Option.bind_some]
        have ne : ∀ c : Nat, c < 7 → ¬ v2 = nI c := fun c hc' z => h2 (by rw [z, i_n (by omega)]; omega)
        rw [if_neg (by decide), if_neg (show ¬ v2 = 0 from ne 0 (by decide)), if_neg (show ¬ v2 = 1 from ne 1 (by decide)), if_neg (show ¬ v2 = 2 from ne 2 (by decide)), if_neg (show ¬ v2 = 3 from ne 3 (by decide)), if_neg (show ¬ v2 = 4 from ne 4 (by decide)), if_neg (show ¬ v2 = 5 from ne 5 (by decide)), if_neg (show ¬ v2 = 6 from ne 6 (by decide))]
  · refine Sm_same h (-1) ?_ ?_
    · unfold f_X4_caller
      rw [ci, if_neg hr]
      rfl
    · unfold f_X5_caller
      rw [mi I rfl, if_neg hr]
      rfl
theorem L_up {I : StI} {L : StL} (h : Rel I L) (v1 : Int32) : E2 (f_X4_up v1 I) (f_X5_up v1 I) := by
  obtain ⟨n, fa, ds, hx⟩ := h.2.2.2
  obtain ⟨hg, hc, -, hm, h4, hk, hrm, h0⟩ := hx.vw
  have hn := hg.1.1
  have d3 : I 70 3 = rep n ds fa 3 := by have := hm 3 (by omega); rwa [Nat.zero_add] at this
  unfold f_X4_up f_X5_up
  rw [show (0 : Int64) = (0 : Int32).toInt64 from rfl, show (199 : Int64) = (199 : Int32).toInt64 from rfl, in_i]
  simp only [Option.bind_some, Int32.reduceToInt]
  by_cases hr : 0 ≤ v1.toInt ∧ v1.toInt ≤ 199
  · obtain ⟨k, hk1, rfl⟩ := i_in (n := 200) hr.1 (by omega)
    rw [if_neg (by rw [i_lt]; simp only [Int32.reduceToInt]; omega), if_pos (by rw [i_le]; simp only [Int32.reduceToInt]; omega), if_pos hr, if_neg (by decide), C_isUpIn (by omega), hc.2.2.1, rem8 (by omega), h4, g_3, n_3, d3, M_has]
    simp only [Option.bind_some]
    by_cases hz : n = 0
    · subst hz
      rw [if_pos (show nI 0 ≤ 0 by decide), h0 rfl]
      have : hasb 0 (k % 8) = false := by
        have : ∀ j : Fin 8, hasb 0 j.val = false := by decide
        exact this ⟨k % 8, Nat.mod_lt _ (by decide)⟩
      rw [this]
      exact ⟨0, rfl, rfl⟩
    · have hnp : ¬ nI n ≤ 0 := by rw [i_le, i_n (by omega)]; simp only [Int32.reduceToInt]; omega
      simp only [hnp, if_false]
      cases hasb (rep n ds fa 3) (k % 8)
      · exact ⟨0, rfl, rfl⟩
      · exact ⟨1, rfl, rfl⟩
  · rw [if_neg hr]
    refine ⟨-1, ?_, rfl⟩
    by_cases q : v1 < 0
    · rw [if_pos q]
    · rw [if_neg q, if_neg (by rw [i_lt] at q; rw [i_le]; simp only [Int32.reduceToInt] at q ⊢; omega)]
theorem L_findings {I : StI} {L : StL} (h : Rel I L) (v1 : Int32) : E2 (f_X4_findings v1 I) (f_X5_findings v1 I) := by
  unfold f_X4_findings f_X5_findings
  rw [show (1 : Int64) = (1 : Int32).toInt64 from rfl, show (5 : Int64) = (5 : Int32).toInt64 from rfl, in_i]
  simp only [Option.bind_some, Int32.reduceToInt]
  by_cases hr : 1 ≤ v1.toInt ∧ v1.toInt ≤ 5
  · obtain ⟨k, hk1, rfl⟩ := i_in (n := 6) (x := v1) (by omega) (by omega)
    rw [if_pos hr]
    rw [i_n (by omega)] at hr
    have q1 : ¬ nI k < 1 := by rw [i_lt, i_n (by omega)]; simp only [Int32.reduceToInt]; omega
    have q2 : nI k ≤ 5 := by rw [i_le, i_n (by omega)]; simp only [Int32.reduceToInt]; omega
    rw [if_neg q1, if_pos q2, if_neg (by decide), gd_n hk1 (by decide), gd_n hk1 (by decide), cl_n (by omega)]
    exact ⟨_, rfl, by rw [h.2.2.1.2.2.1 k (by omega) (by omega)]⟩
  · rw [if_neg hr]
    refine ⟨-1, ?_, rfl⟩
    by_cases q : v1 < 1
    · rw [if_pos q]
    · rw [if_neg q, if_neg (by rw [i_lt] at q; rw [i_le]; simp only [Int32.reduceToInt] at q ⊢; omega)]
