/-! calls, and what is told -/
theorem C_would {h n m : Nat} {I : StI} {a : AH} (hm : m < 400) (hg : AV n m a) (hc : HC I h a n) : f_X3_wouldAnswer h I = some (if wel n (I h 7) (upv a) a = true then 1 else 0) := by
  unfold f_X3_wouldAnswer
  rw [C_isUp hm hg hc, Option.bind_some]
  unfold wel
  by_cases hu : upv a = 0
  · rw [if_pos hu, if_neg (by simp [hu])]
  · rw [if_neg hu, C_calling hg.1 hc, Option.bind_some, pcn_eq, Option.bind_some, hc.2.1]
    by_cases hl : a 4 < pcn (wst n (I h 7) a)
    · rw [if_pos hl, if_neg]
      rw [i_lt] at hl
      simp only [Bool.and_eq_true, decide_eq_true_eq, i_le]
      omega
    · rw [if_neg hl, if_pos]
      rw [i_lt] at hl
      simp only [Bool.and_eq_true, decide_eq_true_eq, i_le]
      exact ⟨hu, by omega⟩
theorem C_calls {I : StI} {n : Nat} {a : AH} (hg : AV n 40 a) (hc : HC I 24 a n) (h7 : I 24 7 = 0) : Ho (f_X4_calls I) (fun t => t.1 = wst n 0 a ∧ t.2 0 9 = (if wel n 0 (upv a) a = true then 1 else 0) ∧ CF I t.2) := by
  have hn := hg.1
  have key : ∀ v : Int32, Ho (f_X4_calls_j16 v I) (fun t => t.1 = wst n 0 a ∧ t.2 0 9 = v ∧ CF I t.2) := by
    intro v
    unfold f_X4_calls_j16
    have hc2 : HC (k_up I 0 9 v) 24 a n := hc.ag hn (fun b k hb => k_up_oth (by unfold sC at hb; omega))
    have h72 : k_up I 0 9 v 24 7 = 0 := by rw [k_up_oth (by omega)]; exact h7
    simp only [k_let]
    rw [C_calling hn hc2, h72]
    refine Ho_b1 (Ho_s ⟨rfl, ?_, CF.up33 (fun _ _ _ _ => rfl) (Or.inr ⟨rfl, rfl⟩)⟩)
    show k_up I 0 9 v 0 9 = v
    rw [k_up_same]
  unfold f_X4_calls
  rw [C_would (m := 40) (by decide) hg hc, h7]
  refine Ho_b1 ?_
  by_cases hw : wel n 0 (upv a) a = true
  · rw [if_pos hw, if_neg (by decide)]
    exact key 1
  · rw [if_neg hw, if_pos rfl]
    exact key 0
theorem M_calls {J0 : StI} {n : Nat} {a : AH} (hg : AV n 40 a) (hm : HM J0 70 0 a) (h4 : J0 63 4 = nI n) (hk : KM J0 68 a n) : Ho (f_X5_calls J0) (fun t => t.1 = wst n 0 a ∧ t.2 63 14 = (if wel n 0 (upv a) a = true then 1 else 0) ∧ MF J0 t.2) := by
  have hn := hg.1
  unfold f_X5_calls
  refine Ho_bm (M_kin (I := J0) hn hk) (fun J1 hp1 => ?_)
  have hm1 : HM J1 70 0 a := fun j hj => by rw [hp1.2.2 70 _ (by decide)]; exact hm j hj
  have h41 : J1 63 4 = nI n := by rw [hp1.2.2 63 4 (by decide)]; exact h4
  have key : ∀ v : Int32, Ho (f_X5_calls_j45 (wst n 0 a) v J1) (fun t => t.1 = wst n 0 a ∧ t.2 63 14 = v ∧ MF J0 t.2) := by
    intro v
    unfold f_X5_calls_j45 f_X5_answer
    refine Ho_b1 (Ho_s ⟨rfl, ?_, hp1.2.1.up (Or.inr ⟨rfl, rfl⟩)⟩)
    show k_up J1 63 14 v 63 14 = v
    rw [k_up_same]
  rw [M_whoCalls (Or.inl rfl) hn hm1 hp1.1 h41, M_isUp (m := 40) (Or.inl rfl) (by decide) hg hm1]
  refine Ho_b1 (Ho_b1 ?_)
  unfold f_X5_calls_j44
  have e4 : J1 70 4 = a 4 := by have := hm1 4 (by decide); rwa [Nat.zero_add] at this
  have hb : f_X5_bits (wst n 0 a) = some (pcn (wst n 0 a)) := set_bits _ hn
  unfold wel
  by_cases hu : upv a = 0
  · rw [if_pos hu, if_neg (by simp [hu])]
    exact key 0
  · rw [if_neg hu, hb]
    refine Ho_b1 ?_
    rw [show (4 : Int32) = nI 4 from rfl, gd_n (by decide) (by decide), cl_n (by decide), e4]
    by_cases hl : a 4 < pcn (wst n 0 a)
    · rw [if_pos hl, if_neg (by
        rw [i_lt] at hl
        simp only [Bool.and_eq_true, decide_eq_true_eq, i_le]
        omega)]
      exact key 0
    · rw [if_neg hl, if_pos (by
        rw [i_lt] at hl
        simp only [Bool.and_eq_true, decide_eq_true_eq, i_le]
        exact ⟨hu, by omega⟩)]
      exact key 1
theorem L_calls {I : StI} {L : StL} (h : Rel I L) : Sm (f_X4_calls I) f_X5_calls L := by
  obtain ⟨n, fa, ds, hx⟩ := h.2.2.2
  obtain ⟨hg, hc, h7, hm, h4, hk, hrm, -⟩ := hx.vw
  exact Sm_aside h _ _ (C_calls hg.1 hc h7) (fun J hJ => M_calls hg.1 (fun j hj => by rw [hJ 70 _ (by decide)]; exact hm j hj) (by rw [hJ 63 4 (by decide)]; exact h4) (fun i hi => by rw [hJ 68 i (by decide)]; exact hk i hi))
theorem L_asked {I : StI} {L : StL} (h : Rel I L) : E2 (f_X4_asked I) (f_X5_asked I) := E2.of rfl (congrArg some h.2.2.1.1)
theorem L_finding {I : StI} {L : StL} (h : Rel I L) : E2 (f_X4_finding I) (f_X5_finding I) := E2.of rfl (congrArg some h.2.2.1.2.1)
theorem L_upper {I : StI} {L : StL} (h : Rel I L) : E2 (f_X4_upper L) (f_X5_upper L) := E2.of rfl (congrArg some h.2.2.1.2.2.2.1)
theorem L_lower {I : StI} {L : StL} (h : Rel I L) : E2 (f_X4_lower L) (f_X5_lower L) := E2.of rfl (congrArg some h.2.2.1.2.2.2.2)
