/-! pass of the class, goes of the reference -/
theorem CV.called {n : Nat} {a : AH} {u : Int32} {i : Nat} (h : cls a u i = true) : a (12 + i) ≠ 1 := by
  unfold cls at h
  simp at h
  exact h.1.1
theorem k_cq_inj {h i j : Nat} (hh : k_cq h i = k_cq h j) : i = j := by unfold k_cq at hh; omega
theorem k_cq_ne {h i : Nat} : k_cq h i ≠ h := by unfold k_cq; omega
/-- callers below k are new, the others old -/
def HCk (I : StI) (h : Nat) (n k : Nat) (u up : Int32) (a : AH) : Prop := ∀ i, i < n → I (k_cq h i) 0 = a (40 + i) ∧ I (k_cq h i) 1 = a (5 + i) ∧ I (k_cq h i) 2 = a (47 + i) ∧ (I (k_cq h i) 3, I (k_cq h i) 4, I (k_cq h i) 5, I (k_cq h i) 6) = if i < k then cNw n u up a i else (a (12 + i), a (19 + i), a (26 + i), a (33 + i))
theorem HCk.step {I I' : StI} {h n k : Nat} {u up : Int32} {a : AH} {c : C4} (hk : k < n) (hi : HCk I h n k u up a) (hp : PostC (k_cq h k) I c I') (hc : c = cNw n u up a k) : HCk I' h n (k + 1) u up a := by
  intro i hin
  obtain ⟨h0, h1, h2, h3⟩ := hi i hin
  obtain ⟨p3, p4, p5, p6, po⟩ := hp
  by_cases e : i = k
  · subst e
    rw [po _ 0 (by omega), po _ 1 (by omega), po _ 2 (by omega), p3, p4, p5, p6, if_pos (by omega), ← hc]
    exact ⟨h0, h1, h2, rfl⟩
  · have hne : ¬ k_cq h i = k_cq h k := fun z => e (k_cq_inj z)
    rw [po _ 0 (fun z => hne z.1), po _ 1 (fun z => hne z.1), po _ 2 (fun z => hne z.1), po _ 3 (fun z => hne z.1), po _ 4 (fun z => hne z.1), po _ 5 (fun z => hne z.1), po _ 6 (fun z => hne z.1)]
    refine ⟨h0, h1, h2, h3.trans ?_⟩
    by_cases hik : i < k
    · rw [if_pos hik, if_pos (by omega)]
    · rw [if_neg hik, if_neg (by omega)]
theorem HCk.same {I : StI} {h n k : Nat} {u up : Int32} {a : AH} (hk : k < n) (hi : HCk I h n k u up a) (hc : cNw n u up a k = (a (12 + k), a (19 + k), a (26 + k), a (33 + k))) : HCk I h n (k + 1) u up a := by
  intro i hin
  obtain ⟨h0, h1, h2, h3⟩ := hi i hin
  refine ⟨h0, h1, h2, h3.trans ?_⟩
  by_cases e : i = k
  · subst e
    rw [if_neg (by omega), if_pos (by omega), hc]
  · by_cases hik : i < k
    · rw [if_pos hik, if_pos (by omega)]
    · rw [if_neg hik, if_neg (by omega)]
/-- the cells of a house -/
def sC (h b : Nat) : Prop := b = h ∨ (h + 2 ≤ b ∧ b ≤ h + 8)
theorem C_pass {h n m : Nat} {I : StI} {a : AH} {up : Int32} (hv : AV n m a) (hc : HC I h a n) : Ho (f_X3_pass h up I) (fun t => t.1 = sr n (I h 7) up a ∧ HC t.2 h (sg n (I h 7) up a) n ∧ t.2 h 7 = I h 7 ∧ ∀ b k, ¬ sC h b → t.2 b k = I b k) := by
  obtain ⟨hn, hst, hcv⟩ := hv
  have hcall := C_calling hn hc
  obtain ⟨c1, c2, c3, c4, c5, c6, cc⟩ := hc
  generalize hu : I h 7 = u at hcall ⊢
  unfold f_X3_pass f_X3_pass_j26
  rw [hcall]
  simp only [Option.bind_some, pcn_eq]
  have key : ∀ w : Int32, (w = if wel n u up a = true then 1 else 0) → Ho (f_X3_pass_L32 h (wst n u a) (pcn (wst n u a)) w k_fu 0 I) (fun t => t.1 = sr n u up a ∧ HC t.2 h (sg n u up a) n ∧ t.2 h 7 = u ∧ ∀ b k, ¬ sC h b → t.2 b k = I b k) := by
    intro w hw
    have hw0 : w = 0 ↔ ¬ wel n u up a = true := by
      rw [hw]
      by_cases z : wel n u up a = true
      · simp [z]
      · simp [z]
    unfold f_X3_pass_L32
    refine Ho_loop0 (fun k s => s.1 = nI k ∧ HCk s.2 h n k u up a ∧ (∀ b j, (b < h + 2 ∨ h + 8 < b) → s.2 b j = I b j)) n (by omega) ?_ ?_ _ ⟨rfl, ?_, fun _ _ _ => rfl⟩
    · intro k s hk hs
      obtain ⟨v, J⟩ := s
      obtain ⟨e1, e2, e3⟩ := hs
      dsimp only at e1 e2 e3
      subst e1
      dsimp only
      have hh : ∀ j, J h j = I h j := fun j => e3 h j (by omega)
      unfold f_X3_pass_L32_b f_X3_pass_j56 f_X3_pass_j81
      rw [if_neg (by rw [hh, c1, nI_leI (by omega) (by omega)]; omega)]
      have hb : (((wst n u a) >>> (nI k &&& 31)) &&& (1 : Int32) = 1) ↔ cls a u k = true := by
        have := has_set (p := cls a u) hn hk
        unfold hasb at this
        rw [← this]
        unfold wst
        simp
      obtain ⟨q0, q1, q2, q3⟩ := e2 k hk
      rw [if_neg (by omega)] at q3
      obtain ⟨q3, q4, q5, q6⟩ : J (k_cq h k) 3 = a (12 + k) ∧ J (k_cq h k) 4 = a (19 + k) ∧ J (k_cq h k) 5 = a (26 + k) ∧ J (k_cq h k) 6 = a (33 + k) := by
        simpa using q3
      obtain ⟨v1, v2, v3, v4, v5, v6, v7⟩ := hcv k hk
      have fin : ∀ J' : StI, (∀ b j, ¬ (b = k_cq h k ∧ (j = 3 ∨ j = 4 ∨ j = 5 ∨ j = 6)) → J' b j = J b j) → ∀ b j, (b < h + 2 ∨ h + 8 < b) → J' b j = I b j := by
        intro J' hJ b j hbj
        rw [hJ b j (fun z => by have := z.1; unfold k_cq at this; omega)]
        exact e3 b j hbj
      by_cases hcl : cls a u k = true
      · rw [if_pos (hb.mpr hcl)]
        by_cases hwe : wel n u up a = true
        · have w1 : ¬ w = 0 := fun z => hw0.mp z hwe
          rw [if_neg (by decide), if_neg w1]
          simp only [g_i (show k < 7 by omega), m_i (show k < 7 by omega), k_let, Ho_bind_i, Ho_some_i, nI_1]
          refine (C_takeAnswer (k_cq h k) J (by rw [q4]; exact v4.1)).mono (fun J' hp => ?_)
          refine ⟨rfl, e2.step hk hp ?_, fin J' hp.2.2.2.2⟩
          rw [q0, q3, q4, q5, q6]
          simp [cNw, hcl, hwe]
        · have w1 : w = 0 := hw0.mpr hwe
          rw [if_neg (by decide), if_pos w1, if_neg (by decide)]
          simp only [g_i (show k < 7 by omega), m_i (show k < 7 by omega), k_let, Ho_bind_i, Ho_some_i, nI_1]
          refine (C_takeFault (k_cq h k) (J h 4) J (by rw [q6]; exact v6.1) (by rw [q6]; exact v6.2)).mono (fun J' hp => ?_)
          refine ⟨rfl, e2.step hk hp ?_, fin J' hp.2.2.2.2⟩
          rw [q0, q1, q3, q4, q5, q6, hh, c4]
          simp [cNw, hcl, hwe]
      · rw [if_neg (fun z => hcl (hb.mp z)), if_pos rfl, if_pos rfl, hushed_eq, hh, hu]
        simp only [Option.bind_some, g_i (show k < 7 by omega), m_i (show k < 7 by omega), k_let, nI_1]
        cases hu2 : hasb u k
        · by_cases ho : a (12 + k) = 1
          · simp only [q3, ho, if_true, Ho_bind_i, Ho_some_i]
            rw [if_pos (by simp)]
            simp only [Ho_bind_i, Ho_some_i]
            obtain ⟨o1, o2⟩ := v7 ho
            refine (C_rest (k_cq h k) J (by rw [q5]; exact o1) (by rw [q4]; exact o2)).mono (fun J' hp => ?_)
            refine ⟨rfl, e2.step hk hp ?_, fin J' hp.2.2.2.2⟩
            rw [q0, q1, q3, q4, q5, q6]
            simp [cNw, hcl, ho, hu2]
          · rw [if_pos (by simp), q3, if_neg ho, Ho_some_i]
            refine ⟨rfl, e2.same hk ?_, e3⟩
            simp [cNw, hcl, ho]
        · rw [if_neg (by simp), Ho_some_i]
          refine ⟨rfl, e2.same hk ?_, e3⟩
          simp [cNw, hcl, hu2]
    · intro s hs
      obtain ⟨v, J⟩ := s
      obtain ⟨e1, e2, e3⟩ := hs
      dsimp only at e1 e2 e3
      subst e1
      dsimp only
      have hh : ∀ j, J h j = I h j := fun j => e3 h j (by omega)
      unfold f_X3_pass_L32_b
      rw [if_pos (by rw [hh, c1, nI_leI (by omega) (by omega)]; omega)]
      simp only [k_let]
      have hold : ∀ J' : StI, J' h 1 = nI n → J' h 2 = a 4 → J' h 3 = a 3 → J' h 4 = a 0 + 1 → J' h 5 = sg n u up a 1 → J' h 6 = sg n u up a 2 → (∀ b j, b ≠ h → J' b j = J b j) → HC J' h (sg n u up a) n := by
        intro J' g1 g2 g3 g4 g5 g6 go
        refine ⟨g1, ?_, ?_, ?_, g5, g6, fun i hi => ?_⟩
        · rw [g2, sg_o (by omega) (by omega) hn]
        · rw [g3, sg_o (by omega) (by omega) hn]
        · rw [g4]; rfl
        · have hq : ∀ j, J' (k_cq h i) j = J (k_cq h i) j := fun j => go _ j k_cq_ne
          obtain ⟨q0, q1, q2, q3⟩ := e2 i hi
          rw [if_pos hi] at q3
          rw [hq, hq, hq, hq, hq, hq, hq, sg_o (by omega) (by omega) hn, sg_o (by omega) (by omega) hn, sg_o (by omega) (by omega) hn, sg_12 hn hi, sg_19 hn hi, sg_26 hn hi, sg_33 hn hi, ← q3]
          exact ⟨q0, q1, q2, rfl, rfl, rfl, rfl⟩
      have frm : ∀ J' : StI, (∀ b j, b ≠ h → J' b j = J b j) → ∀ b k, ¬ sC h b → J' b k = I b k := by
        intro J' go b k hb
        unfold sC at hb
        rw [go b k (by omega)]
        exact e3 b k (by omega)
      have un : ∀ (x y : Int32) (j : Nat) (b k : Nat), b ≠ h → k_up (k_up J h 4 x) h j y b k = J b k := fun x y j b k hb => by
        rw [k_up_oth (fun z => hb z.1), k_up_oth (fun z => hb z.1)]
      by_cases hwe : wel n u up a = true
      · have w1 : ¬ w = 0 := fun z => hw0.mp z hwe
        rw [if_neg w1, Ho_some_i]
        refine ⟨by simp [sr, hwe], hold _ ?_ ?_ ?_ ?_ ?_ ?_ (fun b j hb => un _ _ _ b j hb), ?_, frm _ (fun b j hb => un _ _ _ b j hb)⟩
        all_goals simp [k_up, hh, c1, c2, c3, c4, c5, c6, hu, sg, hwe]
      · have w1 : w = 0 := hw0.mpr hwe
        rw [if_pos w1, Ho_some_i]
        refine ⟨by simp [sr, hwe], hold _ ?_ ?_ ?_ ?_ ?_ ?_ (fun b j hb => un _ _ _ b j hb), ?_, frm _ (fun b j hb => un _ _ _ b j hb)⟩
        all_goals simp [k_up, hh, c1, c2, c3, c4, c5, c6, hu, sg, hwe]
    · intro i hi
      obtain ⟨q0, q1, q2, q3, q4, q5, q6⟩ := cc i hi
      refine ⟨q0, q1, q2, ?_⟩
      rw [if_neg (by omega)]
      show (I (k_cq h i) 3, I (k_cq h i) 4, I (k_cq h i) 5, I (k_cq h i) 6) = _
      rw [q3, q4, q5, q6]
  by_cases hup : up = 0
  · rw [if_pos hup]
    exact key 0 (by simp [wel, hup])
  · rw [if_neg hup, c2]
    by_cases hr : a 4 < pcn (wst n u a)
    · rw [if_pos hr]
      refine key 0 ?_
      have : ¬ pcn (wst n u a) ≤ a 4 := by rw [i_le]; rw [i_lt] at hr; omega
      simp [wel, this]
    · rw [if_neg hr]
      refine key 1 ?_
      have : pcn (wst n u a) ≤ a 4 := by rw [i_le]; rw [i_lt] at hr; omega
      simp [wel, this, hup]
