/-! become, and many steps -/
theorem C_becomeQ {q r : Nat} {I : StI} (hqr : q ≠ r) : Ho (f_X0_become q r I) (fun I' => (∀ k, k < 7 → I' q k = I r k) ∧ ∀ b k, ¬ (b = q ∧ k < 7) → I' b k = I b k) := by
  unfold f_X0_become
  simp only [k_let, Ho_some_i]
  have hr : ∀ {J : StI} {k j : Nat} {v : Int32}, k_up J q k v r j = J r j := fun {J k j v} => k_up_oth (fun z => hqr z.1.symm)
  refine ⟨fun k hk => ?_, fun b k hb => ?_⟩
  · simp only [hr]
    rcases (show k = 0 ∨ k = 1 ∨ k = 2 ∨ k = 3 ∨ k = 4 ∨ k = 5 ∨ k = 6 by omega) with rfl | rfl | rfl | rfl | rfl | rfl | rfl <;> simp [k_up]
  · have h0 : ∀ {J : StI} {j : Nat} {v : Int32}, j < 7 → k_up J q j v b k = J b k := fun {J j v} hj => k_up_oth (by omega)
    rw [h0 (by decide), h0 (by decide), h0 (by decide), h0 (by decide), h0 (by decide), h0 (by decide), h0 (by decide)]
theorem k_cq_sep {h g i j : Nat} (hh : k_isH h) (hg : k_isH g) (hne : h ≠ g) (hi : i < 7) (hj : j < 7) : k_cq h i ≠ k_cq g j ∧ k_cq h i ≠ g ∧ h ≠ k_cq g j := by
  unfold k_isH at hh hg
  unfold k_cq
  omega
theorem C_become {h g n : Nat} {I : StI} {a : AH} (hh : k_isH h) (hg : k_isH g) (hne : h ≠ g) (hn : n ≤ 7) (hc : HC I g a n) : Ho (f_X3_become h g I) (fun I' => HC I' h a n ∧ I' h 7 = I g 7 ∧ ∀ b k, ¬ sC h b → I' b k = I b k) := by
  unfold f_X3_become
  simp only [k_let]
  have hgo : ∀ {J : StI} {k j : Nat} {v : Int32}, k_up J h k v g j = J g j := fun {J k j v} => k_up_oth (fun z => hne z.1.symm)
  simp only [hgo]
  generalize hI7 : k_up (k_up (k_up (k_up (k_up (k_up (k_up I h 1 (I g 1)) h 2 (I g 2)) h 3 (I g 3)) h 4 (I g 4)) h 5 (I g 5)) h 6 (I g 6)) h 7 (I g 7) = I7
  have o1 : ∀ b k, b ≠ h → I7 b k = I b k := by
    intro b k hb
    subst hI7
    rw [k_up_oth (fun z => hb z.1), k_up_oth (fun z => hb z.1), k_up_oth (fun z => hb z.1), k_up_oth (fun z => hb z.1), k_up_oth (fun z => hb z.1), k_up_oth (fun z => hb z.1), k_up_oth (fun z => hb z.1)]
  have o2 : I7 h 1 = I g 1 ∧ I7 h 2 = I g 2 ∧ I7 h 3 = I g 3 ∧ I7 h 4 = I g 4 ∧ I7 h 5 = I g 5 ∧ I7 h 6 = I g 6 ∧ I7 h 7 = I g 7 := by
    subst hI7
    refine ⟨?_, ?_, ?_, ?_, ?_, ?_, ?_⟩ <;> simp [k_up]
  obtain ⟨c1, c2, c3, c4, c5, c6, cc⟩ := hc
  obtain ⟨d1, d2, d3, d4, d5, d6, d7⟩ := o2
  unfold f_X3_become_L58
  refine Ho_loop0 (fun q s => s.1 = nI q ∧ (∀ i k, i < q → k < 7 → s.2 (k_cq h i) k = I (k_cq g i) k) ∧ ∀ b k, ¬ (h + 2 ≤ b ∧ b ≤ h + 8) → s.2 b k = I7 b k) n (by omega) ?_ ?_ _ ⟨rfl, fun i k hk => absurd hk (by omega), fun _ _ _ => rfl⟩
  · intro q s hq hs
    obtain ⟨v, J⟩ := s
    obtain ⟨e1, e2, e3⟩ := hs
    dsimp only at e1 e2 e3
    subst e1
    dsimp only
    unfold f_X3_become_L58_b
    rw [if_neg (by rw [e3 h 1 (by omega), d1, c1, nI_leI (by omega) (by omega)]; omega), g_i (show q < 7 by omega), g_i (show q < 7 by omega), m_i (show q < 7 by omega), nI_1]
    simp only [k_let, Ho_bind_i, Ho_some_i, Sum.elim_inl]
    refine (C_becomeQ (q := k_cq h q) (r := k_cq g q) (k_cq_sep hh hg hne (by omega) (by omega)).1).mono (fun J' hp => ⟨trivial, fun i k hi hk => ?_, fun b k hb => ?_⟩)
    · by_cases hiq : i = q
      · subst hiq
        rw [hp.1 k hk]
        have hs := k_cq_sep hh hg hne (show i < 7 by omega) (show i < 7 by omega)
        rw [e3 _ k (by have := k_cq_sep hg hh (Ne.symm hne) (show i < 7 by omega) (show i < 7 by omega)
                       unfold k_isH at hh hg
                       unfold k_cq
                       omega), o1 _ k (Ne.symm hs.2.2)]
      · rw [hp.2 _ k (fun z => hiq (k_cq_inj z.1))]
        exact e2 i k (by omega) hk
    · rw [hp.2 b k (fun z => hb (by have := z.1; unfold k_cq at this; omega))]
      exact e3 b k hb
  · intro s hs
    obtain ⟨v, J⟩ := s
    obtain ⟨e1, e2, e3⟩ := hs
    dsimp only at e1 e2 e3
    subst e1
    dsimp only
    unfold f_X3_become_L58_b
    rw [if_pos (by rw [e3 h 1 (by omega), d1, c1, nI_leI (by omega) (by omega)]; omega), Ho_some_i]
    have hh' : ∀ k, J h k = I7 h k := fun k => e3 h k (by omega)
    refine ⟨⟨?_, ?_, ?_, ?_, ?_, ?_, fun i hi => ?_⟩, ?_, fun b k hb => ?_⟩
    · rw [hh', d1, c1]
    · rw [hh', d2, c2]
    · rw [hh', d3, c3]
    · rw [hh', d4, c4]
    · rw [hh', d5, c5]
    · rw [hh', d6, c6]
    · rw [e2 i 0 hi (by decide), e2 i 1 hi (by decide), e2 i 2 hi (by decide), e2 i 3 hi (by decide), e2 i 4 hi (by decide), e2 i 5 hi (by decide), e2 i 6 hi (by decide)]
      exact cc i hi
    · rw [hh', d7]
    · unfold sC at hb
      rw [e3 b k (by omega), o1 b k (by omega)]
/-- a house behind k steps, and how many were answered in them -/
def it (n : Nat) (u : Int32) : Nat → AH → AH
  | 0, a => a
  | k + 1, a => sg n u (upv (it n u k a)) (it n u k a)
def sm (n : Nat) (u : Int32) : Nat → AH → Int32
  | 0, _ => 0
  | k + 1, a => sm n u k a + sr n u (upv (it n u k a)) (it n u k a)
theorem AV_it {n m : Nat} {u : Int32} {a : AH} (h : AV n m a) : ∀ k, m + k < 1000 → AV n (m + k) (it n u k a)
  | 0, _ => h
  | k + 1, hk => AV_sg (m := m + k) (AV_it h k (by omega)) (by omega)
theorem C_answeredIn {h n m N : Nat} {I : StI} {a : AH} (hv : AV n m a) (hm : m + N < 400) (hc : HC I h a n) : Ho (f_X3_answeredIn h (nI N) I) (fun t => t.1 = sm n (I h 7) N a ∧ HC t.2 h (it n (I h 7) N a) n ∧ t.2 h 7 = I h 7 ∧ ∀ b k, ¬ sC h b → t.2 b k = I b k) := by
  unfold f_X3_answeredIn f_X3_answeredIn_L4
  refine Ho_loop0 (fun q s => s.1 = sm n (I h 7) q a ∧ s.2.1 = nI q ∧ HC s.2.2 h (it n (I h 7) q a) n ∧ s.2.2 h 7 = I h 7 ∧ ∀ b k, ¬ sC h b → s.2.2 b k = I b k) N (by omega) ?_ ?_ _ ⟨rfl, rfl, hc, rfl, fun _ _ _ => rfl⟩
  · intro q s hq hs
    obtain ⟨v, w, J⟩ := s
    obtain ⟨e0, e1, e2, e7, e3⟩ := hs
    dsimp only at e0 e1 e2 e7 e3
    subst e0 e1
    dsimp only
    unfold f_X3_answeredIn_L4_b
    have hq2 := AV_it (u := I h 7) hv q (by omega)
    rw [if_neg (by rw [nI_leI (by omega) (by omega)]; omega), C_isUp (by omega) hq2 e2]
    simp only [Option.bind_some, k_let, Ho_bind_i, Ho_some_i, Sum.elim_inl, nI_1]
    refine (C_pass (up := upv (it n (I h 7) q a)) hq2 e2).mono (fun t hp => ?_)
    rw [e7] at hp
    refine ⟨by rw [hp.1]; rfl, trivial, hp.2.1, hp.2.2.1, fun b k hb => (hp.2.2.2 b k hb).trans (e3 b k hb)⟩
  · intro s hs
    obtain ⟨v, w, J⟩ := s
    obtain ⟨e0, e1, e2, e7, e3⟩ := hs
    dsimp only at e0 e1 e2 e7 e3
    subst e0 e1
    dsimp only
    unfold f_X3_answeredIn_L4_b
    rw [if_pos (by rw [nI_leI (by omega) (by omega)]; omega), Ho_some_i]
    exact ⟨rfl, e2, e7, e3⟩
/-- what the reference's steps aside leave -/
def sA (b k : Nat) : Prop := b = 71 ∨ (b = 63 ∧ (k = 23 ∨ k = 24))
theorem M_goesOn {n m N : Nat} {I : StI} {a : AH} {u : Int32} (hv : AV n m a) (hm : m + N < 400) (hc : HM I 71 0 a) (hk : KM I 72 a n) (h4 : I 63 4 = nI n) : Ho (f_X5_goesOn (nI N) u I) (fun t => t.1 = sm n u N a ∧ HM t.2 71 0 (it n u N a) ∧ ∀ b k, ¬ sA b k → t.2 b k = I b k) := by
  unfold f_X5_goesOn f_X5_goesOn_L5
  refine Ho_loop0 (fun q s => s.1 = sm n u q a ∧ s.2.1 = nI q ∧ HM s.2.2 71 0 (it n u q a) ∧ ∀ b k, ¬ sA b k → s.2.2 b k = I b k) N (by omega) ?_ ?_ _ ⟨rfl, rfl, hc, fun _ _ _ => rfl⟩
  · intro q s hq hs
    obtain ⟨v, w, J⟩ := s
    obtain ⟨e0, e1, e2, e3⟩ := hs
    dsimp only at e0 e1 e2 e3
    subst e0 e1
    dsimp only
    unfold f_X5_goesOn_L5_b
    have hq2 := AV_it (u := u) hv q (by omega)
    rw [if_neg (by rw [nI_leI (by omega) (by omega)]; omega), M_isUp (Or.inr rfl) (by omega) hq2 e2]
    simp only [Option.bind_some, k_let, Ho_bind_i, Ho_some_i, Sum.elim_inl, nI_1]
    have hkk : ∀ j, 40 ≤ j → it n u q a j = a j := by
      intro j hj
      clear hq hq2 e2
      induction q with
      | zero => rfl
      | succ q ih => exact (sg_o (by omega) (by omega) hv.1).trans ih
    refine (M_goes (u := u) (up := upv (it n u q a)) (Or.inr rfl) hq2 e2 (fun i hi => ?_) (by rw [e3 63 4 (by unfold sA; omega)]; exact h4)).mono (fun t hp => ?_)
    · rw [e3 72 i (by unfold sA; omega), hkk (40 + i) (by omega)]
      exact hk i hi
    · refine ⟨by rw [hp.1]; rfl, trivial, hp.2.1, fun b k hb => ?_⟩
      unfold sA at hb
      exact (hp.2.2.2.2 b k (by omega) (by omega)).trans (e3 b k hb)
  · intro s hs
    obtain ⟨v, w, J⟩ := s
    obtain ⟨e0, e1, e2, e3⟩ := hs
    dsimp only at e0 e1 e2 e3
    subst e0 e1
    dsimp only
    unfold f_X5_goesOn_L5_b
    rw [if_pos (by rw [nI_leI (by omega) (by omega)]; omega), Ho_some_i]
    exact ⟨rfl, e2, e3⟩
