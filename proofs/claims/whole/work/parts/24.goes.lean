def trb (n : Nat) (u up : Int32) (a : AH) (i : Nat) : Bool := cls a u i && !(wel n u up a) && decide ((cNw n u up a i).1 = 1)
def HMk (I : StI) (t : Nat) (n k : Nat) (u up : Int32) (a : AH) : Prop := (∀ j, j < 12 → I t j = a j) ∧ ∀ i, i < 7 → (I t (12 + i), I t (19 + i), I t (26 + i), I t (33 + i)) = if i < k then cNw n u up a i else (a (12 + i), a (19 + i), a (26 + i), a (33 + i))
theorem HMk.step {I I' : StI} {t n k : Nat} {u up : Int32} {a : AH} {c : C4} {an tr : Int32} (ht : k_t t) (hk : k < 7) (hi : HMk I t n k u up a) (hp : PostM t k I c an tr I') (hc : c = cNw n u up a k) : HMk I' t n (k + 1) u up a := by
  have ht63 : ¬ t = 63 := by rcases ht with rfl | rfl <;> decide
  obtain ⟨hs, hi⟩ := hi
  obtain ⟨p3, p4, p5, p6, -, -, po⟩ := hp
  refine ⟨fun j hj => ?_, fun i hin => ?_⟩
  · rw [po t j (fun z => by have := z.2; omega) (fun z => ht63 z.1)]
    exact hs j hj
  · have h3 := hi i hin
    by_cases e : i = k
    · subst e
      rw [p3, p4, p5, p6, if_pos (by omega), ← hc]
    · rw [po t (12 + i) (fun z => by have := z.2; omega) (fun z => ht63 z.1), po t (19 + i) (fun z => by have := z.2; omega) (fun z => ht63 z.1), po t (26 + i) (fun z => by have := z.2; omega) (fun z => ht63 z.1), po t (33 + i) (fun z => by have := z.2; omega) (fun z => ht63 z.1), h3]
      by_cases hik : i < k
      · rw [if_pos hik, if_pos (by omega)]
      · rw [if_neg hik, if_neg (by omega)]
theorem HMk.same {I : StI} {t n k : Nat} {u up : Int32} {a : AH} (hi : HMk I t n k u up a) (hc : cNw n u up a k = (a (12 + k), a (19 + k), a (26 + k), a (33 + k))) : HMk I t n (k + 1) u up a := by
  refine ⟨hi.1, fun i hin => (hi.2 i hin).trans ?_⟩
  by_cases e : i = k
  · subst e
    rw [if_neg (by omega), if_pos (by omega), hc]
  · by_cases hik : i < k
    · rw [if_pos hik, if_pos (by omega)]
    · rw [if_neg hik, if_neg (by omega)]
theorem sg_x {n j : Nat} {u up : Int32} {a : AH} (h0 : 12 ≤ j) (h : ¬ (12 ≤ j ∧ j < 12 + n)) (h2 : ¬ (19 ≤ j ∧ j < 19 + n)) (h3 : ¬ (26 ≤ j ∧ j < 26 + n)) (h4 : ¬ (33 ≤ j ∧ j < 33 + n)) : sg n u up a j = a j := by
  unfold sg
  rw [if_neg (by omega), if_neg (by omega), if_neg (by omega), if_neg h, if_neg h2, if_neg h3, if_neg h4]
theorem HMk.done {I : StI} {t n : Nat} {u up : Int32} {a : AH} (hn : n ≤ 7) (h : HMk I t n n u up a) : ∀ j, 12 ≤ j → j < 40 → I t j = sg n u up a j := by
  intro j h12 h40
  have key : ∀ i, i < 7 → I t (12 + i) = sg n u up a (12 + i) ∧ I t (19 + i) = sg n u up a (19 + i) ∧ I t (26 + i) = sg n u up a (26 + i) ∧ I t (33 + i) = sg n u up a (33 + i) := by
    intro i hi
    have h3 := h.2 i hi
    by_cases hin : i < n
    · rw [if_pos hin] at h3
      rw [sg_12 hn hin, sg_19 hn hin, sg_26 hn hin, sg_33 hn hin, ← h3]
      exact ⟨rfl, rfl, rfl, rfl⟩
    · rw [if_neg hin] at h3
      rw [sg_x (by omega) (by omega) (by omega) (by omega) (by omega), sg_x (by omega) (by omega) (by omega) (by omega) (by omega), sg_x (by omega) (by omega) (by omega) (by omega) (by omega), sg_x (by omega) (by omega) (by omega) (by omega) (by omega)]
      simpa using h3
  rcases (show j < 19 ∨ (19 ≤ j ∧ j < 26) ∨ (26 ≤ j ∧ j < 33) ∨ 33 ≤ j by omega) with h1 | h1 | h1 | h1
  · have := (key (j - 12) (by omega)).1
    rwa [show 12 + (j - 12) = j by omega] at this
  · have := (key (j - 19) (by omega)).2.1
    rwa [show 19 + (j - 19) = j by omega] at this
  · have := (key (j - 26) (by omega)).2.2.1
    rwa [show 26 + (j - 26) = j by omega] at this
  · have := (key (j - 33) (by omega)).2.2.2
    rwa [show 33 + (j - 33) = j by omega] at this
set_option maxRecDepth 100000 in
theorem M_goes {t n m : Nat} {I : StI} {a : AH} {u up : Int32} (ht : k_t t) (hv : AV n m a) (hc : HM I t 0 a) (hk : KM I 72 a n) (h4 : I 63 4 = nI n) : Ho (f_X5_goes t u up I) (fun s => s.1 = sr n u up a ∧ HM s.2 t 0 (sg n u up a) ∧ s.2 63 23 = (if wel n u up a = true then wst n u a else 0) ∧ s.2 63 24 = setOf (trb n u up a) n ∧ ∀ b k, b ≠ t → ¬ (b = 63 ∧ (k = 23 ∨ k = 24)) → s.2 b k = I b k) := by
  have ht63 : ¬ t = 63 := by rcases ht with rfl | rfl <;> decide
  have h63t : ¬ 63 = t := fun z => ht63 z.symm
  have h72t : ¬ 72 = t := by rcases ht with rfl | rfl <;> decide
  have hwho := M_whoCalls (u := u) ht hv.1 hc hk h4
  obtain ⟨hn, hst, hcv⟩ := hv
  have hc0 : ∀ j, j < 40 → I t j = a j := fun j hj => by have := hc j hj; rwa [Nat.zero_add] at this
  unfold f_X5_goes f_X5_goes_j27 f_X5_goes_j28
  rw [hwho]
  have hbits := set_bits (cls a u) hn
  simp only [Option.bind_some, k_let, k_t2 ht, g_4, n_4]
  have key : ∀ w : Int32, (w = if wel n u up a = true then 1 else 0) → Ho (f_X5_goes_L43 t u (wst n u a) w k_fu 0 (k_up (k_up I 63 23 0) 63 24 0)) (fun s => s.1 = sr n u up a ∧ HM s.2 t 0 (sg n u up a) ∧ s.2 63 23 = (if wel n u up a = true then wst n u a else 0) ∧ s.2 63 24 = setOf (trb n u up a) n ∧ ∀ b k, b ≠ t → ¬ (b = 63 ∧ (k = 23 ∨ k = 24)) → s.2 b k = I b k) := by
    intro w hw
    have hw0 : w = 0 ↔ ¬ wel n u up a = true := by
      rw [hw]
      by_cases z : wel n u up a = true
      · simp [z]
      · simp [z]
    unfold f_X5_goes_L43
    refine Ho_loop0 (fun k s => s.1 = nI k ∧ HMk s.2 t n k u up a ∧ s.2 63 23 = (if wel n u up a = true then setOf (cls a u) k else 0) ∧ s.2 63 24 = setOf (trb n u up a) k ∧ (∀ b j, b ≠ t → ¬ (b = 63 ∧ (j = 23 ∨ j = 24)) → s.2 b j = I b j)) n (by omega) ?_ ?_ _ ⟨rfl, ?_, ?_, ?_, ?_⟩
    · intro k s hkn hs
      obtain ⟨v, J⟩ := s
      obtain ⟨e1, e2, e23, e24, e3⟩ := hs
      dsimp only at e1 e2 e23 e24 e3
      subst e1
      dsimp only
      have hk7 : k < 7 := by omega
      unfold f_X5_goes_L43_b f_X5_goes_j77
      rw [if_neg (by rw [e3 63 4 h63t (by omega), h4, nI_leI (by omega) (by omega)]; omega)]
      have hb : hasb (wst n u a) k = cls a u k := has_set hn hkn
      have q3 := e2.2 k hk7
      rw [if_neg (by omega)] at q3
      obtain ⟨q3, q4, q5, q6⟩ : J t (12 + k) = a (12 + k) ∧ J t (19 + k) = a (19 + k) ∧ J t (26 + k) = a (26 + k) ∧ J t (33 + k) = a (33 + k) := by
        simpa using q3
      have q1 : J t (5 + k) = a (5 + k) := e2.1 (5 + k) (by omega)
      have q00 : J t 0 = a 0 := e2.1 0 (by omega)
      have q0 : J 72 k = a (40 + k) := by rw [e3 72 k h72t (by omega)]; exact hk k hkn
      obtain ⟨v1, v2, v3, v4, v5, v6, v7⟩ := hcv k hkn
      simp only [M_has, Option.bind_some, hb, k_t2 ht, g_12 hk7, m_12 hk7, k_let, nI_1]
      have e23' : (if wel n u up a = true then setOf (cls a u) (k + 1) else 0) = (if wel n u up a = true then (if cls a u k then setOf (cls a u) k ||| bit k else setOf (cls a u) k) else 0) := rfl
      have e24' : setOf (trb n u up a) (k + 1) = if trb n u up a k then setOf (trb n u up a) k ||| bit k else setOf (trb n u up a) k := rfl
      have fin : ∀ {c : C4} {an tr : Int32} {J' : StI}, PostM t k J c an tr J' → ∀ b j, b ≠ t → ¬ (b = 63 ∧ (j = 23 ∨ j = 24)) → J' b j = I b j := by
        intro c an tr J' hp b j hb1 hb2
        rw [hp.2.2.2.2.2.2 b j (fun z => hb1 z.1) hb2]
        exact e3 b j hb1 hb2
      by_cases hcl : cls a u k = true
      · simp only [hcl, if_true]
        rw [if_neg (by decide)]
        by_cases hwe : wel n u up a = true
        · have w1 : ¬ w = 0 := fun z => hw0.mp z hwe
          rw [if_neg w1]
          simp only [Ho_bind_i, Ho_some_i]
          refine (M_isAnswered ht hk7 J).mono (fun J' hp => ?_)
          refine ⟨rfl, e2.step ht hk7 hp ?_, ?_, ?_, fin hp⟩
          · rw [q0, q3, q4, q5, q6]
            simp [cNw, hcl, hwe]
          · dsimp only
            rw [hp.2.2.2.2.1, e23, e23']
            simp [hwe, hcl]
          · dsimp only
            rw [hp.2.2.2.2.2.1, e24, e24']
            simp [trb, hwe]
        · have w1 : w = 0 := hw0.mpr hwe
          rw [if_pos w1, if_neg (by decide)]
          simp only [Ho_bind_i, Ho_some_i]
          have hh : J t (12 + k) = 0 ∨ J t (12 + k) = 2 := by
            rw [q3]
            have := CV.called (n := n) hcl
            rcases v3 with z | z | z
            · exact Or.inl z
            · exact absurd z this
            · exact Or.inr z
          refine (M_hasFault ht hk7 J hh).mono (fun J' hp => ?_)
          obtain ⟨tr, hp, htr⟩ := hp
          rw [q0, q1, q3, q4, q5, q6, q00] at hp htr
          have hcn : cFault (a (40 + k)) (a (5 + k)) (a (12 + k)) (a (19 + k)) (a (26 + k)) (a (33 + k)) (a 0) = cNw n u up a k := by simp [cNw, hcl, hwe]
          rw [hcn] at hp htr
          refine ⟨rfl, e2.step ht hk7 hp rfl, ?_, ?_, fin hp⟩
          · dsimp only
            rw [hp.2.2.2.2.1, e23, e23']
            simp [hwe]
          · dsimp only
            rw [hp.2.2.2.2.2.1, htr, e24, e24']
            by_cases h1 : (cNw n u up a k).1 = 1
            · simp [trb, hcl, hwe, h1]
            · simp [trb, h1]
      · have hcl' : cls a u k = false := by simpa using hcl
        simp only [hcl', Bool.false_eq_true, if_false, if_true, q3]
        have t23 : ∀ J' : StI, J' 63 23 = J 63 23 → J' 63 23 = (if wel n u up a = true then setOf (cls a u) (k + 1) else 0) := by
          intro J' hJ
          rw [hJ, e23, e23']
          simp [hcl']
        have t24 : ∀ J' : StI, J' 63 24 = J 63 24 → J' 63 24 = setOf (trb n u up a) (k + 1) := by
          intro J' hJ
          rw [hJ, e24, e24']
          simp [trb, hcl']
        by_cases ho : a (12 + k) = 1
        · rw [if_pos ho]
          cases hu2 : hasb u k
          · rw [if_pos (by simp)]
            simp only [Ho_bind_i, Ho_some_i]
            refine (M_isAtRest ht hk7 J).mono (fun J' hp => ?_)
            refine ⟨rfl, e2.step ht hk7 hp ?_, t23 J' hp.2.2.2.2.1, t24 J' hp.2.2.2.2.2.1, fin hp⟩
            rw [q0, q1, q3, q4, q5, q6]
            simp [cNw, hcl', ho, hu2, cRest]
          · rw [if_neg (by simp), Ho_some_i]
            refine ⟨rfl, e2.same ?_, t23 J rfl, t24 J rfl, e3⟩
            simp [cNw, hcl', hu2]
        · rw [if_neg ho, Ho_some_i]
          refine ⟨rfl, e2.same ?_, t23 J rfl, t24 J rfl, e3⟩
          simp [cNw, hcl', ho]
    · intro s hs
      obtain ⟨v, J⟩ := s
      obtain ⟨e1, e2, e23, e24, e3⟩ := hs
      dsimp only at e1 e2 e23 e24 e3
      subst e1
      dsimp only
      unfold f_X5_goes_L43_b f_X5_goes_j141
      rw [if_pos (by rw [e3 63 4 h63t (by omega), h4, nI_leI (by omega) (by omega)]; omega)]
      have hb1 : f_X5_bits (wst n u a) = some (pcn (wst n u a)) := hbits
      simp only [Ho_map_i, k_t2 ht, g_1, g_2, g_0, n_0, n_1, n_2, hb1, Option.bind_some, k_let]
      have fin : ∀ (i : Nat) (x y : Int32), (i = 1 ∨ i = 2) → x = sg n u up a i → (∀ j, j = 1 ∨ j = 2 → j ≠ i → a j = sg n u up a j) → y = a 0 + 1 → HM (k_up (k_up J t i x) t 0 y) t 0 (sg n u up a) ∧ (k_up (k_up J t i x) t 0 y) 63 23 = (if wel n u up a = true then wst n u a else 0) ∧ (k_up (k_up J t i x) t 0 y) 63 24 = setOf (trb n u up a) n ∧ ∀ b k, b ≠ t → ¬ (b = 63 ∧ (k = 23 ∨ k = 24)) → (k_up (k_up J t i x) t 0 y) b k = I b k := by
        intro i x y hi hx hoth hy
        refine ⟨fun j hj => ?_, ?_, ?_, fun b k hb hc => ?_⟩
        · rw [Nat.zero_add]
          by_cases j0 : j = 0
          · subst j0
            rw [k_up_same, hy]
            rfl
          · rw [k_up_oth (by omega)]
            by_cases ji : j = i
            · subst ji
              rw [k_up_same, hx]
            · rw [k_up_oth (by omega)]
              by_cases j12 : 12 ≤ j
              · exact e2.done hn j j12 hj
              · rw [e2.1 j (by omega)]
                by_cases j3 : 3 ≤ j
                · rw [sg_o j3 (by omega) hn]
                · exact hoth j (by omega) ji
        · rw [k_up_oth (fun z => h63t z.1), k_up_oth (fun z => h63t z.1)]
          exact e23
        · rw [k_up_oth (fun z => h63t z.1), k_up_oth (fun z => h63t z.1)]
          exact e24
        · rw [k_up_oth (fun z => hb z.1), k_up_oth (fun z => hb z.1)]
          exact e3 b k hb hc
      have d1 := e2.1 1 (by omega)
      have d2 := e2.1 2 (by omega)
      have d0 := e2.1 0 (by omega)
      by_cases hwe : wel n u up a = true
      · have w1 : ¬ w = 0 := fun z => hw0.mp z hwe
        rw [if_neg w1, Ho_map_i]
        have h23 : k_up (k_up J t 1 (J t 1 + pcn (wst n u a))) t 0 (k_up J t 1 (J t 1 + pcn (wst n u a)) t 0 + 1) 63 23 = wst n u a := by
          rw [k_up_oth (fun z => h63t z.1), k_up_oth (fun z => h63t z.1), e23, if_pos hwe]
          rfl
        rw [h23, hb1]
        simp only [Option.bind_some, Ho_some_i]
        have hoth : ∀ j, j = 1 ∨ j = 2 → j ≠ 1 → a j = sg n u up a j := by
          intro j hj hne
          have h2 : j = 2 := by omega
          subst h2
          simp [sg, hwe]
        exact ⟨by simp [sr, hwe], fin 1 (J t 1 + pcn (wst n u a)) (k_up J t 1 (J t 1 + pcn (wst n u a)) t 0 + 1) (Or.inl rfl) (by simp [sg, hwe, d1]) hoth (by simp [k_up, d0])⟩
      · have w1 : w = 0 := hw0.mpr hwe
        rw [if_pos w1, Ho_map_i]
        have h23 : k_up (k_up J t 2 (J t 2 + pcn (wst n u a))) t 0 (k_up J t 2 (J t 2 + pcn (wst n u a)) t 0 + 1) 63 23 = 0 := by
          rw [k_up_oth (fun z => h63t z.1), k_up_oth (fun z => h63t z.1), e23, if_neg hwe]
        rw [h23, show f_X5_bits 0 = some 0 from rfl]
        simp only [Option.bind_some, Ho_some_i]
        have hoth : ∀ j, j = 1 ∨ j = 2 → j ≠ 2 → a j = sg n u up a j := by
          intro j hj hne
          have h2 : j = 1 := by omega
          subst h2
          simp [sg, hwe]
        exact ⟨by simp [sr, hwe], fin 2 (J t 2 + pcn (wst n u a)) (k_up J t 2 (J t 2 + pcn (wst n u a)) t 0 + 1) (Or.inr rfl) (by simp [sg, hwe, d2]) hoth (by simp [k_up, d0])⟩
    · have oth : ∀ j, k_up (k_up I 63 23 0) 63 24 0 t j = a j ∨ 40 ≤ j := by
        intro j
        by_cases hj : j < 40
        · left
          rw [k_up_oth (fun z => ht63 z.1), k_up_oth (fun z => ht63 z.1)]
          exact hc0 j hj
        · right
          omega
      refine ⟨fun j hj => (oth j).resolve_right (by omega), fun i hi => ?_⟩
      rw [if_neg (by omega)]
      dsimp only
      rw [(oth (12 + i)).resolve_right (by omega), (oth (19 + i)).resolve_right (by omega), (oth (26 + i)).resolve_right (by omega), (oth (33 + i)).resolve_right (by omega)]
    · show k_up (k_up I 63 23 0) 63 24 0 63 23 = if _ then (0 : Int32) else 0
      rw [k_up_oth (by omega), k_up_same]
      simp
    · show k_up (k_up I 63 23 0) 63 24 0 63 24 = (0 : Int32)
      rw [k_up_same]
    · intro b j hb hj
      show k_up (k_up I 63 23 0) 63 24 0 b j = _
      rw [u_24 hj, u_23 hj]
  by_cases hup : up = 0
  · rw [if_pos hup]
    exact key 0 (by simp [wel, hup])
  · rw [if_neg hup, show f_X5_bits (wst n u a) = some (pcn (wst n u a)) from hbits]
    simp only [Option.bind_some]
    have d4 : I t 4 = a 4 := hc0 4 (by omega)
    simp only [d4]
    by_cases hr : a 4 < pcn (wst n u a)
    · rw [if_pos hr]
      refine key 0 ?_
      have : ¬ pcn (wst n u a) ≤ a 4 := by rw [i_le]; rw [i_lt] at hr; omega
      simp [wel, this]
    · rw [if_neg hr]
      refine key 1 ?_
      have : pcn (wst n u a) ≤ a 4 := by rw [i_le]; rw [i_lt] at hr; omega
      simp [wel, this, hup]
