/-! one step of a house -/
theorem M_hasFault {t i : Nat} (ht : k_t t) (hi : i < 7) (I : StI) (hh : I t (12 + i) = 0 ∨ I t (12 + i) = 2) : Ho (f_X5_hasFault t (nI i) I) (fun I' => ∃ tr, PostM t i I (cFault (I 72 i) (I t (5 + i)) (I t (12 + i)) (I t (19 + i)) (I t (26 + i)) (I t (33 + i)) (I t 0)) (I 63 23) tr I' ∧ tr = (if (cFault (I 72 i) (I t (5 + i)) (I t (12 + i)) (I t (19 + i)) (I t (26 + i)) (I t (33 + i)) (I t 0)).1 = 1 then I 63 24 ||| bit i else I 63 24)) := by
  have ht63 : ¬ t = 63 := by rcases ht with rfl | rfl <;> decide
  have h63t : ¬ 63 = t := fun z => ht63 z.symm
  have ht72 : ¬ 72 = t := by rcases ht with rfl | rfl <;> decide
  unfold f_X5_hasFault
  simp only [k_let, k_t2 ht, g_12 hi, m_12 hi, g_19 hi, m_19 hi, g_5 hi, m_5 hi]
  have trip1 : ∀ (kind limit how left span step : Int32), how ≠ 1 → ((cTrip kind limit how left span step).1 = 1 ↔ ¬ (kind = 5 ∧ step - step / 4 * 4 = 0)) := by
    intro kind limit how left span step hw
    unfold cTrip
    by_cases h : kind = 5 ∧ step - step / 4 * 4 = 0
    · simp [h, hw]
    · simp [h]
  by_cases h2 : I t (12 + i) = 2
  · simp only [h2, if_true, Ho_bind_i, Ho_some_i, cFault, show ¬ ((2 : Int32) = 0) by decide, if_false]
    have := M_tripsOn ht hi I
    rw [h2] at this
    refine this.mono (fun I' hp => ⟨_, hp, ?_⟩)
    have h3 := trip1 (I 72 i) (I t (5 + i)) 2 (I t (26 + i)) (I t (33 + i)) (I t 0) (by decide)
    by_cases h : I 72 i = 5 ∧ I t 0 - I t 0 / 4 * 4 = 0
    · rw [if_pos h, if_neg (fun z => h3.mp z h)]
    · rw [if_neg h, if_pos (h3.mpr h)]
  · have h0 : I t (12 + i) = 0 := hh.resolve_right h2
    simp only [h0, show ¬ ((0 : Int32) = 2) by decide, if_false, cFault, if_true]
    have e1 : ∀ b k, ¬ (b = t ∧ k = 19 + i) → k_up I t (19 + i) (I t (19 + i) + 1) b k = I b k := fun b k hk => k_up_oth hk
    rw [k_up_same, e1 t (5 + i) (by omega)]
    by_cases hl : I t (5 + i) ≤ I t (19 + i) + 1
    · rw [if_neg (by rw [i_lt]; rw [i_le] at hl; omega), if_pos hl]
      simp only [Ho_bind_i, Ho_some_i]
      have := M_tripsOn ht hi (k_up I t (19 + i) (I t (19 + i) + 1))
      rw [e1 72 i (by omega), e1 t (5 + i) (by omega), e1 t (12 + i) (by omega), e1 t (26 + i) (by omega), e1 t (33 + i) (by omega), e1 t 0 (by omega), e1 63 23 (by omega), e1 63 24 (by omega), h0] at this
      refine this.mono (fun I' hp => ⟨_, ⟨hp.1, hp.2.1, hp.2.2.1, hp.2.2.2.1, hp.2.2.2.2.1, hp.2.2.2.2.2.1, fun b k hb hc => (hp.2.2.2.2.2.2 b k hb hc).trans (u_19 hb)⟩, ?_⟩)
      have h3 := trip1 (I 72 i) (I t (5 + i)) 0 (I t (26 + i)) (I t (33 + i)) (I t 0) (by decide)
      by_cases h : I 72 i = 5 ∧ I t 0 - I t 0 / 4 * 4 = 0
      · rw [if_pos h, if_neg (fun z => h3.mp z h)]
      · rw [if_neg h, if_pos (h3.mpr h)]
    · rw [if_pos (by rw [i_lt]; rw [i_le] at hl; omega), if_neg hl, Ho_some_i]
      refine ⟨_, ⟨by simp [k_up, h0], by simp [k_up], by simp [k_up], by simp [k_up], by simp [k_up, h63t], by simp [k_up, h63t]; rfl, fun b k hb hc => u_19 hb⟩, by simp⟩
def HC (I : StI) (h : Nat) (a : AH) (n : Nat) : Prop := I h 1 = nI n ∧ I h 2 = a 4 ∧ I h 3 = a 3 ∧ I h 4 = a 0 ∧ I h 5 = a 1 ∧ I h 6 = a 2 ∧ ∀ i, i < n → I (k_cq h i) 0 = a (40 + i) ∧ I (k_cq h i) 1 = a (5 + i) ∧ I (k_cq h i) 2 = a (47 + i) ∧ I (k_cq h i) 3 = a (12 + i) ∧ I (k_cq h i) 4 = a (19 + i) ∧ I (k_cq h i) 5 = a (26 + i) ∧ I (k_cq h i) 6 = a (33 + i)
def HM (I : StI) (t off : Nat) (a : AH) : Prop := ∀ j, j < 40 → I t (off + j) = a j
def KM (I : StI) (t : Nat) (a : AH) (n : Nat) : Prop := ∀ i, i < n → I t i = a (40 + i)
def RM (I : StI) (a : AH) (n : Nat) : Prop := ∀ i, i < n → I 69 i = a (47 + i)
/-- a house that can be: n callers, at a step of at most m -/
def AV (n m : Nat) (a : AH) : Prop := n ≤ 7 ∧ (0 ≤ (a 0).toInt ∧ (a 0).toInt ≤ m) ∧ ∀ i, i < n → CV (a (5 + i)) (a (47 + i)) (a (12 + i)) (a (19 + i)) (a (26 + i)) (a (33 + i))
def cls (a : AH) (u : Int32) (i : Nat) : Bool := decide (a (12 + i) ≠ 1) && (decide (a (40 + i) ≠ 4) || decide (a 0 - a 0 / 2 * 2 = 0)) && !hasb u i
def wst (n : Nat) (u : Int32) (a : AH) : Int32 := setOf (cls a u) n
def wel (n : Nat) (u up : Int32) (a : AH) : Bool := decide (up ≠ 0) && decide (pcn (wst n u a) ≤ a 4)
def cNw (n : Nat) (u up : Int32) (a : AH) (i : Nat) : C4 :=
  if cls a u i = true then (if wel n u up a = true then cAns (a (40 + i)) (a (12 + i)) (a (19 + i)) (a (26 + i)) (a (33 + i)) else cFault (a (40 + i)) (a (5 + i)) (a (12 + i)) (a (19 + i)) (a (26 + i)) (a (33 + i)) (a 0))
  else if a (12 + i) = 1 ∧ hasb u i = false then cRest (a (40 + i)) (a (5 + i)) (a (12 + i)) (a (19 + i)) (a (26 + i)) (a (33 + i)) else (a (12 + i), a (19 + i), a (26 + i), a (33 + i))
def sg (n : Nat) (u up : Int32) (a : AH) : AH := fun j =>
  if j = 0 then a 0 + 1 else if j = 1 then (if wel n u up a = true then a 1 + pcn (wst n u a) else a 1) else if j = 2 then (if wel n u up a = true then a 2 else a 2 + pcn (wst n u a))
  else if 12 ≤ j ∧ j < 12 + n then (cNw n u up a (j - 12)).1 else if 19 ≤ j ∧ j < 19 + n then (cNw n u up a (j - 19)).2.1 else if 26 ≤ j ∧ j < 26 + n then (cNw n u up a (j - 26)).2.2.1 else if 33 ≤ j ∧ j < 33 + n then (cNw n u up a (j - 33)).2.2.2 else a j
def sr (n : Nat) (u up : Int32) (a : AH) : Int32 := if wel n u up a = true then pcn (wst n u a) else 0
theorem sg_12 {n i : Nat} {u up : Int32} {a : AH} (hn : n ≤ 7) (hi : i < n) : sg n u up a (12 + i) = (cNw n u up a i).1 := by
  unfold sg
  rw [if_neg (by omega), if_neg (by omega), if_neg (by omega), if_pos (by omega), show 12 + i - 12 = i by omega]
theorem sg_19 {n i : Nat} {u up : Int32} {a : AH} (hn : n ≤ 7) (hi : i < n) : sg n u up a (19 + i) = (cNw n u up a i).2.1 := by
  unfold sg
  rw [if_neg (by omega), if_neg (by omega), if_neg (by omega), if_neg (by omega), if_pos (by omega), show 19 + i - 19 = i by omega]
theorem sg_26 {n i : Nat} {u up : Int32} {a : AH} (hn : n ≤ 7) (hi : i < n) : sg n u up a (26 + i) = (cNw n u up a i).2.2.1 := by
  unfold sg
  rw [if_neg (by omega), if_neg (by omega), if_neg (by omega), if_neg (by omega), if_neg (by omega), if_pos (by omega), show 26 + i - 26 = i by omega]
theorem sg_33 {n i : Nat} {u up : Int32} {a : AH} (hn : n ≤ 7) (hi : i < n) : sg n u up a (33 + i) = (cNw n u up a i).2.2.2 := by
  unfold sg
  rw [if_neg (by omega), if_neg (by omega), if_neg (by omega), if_neg (by omega), if_neg (by omega), if_neg (by omega), if_pos (by omega), show 33 + i - 33 = i by omega]
theorem sg_o {n j : Nat} {u up : Int32} {a : AH} (h0 : 3 ≤ j) (h : j < 12 ∨ 40 ≤ j) (hn : n ≤ 7) : sg n u up a j = a j := by
  unfold sg
  rw [if_neg (by omega), if_neg (by omega), if_neg (by omega), if_neg (by omega), if_neg (by omega), if_neg (by omega), if_neg (by omega)]
theorem hushed_eq {h i : Nat} {I : StI} : f_X3_isHushed h (nI i) I = some (if hasb (I h 7) i = true then 1 else 0) := by
  unfold f_X3_isHushed hasb
  by_cases h1 : ((I h 7) >>> (nI i &&& 31)) &&& (1 : Int32) = 1
  · simp [h1]
  · simp [h1]
theorem M_has {s : Int32} {i : Nat} : f_X5_has s (nI i) = some (if hasb s i = true then 1 else 0) := by
  unfold f_X5_has hasb
  by_cases h1 : (s >>> (nI i &&& 31)) &&& (1 : Int32) = 1
  · simp [h1]
  · simp [h1]
theorem callsIn_eq {q : Nat} {v : Int32} {I : StI} : f_X0_callsIn q v I = some (if (decide (I q 3 ≠ 1) && (decide (I q 0 ≠ 4) || decide (v - v / 2 * 2 = 0))) = true then 1 else 0) := by
  unfold f_X0_callsIn
  by_cases h1 : I q 3 = 1
  · simp [h1]
  · by_cases h2 : I q 0 = 4
    · by_cases h3 : v - v / 2 * 2 = 0
      · simp [h1, h2, h3]
      · simp [h1, h2, h3]
    · simp [h1, h2]
theorem C_calling {h n : Nat} {I : StI} {a : AH} (hn : n ≤ 7) (hc : HC I h a n) : f_X3_calling h I = some (wst n (I h 7) a) := by
  unfold f_X3_calling f_X3_calling_L4
  obtain ⟨c1, c2, c3, c4, c5, c6, cc⟩ := hc
  apply Ho_at
  refine Ho_loop0 (fun i s => s = (setOf (cls a (I h 7)) i, nI i)) n (by omega) ?_ ?_ _ rfl
  · intro i s hi hs
    subst hs
    unfold f_X3_calling_L4_b
    obtain ⟨d0, d1, d2, d3, d4, d5, d6⟩ := cc i hi
    rw [if_neg (by rw [c1, nI_leI (by omega) (by omega)]; omega), hushed_eq]
    simp only [Option.bind_some, g_i (show i < 7 by omega), m_i (show i < 7 by omega), callsIn_eq, c4, d0, d3, k_let]
    have e : setOf (cls a (I h 7)) (i + 1) = if cls a (I h 7) i then setOf (cls a (I h 7)) i ||| ((1 : Int32) <<< (nI i &&& 31)) else setOf (cls a (I h 7)) i := rfl
    rw [e, nI_1]
    unfold cls
    cases hasb (I h 7) i
    · cases hb : (decide (a (12 + i) ≠ 1) && (decide (a (40 + i) ≠ 4) || decide (a 0 - a 0 / 2 * 2 = 0)))
      · simp [Ho_some_i]
      · simp [Ho_some_i]
    · simp [Ho_some_i]
  · intro s hs
    subst hs
    unfold f_X3_calling_L4_b
    rw [if_pos (by rw [c1, nI_leI (by omega) (by omega)]; omega), Ho_some_i]
    rfl
theorem M_whoCalls {t n : Nat} {u : Int32} {I : StI} {a : AH} (ht : k_t t) (hn : n ≤ 7) (hc : HM I t 0 a) (hk : KM I 72 a n) (h4 : I 63 4 = nI n) : f_X5_whoCalls t u I = some (wst n u a) := by
  unfold f_X5_whoCalls f_X5_whoCalls_L5
  apply Ho_at
  refine Ho_loop0 (fun i s => s = (setOf (cls a u) i, nI i)) n (by omega) ?_ ?_ _ rfl
  · intro i s hi hs
    subst hs
    unfold f_X5_whoCalls_L5_b f_X5_whoCalls_j44 f_X5_whoCalls_j48 f_X5_whoCalls_j49 f_X5_whoCalls_j73 f_X5_whoCalls_j74
    have d12 := hc (12 + i) (by omega)
    have d0 := hc 0 (by omega)
    have dk := hk i hi
    rw [Nat.zero_add] at d12 d0
    rw [if_neg (by rw [h4, nI_leI (by omega) (by omega)]; omega)]
    simp only [k_t2 ht, g_i (show i < 7 by omega), m_i (show i < 7 by omega), g_12 (show i < 7 by omega), m_12 (show i < 7 by omega), g_0, n_0, M_has, Option.bind_some, d12, d0, dk, k_let]
    have e : setOf (cls a u) (i + 1) = if cls a u i then setOf (cls a u) i ||| ((1 : Int32) <<< (nI i &&& 31)) else setOf (cls a u) i := rfl
    rw [e, nI_1]
    unfold cls
    by_cases h1 : a (12 + i) = 1
    · simp [h1, Ho_some_i]
    · by_cases h2 : a (40 + i) = 4
      · by_cases h3 : a 0 - a 0 / 2 * 2 = 0
        · cases hasb u i
          · simp [h1, h2, h3, Ho_some_i]
          · simp [h1, h2, h3, Ho_some_i]
        · simp [h1, h2, h3, Ho_some_i]
      · cases hasb u i
        · simp [h1, h2, Ho_some_i]
        · simp [h1, h2, Ho_some_i]
  · intro s hs
    subst hs
    unfold f_X5_whoCalls_L5_b
    rw [if_pos (by rw [h4, nI_leI (by omega) (by omega)]; omega), Ho_some_i]
    rfl
