/-! the reference's callers -/
theorem lit_add (c : Nat) {i : Nat} : (OfNat.ofNat c : Int32) + nI i = nI (c + i) := by
  show nI c + nI i = _
  rw [nI_add]
theorem m_5 {i : Nat} (h : i < 7) : ((5 : Int32) + nI i).toNatClampNeg = 5 + i := by rw [show (5 : Int32) = nI 5 from rfl, nI_add, cl_n (by omega)]
theorem m_12 {i : Nat} (h : i < 7) : ((12 : Int32) + nI i).toNatClampNeg = 12 + i := by rw [show (12 : Int32) = nI 12 from rfl, nI_add, cl_n (by omega)]
theorem m_19 {i : Nat} (h : i < 7) : ((19 : Int32) + nI i).toNatClampNeg = 19 + i := by rw [show (19 : Int32) = nI 19 from rfl, nI_add, cl_n (by omega)]
theorem m_26 {i : Nat} (h : i < 7) : ((26 : Int32) + nI i).toNatClampNeg = 26 + i := by rw [show (26 : Int32) = nI 26 from rfl, nI_add, cl_n (by omega)]
theorem m_33 {i : Nat} (h : i < 7) : ((33 : Int32) + nI i).toNatClampNeg = 33 + i := by rw [show (33 : Int32) = nI 33 from rfl, nI_add, cl_n (by omega)]
theorem m_i {i : Nat} (h : i < 7) : (nI i).toNatClampNeg = i := cl_n (by omega)
theorem g_5 {T : Type} {i : Nat} (h : i < 7) {o : Option T} : k_gd ((5 : Int32) + nI i) 40 o = o := by rw [show (5 : Int32) = nI 5 from rfl, nI_add, gd_n (by omega) (by decide)]
theorem g_12 {T : Type} {i : Nat} (h : i < 7) {o : Option T} : k_gd ((12 : Int32) + nI i) 40 o = o := by rw [show (12 : Int32) = nI 12 from rfl, nI_add, gd_n (by omega) (by decide)]
theorem g_19 {T : Type} {i : Nat} (h : i < 7) {o : Option T} : k_gd ((19 : Int32) + nI i) 40 o = o := by rw [show (19 : Int32) = nI 19 from rfl, nI_add, gd_n (by omega) (by decide)]
theorem g_26 {T : Type} {i : Nat} (h : i < 7) {o : Option T} : k_gd ((26 : Int32) + nI i) 40 o = o := by rw [show (26 : Int32) = nI 26 from rfl, nI_add, gd_n (by omega) (by decide)]
theorem g_33 {T : Type} {i : Nat} (h : i < 7) {o : Option T} : k_gd ((33 : Int32) + nI i) 40 o = o := by rw [show (33 : Int32) = nI 33 from rfl, nI_add, gd_n (by omega) (by decide)]
theorem g_i {T : Type} {i : Nat} (h : i < 7) {o : Option T} : k_gd (nI i) 7 o = o := gd_n h (by decide)
theorem g_0 {T : Type} {o : Option T} : k_gd (0 : Int32) 40 o = o := rfl
theorem g_1 {T : Type} {o : Option T} : k_gd (1 : Int32) 40 o = o := rfl
theorem g_2 {T : Type} {o : Option T} : k_gd (2 : Int32) 40 o = o := rfl
theorem g_3 {T : Type} {o : Option T} : k_gd (3 : Int32) 40 o = o := rfl
theorem g_4 {T : Type} {o : Option T} : k_gd (4 : Int32) 40 o = o := rfl
theorem n_0 : (0 : Int32).toNatClampNeg = 0 := rfl
theorem n_1 : (1 : Int32).toNatClampNeg = 1 := rfl
theorem n_2 : (2 : Int32).toNatClampNeg = 2 := rfl
theorem n_3 : (3 : Int32).toNatClampNeg = 3 := rfl
theorem n_4 : (4 : Int32).toNatClampNeg = 4 := rfl
def k_t (t : Nat) : Prop := t = 70 ∨ t = 71
theorem k_t2 {t : Nat} (h : k_t t) : (k_sh t).2 = 40 := by rcases h with rfl | rfl <;> rfl
def sM (t i b k : Nat) : Prop := b = t ∧ (k = 12 + i ∨ k = 19 + i ∨ k = 26 + i ∨ k = 33 + i)
def PostM (t i : Nat) (I : StI) (c : C4) (an tr : Int32) (I' : StI) : Prop := I' t (12 + i) = c.1 ∧ I' t (19 + i) = c.2.1 ∧ I' t (26 + i) = c.2.2.1 ∧ I' t (33 + i) = c.2.2.2 ∧ I' 63 23 = an ∧ I' 63 24 = tr ∧ ∀ b k, ¬ sM t i b k → ¬ (b = 63 ∧ (k = 23 ∨ k = 24)) → I' b k = I b k
theorem u_12 {I : StI} {t i b k : Nat} {v : Int32} (h : ¬ sM t i b k) : k_up I t (12 + i) v b k = I b k := k_up_oth (fun z => h ⟨z.1, by omega⟩)
theorem u_19 {I : StI} {t i b k : Nat} {v : Int32} (h : ¬ sM t i b k) : k_up I t (19 + i) v b k = I b k := k_up_oth (fun z => h ⟨z.1, by omega⟩)
theorem u_26 {I : StI} {t i b k : Nat} {v : Int32} (h : ¬ sM t i b k) : k_up I t (26 + i) v b k = I b k := k_up_oth (fun z => h ⟨z.1, by omega⟩)
theorem u_33 {I : StI} {t i b k : Nat} {v : Int32} (h : ¬ sM t i b k) : k_up I t (33 + i) v b k = I b k := k_up_oth (fun z => h ⟨z.1, by omega⟩)
theorem u_23 {I : StI} {b k : Nat} {v : Int32} (h : ¬ (b = 63 ∧ (k = 23 ∨ k = 24))) : k_up I 63 23 v b k = I b k := k_up_oth (by omega)
theorem u_24 {I : StI} {b k : Nat} {v : Int32} (h : ¬ (b = 63 ∧ (k = 23 ∨ k = 24))) : k_up I 63 24 v b k = I b k := k_up_oth (by omega)
theorem sub0 (x : Int32) : x - 0 = x := by simp
def bit (i : Nat) : Int32 := (1 : Int32) <<< (nI i &&& 31)
theorem M_isAnswered {t i : Nat} (ht : k_t t) (hi : i < 7) (I : StI) : Ho (f_X5_isAnswered t (nI i) I) (PostM t i I (cAns (I 72 i) (I t (12 + i)) (I t (19 + i)) (I t (26 + i)) (I t (33 + i))) (I 63 23 ||| bit i) (I 63 24)) := by
  have ht63 : ¬ t = 63 := by rcases ht with rfl | rfl <;> decide
  have h63t : ¬ 63 = t := fun z => ht63 z.symm
  unfold f_X5_isAnswered f_X5_isAnswered_j29 f_X5_isAnswered_j64
  simp only [k_let, k_t2 ht, g_i hi, m_i hi, g_12 hi, m_12 hi, g_19 hi, m_19 hi, sub0]
  have e : ∀ k, k_up I 63 23 (I 63 23 ||| (1 : Int32) <<< (nI i &&& 31)) t k = I t k := fun k => k_up_oth (fun z => ht63 z.1)
  simp only [e, cAns]
  by_cases hk : I 72 i = 1 ∨ I 72 i = 4
  · by_cases hh : I t (12 + i) = 0
    · by_cases hf : I t (19 + i) ≤ 0
      · have : Ho (some (k_up (k_up I 63 23 (I 63 23 ||| (1 : Int32) <<< (nI i &&& 31))) t (19 + i) (I t (19 + i)))) (PostM t i I (0, I t (19 + i), I t (26 + i), I t (33 + i)) (I 63 23 ||| bit i) (I 63 24)) := by
          rw [Ho_some_i]
          refine ⟨by simp [k_up, ht63, hh], by simp [k_up], by simp [k_up, ht63], by simp [k_up, ht63], by simp [k_up, h63t, bit], by simp [k_up, h63t], fun b k hb h2 => by simp only [u_19 hb, u_23 h2]⟩
        rcases hk with hk | hk
        · simpa [hk, hh, hf] using this
        · simpa [hk, hh, hf] using this
      · have : Ho (some (k_up (k_up I 63 23 (I 63 23 ||| (1 : Int32) <<< (nI i &&& 31))) t (19 + i) (I t (19 + i) - 1))) (PostM t i I (0, I t (19 + i) - 1, I t (26 + i), I t (33 + i)) (I 63 23 ||| bit i) (I 63 24)) := by
          rw [Ho_some_i]
          refine ⟨by simp [k_up, ht63, hh], by simp [k_up], by simp [k_up, ht63], by simp [k_up, ht63], by simp [k_up, h63t, bit], by simp [k_up, h63t], fun b k hb h2 => by simp only [u_19 hb, u_23 h2]⟩
        rcases hk with hk | hk
        · simpa [hk, hh, hf] using this
        · simpa [hk, hh, hf] using this
    · have : Ho (some (k_up (k_up (k_up I 63 23 (I 63 23 ||| (1 : Int32) <<< (nI i &&& 31))) t (12 + i) 0) t (19 + i) 0)) (PostM t i I (0, 0, I t (26 + i), I t (33 + i)) (I 63 23 ||| bit i) (I 63 24)) := by
        rw [Ho_some_i]
        refine ⟨by simp [k_up], by simp [k_up], by simp [k_up, ht63], by simp [k_up, ht63], by simp [k_up, h63t, bit], by simp [k_up, h63t], fun b k hb h2 => by simp only [u_12 hb, u_19 hb, u_23 h2]⟩
      rcases hk with hk | hk
      · simpa [hk, hh] using this
      · simpa [hk, hh] using this
  · have : Ho (some (k_up (k_up (k_up I 63 23 (I 63 23 ||| (1 : Int32) <<< (nI i &&& 31))) t (12 + i) 0) t (19 + i) 0)) (PostM t i I (0, 0, I t (26 + i), I t (33 + i)) (I 63 23 ||| bit i) (I 63 24)) := by
      rw [Ho_some_i]
      refine ⟨by simp [k_up], by simp [k_up], by simp [k_up, ht63], by simp [k_up, ht63], by simp [k_up, h63t, bit], by simp [k_up, h63t], fun b k hb h2 => by simp only [u_12 hb, u_19 hb, u_23 h2]⟩
    have h1 : ¬ I 72 i = 1 := fun z => hk (Or.inl z)
    have h4 : ¬ I 72 i = 4 := fun z => hk (Or.inr z)
    simpa [h1, h4] using this
theorem M_isAtRest {t i : Nat} (ht : k_t t) (hi : i < 7) (I : StI) : Ho (f_X5_isAtRest t (nI i) I) (fun I' => PostM t i I (if I t (26 + i) - 1 = 0 then (if I 72 i = 3 then (0, I t (5 + i) - 1, 0, I t (33 + i)) else (2, 0, 0, I t (33 + i))) else (I t (12 + i), I t (19 + i), I t (26 + i) - 1, I t (33 + i))) (I 63 23) (I 63 24) I') := by
  have ht63 : ¬ t = 63 := by rcases ht with rfl | rfl <;> decide
  have h63t : ¬ 63 = t := fun z => ht63 z.symm
  have ht72 : ¬ 72 = t := by rcases ht with rfl | rfl <;> decide
  unfold f_X5_isAtRest f_X5_isAtRest_j34 f_X5_isAtRest_j49
  simp only [k_let, k_t2 ht, g_i hi, m_i hi, g_12 hi, m_12 hi, g_19 hi, m_19 hi, g_26 hi, m_26 hi, g_5 hi, m_5 hi, k_up_same]
  have e72 : k_up I t (26 + i) (I t (26 + i) - 1) 72 i = I 72 i := k_up_oth (fun z => ht72 z.1)
  simp only [e72]
  by_cases hl : I t (26 + i) - 1 = 0
  · by_cases hk : I 72 i = 3
    · simp only [hl, hk, if_true, Ho_some_i]
      simp only [show ¬ ((1 : Int32) = 0) by decide, if_false, Ho_some_i]
      refine ⟨by simp [k_up], by simp [k_up], by simp [k_up], by simp [k_up], by simp [k_up, h63t], by simp [k_up, h63t], fun b k hb h2 => by simp only [u_12 hb, u_19 hb, u_26 hb]⟩
    · simp only [hl, hk, if_true, if_false, Ho_some_i]
      refine ⟨by simp [k_up], by simp [k_up], by simp [k_up], by simp [k_up], by simp [k_up, h63t], by simp [k_up, h63t], fun b k hb h2 => by simp only [u_12 hb, u_19 hb, u_26 hb]⟩
  · simp only [hl, if_false, Ho_some_i]
    refine ⟨by simp [k_up], by simp [k_up], by simp [k_up], by simp [k_up], by simp [k_up, h63t], by simp [k_up, h63t], fun b k hb h2 => by simp only [u_26 hb]⟩
theorem M_tripsOn {t i : Nat} (ht : k_t t) (hi : i < 7) (I : StI) : Ho (f_X5_tripsOn t (nI i) I) (fun I' => PostM t i I (cTrip (I 72 i) (I t (5 + i)) (I t (12 + i)) (I t (26 + i)) (I t (33 + i)) (I t 0)) (I 63 23) (if I 72 i = 5 ∧ I t 0 - I t 0 / 4 * 4 = 0 then I 63 24 else I 63 24 ||| bit i) I') := by
  have ht63 : ¬ t = 63 := by rcases ht with rfl | rfl <;> decide
  have h63t : ¬ 63 = t := fun z => ht63 z.symm
  unfold f_X5_tripsOn f_X5_tripsOn_j34 f_X5_tripsOn_j82
  simp only [k_let, k_t2 ht, g_i hi, m_i hi, g_12 hi, m_12 hi, g_19 hi, m_19 hi, g_26 hi, m_26 hi, g_5 hi, m_5 hi, g_33 hi, m_33 hi, g_0, n_0]
  have main : ∀ I1 : StI, I1 = k_up (k_up (k_up (k_up I t (12 + i) 1) t (26 + i) (k_up I t (12 + i) 1 t (33 + i))) t (19 + i) 0) 63 24 ((k_up (k_up (k_up I t (12 + i) 1) t (26 + i) (k_up I t (12 + i) 1 t (33 + i))) t (19 + i) 0) 63 24 ||| (1 : Int32) <<< (nI i &&& 31)) → I1 t (12 + i) = 1 ∧ I1 t (19 + i) = 0 ∧ I1 t (26 + i) = I t (33 + i) ∧ I1 t (33 + i) = I t (33 + i) ∧ I1 63 23 = I 63 23 ∧ I1 63 24 = I 63 24 ||| bit i ∧ ∀ b k, ¬ sM t i b k → ¬ (b = 63 ∧ (k = 23 ∨ k = 24)) → I1 b k = I b k := by
    intro I1 h1
    subst h1
    refine ⟨by simp [k_up, ht63], by simp [k_up, ht63], by simp [k_up, ht63], by simp [k_up, ht63], by simp [k_up, h63t], by simp [k_up, h63t, bit], fun b k hb h2 => by simp only [u_24 h2, u_12 hb, u_19 hb, u_26 hb]⟩
  generalize hI1 : k_up (k_up (k_up (k_up I t (12 + i) 1) t (26 + i) (k_up I t (12 + i) 1 t (33 + i))) t (19 + i) 0) 63 24 ((k_up (k_up (k_up I t (12 + i) 1) t (26 + i) (k_up I t (12 + i) 1 t (33 + i))) t (19 + i) 0) 63 24 ||| (1 : Int32) <<< (nI i &&& 31)) = I1 at main ⊢
  obtain ⟨q1, q2, q3, q4, q5, q6, q7⟩ := main I1 rfl
  simp only [q4]
  have dbl : ∀ v : Int32, PostM t i I (1, 0, I t (33 + i), v) (I 63 23) (I 63 24 ||| bit i) (k_up I1 t (33 + i) v) := fun v =>
    ⟨by rw [k_up_oth (by omega)]; exact q1, by rw [k_up_oth (by omega)]; exact q2, by rw [k_up_oth (by omega)]; exact q3, k_up_same, by rw [k_up_oth (by omega)]; exact q5, by rw [k_up_oth (by omega)]; exact q6, fun b k hb h2 => by rw [u_33 hb]; exact q7 b k hb h2⟩
  have pl : PostM t i I (1, 0, I t (33 + i), I t (33 + i)) (I 63 23) (I 63 24 ||| bit i) I1 := ⟨q1, q2, q3, q4, q5, q6, q7⟩
  by_cases h5 : I 72 i = 5
  · by_cases h4 : I t 0 - I t 0 / 4 * 4 = 0
    · simp only [h5, h4, if_true, cTrip, and_self, Ho_some_i]
      refine ⟨by simp [k_up], by simp [k_up], by simp [k_up], by simp [k_up], by simp [k_up, h63t], by simp [k_up, h63t], fun b k hb h2 => by simp only [u_19 hb]⟩
    · by_cases h20 : I t (33 + i) ≤ 20
      · have := dbl (2 * I t (33 + i))
        simpa [h5, h4, h20, cTrip, Ho_some_i] using this
      · have := dbl 40
        simpa [h5, h4, h20, cTrip, Ho_some_i] using this
  · by_cases h2 : I 72 i = 2
    · by_cases h20 : I t (33 + i) ≤ 20
      · have := dbl (2 * I t (33 + i))
        simpa [h2, h20, cTrip, Ho_some_i] using this
      · have := dbl 40
        simpa [h2, h20, cTrip, Ho_some_i] using this
    · simpa [h5, h2, cTrip, Ho_some_i] using pl
