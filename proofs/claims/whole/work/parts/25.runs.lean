/-! houses that can be stay so -/
theorem lit_i (c : Nat) (h : c < 2147483648) : (OfNat.ofNat c : Int32).toInt = c := i_n h
theorem CV_ans {kind limit rest how faults left span : Int32} (h : CV limit rest how faults left span) (h1 : how ≠ 1) : CV limit rest (cAns kind how faults left span).1 (cAns kind how faults left span).2.1 (cAns kind how faults left span).2.2.1 (cAns kind how faults left span).2.2.2 := by
  obtain ⟨v1, v2, v3, v4, v5, v6, v7⟩ := h
  unfold cAns
  by_cases hc : how = 0 ∧ (kind = 1 ∨ kind = 4)
  · rw [if_pos hc]
    refine ⟨v1, v2, v3, ?_, v5, v6, fun z => absurd z h1⟩
    dsimp only
    by_cases hf : faults ≤ 0
    · rw [if_pos hf]; exact v4
    · rw [if_neg hf]
      rw [i_le] at hf
      simp only [Int32.reduceToInt] at hf
      have e1 : (faults - 1).toInt = faults.toInt - 1 := i_sub (by simp only [Int32.reduceToInt]; omega) (by simp only [Int32.reduceToInt]; omega)
      omega
  · rw [if_neg hc]
    exact ⟨v1, v2, Or.inl rfl, (by dsimp only; decide), v5, v6, fun z => absurd z (by dsimp only; decide)⟩
theorem CV_trip {kind limit rest how faults left span step : Int32} (h : CV limit rest how faults left span) (h1 : how ≠ 1) : CV limit rest (cTrip kind limit how left span step).1 (cTrip kind limit how left span step).2.1 (cTrip kind limit how left span step).2.2.1 (cTrip kind limit how left span step).2.2.2 := by
  obtain ⟨v1, v2, v3, v4, v5, v6, v7⟩ := h
  unfold cTrip
  by_cases hc : kind = 5 ∧ step - step / 4 * 4 = 0
  · rw [if_pos hc]
    have e1 : (limit - 1).toInt = limit.toInt - 1 := i_sub (by simp only [Int32.reduceToInt]; omega) (by simp only [Int32.reduceToInt]; omega)
    exact ⟨v1, v2, v3, by dsimp only; omega, v5, v6, fun z => absurd z h1⟩
  · rw [if_neg hc]
    refine ⟨v1, v2, Or.inr (Or.inl rfl), (by dsimp only; decide), by dsimp only; omega, ?_, fun _ => ⟨v6.1, rfl⟩⟩
    dsimp only
    by_cases hk : kind = 2 ∨ kind = 5
    · rw [if_pos hk]
      by_cases hs : span ≤ 20
      · rw [if_pos hs]
        rw [i_le] at hs
        simp only [Int32.reduceToInt] at hs
        have e1 : (2 * span).toInt = 2 * span.toInt := i_mul (by simp only [Int32.reduceToInt]; omega) (by simp only [Int32.reduceToInt]; omega)
        omega
      · rw [if_neg hs]
        exact ⟨by decide, by decide⟩
    · rw [if_neg hk]; exact v6
theorem CV_fault {kind limit rest how faults left span step : Int32} (h : CV limit rest how faults left span) (h1 : how ≠ 1) : CV limit rest (cFault kind limit how faults left span step).1 (cFault kind limit how faults left span step).2.1 (cFault kind limit how faults left span step).2.2.1 (cFault kind limit how faults left span step).2.2.2 := by
  have ht := CV_trip (kind := kind) (step := step) h h1
  obtain ⟨v1, v2, v3, v4, v5, v6, v7⟩ := h
  unfold cFault
  by_cases h0 : how = 0
  · rw [if_pos h0]
    by_cases hl : limit ≤ faults + 1
    · rw [if_pos hl]; exact ht
    · rw [if_neg hl]
      have e1 : (faults + 1).toInt = faults.toInt + 1 := i_add (by simp only [Int32.reduceToInt]; omega) (by simp only [Int32.reduceToInt]; omega)
      rw [i_le, e1] at hl
      exact ⟨v1, v2, v3, by dsimp only; omega, v5, v6, fun z => absurd z h1⟩
  · rw [if_neg h0]; exact ht
theorem CV_rest {kind limit rest how faults left span : Int32} (h : CV limit rest how faults left span) (h1 : how = 1) : CV limit rest (cRest kind limit how faults left span).1 (cRest kind limit how faults left span).2.1 (cRest kind limit how faults left span).2.2.1 (cRest kind limit how faults left span).2.2.2 := by
  obtain ⟨v1, v2, v3, v4, v5, v6, v7⟩ := h
  obtain ⟨w1, w2⟩ := v7 h1
  unfold cRest
  have e1 : (left - 1).toInt = left.toInt - 1 := i_sub (by simp only [Int32.reduceToInt]; omega) (by simp only [Int32.reduceToInt]; omega)
  by_cases hl : left - 1 = 0
  · rw [if_pos hl]
    by_cases hk : kind = 3
    · rw [if_pos hk]
      have e2 : (limit - 1).toInt = limit.toInt - 1 := i_sub (by simp only [Int32.reduceToInt]; omega) (by simp only [Int32.reduceToInt]; omega)
      exact ⟨v1, v2, Or.inl rfl, by dsimp only; omega, (by dsimp only; decide), v6, fun z => absurd z (by dsimp only; decide)⟩
    · rw [if_neg hk]
      exact ⟨v1, v2, Or.inr (Or.inr rfl), (by dsimp only; decide), (by dsimp only; decide), v6, fun z => absurd z (by dsimp only; decide)⟩
  · rw [if_neg hl]
    rw [i_eq, e1] at hl
    simp only [Int32.reduceToInt] at hl
    exact ⟨v1, v2, v3, v4, by dsimp only; omega, v6, fun _ => ⟨by dsimp only; omega, w2⟩⟩
theorem AV_sg {n m : Nat} {a : AH} {u up : Int32} (h : AV n m a) (hm : m < 1000) : AV n (m + 1) (sg n u up a) := by
  obtain ⟨hn, h0, hc⟩ := h
  refine ⟨hn, ?_, fun i hi => ?_⟩
  · have e : (sg n u up a 0) = a 0 + 1 := rfl
    have e1 : (a 0 + 1).toInt = (a 0).toInt + 1 := i_add (by simp only [Int32.reduceToInt]; omega) (by simp only [Int32.reduceToInt]; omega)
    rw [e, e1]
    omega
  · rw [sg_o (by omega) (by omega) hn, sg_o (by omega) (by omega) hn, sg_12 hn hi, sg_19 hn hi, sg_26 hn hi, sg_33 hn hi]
    have hv := hc i hi
    unfold cNw
    by_cases hcl : cls a u i = true
    · rw [if_pos hcl]
      have h1 := CV.called (n := n) hcl
      by_cases hw : wel n u up a = true
      · rw [if_pos hw]; exact CV_ans hv h1
      · rw [if_neg hw]; exact CV_fault hv h1
    · rw [if_neg hcl]
      by_cases ho : a (12 + i) = 1 ∧ hasb u i = false
      · rw [if_pos ho]; exact CV_rest hv ho.1
      · rw [if_neg ho]; exact hv
/-! whether it is up -/
def upv (a : AH) : Int32 := if hasb (a 3) ((a 0).toInt.toNat % 8) = true then 1 else 0
theorem fmod_eq0 : ∀ k : Fin 400, f_J9_floorMod_7cf53 (nI k.val) 8 = some (nI (k.val % 8)) := by decide +kernel
theorem rem8 {k : Nat} (h : k < 400) : nI k - nI k / 8 * 8 = nI (k % 8) := pk_rem (a := k) (d := 8) (by omega) (by decide) (by decide)
theorem C_isUpIn {h k : Nat} {I : StI} (hk : k < 400) : f_X3_isUpIn h (nI k) I = some (if hasb (I h 3) (k % 8) = true then 1 else 0) := by
  unfold f_X3_isUpIn
  rw [fmod_eq0 ⟨k, hk⟩]
  show (if _ then _ else _) = _
  unfold hasb
  by_cases h1 : ((I h 3) >>> (nI (k % 8) &&& 31)) &&& (1 : Int32) = 1
  · simp [h1]
  · simp [h1]
theorem bo_eq {T : Type} {c : Prop} [Decidable c] {o : Option T} : k_bo (if c then (1 : Int32) else 0) o = o := by
  unfold k_bo
  by_cases h : c
  · simp [h]
  · simp [h]
theorem AV.step0 {n m : Nat} {a : AH} (h : AV n m a) : a 0 = nI (a 0).toInt.toNat := i_of _ h.2.1.1
theorem C_isUp {h n m : Nat} {I : StI} {a : AH} (hm : m < 400) (hv : AV n m a) (hc : HC I h a n) : f_X3_isUp h I = some (upv a) := by
  unfold f_X3_isUp
  have e := hv.step0
  have hlt : (a 0).toInt.toNat < 400 := by have := hv.2.1; omega
  rw [hc.2.2.2.1, e, C_isUpIn hlt, hc.2.2.1]
  simp only [Option.bind_some, bo_eq]
  unfold upv
  rfl
theorem M_isUp {t n m : Nat} {I : StI} {a : AH} (ht : k_t t) (hm : m < 400) (hv : AV n m a) (hc : HM I t 0 a) : f_X5_isUp t I = some (upv a) := by
  unfold f_X5_isUp
  have e := hv.step0
  have hlt : (a 0).toInt.toNat < 400 := by have := hv.2.1; omega
  have d3 := hc 3 (by omega)
  have d0 := hc 0 (by omega)
  rw [Nat.zero_add] at d3 d0
  simp only [k_t2 ht, g_3, g_0, n_3, n_0, d3, d0]
  rw [e, rem8 hlt, M_has]
  simp only [Option.bind_some, bo_eq]
  unfold upv
  rfl
/-! copies -/
theorem M_copies {a b i j m : Nat} {I : StI} (hab : a ≠ b) (hi : i + m ≤ (k_sh a).2) (hj : j + m ≤ (k_sh b).2) (ha : (k_sh a).2 < 9000) (hb : (k_sh b).2 < 9000) : Ho (f_X5_copies a (nI i) b (nI j) (nI m) I) (fun I' => (∀ k, k < m → I' b (j + k) = I a (i + k)) ∧ ∀ c k, ¬ (c = b ∧ j ≤ k ∧ k < j + m) → I' c k = I c k) := by
  unfold f_X5_copies f_X5_copies_L3
  refine Ho_loop0 (fun q s => s.1 = nI q ∧ (∀ k, k < q → s.2 b (j + k) = I a (i + k)) ∧ ∀ c k, ¬ (c = b ∧ j ≤ k ∧ k < j + q) → s.2 c k = I c k) m (by omega) ?_ ?_ _ ⟨rfl, fun k hk => absurd hk (by omega), fun _ _ _ => rfl⟩
  · intro q s hq hs
    obtain ⟨v, J⟩ := s
    obtain ⟨e1, e2, e3⟩ := hs
    dsimp only at e1 e2 e3
    subst e1
    dsimp only
    unfold f_X5_copies_L3_b
    rw [if_neg (by rw [nI_leI (by omega) (by omega)]; omega), nI_add, nI_add, nI_1, gd_n (by omega) (by omega), gd_n (by omega) (by omega), cl_n (by omega), cl_n (by omega)]
    simp only [k_let, Ho_some_i, Sum.elim_inl]
    refine ⟨trivial, fun k hk => ?_, fun c k hc => ?_⟩
    · by_cases hkq : k = q
      · subst hkq
        rw [k_up_same, e3 a (i + k) (fun z => hab z.1)]
      · rw [k_up_oth (by omega)]
        exact e2 k (by omega)
    · rw [k_up_oth (by omega)]
      exact e3 c k (by omega)
  · intro s hs
    obtain ⟨v, J⟩ := s
    obtain ⟨e1, e2, e3⟩ := hs
    dsimp only at e1 e2 e3
    subst e1
    dsimp only
    unfold f_X5_copies_L3_b
    rw [if_pos (by rw [nI_leI (by omega) (by omega)]; omega), Ho_some_i]
    exact ⟨e2, e3⟩
theorem M_asKinds {I : StI} : Ho (f_X5_asKinds I) (fun I' => (∀ k, k < 7 → I' 72 k = I 68 k) ∧ ∀ c k, c ≠ 72 → I' c k = I c k) := by
  unfold f_X5_asKinds
  simp only [Ho_bind_i, Ho_some_i]
  refine (M_copies (a := 68) (b := 72) (i := 0) (j := 0) (m := 7) (by decide) (by decide) (by decide) (by decide) (by decide)).mono (fun I' hp => ⟨fun k hk => ?_, fun c k hc => hp.2 c k (fun z => hc z.1)⟩)
  have := hp.1 k hk
  rwa [Nat.zero_add] at this
theorem M_laysAside {I : StI} : Ho (f_X5_laysAside I) (fun I' => (∀ k, k < 40 → I' 71 k = I 70 k) ∧ ∀ c k, c ≠ 71 → I' c k = I c k) := by
  unfold f_X5_laysAside
  simp only [Ho_bind_i, Ho_some_i]
  refine (M_copies (a := 70) (b := 71) (i := 0) (j := 0) (m := 40) (by decide) (by decide) (by decide) (by decide) (by decide)).mono (fun I' hp => ⟨fun k hk => ?_, fun c k hc => hp.2 c k (fun z => hc z.1)⟩)
  have := hp.1 k hk
  rwa [Nat.zero_add] at this
