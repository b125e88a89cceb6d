/-! a house in numbers: 0 step, 1 answered, 2 faulted, 3 pattern, 4 room, 5+ limits, 12+ how, 19+ faults, 26+ left, 33+ spans, 40+ kinds, 47+ rests, 54 how many -/
abbrev AH : Type := Nat → Int32
def pcn (x : Int32) : Int32 := (f_J6_bitCount_0f7a4 x).getD 0
theorem pcn_eq (x : Int32) : f_J6_bitCount_0f7a4 x = some (pcn x) := rfl
def hasb (set : Int32) (i : Nat) : Bool := decide (((set >>> (nI i &&& 31)) &&& (1 : Int32)) = (1 : Int32))
def setOf (p : Nat → Bool) : Nat → Int32
  | 0 => 0
  | n + 1 => if p n then setOf p n ||| ((1 : Int32) <<< (nI n &&& 31)) else setOf p n
theorem setOf_congr {p q : Nat → Bool} : ∀ {n : Nat}, (∀ j, j < n → p j = q j) → setOf p n = setOf q n
  | 0, _ => rfl
  | n + 1, h => by
    show (if p n then _ else _) = (if q n then _ else _)
    rw [setOf_congr (n := n) (fun j hj => h j (by omega)), h n (by omega)]
def b7 (b0 b1 b2 b3 b4 b5 b6 : Bool) : Nat → Bool := fun j => ([b0, b1, b2, b3, b4, b5, b6] : List Bool).getD j false
theorem b7_eq (p : Nat → Bool) {n : Nat} (hn : n ≤ 7) : setOf p n = setOf (b7 (p 0) (p 1) (p 2) (p 3) (p 4) (p 5) (p 6)) n := by
  apply setOf_congr
  intro j hj
  exact k_lt7 (P := fun j => p j = b7 (p 0) (p 1) (p 2) (p 3) (p 4) (p 5) (p 6) j) rfl rfl rfl rfl rfl rfl rfl (by omega)
theorem has_set0 : ∀ b0 b1 b2 b3 b4 b5 b6 : Bool, ∀ n : Fin 8, ∀ i : Fin 8, i.val < n.val → hasb (setOf (b7 b0 b1 b2 b3 b4 b5 b6) n.val) i.val = b7 b0 b1 b2 b3 b4 b5 b6 i.val := by decide +kernel
theorem has_set {p : Nat → Bool} {n i : Nat} (hn : n ≤ 7) (hi : i < n) : hasb (setOf p n) i = p i := by
  rw [b7_eq p hn, has_set0 _ _ _ _ _ _ _ ⟨n, by omega⟩ ⟨i, by omega⟩ hi]
  exact k_lt7 (P := fun j => b7 (p 0) (p 1) (p 2) (p 3) (p 4) (p 5) (p 6) j = p j) rfl rfl rfl rfl rfl rfl rfl (j := i) (by omega)
theorem set_bits0 : ∀ b0 b1 b2 b3 b4 b5 b6 : Bool, ∀ n : Fin 8, f_X5_bits (setOf (b7 b0 b1 b2 b3 b4 b5 b6) n.val) = some (pcn (setOf (b7 b0 b1 b2 b3 b4 b5 b6) n.val)) := by decide +kernel
theorem set_bits (p : Nat → Bool) {n : Nat} (hn : n ≤ 7) : f_X5_bits (setOf p n) = some (pcn (setOf p n)) := by
  rw [b7_eq p hn]
  exact set_bits0 _ _ _ _ _ _ _ ⟨n, by omega⟩
theorem set_self {p : Nat → Bool} {n : Nat} (hn : n ≤ 7) : setOf (fun i => hasb (setOf p n) i) n = setOf p n := setOf_congr (fun j hj => has_set hn hj)
theorem set_pos0 : ∀ b0 b1 b2 b3 b4 b5 b6 : Bool, ∀ n : Fin 8, (0 ≤ (pcn (setOf (b7 b0 b1 b2 b3 b4 b5 b6) n.val)).toInt ∧ (pcn (setOf (b7 b0 b1 b2 b3 b4 b5 b6) n.val)).toInt ≤ 7) ∧ ∀ i : Fin 8, i.val < n.val → b7 b0 b1 b2 b3 b4 b5 b6 i.val = true → 0 < (pcn (setOf (b7 b0 b1 b2 b3 b4 b5 b6) n.val)).toInt := by decide +kernel
theorem set_rng (p : Nat → Bool) {n : Nat} (hn : n ≤ 7) : 0 ≤ (pcn (setOf p n)).toInt ∧ (pcn (setOf p n)).toInt ≤ 7 := by
  rw [b7_eq p hn]
  exact (set_pos0 _ _ _ _ _ _ _ ⟨n, by omega⟩).1
theorem set_pos {p : Nat → Bool} {n i : Nat} (hn : n ≤ 7) (hi : i < n) (hp : p i = true) : 0 < (pcn (setOf p n)).toInt := by
  rw [b7_eq p hn]
  refine (set_pos0 _ _ _ _ _ _ _ ⟨n, by omega⟩).2 ⟨i, by omega⟩ hi ?_
  rw [← hp]
  exact k_lt7 (P := fun j => b7 (p 0) (p 1) (p 2) (p 3) (p 4) (p 5) (p 6) j = p j) rfl rfl rfl rfl rfl rfl rfl (j := i) (by omega)
/-- one caller: (how, faults, left, span) -/
abbrev C4 : Type := Int32 × Int32 × Int32 × Int32
def cAns (kind how faults left span : Int32) : C4 := if how = 0 ∧ (kind = 1 ∨ kind = 4) then (how, if faults ≤ 0 then faults else faults - 1, left, span) else (0, 0, left, span)
def cTrip (kind limit how left span step : Int32) : C4 := if kind = 5 ∧ step - step / 4 * 4 = 0 then (how, limit - 1, left, span) else (1, 0, span, if kind = 2 ∨ kind = 5 then (if span ≤ 20 then 2 * span else 40) else span)
def cFault (kind limit how faults left span step : Int32) : C4 := if how = 0 then (if limit ≤ faults + 1 then cTrip kind limit how left span step else (how, faults + 1, left, span)) else cTrip kind limit how left span step
def cRest (kind limit how faults left span : Int32) : C4 := if left - 1 = 0 then (if kind = 3 then (0, limit - 1, 0, span) else (2, 0, 0, span)) else (how, faults, left - 1, span)
/-- what holds of a caller at any time -/
def CV (limit rest how faults left span : Int32) : Prop := (1 ≤ limit.toInt ∧ limit.toInt ≤ 9) ∧ (1 ≤ rest.toInt ∧ rest.toInt ≤ 9) ∧ (how = 0 ∨ how = 1 ∨ how = 2) ∧ (0 ≤ faults.toInt ∧ faults.toInt ≤ 8) ∧ (0 ≤ left.toInt ∧ left.toInt ≤ 40) ∧ (1 ≤ span.toInt ∧ span.toInt ≤ 40) ∧ (how = 1 → 1 ≤ left.toInt ∧ faults = 0)
/-- the class's callers -/
theorem C_isOf1 (q : Nat) (I : StI) : f_X0_isOf q 1 I = some (if I q 0 = 1 ∨ I q 0 = 4 then 1 else 0) := by
  unfold f_X0_isOf
  by_cases h1 : I q 0 = 1
  · simp [h1]
  · by_cases h2 : I q 0 = 4
    · simp [h2]
    · simp [h1, h2]
theorem C_isOf2 (q : Nat) (I : StI) : f_X0_isOf q 2 I = some (if I q 0 = 2 ∨ I q 0 = 5 then 1 else 0) := by
  unfold f_X0_isOf
  by_cases h1 : I q 0 = 2
  · simp [h1]
  · by_cases h2 : I q 0 = 5
    · simp [h2]
    · simp [h1, h2]
def PostC (q : Nat) (I : StI) (c : C4) (I' : StI) : Prop := I' q 3 = c.1 ∧ I' q 4 = c.2.1 ∧ I' q 5 = c.2.2.1 ∧ I' q 6 = c.2.2.2 ∧ ∀ b k, ¬ (b = q ∧ (k = 3 ∨ k = 4 ∨ k = 5 ∨ k = 6)) → I' b k = I b k
theorem k_up_q3 {I : StI} {b q k : Nat} {v : Int32} (h : ¬ (b = q ∧ (k = 3 ∨ k = 4 ∨ k = 5 ∨ k = 6))) : k_up I q 3 v b k = I b k := k_up_oth (by omega)
theorem k_up_q4 {I : StI} {b q k : Nat} {v : Int32} (h : ¬ (b = q ∧ (k = 3 ∨ k = 4 ∨ k = 5 ∨ k = 6))) : k_up I q 4 v b k = I b k := k_up_oth (by omega)
theorem k_up_q5 {I : StI} {b q k : Nat} {v : Int32} (h : ¬ (b = q ∧ (k = 3 ∨ k = 4 ∨ k = 5 ∨ k = 6))) : k_up I q 5 v b k = I b k := k_up_oth (by omega)
theorem k_up_q6 {I : StI} {b q k : Nat} {v : Int32} (h : ¬ (b = q ∧ (k = 3 ∨ k = 4 ∨ k = 5 ∨ k = 6))) : k_up I q 6 v b k = I b k := k_up_oth (by omega)
theorem max0 {f : Int32} (hf : 0 ≤ f.toInt) : f_J9_max_7cf53 0 (f - 1) = some (if f ≤ 0 then f else f - 1) := by
  unfold f_J9_max_7cf53
  have hr := i_rng f
  have e1 : (f - 1).toInt = f.toInt - 1 := i_sub (by simp only [Int32.reduceToInt]; omega) (by simp only [Int32.reduceToInt]; omega)
  simp only [i_lt, i_le, e1, Int32.reduceToInt]
  by_cases h0 : f.toInt = 0
  · have : f = 0 := i_eq.mpr h0
    simp [this]
  · by_cases h2 : f.toInt = 1
    · have : f = 1 := i_eq.mpr h2
      simp [this]
    · rw [if_pos (by omega), if_neg (by omega)]
theorem C_takeAnswer (q : Nat) (I : StI) (hf : 0 ≤ (I q 4).toInt) : Ho (f_X0_takeAnswer q I) (PostC q I (cAns (I q 0) (I q 3) (I q 4) (I q 5) (I q 6))) := by
  unfold f_X0_takeAnswer f_X0_takeAnswer_j32
  rw [C_isOf1, max0 hf]
  by_cases h : I q 3 = 0
  · by_cases h2 : I q 0 = 1 ∨ I q 0 = 4
    · simp only [h, h2, k_let, if_true, Option.bind_some, cAns, and_self]
      rw [if_neg (by decide), Ho_some_i]
      refine ⟨by simp [k_up, h], by simp [k_up], by simp [k_up], by simp [k_up], fun b k hb => by simp only [k_up_q4 hb]⟩
    · simp only [h, h2, k_let, if_true, if_false, Option.bind_some, cAns, and_false]
      rw [Ho_some_i]
      refine ⟨by simp [k_up], by simp [k_up], by simp [k_up], by simp [k_up], fun b k hb => by simp only [k_up_q4 hb, k_up_q3 hb]⟩
  · simp only [h, k_let, if_false, cAns, false_and]
    rw [Ho_some_i]
    refine ⟨by simp [k_up], by simp [k_up], by simp [k_up], by simp [k_up], fun b k hb => by simp only [k_up_q4 hb, k_up_q3 hb]⟩
theorem C_rest (q : Nat) (I : StI) (h1 : 1 ≤ (I q 5).toInt) (h2 : I q 4 = 0) : Ho (f_X0_restOneStep q I) (PostC q I (cRest (I q 0) (I q 1) (I q 3) (I q 4) (I q 5) (I q 6))) := by
  unfold f_X0_restOneStep f_X0_wake
  have hr := i_rng (I q 5)
  have e1 : (I q 5 - 1).toInt = (I q 5).toInt - 1 := i_sub (by simp only [Int32.reduceToInt]; omega) (by simp only [Int32.reduceToInt]; omega)
  simp only [k_let, k_up_same]
  by_cases h : (I q 5).toInt = 1
  · have h5 : I q 5 = 1 := i_eq.mpr h
    rw [if_neg (by rw [i_lt, e1]; simp only [Int32.reduceToInt]; omega)]
    by_cases h3 : I q 0 = 3
    · simp only [cRest, h5]
      simp only [k_up, h3]
      simp [Ho_some_i]
      refine ⟨by simp [k_up], by simp [k_up], by simp [k_up], by simp [k_up], fun b k hb => by simp only [k_up_q3 hb, k_up_q4 hb, k_up_q5 hb, k_up_q6 hb]⟩
    · simp only [cRest, h5]
      simp only [k_up, h3]
      simp [Ho_some_i, h3]
      refine ⟨by simp [k_up], by simp [k_up, h2], by simp [k_up], by simp [k_up], fun b k hb => by simp only [k_up_q3 hb, k_up_q4 hb, k_up_q5 hb, k_up_q6 hb]⟩
  · rw [if_pos (by rw [i_lt, e1]; simp only [Int32.reduceToInt]; omega), Ho_some_i]
    have : ¬ I q 5 - 1 = 0 := fun z => by rw [i_eq, e1] at z; simp only [Int32.reduceToInt] at z; omega
    simp only [cRest, this, if_false]
    refine ⟨by simp [k_up], by simp [k_up], by simp [k_up], by simp [k_up], fun b k hb => by simp only [k_up_q5 hb]⟩
theorem min40 {f : Int32} (h1 : 1 ≤ f.toInt) (h2 : f.toInt ≤ 40) : f_J9_min_7cf53 40 (2 * f) = some (if f ≤ 20 then 2 * f else 40) := by
  unfold f_J9_min_7cf53
  have e1 : (2 * f).toInt = 2 * f.toInt := i_mul (by simp only [Int32.reduceToInt]; omega) (by simp only [Int32.reduceToInt]; omega)
  simp only [i_lt, i_le, e1, Int32.reduceToInt]
  by_cases h : f.toInt = 20
  · have : f = 20 := i_eq.mpr h
    simp [this]
  · repeat' split
    all_goals first | rfl | omega
theorem C_trip (q : Nat) (v : Int32) (I : StI) (h1 : 1 ≤ (I q 6).toInt) (h2 : (I q 6).toInt ≤ 40) : Ho (f_X0_takeFault_j29 q v I) (PostC q I (cTrip (I q 0) (I q 1) (I q 3) (I q 5) (I q 6) v)) := by
  unfold f_X0_takeFault_j29 f_X0_takeFault_j54
  simp only [k_let]
  have hm := min40 h1 h2
  by_cases h5 : I q 0 = 5
  · by_cases h4 : v - v / 4 * 4 = 0
    · simp only [h5, h4, if_true, cTrip, and_self, Ho_some_i]
      refine ⟨by simp [k_up], by simp [k_up], by simp [k_up], by simp [k_up], fun b k hb => by simp only [k_up_q4 hb]⟩
    · simp only [h5, h4, if_true, if_false, cTrip, and_false, C_isOf2]
      simp only [k_up]
      simp [h5, hm, Ho_some_i]
      refine ⟨by simp [k_up], by simp [k_up], by simp [k_up], by simp [k_up], fun b k hb => by simp only [k_up_q3 hb, k_up_q4 hb, k_up_q5 hb, k_up_q6 hb]⟩
  · simp only [h5, if_false, cTrip, false_and, C_isOf2]
    by_cases h22 : I q 0 = 2
    · simp only [k_up]
      simp [h22, hm, Ho_some_i]
      refine ⟨by simp [k_up], by simp [k_up], by simp [k_up], by simp [k_up], fun b k hb => by simp only [k_up_q3 hb, k_up_q4 hb, k_up_q5 hb, k_up_q6 hb]⟩
    · simp only [k_up]
      simp [h22, h5, Ho_some_i]
      refine ⟨by simp [k_up], by simp [k_up], by simp [k_up], by simp [k_up], fun b k hb => by simp only [k_up_q3 hb, k_up_q4 hb, k_up_q5 hb, k_up_q6 hb]⟩
theorem C_takeFault (q : Nat) (v : Int32) (I : StI) (h1 : 1 ≤ (I q 6).toInt) (h2 : (I q 6).toInt ≤ 40) : Ho (f_X0_takeFault q v I) (PostC q I (cFault (I q 0) (I q 1) (I q 3) (I q 4) (I q 5) (I q 6) v)) := by
  unfold f_X0_takeFault
  simp only [k_let]
  by_cases h : I q 3 = 0
  · simp only [h, if_true, cFault]
    have e1 : ∀ k, k ≠ 4 → k_up I q 4 (I q 4 + 1) q k = I q k := fun k hk => k_up_oth (by omega)
    rw [e1 1 (by decide), k_up_same]
    by_cases h3 : I q 1 ≤ I q 4 + 1
    · simp only [h3, if_true]
      have := C_trip q v (k_up I q 4 (I q 4 + 1)) (by rw [e1 6 (by decide)]; exact h1) (by rw [e1 6 (by decide)]; exact h2)
      rw [e1 0 (by decide), e1 1 (by decide), e1 3 (by decide), e1 5 (by decide), e1 6 (by decide), h] at this
      exact this.mono (fun I' hp => ⟨hp.1, hp.2.1, hp.2.2.1, hp.2.2.2.1, fun b k hb => (hp.2.2.2.2 b k hb).trans (k_up_q4 hb)⟩)
    · simp only [h3, if_false, Ho_some_i]
      refine ⟨by simp [k_up, h], by simp [k_up], by simp [k_up], by simp [k_up], fun b k hb => by simp only [k_up_q4 hb]⟩
  · simp only [h, if_false, cFault]
    exact C_trip q v I h1 h2
