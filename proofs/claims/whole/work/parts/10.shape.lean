/-! which cell is which -/
def k_cq (h j : Nat) : Nat := h + 2 + j
def k_rq (j : Nat) : Nat := 2 + j
def k_tq (j : Nat) : Nat := 10 + j
def k_dq (j : Nat) : Nat := 51 + 4 * j
def k_isH (h : Nat) : Prop := h = 15 ∨ h = 24 ∨ h = 33
def k_isD (h : Nat) : Prop := h = 42 ∨ h = 51 ∨ h = 55 ∨ h = 59
theorem k_H15 : k_isH 15 := Or.inl rfl
theorem k_H24 : k_isH 24 := Or.inr (Or.inl rfl)
theorem k_H33 : k_isH 33 := Or.inr (Or.inr rfl)
theorem k_D42 : k_isD 42 := Or.inl rfl
theorem k_H0 {h : Nat} (hh : k_isH h) : k_sh h = (3, k_N 3) := by rcases hh with rfl | rfl | rfl <;> rfl
theorem k_H1 {h : Nat} (hh : k_isH h) : k_sh (h + 1) = (13, 7) := by rcases hh with rfl | rfl | rfl <;> rfl
theorem k_Hr0 {h : Nat} (hh : k_isH h) : k_rf h 0 = h + 1 := by rcases hh with rfl | rfl | rfl <;> rfl
theorem k_lt {i : Int32} {n : Nat} (h : vp_in i n) : i.toNatClampNeg < n := Nat.not_le.mp fun q => h (Or.inr q)
theorem k_lt7 {P : Nat → Prop} (h0 : P 0) (h1 : P 1) (h2 : P 2) (h3 : P 3) (h4 : P 4) (h5 : P 5) (h6 : P 6) {j : Nat} (hj : j < 7) : P j := by
  match j, hj with
  | 0, _ => exact h0
  | 1, _ => exact h1
  | 2, _ => exact h2
  | 3, _ => exact h3
  | 4, _ => exact h4
  | 5, _ => exact h5
  | 6, _ => exact h6
  | n + 7, h => exact absurd h (by omega)
theorem k_H2j {h j : Nat} (hh : k_isH h) (hj : j < 7) : k_sh (k_cq h j) = (0, k_N 0) := by
  rcases hh with rfl | rfl | rfl
  · exact k_lt7 (P := fun j => k_sh (k_cq 15 j) = (0, k_N 0)) rfl rfl rfl rfl rfl rfl rfl hj
  · exact k_lt7 (P := fun j => k_sh (k_cq 24 j) = (0, k_N 0)) rfl rfl rfl rfl rfl rfl rfl hj
  · exact k_lt7 (P := fun j => k_sh (k_cq 33 j) = (0, k_N 0)) rfl rfl rfl rfl rfl rfl rfl hj
theorem k_H2 {h : Nat} (hh : k_isH h) {i : Int32} (hi : vp_in i 7) : k_sh (k_cq h i.toNatClampNeg) = (0, k_N 0) := k_H2j hh (k_lt hi)
theorem k_Hr {h : Nat} (hh : k_isH h) {j : Nat} : k_rf (h + 1) j = k_cq h j := by
  rcases hh with rfl | rfl | rfl
  · show 16 + 1 + j = 15 + 2 + j
    omega
  · show 25 + 1 + j = 24 + 2 + j
    omega
  · show 34 + 1 + j = 33 + 2 + j
    omega
theorem k_D0 {d : Nat} (hh : k_isD d) : k_sh d = (2, k_N 2) := by rcases hh with rfl | rfl | rfl | rfl <;> rfl
theorem k_Da1 {d : Nat} (hh : k_isD d) : k_sh (d + 1) = (10, 40) := by rcases hh with rfl | rfl | rfl | rfl <;> rfl
theorem k_Da2 {d : Nat} (hh : k_isD d) : k_sh (d + 2) = (10, 40) := by rcases hh with rfl | rfl | rfl | rfl <;> rfl
theorem k_Da3 {d : Nat} (hh : k_isD d) : k_sh (d + 3) = (10, 40) := by rcases hh with rfl | rfl | rfl | rfl <;> rfl
theorem k_Dr1 {d : Nat} (hh : k_isD d) : k_rf d 0 = d + 1 := by rcases hh with rfl | rfl | rfl | rfl <;> rfl
theorem k_Dr2 {d : Nat} (hh : k_isD d) : k_rf d 1 = d + 2 := by rcases hh with rfl | rfl | rfl | rfl <;> rfl
theorem k_Dr3 {d : Nat} (hh : k_isD d) : k_rf d 2 = d + 3 := by rcases hh with rfl | rfl | rfl | rfl <;> rfl
theorem k_Rq {i : Int32} (hi : vp_in i 6) : k_sh (k_rq i.toNatClampNeg) = (10, 40) := by
  have hj := k_lt hi
  generalize i.toNatClampNeg = j at hj
  match j, hj with
  | 0, _ => rfl
  | 1, _ => rfl
  | 2, _ => rfl
  | 3, _ => rfl
  | 4, _ => rfl
  | 5, _ => rfl
  | n + 6, h => exact absurd h (by omega)
theorem k_Rr {j : Nat} : k_rf 1 j = k_rq j := rfl
theorem k_Tq {i : Int32} (hi : vp_in i 4) : k_sh (k_tq i.toNatClampNeg) = (11, 60) := by
  have hj := k_lt hi
  generalize i.toNatClampNeg = j at hj
  match j, hj with
  | 0, _ => rfl
  | 1, _ => rfl
  | 2, _ => rfl
  | 3, _ => rfl
  | n + 4, h => exact absurd h (by omega)
theorem k_Tr {j : Nat} : k_rf 9 j = k_tq j := rfl
theorem k_Dq {i : Int32} (hi : vp_in i 3) : k_isD (k_dq i.toNatClampNeg) := by
  have hj := k_lt hi
  generalize i.toNatClampNeg = j at hj
  match j, hj with
  | 0, _ => exact Or.inr (Or.inl rfl)
  | 1, _ => exact Or.inr (Or.inr (Or.inl rfl))
  | 2, _ => exact Or.inr (Or.inr (Or.inr rfl))
  | n + 3, h => exact absurd h (by omega)
theorem k_Dqr {j : Nat} : k_rf 46 j = k_dq j := rfl
theorem k_shA {a t : Nat} (h : (k_sh a).1 = t) : k_sh a = (t, (k_sh a).2) := by
  rw [← h]
