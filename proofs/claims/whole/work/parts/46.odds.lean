/-! longs, the greatest divisor -/
def nL (k : Nat) : Int64 := Int64.ofNat k
theorem nL_i {k : Nat} (h : k < 2 ^ 63) : (nL k).toInt = k := Int64.toInt_ofNat_of_lt h
theorem nL_add {a b : Nat} : nL a + nL b = nL (a + b) := (Int64.ofNat_add a b).symm
theorem nL_mul {a b : Nat} : nL a * nL b = nL (a * b) := (Int64.ofNat_mul a b).symm
theorem nL_rem {a b : Nat} (ha : a < 2 ^ 63) (hb : b < 2 ^ 63) : nL a - nL a / nL b * nL b = nL (a % b) := by
  unfold nL
  rw [← Int64.ofNat_div ha hb, ← Int64.ofNat_mul, ← Int64.ofNat_sub _ _ (Nat.div_mul_le_self a b)]
  congr 1
  have h1 := Nat.div_add_mod a b
  rw [Nat.mul_comm] at h1
  omega
theorem nL_z {b : Nat} (hb : b < 2 ^ 63) : nL b = 0 ↔ b = 0 := by
  constructor
  · intro h
    have := congrArg Int64.toInt h
    rw [nL_i hb, show (0 : Int64).toInt = 0 from rfl] at this
    omega
  · rintro rfl
    rfl
theorem nL_le0 {b : Nat} (hb : b < 2 ^ 63) : lg_cmp (nL b) 0 ≤ 0 ↔ b = 0 := by
  rw [lg_cmp_le, Int64.le_iff_toInt_le, nL_i hb, show (0 : Int64).toInt = 0 from rfl]
  omega
theorem nL_eq0 {b : Nat} (hb : b < 2 ^ 63) : lg_cmp (nL b) 0 = 0 ↔ b = 0 := by
  rw [lg_cmp_eq]
  exact nL_z hb
theorem nI_L {k : Nat} (h : k < 2147483648) : (nI k).toInt64 = nL k := by
  apply Int64.toInt_inj.mp
  rw [Int32.toInt_toInt64, i_n h, nL_i (by omega)]
theorem euc {a b : Nat} (hb : 0 < b) (hc : 0 < a % b) : 2 * (b % (a % b)) < b := by
  have h1 := Nat.mod_lt a hb
  generalize a % b = c at *
  by_cases h : 2 * c ≤ b
  · have := Nat.mod_lt b hc
    omega
  · rw [Nat.mod_eq_sub_mod (by omega), Nat.mod_eq_of_lt (by omega)]
    omega
theorem gcd1 {a b : Nat} : Nat.gcd b (a % b) = Nat.gcd a b := by
  rw [Nat.gcd_comm a b, Nat.gcd_rec b a, Nat.gcd_comm]
theorem gcd0 {a b : Nat} (h : a % b = 0) : Nat.gcd a b = b := by
  rw [← gcd1, h, Nat.gcd_zero_right]
theorem C_g0 {fu a c : Nat} (hc : c < 128) (ha : a < 2 ^ 62) : k_loop (fun s => f_X4_commonDivisor_L9_b s.1 s.2.1 s.2.2) (fu + 1) (nL a, nL 0, nI c) = some (nL (max 1 a)) := by
  show (f_X4_commonDivisor_L9_b (nL a) (nL 0) (nI c)).bind _ = _
  unfold f_X4_commonDivisor_L9_b f_X4_commonDivisor_j45 f_J9_max_f86c9
  rw [if_neg (by rw [show (128 : Int32) = nI 128 from rfl, nI_leI (by omega) (by omega)]; omega), if_pos ((nL_le0 (by omega)).mpr rfl)]
  by_cases h : 1 < a
  · rw [if_pos (by rw [lg_cmp_lt, Int64.lt_iff_toInt_lt, nL_i (by omega), show (1 : Int64).toInt = 1 from rfl]; omega), Nat.max_eq_right (by omega)]
    rfl
  · rw [if_neg (by rw [lg_cmp_lt, Int64.lt_iff_toInt_lt, nL_i (by omega), show (1 : Int64).toInt = 1 from rfl]; omega), Nat.max_eq_left (by omega)]
    rfl
theorem C_g1 {fu a b c : Nat} (hc : c < 128) (ha : a < 2 ^ 62) (hb : b < 2 ^ 62) (h0 : 0 < b) : k_loop (fun s => f_X4_commonDivisor_L9_b s.1 s.2.1 s.2.2) (fu + 1) (nL a, nL b, nI c) = k_loop (fun s => f_X4_commonDivisor_L9_b s.1 s.2.1 s.2.2) fu (nL b, nL (a % b), nI (c + 1)) := by
  show (f_X4_commonDivisor_L9_b (nL a) (nL b) (nI c)).bind _ = _
  unfold f_X4_commonDivisor_L9_b k_nzL k_let
  rw [if_neg (by rw [show (128 : Int32) = nI 128 from rfl, nI_leI (by omega) (by omega)]; omega), if_neg (by rw [nL_le0 (by omega)]; omega), if_neg (by rw [nL_z (by omega)]; omega), nL_rem (by omega) (by omega), nI_1]
  rfl
theorem C_gcd : ∀ (m fuel a b c : Nat), b < 2 ^ m → a < 2 ^ 62 → b < 2 ^ 62 → c + 2 * m ≤ 127 → 2 * m < fuel → k_loop (fun s => f_X4_commonDivisor_L9_b s.1 s.2.1 s.2.2) fuel (nL a, nL b, nI c) = some (nL (max 1 (Nat.gcd a b)))
  | 0, fuel, a, b, c, hb, ha, _, hc, hf => by
    have : b = 0 := by simpa using hb
    subst this
    obtain ⟨fu, rfl⟩ : ∃ fu, fuel = fu + 1 := ⟨fuel - 1, by omega⟩
    rw [C_g0 (by omega) ha, Nat.gcd_zero_right]
  | m + 1, fuel, a, b, c, hb, ha, hb2, hc, hf => by
    obtain ⟨fu, rfl⟩ : ∃ fu, fuel = fu + 2 := ⟨fuel - 2, by omega⟩
    by_cases h0 : b = 0
    · subst h0
      rw [C_g0 (by omega) ha, Nat.gcd_zero_right]
    · rw [C_g1 (by omega) ha hb2 (by omega)]
      have hm := Nat.mod_lt a (show b > 0 by omega)
      by_cases h1 : a % b = 0
      · rw [h1, C_g0 (by omega) hb2, gcd0 h1]
      · rw [C_g1 (by omega) hb2 (by omega) (by omega)]
        have he := euc (a := a) (b := b) (by omega) (by omega)
        have hp : 2 ^ (m + 1) = 2 * 2 ^ m := by rw [Nat.pow_succ, Nat.mul_comm]
        rw [C_gcd m fu (a % b) (b % (a % b)) (c + 1 + 1) (by omega) (by omega) (by omega) (by omega) (by omega), gcd1, gcd1]
theorem M_g0 {fu a : Nat} {v1 v3 : Int64} {L : StL} (ha : a < 2 ^ 62) (h0 : 0 < a) : k_loop (fun s => f_X5_tellsPart_L6_b v1 v3 s.1 s.2 L) (fu + 1) (nL a, nL 0) = some (k_upL (k_upL L 63 15 (v1 / nL a)) 63 16 (v3 / nL a)) := by
  show (f_X5_tellsPart_L6_b v1 v3 (nL a) (nL 0) L).bind _ = _
  unfold f_X5_tellsPart_L6_b k_nzL k_let
  rw [if_pos ((nL_eq0 (by omega)).mpr rfl), if_neg (by rw [nL_z (by omega)]; omega)]
  dsimp only
  rw [if_neg (by rw [nL_z (by omega)]; omega)]
  rfl
theorem M_g1 {fu a b : Nat} {v1 v3 : Int64} {L : StL} (ha : a < 2 ^ 62) (hb : b < 2 ^ 62) (h0 : 0 < b) : k_loop (fun s => f_X5_tellsPart_L6_b v1 v3 s.1 s.2 L) (fu + 1) (nL a, nL b) = k_loop (fun s => f_X5_tellsPart_L6_b v1 v3 s.1 s.2 L) fu (nL b, nL (a % b)) := by
  show (f_X5_tellsPart_L6_b v1 v3 (nL a) (nL b) L).bind _ = _
  unfold f_X5_tellsPart_L6_b k_nzL k_let
  rw [if_neg (by rw [nL_eq0 (by omega)]; omega), if_neg (by rw [nL_z (by omega)]; omega), nL_rem (by omega) (by omega)]
  rfl
theorem M_gcd {v1 v3 : Int64} {L : StL} : ∀ (m fuel a b : Nat), b < 2 ^ m → a < 2 ^ 62 → b < 2 ^ 62 → 2 * m < fuel → 0 < Nat.gcd a b → k_loop (fun s => f_X5_tellsPart_L6_b v1 v3 s.1 s.2 L) fuel (nL a, nL b) = some (k_upL (k_upL L 63 15 (v1 / nL (Nat.gcd a b))) 63 16 (v3 / nL (Nat.gcd a b)))
  | 0, fuel, a, b, hb, ha, _, hf, hg => by
    have : b = 0 := by simpa using hb
    subst this
    obtain ⟨fu, rfl⟩ : ∃ fu, fuel = fu + 1 := ⟨fuel - 1, by omega⟩
    rw [Nat.gcd_zero_right] at hg ⊢
    rw [M_g0 ha hg]
  | m + 1, fuel, a, b, hb, ha, hb2, hf, hg => by
    obtain ⟨fu, rfl⟩ : ∃ fu, fuel = fu + 2 := ⟨fuel - 2, by omega⟩
    by_cases h0 : b = 0
    · subst h0
      rw [Nat.gcd_zero_right] at hg ⊢
      rw [M_g0 ha hg]
    · rw [M_g1 ha hb2 (by omega)]
      have hm := Nat.mod_lt a (show b > 0 by omega)
      by_cases h1 : a % b = 0
      · rw [h1, M_g0 hb2 (by omega), gcd0 h1]
      · rw [M_g1 hb2 (by omega) (by omega)]
        have he := euc (a := a) (b := b) (by omega) (by omega)
        have hp : 2 ^ (m + 1) = 2 * 2 ^ m := by rw [Nat.pow_succ, Nat.mul_comm]
        rw [M_gcd m fu (a % b) (b % (a % b)) (by omega) (by omega) (by omega) (by omega) (by rw [gcd1, gcd1]; exact hg), gcd1, gcd1]
/-- what is told of a part of all weights -/
def gW (P : Nat) : Int64 := nL (Nat.gcd P 2985984)
theorem M_tell {P : Nat} {L : StL} (hP : P < 2 ^ 40) : f_X5_tellsPart (nL P) 2985984 L = some (k_upL (k_upL L 63 15 (nL P / gW P)) 63 16 (2985984 / gW P)) := by
  unfold f_X5_tellsPart f_X5_tellsPart_L6
  rw [show (2985984 : Int64) = nL 2985984 from rfl]
  exact M_gcd 22 k_fu P 2985984 (by decide) (by omega) (by decide) (by decide) (Nat.gcd_pos_of_pos_right _ (by decide))
theorem C_tell {P : Nat} {L : StL} (hP : P < 2 ^ 40) : f_X4_tellFraction (nL P) L = some (k_upL (k_upL L 0 10 (nL P / gW P)) 0 11 (2985984 / gW P)) := by
  have hg : 0 < Nat.gcd P 2985984 := Nat.gcd_pos_of_pos_right _ (by decide)
  have hg2 : Nat.gcd P 2985984 ≤ 2985984 := Nat.gcd_le_right _ (by decide)
  have hc : f_X4_commonDivisor (nL 2985984) (nL P) = some (gW P) := by
    unfold f_X4_commonDivisor f_X4_commonDivisor_L9
    refine (C_gcd 40 k_fu 2985984 P 0 hP (by decide) (by omega) (by decide) (by decide)).trans ?_
    rw [Nat.gcd_comm, Nat.max_eq_right (by omega)]
    rfl
  unfold f_X4_tellFraction f_X4_tellFraction_L5
  apply Ho_at
  refine Ho_loop0 (fun q x => x.1 = nL (12 ^ q) ∧ x.2 = nI q) 6 (by decide) ?_ ?_ _ ⟨rfl, rfl⟩
  · intro q x hq hx
    obtain ⟨v, w⟩ := x
    obtain ⟨e0, e1⟩ := hx
    dsimp only at e0 e1
    subst e0 e1
    dsimp only
    unfold f_X4_tellFraction_L5_b
    rw [if_neg (by rw [show (6 : Int32) = nI 6 from rfl, nI_leI (by omega) (by omega)]; omega)]
    unfold k_let
    rw [nI_1]
    refine Ho_s ⟨?_, rfl⟩
    show nL (12 ^ q) * 12 = nL (12 ^ (q + 1))
    rw [show (12 : Int64) = nL 12 from rfl, nL_mul, Nat.pow_succ]
  · intro x hx
    obtain ⟨v, w⟩ := x
    obtain ⟨e0, e1⟩ := hx
    dsimp only at e0 e1
    subst e0 e1
    dsimp only
    unfold f_X4_tellFraction_L5_b
    have hz : ¬ gW P = 0 := by unfold gW; rw [nL_z (by omega)]; omega
    rw [if_pos (by decide), show (12 : Nat) ^ 6 = 2985984 from rfl, hc, Option.bind_some]
    unfold k_nzL k_let
    rw [if_neg hz]
    dsimp only
    rw [if_neg hz]
    exact Ho_s rfl
/-! weights -/
def wN (p d : Nat) : Nat → Nat
  | 0 => 1
  | q + 1 => wN p d q * (if hasb (nI d) q = true then p else 12 - p)
theorem wN_le {p d : Nat} (hp : p ≤ 12) : ∀ q, wN p d q ≤ 12 ^ q
  | 0 => by show 1 ≤ 1; omega
  | q + 1 => by
    rw [Nat.pow_succ]
    exact Nat.mul_le_mul (wN_le hp q) (by split <;> omega)
theorem C_weight {p d : Nat} (hp : p ≤ 12) : f_X4_weightOfDowns (nI d) (nI p) = some (nL (wN p d 6)) := by
  have e12 : (12 : Int32) - nI p = nI (12 - p) := by
    rw [show (12 : Int32) = nI (12 - p + p) by rw [Nat.sub_add_cancel hp]; rfl, ← nI_add]
    exact Int32.add_sub_cancel _ _
  unfold f_X4_weightOfDowns f_X4_weightOfDowns_L5
  apply Ho_at
  refine Ho_loop0 (fun q x => x.1 = nL (wN p d q) ∧ x.2 = nI q) 6 (by decide) ?_ ?_ _ ⟨rfl, rfl⟩
  · intro q x hq hx
    obtain ⟨v, w⟩ := x
    obtain ⟨e0, e1⟩ := hx
    dsimp only at e0 e1
    subst e0 e1
    dsimp only
    unfold f_X4_weightOfDowns_L5_b f_X4_weightOfDowns_j27 f_X4_weightOfDowns_j45
    rw [if_neg (by rw [show (6 : Int32) = nI 6 from rfl, nI_leI (by omega) (by omega)]; omega), e12, nI_L (by omega), nI_L (by omega)]
    unfold k_let
    rw [nI_1, nL_mul, nL_mul]
    by_cases hb : hasb (nI d) q = true
    · rw [if_pos (show ((nI d >>> (nI q &&& 31)) &&& (1 : Int32)) = 1 by unfold hasb at hb; exact of_decide_eq_true hb), if_neg (by decide)]
      refine Ho_s ⟨?_, rfl⟩
      show nL (wN p d q * p) = nL (wN p d q * (if hasb (nI d) q = true then p else 12 - p))
      rw [if_pos hb]
    · rw [if_neg (show ¬ ((nI d >>> (nI q &&& 31)) &&& (1 : Int32)) = 1 from fun z => hb (by unfold hasb; exact decide_eq_true z)), if_pos rfl]
      refine Ho_s ⟨?_, rfl⟩
      show nL (wN p d q * (12 - p)) = nL (wN p d q * (if hasb (nI d) q = true then p else 12 - p))
      rw [if_neg hb]
  · intro x hx
    obtain ⟨v, w⟩ := x
    obtain ⟨e0, e1⟩ := hx
    dsimp only at e0 e1
    subst e0 e1
    dsimp only
    unfold f_X4_weightOfDowns_L5_b
    rw [if_pos (by decide)]
    exact Ho_s rfl
theorem M_weigh {p d : Nat} (hp : p ≤ 12) : f_X5_weigh (nI d) (nI p) = some (nL (wN p d 6)) := by
  have e12 : (12 : Int32) - nI p = nI (12 - p) := by
    rw [show (12 : Int32) = nI (12 - p + p) by rw [Nat.sub_add_cancel hp]; rfl, ← nI_add]
    exact Int32.add_sub_cancel _ _
  unfold f_X5_weigh f_X5_weigh_L5
  apply Ho_at
  refine Ho_loop0 (fun q x => x.1 = nL (wN p d q) ∧ x.2 = nI q) 6 (by decide) ?_ ?_ _ ⟨rfl, rfl⟩
  · intro q x hq hx
    obtain ⟨v, w⟩ := x
    obtain ⟨e0, e1⟩ := hx
    dsimp only at e0 e1
    subst e0 e1
    dsimp only
    unfold f_X5_weigh_L5_b f_X5_weigh_j32
    rw [if_neg (by rw [show (6 : Int32) = nI 6 from rfl, nI_leI (by omega) (by omega)]; omega), e12, nI_L (by omega), nI_L (by omega), M_has]
    refine Ho_b1 ?_
    unfold k_let
    rw [nI_1, nL_mul, nL_mul]
    by_cases hb : hasb (nI d) q = true
    · rw [if_pos hb, if_neg (by decide)]
      refine Ho_s ⟨?_, rfl⟩
      show nL (wN p d q * p) = nL (wN p d q * (if hasb (nI d) q = true then p else 12 - p))
      rw [if_pos hb]
    · rw [if_neg hb, if_pos rfl]
      refine Ho_s ⟨?_, rfl⟩
      show nL (wN p d q * (12 - p)) = nL (wN p d q * (if hasb (nI d) q = true then p else 12 - p))
      rw [if_neg hb]
  · intro x hx
    obtain ⟨v, w⟩ := x
    obtain ⟨e0, e1⟩ := hx
    dsimp only at e0 e1
    subst e0 e1
    dsimp only
    unfold f_X5_weigh_L5_b
    rw [if_pos (by decide)]
    exact Ho_s rfl
