/-! count, mark, calls -/
def cnb (p : Nat → Bool) : Nat → Int32
  | 0 => 0
  | n + 1 => if p n then cnb p n + 1 else cnb p n
theorem cnb_congr {p q : Nat → Bool} : ∀ {n : Nat}, (∀ j, j < n → p j = q j) → cnb p n = cnb q n
  | 0, _ => rfl
  | n + 1, h => by
    show (if p n then _ else _) = (if q n then _ else _)
    rw [cnb_congr (n := n) (fun j hj => h j (by omega)), h n (by omega)]
theorem add0 (x : Int32) : x + 0 = x := by simp
def opn (n : Nat) (a : AH) : Int32 := setOf (fun i => decide (a (12 + i) = 1)) n
theorem C_open {h n : Nat} {I : StI} {a : AH} (hn : n ≤ 7) (hc : HC I h a n) : f_X3_open h I = some (opn n a) := by
  unfold f_X3_open f_X3_open_L4
  obtain ⟨c1, -, -, -, -, -, cc⟩ := hc
  apply Ho_at
  refine Ho_loop0 (fun i s => s = (setOf (fun i => decide (a (12 + i) = 1)) i, nI i)) n (by omega) ?_ ?_ _ rfl
  · intro i s hi hs
    subst hs
    unfold f_X3_open_L4_b
    have d3 := (cc i hi).2.2.2.1
    rw [if_neg (by rw [c1, nI_leI (by omega) (by omega)]; omega)]
    simp only [g_i (show i < 7 by omega), m_i (show i < 7 by omega), d3, k_let, nI_1]
    by_cases h1 : a (12 + i) = 1
    · simp [h1, Ho_some_i, setOf]
    · simp [h1, Ho_some_i, setOf]
  · intro s hs
    subst hs
    unfold f_X3_open_L4_b
    rw [if_pos (by rw [c1, nI_leI (by omega) (by omega)]; omega), Ho_some_i]
    rfl
theorem or0 (x : Int32) : x ||| 0 = x := by simp
theorem M_opens {n : Nat} {I : StI} {a : AH} (hn : n ≤ 7) (h4 : I 63 4 = nI n) (hm : ∀ j, j < 40 → I 70 j = a j) : f_X5_opens I = some (opn n a) := by
  unfold f_X5_opens f_X5_opens_L4
  apply Ho_at
  refine Ho_loop0 (fun i s => s = (setOf (fun i => decide (a (12 + i) = 1)) i, nI i)) n (by omega) ?_ ?_ _ rfl
  · intro i s hi hs
    subst hs
    unfold f_X5_opens_L4_b f_X5_opens_j33
    rw [if_neg (by rw [h4, nI_leI (by omega) (by omega)]; omega)]
    simp only [g_12 (show i < 7 by omega), m_12 (show i < 7 by omega), hm (12 + i) (by omega), k_let, nI_1, or0]
    by_cases h1 : a (12 + i) = 1
    · simp [h1, Ho_some_i, setOf]
    · simp [h1, Ho_some_i, setOf]
  · intro s hs
    subst hs
    unfold f_X5_opens_L4_b
    rw [if_pos (by rw [h4, nI_leI (by omega) (by omega)]; omega), Ho_some_i]
    rfl
theorem C_there {q N : Nat} {I : StI} (hs : (k_sh q).2 = N) (hN : N ≤ 40) : f_X4_thereOf q I = some (cnb (fun i => decide (I q i ≠ -1)) N) := by
  unfold f_X4_thereOf f_X4_thereOf_L10
  simp only [k_let, hs]
  apply Ho_at
  refine Ho_loop0 (fun i s => s = (cnb (fun i => decide (I q i ≠ -1)) i, nI i)) N (by omega) ?_ ?_ _ rfl
  · intro i s hi hs'
    subst hs'
    unfold f_X4_thereOf_L10_b
    rw [if_neg (by rw [show Int32.ofNat N = nI N from rfl, nI_leI (by omega) (by omega)]; omega), hs, gd_n hi (by omega), cl_n (by omega)]
    simp only [k_let, nI_1]
    by_cases h1 : I q i = -1
    · simp [h1, Ho_some_i, cnb]
    · simp [h1, Ho_some_i, cnb]
  · intro s hs'
    subst hs'
    unfold f_X4_thereOf_L10_b
    rw [if_pos (by rw [show Int32.ofNat N = nI N from rfl, nI_leI (by omega) (by omega)]; omega), Ho_some_i]
    rfl
theorem M_there {q N : Nat} {I : StI} (hs : (k_sh q).2 = N) (hN : N ≤ 40) : f_X5_there q (nI N) I = some (cnb (fun i => decide (0 ≤ I q i)) N) := by
  unfold f_X5_there f_X5_there_L4
  apply Ho_at
  refine Ho_loop0 (fun i s => s = (cnb (fun i => decide (0 ≤ I q i)) i, nI i)) N (by omega) ?_ ?_ _ rfl
  · intro i s hi hs'
    subst hs'
    unfold f_X5_there_L4_b f_X5_there_j21
    rw [if_neg (by rw [nI_leI (by omega) (by omega)]; omega), hs, gd_n hi (by omega), cl_n (by omega)]
    simp only [k_let, nI_1, add0]
    by_cases h1 : 0 ≤ I q i
    · simp [h1, Ho_some_i, cnb]
    · simp [h1, Ho_some_i, cnb]
  · intro s hs'
    subst hs'
    unfold f_X5_there_L4_b
    rw [if_pos (by rw [nI_leI (by omega) (by omega)]; omega), Ho_some_i]
    rfl
theorem C_callersOf {h n c1 c2 : Nat} {I : StI} {a : AH} (hn : n ≤ 7) (hc : HC I h a n) (hcc : (c1 = 1 ∧ c2 = 4) ∨ (c1 = 2 ∧ c2 = 5)) : f_X3_callersOf h (nI c1) I = some (cnb (fun i => decide (a (40 + i) = nI c1 ∨ a (40 + i) = nI c2)) n) := by
  unfold f_X3_callersOf f_X3_callersOf_L4
  obtain ⟨e1, -, -, -, -, -, cc⟩ := hc
  have hof : ∀ q, f_X0_isOf q (nI c1) I = some (if I q 0 = nI c1 ∨ I q 0 = nI c2 then 1 else 0) := by
    intro q
    rcases hcc with ⟨rfl, rfl⟩ | ⟨rfl, rfl⟩
    · exact C_isOf1 q I
    · exact C_isOf2 q I
  apply Ho_at
  refine Ho_loop0 (fun i s => s = (cnb (fun i => decide (a (40 + i) = nI c1 ∨ a (40 + i) = nI c2)) i, nI i)) n (by omega) ?_ ?_ _ rfl
  · intro i s hi hs
    subst hs
    unfold f_X3_callersOf_L4_b
    have d0 := (cc i hi).1
    rw [if_neg (by rw [e1, nI_leI (by omega) (by omega)]; omega)]
    simp only [g_i (show i < 7 by omega), m_i (show i < 7 by omega), hof, d0, k_let, nI_1, Option.bind_some]
    by_cases h1 : a (40 + i) = nI c1 ∨ a (40 + i) = nI c2
    · simp [h1, Ho_some_i, cnb]
    · simp [h1, Ho_some_i, cnb]
  · intro s hs
    subst hs
    unfold f_X3_callersOf_L4_b
    rw [if_pos (by rw [e1, nI_leI (by omega) (by omega)]; omega), Ho_some_i]
    rfl
theorem M_of {n : Nat} {c1 c2 : Int32} {I : StI} {a : AH} (hn : n ≤ 7) (h4 : I 63 4 = nI n) (hk : KM I 68 a n) : f_X5_of c1 c2 I = some (cnb (fun i => decide (a (40 + i) = c1 ∨ a (40 + i) = c2)) n) := by
  unfold f_X5_of f_X5_of_L5
  apply Ho_at
  refine Ho_loop0 (fun i s => s = (cnb (fun i => decide (a (40 + i) = c1 ∨ a (40 + i) = c2)) i, nI i)) n (by omega) ?_ ?_ _ rfl
  · intro i s hi hs
    subst hs
    unfold f_X5_of_L5_b f_X5_of_j37 f_X5_of_j42
    rw [if_neg (by rw [h4, nI_leI (by omega) (by omega)]; omega)]
    simp only [g_i (show i < 7 by omega), m_i (show i < 7 by omega), hk i hi, k_let, nI_1, add0]
    by_cases h1 : a (40 + i) = c1
    · simp [h1, Ho_some_i, cnb]
    · by_cases h2 : a (40 + i) = c2
      · rw [if_neg h1, if_pos h2, Ho_some_i]
        simp [h2, cnb]
      · rw [if_neg h1, if_neg h2, Ho_some_i]
        simp [h1, h2, cnb]
  · intro s hs
    subst hs
    unfold f_X5_of_L5_b
    rw [if_pos (by rw [h4, nI_leI (by omega) (by omega)]; omega), Ho_some_i]
    rfl
theorem C_kept {I : StI} : f_X4_keptHouses I = some (cnb (fun p => decide (I (k_dq p) 3 ≠ -1)) 3) := by
  unfold f_X4_keptHouses f_X4_keptHouses_L4
  apply Ho_at
  refine Ho_loop0 (fun i s => s = (cnb (fun p => decide (I (k_dq p) 3 ≠ -1)) i, nI i)) 3 (by omega) ?_ ?_ _ rfl
  · intro i s hi hs
    subst hs
    unfold f_X4_keptHouses_L4_b
    rw [if_neg (by rw [show (3 : Int32) = nI 3 from rfl, nI_leI (by omega) (by omega)]; omega), gd_n hi (by decide), cl_n (by omega)]
    simp only [k_let, nI_1]
    by_cases h1 : I (k_dq i) 3 = -1
    · simp [h1, Ho_some_i, cnb]
    · simp [h1, Ho_some_i, cnb]
  · intro s hs
    subst hs
    unfold f_X4_keptHouses_L4_b
    rw [if_pos (show (3 : Int32) ≤ nI 3 by decide), Ho_some_i]
    rfl
theorem Kp.iff {I : StI} {n p : Nat} {fa : AH} (h : Kp I n fa p) : (I (k_dq p) 3 = -1 ↔ I 75 p = 0) ∧ (I 75 p = 0 ∨ (I 75 p = 1 ∧ I 74 (1641 * p + 40) = I (k_dq p) 3)) := by
  rcases h with ⟨h1, h2⟩ | ⟨es, e1, e2, e3, e4, e5, e6, e7⟩
  · exact ⟨⟨fun _ => h2, fun _ => h1⟩, Or.inl h2⟩
  · have hl := e1.1
    refine ⟨⟨fun z => ?_, fun z => ?_⟩, Or.inr ⟨e4, by rw [e5, e3.1]⟩⟩
    · exfalso
      rw [e3.1, i_eq, i_n (by omega), show (-1 : Int32).toInt = -1 from rfl] at z
      omega
    · exfalso
      rw [e4] at z
      exact absurd z (by decide)
theorem L_countOf {I : StI} {L : StL} (h : Rel I L) {w : Nat} (hw : w < 13) : E2 (f_X4_countOf (nI w) I) (f_X5_count (nI w) I) := by
  obtain ⟨n, fa, ds, hx⟩ := h.2.2.2
  obtain ⟨hg, hc, -, hm, h4, hk, hrm, h0⟩ := hx.vw
  obtain ⟨-, -, -, -, -, -, -, -, hdc, h11, -, hkp, -⟩ := hx
  have hn := hg.1.1
  have hmj : ∀ j, j < 40 → I 70 j = rep n ds fa j := fun j hj => by have := hm j hj; rwa [Nat.zero_add] at this
  obtain ⟨c1, c2, c3, c4, c5, c6, cc⟩ := id hc
  rcases (show w = 0 ∨ w = 1 ∨ w = 2 ∨ w = 3 ∨ w = 4 ∨ w = 5 ∨ w = 6 ∨ w = 7 ∨ w = 8 ∨ w = 9 ∨ w = 10 ∨ w = 11 ∨ w = 12 by omega) with rfl | rfl | rfl | rfl | rfl | rfl | rfl | rfl | rfl | rfl | rfl | rfl | rfl
  · exact ⟨nI n, by rw [← c1]; rfl, by rw [← h4]; rfl⟩
  · exact ⟨rep n ds fa 0, by rw [← c4]; rfl, by rw [← hmj 0 (by omega)]; rfl⟩
  · exact ⟨nI ds.length, by rw [← hdc.1]; rfl, by rw [← h11]; rfl⟩
  · exact ⟨rep n ds fa 1, by rw [← c5]; rfl, by rw [← hmj 1 (by omega)]; rfl⟩
  · exact ⟨rep n ds fa 2, by rw [← c6]; rfl, by rw [← hmj 2 (by omega)]; rfl⟩
  · exact ⟨rep n ds fa 3, by rw [← c3]; rfl, by rw [← hmj 3 (by omega)]; rfl⟩
  · exact ⟨rep n ds fa 4, by rw [← c2]; rfl, by rw [← hmj 4 (by omega)]; rfl⟩
  · refine ⟨opn n (rep n ds fa), ?_, ?_⟩
    · show (f_X3_open 24 I).bind _ = _
      rw [C_open hn hc]; rfl
    · show (f_X5_opens I).bind _ = _
      rw [M_opens hn h4 hmj]; rfl
  · refine ⟨cnb (fun i => decide (I 8 i ≠ -1)) 6, ?_, ?_⟩
    · show (f_X4_thereOf 8 I).bind _ = _
      rw [C_there (N := 6) rfl (by decide)]; rfl
    · show (f_X5_there 64 (nI 6) I).bind _ = _
      rw [M_there (N := 6) rfl (by decide)]
      show some _ = _
      congr 1
      apply cnb_congr
      intro j hj
      obtain ⟨b1, b2, -⟩ := h.1 j hj
      rw [b2]
      rcases sz_cases (M := 40) b1 with e | ⟨k, hk', e⟩
      · rw [e]; rfl
      · rw [e, decide_eq_true (nI_ge0 (by omega)), decide_eq_true]
        rw [Ne, i_eq, i_n (by omega), show (-1 : Int32).toInt = -1 from rfl]
        omega
  · refine ⟨cnb (fun i => decide (I 14 i ≠ -1)) 4, ?_, ?_⟩
    · show (f_X4_thereOf 14 I).bind _ = _
      rw [C_there (N := 4) rfl (by decide)]; rfl
    · show (f_X5_there 66 (nI 4) I).bind _ = _
      rw [M_there (N := 4) rfl (by decide)]
      show some _ = _
      congr 1
      apply cnb_congr
      intro j hj
      obtain ⟨b1, b2, -⟩ := h.2.1 j hj
      rw [b2]
      rcases sz_cases (M := 60) b1 with e | ⟨k, hk', e⟩
      · rw [e]; rfl
      · rw [e, decide_eq_true (nI_ge0 (by omega)), decide_eq_true]
        rw [Ne, i_eq, i_n (by omega), show (-1 : Int32).toInt = -1 from rfl]
        omega
  · refine ⟨cnb (fun p => decide (I (k_dq p) 3 ≠ -1)) 3, ?_, ?_⟩
    · show (f_X4_keptHouses I).bind _ = _
      rw [C_kept]; rfl
    · have k0 := (hkp 0 (by omega)).iff.1
      have k1 := (hkp 1 (by omega)).iff.1
      have k2 := (hkp 2 (by omega)).iff.1
      show (if I 75 0 = 0 then f_X5_count_j151 0 I else f_X5_count_j151 1 I) = _
      unfold f_X5_count_j151 f_X5_count_j165
      simp only [cnb]
      show (if I 75 0 = 0 then (if I 75 1 = 0 then (if I 75 2 = 0 then _ else _) else (if I 75 2 = 0 then _ else _)) else (if I 75 1 = 0 then (if I 75 2 = 0 then _ else _) else (if I 75 2 = 0 then _ else _))) = _
      by_cases z0 : I 75 0 = 0 <;> by_cases z1 : I 75 1 = 0 <;> by_cases z2 : I 75 2 = 0 <;> simp [z0, z1, z2, k0, k1, k2]
  · refine ⟨cnb (fun i => decide (rep n ds fa (40 + i) = nI 1 ∨ rep n ds fa (40 + i) = nI 4)) n, ?_, ?_⟩
    · show (f_X3_callersOf 24 (nI 1) I).bind _ = _
      rw [C_callersOf hn hc (Or.inl ⟨rfl, rfl⟩)]; rfl
    · show (f_X5_of (nI 1) (nI 4) I).bind _ = _
      rw [M_of hn h4 hk]; rfl
  · refine ⟨cnb (fun i => decide (rep n ds fa (40 + i) = nI 2 ∨ rep n ds fa (40 + i) = nI 5)) n, ?_, ?_⟩
    · show (f_X3_callersOf 24 (nI 2) I).bind _ = _
      rw [C_callersOf hn hc (Or.inr ⟨rfl, rfl⟩)]; rfl
    · show (f_X5_of (nI 2) (nI 5) I).bind _ = _
      rw [M_of hn h4 hk]; rfl
