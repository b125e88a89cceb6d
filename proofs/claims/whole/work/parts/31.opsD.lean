/-! mean, copy -/
def sumL (f : Nat → Int32) : Nat → Int64
  | 0 => 0
  | n + 1 => sumL f n + (f n).toInt64
theorem sumL_congr {f g : Nat → Int32} : ∀ {n : Nat}, (∀ i, i < n → f i = g i) → sumL f n = sumL g n
  | 0, _ => rfl
  | n + 1, h => by
    show sumL f n + _ = sumL g n + _
    rw [sumL_congr (n := n) (fun i hi => h i (by omega)), h n (by omega)]
theorem nzL {k : Nat} (h0 : 0 < k) (h : k < 2147483648) : ¬ (nI k).toInt64 = 0 := by
  intro z
  have := congrArg Int64.toInt z
  rw [Int32.toInt_toInt64, i_n h] at this
  have e : (0 : Int64).toInt = 0 := rfl
  omega
theorem C_meanL {r k : Nat} {I : StI} (hr : r < 6) (hk0 : 0 < k) (hk : k ≤ 40) : f_X4_mean_L42 (nI r) (nI k) I k_fu 0 0 = some (1, k_up I 0 9 (sumL (fun i => I (k_rq r) i) k / (nI k).toInt64).toInt32) := by
  apply Ho_at
  unfold f_X4_mean_L42
  refine Ho_loop0 (fun q s => s = (sumL (fun i => I (k_rq r) i) q, nI q)) k (by omega) ?_ ?_ _ rfl
  · intro q s hq hs
    subst hs
    unfold f_X4_mean_L42_b
    rw [if_neg (by rw [nI_leI (by omega) (by omega)]; omega), gd_n hr (by decide), gd_n (show q < 40 by omega) (by decide)]
    simp only [k_let, Ho_some_i, Sum.elim_inl, cl_n (show r < 2147483648 by omega), cl_n (show q < 2147483648 by omega), nI_1]
    rfl
  · intro s hs
    subst hs
    unfold f_X4_mean_L42_b k_nzL
    rw [if_pos (by rw [nI_leI (by omega) (by omega)]; omega), if_neg (nzL hk0 (by omega))]
    simp only [k_let, Ho_some_i, Sum.elim_inr]
theorem M_meanL {r k : Nat} {I : StI} (hr : r < 6) (hk0 : 0 < k) (hk : k ≤ 40) (hs : I 64 r = nI k) : f_X5_mean_L44 (nI r) I k_fu 0 0 = some (1, k_up I 63 14 (sumL (fun i => I 65 (40 * r + i)) k / (nI k).toInt64).toInt32) := by
  apply Ho_at
  unfold f_X5_mean_L44
  refine Ho_loop0 (fun q s => s = (sumL (fun i => I 65 (40 * r + i)) q, nI q)) k (by omega) ?_ ?_ _ rfl
  · intro q s hq hss
    subst hss
    unfold f_X5_mean_L44_b
    simp only [gd_n hr (by decide), cl_n (show r < 2147483648 by omega), hs, mul40, cl_n (show 40 * r + q < 2147483648 by omega)]
    rw [if_neg (by rw [nI_leI (by omega) (by omega)]; omega), gd_n (show 40 * r + q < 240 by omega) (by decide)]
    simp only [k_let, Ho_some_i, Sum.elim_inl, nI_1]
    rfl
  · intro s hss
    subst hss
    unfold f_X5_mean_L44_b k_nzL
    simp only [gd_n hr (by decide), cl_n (show r < 2147483648 by omega), hs]
    rw [if_pos (by rw [nI_leI (by omega) (by omega)]; omega), if_neg (nzL hk0 (by omega))]
    simp only [f_X5_tell, k_let, Option.bind_some, Ho_some_i, Sum.elim_inr]
theorem L_mean {I : StI} {L : StL} (h : Rel I L) (v1 : Int32) : Sm (f_X4_mean v1 I) (f_X5_mean v1) L := by
  by_cases hr : 0 ≤ v1.toInt ∧ v1.toInt < 6
  · obtain ⟨r, hr6, rfl⟩ := i_in hr.1 (show v1.toInt < (6 : Nat) from hr.2)
    obtain ⟨a1, a2, a3⟩ := h.1 r hr6
    have n6 : ∀ {T : Type} {o : Option T}, k_gd (nI r) 6 o = o := gd_n hr6 (by decide)
    have c6 : (nI r).toNatClampNeg = r := cl_n (by omega)
    rcases sz_cases (M := 40) a1 with hs | ⟨k, hk, hs⟩
    · refine Sm_found h 1 (by decide) (by decide) ?_ (fun J hJ => ?_)
      · unfold f_X4_mean
        rw [C_isRow, if_pos hr]
        simp only [Option.bind_some, n6, c6, hs, bind_eta, k_let]
        rfl
      · unfold f_X5_mean
        rw [M_isRow, if_pos hr]
        simp only [Option.bind_some, n6, c6, hJ 64 r (by decide), a2, hs, bind_eta]
        rw [if_neg (by decide), if_neg (by decide)]
        rfl
    · have hne : ¬ nI k = -1 := by rw [i_eq, i_n (by omega), show (-1 : Int32).toInt = -1 from rfl]; omega
      by_cases hk0 : k = 0
      · subst hk0
        refine Sm_found h 4 (by decide) (by decide) ?_ (fun J hJ => ?_)
        · unfold f_X4_mean
          rw [C_isRow, if_pos hr]
          simp only [Option.bind_some, n6, c6, hs, bind_eta, k_let]
          rfl
        · unfold f_X5_mean
          rw [M_isRow, if_pos hr]
          simp only [Option.bind_some, n6, c6, hJ 64 r (by decide), a2, hs, bind_eta]
          rfl
      · have hp : (0 : Int32) < nI k := by rw [i_lt, i_n (by omega)]; simp only [Int32.reduceToInt]; omega
        have hz : ¬ nI k = 0 := by rw [i_eq, i_n (by omega)]; simp only [Int32.reduceToInt]; omega
        refine Sm_eq (I1 := k_up I 0 9 (sumL (fun i => I (k_rq r) i) k / (nI k).toInt64).toInt32) (I2 := k_up (k_up I 0 9 (sumL (fun i => I (k_rq r) i) k / (nI k).toInt64).toInt32) 63 14 (sumL (fun i => I (k_rq r) i) k / (nI k).toInt64).toInt32) (r := 1) ?_ ?_ ?_
        · unfold f_X4_mean
          rw [C_isRow, if_pos hr]
          simp only [Option.bind_some, n6, c6, hs, k_let]
          rw [if_neg (by decide), if_neg hne, if_pos hp, C_meanL hr6 (by omega) hk]
        · have o1 : ∀ b k', 63 ≤ b → k_up I 0 9 (sumL (fun i => I (k_rq r) i) k / (nI k).toInt64).toInt32 b k' = I b k' := fun b k' hb => k_up_oth (by omega)
          unfold f_X5_mean
          rw [M_isRow, if_pos hr]
          simp only [Option.bind_some, n6, c6, o1 64 r (by decide), a2, hs]
          rw [if_neg (by decide), if_pos (nI_ge0 (by omega)), if_neg hz, M_meanL hr6 (by omega) hk (by rw [o1 64 r (by decide), a2, hs])]
          rw [sumL_congr (n := k) (f := fun i => k_up I 0 9 (sumL (fun i => I (k_rq r) i) k / (nI k).toInt64).toInt32 65 (40 * r + i)) (g := fun i => I (k_rq r) i) (fun i hi => by rw [o1 65 _ (by decide)]; exact a3 i (by omega))]
        · refine h.of ((Ag.refl.up (by unfold sRw; omega)).up (by unfold sRw; omega)) ((Ag.refl.up (by unfold sTx; omega)).up (by unfold sTx; omega)) ?_ ((Ag.refl.up (by unfold sHs; omega)).up (by unfold sHs; omega))
          obtain ⟨t1, t2, t3, t4⟩ := h.2.2.1
          refine ⟨by simp [k_up], by simp [k_up]; exact t2, fun f a b => ?_, t4⟩
          simp [k_up]
          exact t3 f a b
  · refine Sm_same h (-1) ?_ ?_
    · unfold f_X4_mean
      rw [C_isRow, if_neg hr]
      rfl
    · unfold f_X5_mean
      rw [M_isRow, if_neg hr]
      rfl
theorem C_hasPl {k : Nat} {i n : Int32} (hk : k ≤ 40) (hn : 0 ≤ n.toInt) : f_X4_hasPlaces (nI k) i n = some (if 0 ≤ i.toInt ∧ i.toInt + n.toInt ≤ k then 1 else 0) := by
  unfold f_X4_hasPlaces
  have hr := i_rng i
  by_cases h0 : i < 0
  · rw [if_pos h0]
    rw [i_lt] at h0
    simp only [Int32.reduceToInt] at h0
    rw [if_neg (by omega)]
  · rw [if_neg h0]
    rw [i_lt] at h0
    simp only [Int32.reduceToInt] at h0
    by_cases h1 : nI k < i
    · rw [if_pos h1]
      rw [i_lt, i_n (by omega)] at h1
      rw [if_neg (by omega)]
    · rw [if_neg h1]
      rw [i_lt, i_n (by omega)] at h1
      have e : (nI k - i).toInt = k - i.toInt := by
        rw [i_sub (by rw [i_n (by omega)]; omega) (by rw [i_n (by omega)]; omega), i_n (by omega)]
      by_cases h2 : nI k - i < n
      · rw [if_pos h2]
        rw [i_lt, e] at h2
        rw [if_neg (by omega)]
      · rw [if_neg h2]
        rw [i_lt, e] at h2
        rw [if_pos (by omega)]
theorem addL {i n : Int32} : (i.toInt64 + n.toInt64).toInt = i.toInt + n.toInt := by
  have h1 := i_rng i
  have h2 := i_rng n
  rw [Int64.toInt_add, Int32.toInt_toInt64, Int32.toInt_toInt64]
  apply Int.bmod_eq_of_le <;> omega
theorem M_cmpPl {k : Nat} {i n : Int32} (hk : k ≤ 40) : (0 < lg_cmp (i.toInt64 + n.toInt64) (nI k).toInt64) ↔ (k : Int) < i.toInt + n.toInt := by
  rw [lg_cmp_gt, Int64.lt_iff_toInt_lt, addL, Int32.toInt_toInt64, i_n (by omega)]
theorem M_cmpPl2 {k : Nat} {i n : Int32} (hk : k ≤ 40) : (lg_cmp (i.toInt64 + n.toInt64) (nI k).toInt64 ≤ 0) ↔ i.toInt + n.toInt ≤ (k : Int) := by
  rw [lg_cmp_le, Int64.le_iff_toInt_le, addL, Int32.toInt_toInt64, i_n (by omega)]
theorem M_copyL {r s i j n : Nat} {I : StI} (hr : r < 6) (hs : s < 6) (hi : i + n ≤ 40) (hj : j + n ≤ 40) : Ho (f_X5_copy_L104 (nI r) (nI i) (nI s) (nI j) (nI n) k_fu 0 I) (fun u => u.1 = 1 ∧ (∀ x, x < n → u.2 65 (40 * s + (j + x)) = I 65 (40 * r + (i + x))) ∧ ∀ b y, ¬ (b = 65 ∧ 40 * s + j ≤ y ∧ y < 40 * s + j + n) → u.2 b y = I b y) := by
  have m2 : ∀ a b c : Nat, (40 : Int32) * nI a + nI b + nI c = nI (40 * a + b + c) := fun a b c => by rw [mul40, nI_add]
  unfold f_X5_copy_L104
  by_cases hij : j ≤ i
  · refine Ho_loop0 (fun q st => st.1 = nI q ∧ (∀ x, x < q → st.2 65 (40 * s + (j + x)) = I 65 (40 * r + (i + x))) ∧ ∀ b y, ¬ (b = 65 ∧ 40 * s + j ≤ y ∧ y < 40 * s + j + q) → st.2 b y = I b y) n (by omega) ?_ ?_ _ ⟨rfl, fun k hk => absurd hk (by omega), fun _ _ _ => rfl⟩
    · intro q st hq hss
      obtain ⟨w, K⟩ := st
      obtain ⟨e1, e2, e3⟩ := hss
      dsimp only at e1 e2 e3
      subst e1
      dsimp only
      unfold f_X5_copy_L104_b f_X5_copy_j129
      rw [if_neg (by rw [nI_leI (by omega) (by omega)]; omega), if_pos (by rw [nI_leI (by omega) (by omega)]; omega), m2, m2, gd_n (by omega) (by omega), gd_n (by omega) (by omega), cl_n (by omega), cl_n (by omega), nI_1]
      simp only [k_let, Ho_some_i, Sum.elim_inl]
      refine ⟨trivial, fun x hx => ?_, fun b y hb => ?_⟩
      · by_cases e : x = q
        · subst e
          rw [show 40 * s + (j + x) = 40 * s + j + x by omega, k_up_same, e3 65 _ (by omega), show 40 * r + i + x = 40 * r + (i + x) by omega]
        · rw [k_up_oth (by omega)]; exact e2 x (by omega)
      · rw [k_up_oth (by omega)]; exact e3 b y (by omega)
    · intro st hss
      obtain ⟨w, K⟩ := st
      obtain ⟨e1, e2, e3⟩ := hss
      dsimp only at e1 e2 e3
      subst e1
      dsimp only
      unfold f_X5_copy_L104_b
      rw [if_pos (by rw [nI_leI (by omega) (by omega)]; omega), Ho_some_i]
      exact ⟨rfl, e2, e3⟩
  · refine Ho_loop0 (fun q st => st.1 = nI q ∧ (∀ x, n - q ≤ x → x < n → st.2 65 (40 * s + (j + x)) = I 65 (40 * r + (i + x))) ∧ ∀ b y, ¬ (b = 65 ∧ 40 * s + j + (n - q) ≤ y ∧ y < 40 * s + j + n) → st.2 b y = I b y) n (by omega) ?_ ?_ _ ⟨rfl, fun k hk hk2 => absurd hk (by omega), fun _ _ _ => rfl⟩
    · intro q st hq hss
      obtain ⟨w, K⟩ := st
      obtain ⟨e1, e2, e3⟩ := hss
      dsimp only at e1 e2 e3
      subst e1
      dsimp only
      unfold f_X5_copy_L104_b f_X5_copy_j129
      have ep : nI n - 1 - nI q = nI (n - 1 - q) := by
        rw [show (1 : Int32) = nI 1 from rfl, pk_sub (by omega), pk_sub (by omega)]
      rw [if_neg (by rw [nI_leI (by omega) (by omega)]; omega), if_neg (by rw [nI_leI (by omega) (by omega)]; omega), ep, m2, m2, gd_n (by omega) (by omega), gd_n (by omega) (by omega), cl_n (by omega), cl_n (by omega), nI_1]
      simp only [k_let, Ho_some_i, Sum.elim_inl]
      refine ⟨trivial, fun x hx1 hx => ?_, fun b y hb => ?_⟩
      · by_cases e : x = n - 1 - q
        · subst e
          rw [show 40 * s + (j + (n - 1 - q)) = 40 * s + j + (n - 1 - q) by omega, k_up_same, e3 65 _ (by omega), show 40 * r + i + (n - 1 - q) = 40 * r + (i + (n - 1 - q)) by omega]
        · rw [k_up_oth (by omega)]; exact e2 x (by omega) hx
      · rw [k_up_oth (by omega)]; exact e3 b y (by omega)
    · intro st hss
      obtain ⟨w, K⟩ := st
      obtain ⟨e1, e2, e3⟩ := hss
      dsimp only at e1 e2 e3
      subst e1
      dsimp only
      unfold f_X5_copy_L104_b
      rw [if_pos (by rw [nI_leI (by omega) (by omega)]; omega), Ho_some_i]
      exact ⟨rfl, fun x hx => e2 x (by omega) hx, fun b y hb => e3 b y (by omega)⟩
theorem L_copy {I : StI} {L : StL} (h : Rel I L) (v1 v2 v3 v4 v5 : Int32) : Sm (f_X4_copy v1 v2 v3 v4 v5 I) (f_X5_copy v1 v2 v3 v4 v5) L := by
  by_cases hr : 0 ≤ v1.toInt ∧ v1.toInt < 6
  · by_cases hr2 : 0 ≤ v3.toInt ∧ v3.toInt < 6
    · obtain ⟨r, hr6, rfl⟩ := i_in hr.1 (show v1.toInt < (6 : Nat) from hr.2)
      obtain ⟨s, hs6, rfl⟩ := i_in hr2.1 (show v3.toInt < (6 : Nat) from hr2.2)
      have n6 : ∀ {T : Type} {o : Option T}, k_gd (nI r) 6 o = o := gd_n hr6 (by decide)
      have c6 : (nI r).toNatClampNeg = r := cl_n (by omega)
      have n62 : ∀ {T : Type} {o : Option T}, k_gd (nI s) 6 o = o := gd_n hs6 (by decide)
      have c62 : (nI s).toNatClampNeg = s := cl_n (by omega)
      by_cases h0 : (0 : Int32) ≤ v5
      · have h0' : 0 ≤ v5.toInt := by rw [i_le] at h0; exact h0
        obtain ⟨a1, a2, a3⟩ := h.1 r hr6
        obtain ⟨b1, b2, b3⟩ := h.1 s hs6
        have cA : f_X4_copy (nI r) v2 (nI s) v4 v5 I = (if I 8 r = -1 then f_X4_copy_j47 I else if I 8 s = -1 then f_X4_copy_j47 I else Option.bind (f_X4_hasPlaces (I 8 r) v2 v5) (fun t15 => (if t15 = 0 then f_X4_copy_j84 I else Option.bind (f_X4_hasPlaces (I 8 s) v4 v5) (fun t21 => (if t21 = 0 then f_X4_copy_j84 I else k_acp v2 v4 v5 40 40 (some (1, k_cpA I (k_rq r) (k_rq s) v2.toNatClampNeg v4.toNatClampNeg v5.toNatClampNeg)))))) ) := by
          unfold f_X4_copy
          rw [C_isRow, if_pos hr, C_isRow, if_pos hr2]
          simp only [Option.bind_some, n6, c6, n62, c62, k_let]
          rw [if_neg (by decide), if_neg (by decide), if_pos h0]
        have mA : ∀ J : StI, f_X5_copy (nI r) v2 (nI s) v4 v5 J = (if J 64 r < 0 then f_X5_copy_j45 J else if 0 ≤ J 64 s then (if v2 < 0 then f_X5_copy_j95 J else (if v4 < 0 then f_X5_copy_j95 J else (if 0 < lg_cmp (v2.toInt64 + v5.toInt64) (J 64 r).toInt64 then f_X5_copy_j95 J else (if lg_cmp (v4.toInt64 + v5.toInt64) (J 64 s).toInt64 ≤ 0 then f_X5_copy_L104 (nI r) v2 (nI s) v4 v5 k_fu 0 J else f_X5_copy_j95 J)))) else f_X5_copy_j45 J) := by
          intro J
          unfold f_X5_copy
          rw [M_isRow, if_pos hr, M_isRow, if_pos hr2]
          simp only [Option.bind_some, n6, c6, n62, c62]
          rw [if_neg (by decide), if_neg (by decide), if_pos h0]
        have hne : ∀ k, k ≤ 40 → ¬ nI k = -1 := fun k hk => by rw [i_eq, i_n (by omega), show (-1 : Int32).toInt = -1 from rfl]; omega
        have hnl : ∀ k, k ≤ 40 → ¬ nI k < 0 := fun k hk => by rw [i_lt, i_n (by omega)]; simp only [Int32.reduceToInt]; omega
        rcases sz_cases (M := 40) a1 with es | ⟨k, hk, es⟩
        · refine Sm_found h 1 (by decide) (by decide) ?_ (fun J hJ => ?_)
          · rw [cA, es, if_pos rfl]
            exact bind_eta
          · rw [mA, hJ 64 r (by decide), a2, es, if_pos (by decide)]
            exact bind_eta
        · rcases sz_cases (M := 40) b1 with es2 | ⟨k2, hk2, es2⟩
          · refine Sm_found h 1 (by decide) (by decide) ?_ (fun J hJ => ?_)
            · rw [cA, es, if_neg (hne k hk), es2, if_pos rfl]
              exact bind_eta
            · rw [mA, hJ 64 r (by decide), a2, es, if_neg (hnl k hk), hJ 64 s (by decide), b2, es2, if_neg (by decide)]
              exact bind_eta
          · by_cases hp : (0 ≤ v2.toInt ∧ v2.toInt + v5.toInt ≤ k) ∧ (0 ≤ v4.toInt ∧ v4.toInt + v5.toInt ≤ k2)
            · obtain ⟨⟨p1, p2⟩, p3, p4⟩ := hp
              obtain ⟨i, hi, rfl⟩ := i_in (n := 41) p1 (by omega)
              obtain ⟨j, hj, rfl⟩ := i_in (n := 41) p3 (by omega)
              obtain ⟨n, hn, rfl⟩ := i_in (n := 41) h0' (by omega)
              rw [i_n (by omega), i_n (by omega)] at p2 p4
              unfold Sm
              rw [cA, es, if_neg (hne k hk), es2, if_neg (hne k2 hk2), C_hasPl hk h0', if_pos (by rw [i_n (by omega), i_n (by omega)]; omega)]
              simp only [Option.bind_some]
              rw [if_neg (by decide), C_hasPl hk2 h0', if_pos (by rw [i_n (by omega), i_n (by omega)]; omega)]
              simp only [Option.bind_some]
              rw [if_neg (by decide)]
              unfold k_acp
              rw [cl_n (by omega), cl_n (by omega), cl_n (by omega), if_pos ⟨hnl i (by omega), hnl j (by omega), hnl n (by omega), by omega, by omega⟩, Ho_some_i]
              show Ho (f_X5_copy (nI r) (nI i) (nI s) (nI j) (nI n) (k_cpA I (k_rq r) (k_rq s) i j n)) _
              have o1 : ∀ b y, b ≠ k_rq s → k_cpA I (k_rq r) (k_rq s) i j n b y = I b y := fun b y hb => by simp [k_cpA, hb]
              rw [mA, o1 64 r (by unfold k_rq; omega), a2, es, if_neg (hnl k hk), o1 64 s (by unfold k_rq; omega), b2, es2, if_pos (nI_ge0 (by omega)), if_neg (hnl i (by omega)), if_neg (hnl j (by omega)), if_neg (by rw [M_cmpPl hk, i_n (by omega), i_n (by omega)]; omega), if_pos (by rw [M_cmpPl2 hk2, i_n (by omega), i_n (by omega)]; omega)]
              refine (M_copyL hr6 hs6 (by omega) (by omega)).mono (fun u hu => ⟨hu.1.symm, ?_⟩)
              have hq : ∀ x, k_cpA I (k_rq r) (k_rq s) i j n (k_rq s) x = if j ≤ x ∧ x < j + n then I (k_rq r) (i + (x - j)) else I (k_rq s) x := fun x => by simp [k_cpA, va_cpy]
              have ox : ∀ b y, b ≠ 65 → b ≠ k_rq s → u.2 b y = I b y := fun b y g1 g2 => by rw [hu.2.2 b y (by omega), o1 b y g2]
              have main : Rw u.2 := by
                intro r' hr'
                obtain ⟨d1, d2, d3⟩ := h.1 r' hr'
                rw [ox 8 r' (by omega) (by unfold k_rq; omega), ox 64 r' (by omega) (by unfold k_rq; omega)]
                refine ⟨d1, d2, fun x hx => ?_⟩
                by_cases e : r' = s
                · subst e
                  rw [hu.2.2 (k_rq r') x (by unfold k_rq; omega), hq]
                  by_cases hin : j ≤ x ∧ x < j + n
                  · rw [if_pos hin]
                    have := hu.2.1 (x - j) (by omega)
                    rw [show j + (x - j) = x by omega] at this
                    rw [this, o1 65 _ (by unfold k_rq; omega)]
                    exact a3 (i + (x - j)) (by omega)
                  · rw [if_neg hin, hu.2.2 65 _ (by omega), o1 65 _ (by unfold k_rq; omega)]
                    exact d3 x hx
                · rw [hu.2.2 65 _ (by omega), o1 65 _ (by unfold k_rq; omega), ox (k_rq r') x (by unfold k_rq; omega) (by unfold k_rq; omega)]
                  exact d3 x hx
              exact ⟨main, h.2.1.ag (fun b y hb => ox b y (by unfold sTx at hb; omega) (by unfold sTx at hb; unfold k_rq; omega)), h.2.2.1.ag (fun b y hb => ox b y (by unfold sTd at hb; omega) (by unfold sTd at hb; unfold k_rq; omega)), h.2.2.2.ag (fun b y hb => ox b y (by unfold sHs at hb; omega) (by unfold sHs at hb; unfold k_rq; omega))⟩
            · refine Sm_found h 2 (by decide) (by decide) ?_ (fun J hJ => ?_)
              · rw [cA, es, if_neg (hne k hk), es2, if_neg (hne k2 hk2), C_hasPl hk h0', C_hasPl hk2 h0']
                simp only [Option.bind_some]
                by_cases q1 : 0 ≤ v2.toInt ∧ v2.toInt + v5.toInt ≤ k
                · rw [if_pos q1, if_neg (by decide), if_neg (fun z => hp ⟨q1, z⟩), if_pos rfl]
                  exact bind_eta
                · rw [if_neg q1, if_pos rfl]
                  exact bind_eta
              · rw [mA, hJ 64 r (by decide), a2, es, if_neg (hnl k hk), hJ 64 s (by decide), b2, es2, if_pos (nI_ge0 (by omega))]
                have fin : f_X5_copy_j95 J = f_X5_found (nI 2) J := bind_eta
                by_cases q1 : v2 < 0
                · rw [if_pos q1]; exact fin
                · rw [if_neg q1]
                  by_cases q2 : v4 < 0
                  · rw [if_pos q2]; exact fin
                  · rw [if_neg q2]
                    by_cases q3 : 0 < lg_cmp (v2.toInt64 + v5.toInt64) (nI k).toInt64
                    · rw [if_pos q3]; exact fin
                    · rw [if_neg q3]
                      by_cases q4 : lg_cmp (v4.toInt64 + v5.toInt64) (nI k2).toInt64 ≤ 0
                      · exfalso
                        rw [i_lt] at q1 q2
                        simp only [Int32.reduceToInt] at q1 q2
                        rw [M_cmpPl hk] at q3
                        rw [M_cmpPl2 hk2] at q4
                        exact hp ⟨⟨by omega, by omega⟩, by omega, q4⟩
                      · rw [if_neg q4]; exact fin
      · refine Sm_found h 5 (by decide) (by decide) ?_ (fun J hJ => ?_)
        · unfold f_X4_copy
          rw [C_isRow, if_pos hr, C_isRow, if_pos hr2]
          simp only [Option.bind_some, bind_eta]
          rw [if_neg (by decide), if_neg (by decide), if_neg h0]
          rfl
        · unfold f_X5_copy
          rw [M_isRow, if_pos hr, M_isRow, if_pos hr2]
          simp only [Option.bind_some, bind_eta]
          rw [if_neg (by decide), if_neg (by decide), if_neg h0]
          rfl
    · refine Sm_same h (-1) ?_ ?_
      · unfold f_X4_copy
        rw [C_isRow, if_pos hr, C_isRow, if_neg hr2]
        rfl
      · unfold f_X5_copy
        rw [M_isRow, if_pos hr, M_isRow, if_neg hr2]
        rfl
  · refine Sm_same h (-1) ?_ ?_
    · unfold f_X4_copy
      rw [C_isRow, if_neg hr]
      rfl
    · unfold f_X5_copy
      rw [M_isRow, if_neg hr]
      rfl
