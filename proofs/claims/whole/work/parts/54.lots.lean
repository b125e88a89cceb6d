/-! lots -/
theorem nL_I {k : Nat} (h : k < 2147483648) : (nL k).toInt32 = nI k := by
  rw [← nI_L h]
  simp
theorem nL_div {a b : Nat} (ha : a < 2 ^ 63) (hb : b < 2 ^ 63) : nL a / nL b = nL (a / b) := (Int64.ofNat_div ha hb).symm
def ltN (seed : Nat) : Nat → Nat
  | 0 => seed
  | q + 1 => 48271 * ltN seed q % 2147483647
theorem ltN_lt {seed : Nat} (h : seed < 2147483647) : ∀ q, ltN seed q < 2147483647
  | 0 => h
  | q + 1 => Nat.mod_lt _ (by decide)
def dlt (n y : Nat) : Dd := if y % 8 = 0 then (2, nI (y / 8 % 8), 0) else if y % 8 = 1 then (5, nI (y / 8 % n), 0) else (1, 0, 0)
def eL (n seed : Nat) (ds : List Dd) : Nat → List Dd
  | 0 => ds
  | q + 1 => eL n seed ds q ++ [dlt n (ltN seed (q + 1))]
theorem eL_len {n seed : Nat} {ds : List Dd} : ∀ q, (eL n seed ds q).length = ds.length + q
  | 0 => rfl
  | q + 1 => by
    show (eL n seed ds q ++ [dlt n (ltN seed (q + 1))]).length = _
    rw [List.length_append, eL_len q]
    rfl
theorem DV_dlt {n y : Nat} (h0 : 0 < n) : DV n (dlt n y) := by
  unfold dlt
  by_cases h1 : y % 8 = 0
  · rw [if_pos h1]; exact DV_2 (Nat.mod_lt _ (by decide))
  · rw [if_neg h1]
    by_cases h2 : y % 8 = 1
    · rw [if_pos h2]; exact DV_5 (Nat.mod_lt _ h0)
    · rw [if_neg h2]; exact DV_1
theorem DL_eL {n seed : Nat} {ds : List Dd} (h0 : 0 < n) (hl : DL n ds) : ∀ q, ds.length + q ≤ 40 → DL n (eL n seed ds q)
  | 0, _ => hl
  | q + 1, hq => DL_app (by omega) (DL_eL h0 hl q (by omega)) (by rw [eL_len]; omega) (DV_dlt h0)
theorem C_lot {I I1 : StI} {n y : Nat} {fa : AH} {ds : List Dd} (h1 : GV n 0 fa) (h0 : 0 < n) (hl : DL n ds) (hlt : ds.length < 40) (hy : y < 2147483647) (hc : Ca I I1 n fa ds) : Ho (f_X4_doDeedOfLot (nI y) I1) (fun I2 => Ca I I2 n fa (ds ++ [dlt n y])) := by
  have hn := h1.1.1
  have h24 : I1 24 1 = nI n := hc.2.1.1
  have hst : ¬ 99 ≤ I1 24 4 := by
    have := HC_0 (AV_rep h1 hl).1 (by decide) hc.2.1
    rw [i_lt] at this
    rw [i_le]
    omega
  have hDV := DV_dlt (n := n) (y := y) h0
  unfold f_X4_doDeedOfLot f_X4_doDeedOfLot_j60
  rw [show (8 : Int32) = nI 8 from rfl, pk_rem (by omega) (by decide) (by decide), pk_div (by omega) (by decide) (by decide)]
  refine Ho_let_i.mpr (Ho_let_i.mpr ?_)
  unfold dlt at hDV ⊢
  have hd8 : y / 8 < 2147483648 := by omega
  by_cases e0 : y % 8 = 0
  · rw [if_pos (by rw [e0]; rfl), pk_rem (by omega) (by decide) (by decide)]
    rw [if_pos e0] at hDV ⊢
    exact Ho_bm (Ca_step h1 hl hlt hDV hc) (fun I2 hp => Ho_s hp)
  · rw [if_neg (k_ne0 (by omega) (by omega))]
    rw [if_neg e0] at hDV ⊢
    by_cases e1 : y % 8 = 1
    · rw [if_pos (by rw [e1]; rfl), h24, if_neg (nI_nle h0 (by omega)), pk_rem (by omega) h0 (by omega)]
      rw [if_pos e1] at hDV ⊢
      unfold k_nz
      rw [if_neg (k_ne0 h0 (by omega))]
      exact Ho_bm (Ca_step h1 hl hlt hDV hc) (fun I2 hp => Ho_s hp)
    · rw [if_neg (by rw [show (1 : Int32) = nI 1 from rfl, nI_eq (by omega) (by omega)]; exact e1), if_neg hst]
      rw [if_neg e1] at hDV ⊢
      exact Ho_bm (Ca_step h1 hl hlt hDV hc) (fun I2 hp => Ho_s hp)
theorem C_lotsL {I : StI} {n N seed : Nat} {fa : AH} {ds : List Dd} (h1 : GV n 0 fa) (h0 : 0 < n) (hl : DL n ds) (hN : ds.length + N ≤ 40) (hs : seed < 2147483647) (hc : Ca I I n fa ds) : Ho (f_X4_lots_L57 (nI N) k_fu (nL seed) 0 I) (fun t => t.1 = rep n (eL n seed ds N) fa 1 ∧ Ca I t.2 n fa (eL n seed ds N)) := by
  unfold f_X4_lots_L57
  refine Ho_loop0 (fun q x => x.1 = nL (ltN seed q) ∧ x.2.1 = nI q ∧ Ca I x.2.2 n fa (eL n seed ds q)) N (by omega) ?_ ?_ _ ⟨rfl, rfl, hc⟩
  · intro q x hq hx
    obtain ⟨v, w, J⟩ := x
    obtain ⟨e0, e1, e2⟩ := hx
    dsimp only at e0 e1 e2
    subst e0 e1
    dsimp only
    have hlq := ltN_lt hs q
    have hlq1 := ltN_lt hs (q + 1)
    unfold f_X4_lots_L57_b
    rw [if_neg (by rw [nI_leI (by omega) (by omega)]; omega), show (48271 : Int64) = nL 48271 from rfl, show (2147483647 : Int64) = nL 2147483647 from rfl, nL_mul, nL_rem (by omega) (by decide)]
    refine Ho_let_i.mpr ?_
    rw [show nL (48271 * ltN seed q % 2147483647) = nL (ltN seed (q + 1)) from rfl, nL_I (by omega)]
    refine Ho_bm (C_lot h1 h0 (DL_eL h0 hl q (by omega)) (by rw [eL_len]; omega) hlq1 e2) (fun I2 hp => ?_)
    unfold k_let
    rw [nI_1]
    exact Ho_s ⟨rfl, rfl, hp⟩
  · intro x hx
    obtain ⟨v, w, J⟩ := x
    obtain ⟨e0, e1, e2⟩ := hx
    dsimp only at e0 e1 e2
    subst e0 e1
    dsimp only
    unfold f_X4_lots_L57_b
    rw [if_pos (by rw [nI_leI (by omega) (by omega)]; omega)]
    exact Ho_s ⟨e2.2.1.2.2.2.2.1, e2⟩
theorem M_lotsL {J J1 : StI} {n N seed : Nat} {fa : AH} {ds : List Dd} (h1 : GV n 0 fa) (h0 : 0 < n) (hl : DL n ds) (hN : ds.length + N ≤ 40) (hs : seed < 2147483647) (hM : Ma J J1 n fa ds) (hk : KM J1 72 fa n) (h4 : J 63 4 = nI n) (hr : RM J fa n) : Ho (f_X5_lots_L60 (nI N) k_fu (nL seed) 0 J1) (fun t => t.1 = rep n (eL n seed ds N) fa 1 ∧ Ma J t.2 n fa (eL n seed ds N)) := by
  have hn := h1.1.1
  unfold f_X5_lots_L60
  refine Ho_loop0 (fun q x => x.1 = nL (ltN seed q) ∧ x.2.1 = nI q ∧ Ma J x.2.2 n fa (eL n seed ds q) ∧ KM x.2.2 72 fa n) N (by omega) ?_ ?_ _ ⟨rfl, rfl, hM, hk⟩
  · intro q x hq hx
    obtain ⟨v, w, K⟩ := x
    obtain ⟨e0, e1, e2, e3⟩ := hx
    dsimp only at e0 e1 e2 e3
    subst e0 e1
    dsimp only
    have hlq := ltN_lt hs q
    have hlq1 := ltN_lt hs (q + 1)
    have hDq := DL_eL (seed := seed) h0 hl q (by omega)
    have hlen : (eL n seed ds q).length = ds.length + q := eL_len q
    have hgq := AV_rep h1 hDq
    unfold f_X5_lots_L60_b
    rw [if_neg (by rw [nI_leI (by omega) (by omega)]; omega), show (48271 : Int64) = nL 48271 from rfl, show (2147483647 : Int64) = nL 2147483647 from rfl, nL_mul, nL_rem (by omega) (by decide)]
    refine Ho_let_i.mpr ?_
    rw [show nL (ltN seed q * 48271 % 2147483647) = nL (ltN seed (q + 1)) by rw [Nat.mul_comm]; rfl]
    have hnx : eL n seed ds (q + 1) = eL n seed ds q ++ [dlt n (ltN seed (q + 1))] := rfl
    rw [hnx]
    generalize ltN seed (q + 1) = y at *
    have hd8 : y / 8 < 2147483648 := by omega
    rw [show (8 : Int64) = nL 8 from rfl, nL_rem (by omega) (by decide), nL_div (by omega) (by decide), nL_rem (by omega) (by decide), nL_I (by omega), nL_I (by omega)]
    refine Ho_let_i.mpr ?_
    refine Ho_bm (M_rem (l := (eL n seed ds q).length) (by omega) e2.2.2.1) (fun K2 hp => ?_)
    obtain ⟨r1, r2, r3, r4⟩ := hp
    have hM2 : HM K2 70 0 (rep n (eL n seed ds q) fa) := e2.1.ag (fun k => r4 70 k (by decide) (by omega))
    have h42 : K2 63 4 = nI n := by rw [r4 63 4 (by decide) (by decide), e2.2.2.2 63 4 (by unfold sMd; omega)]; exact h4
    have hk2 : KM K2 72 fa n := fun i hi => by rw [r4 72 i (by decide) (by omega)]; exact e3 i hi
    by_cases c0 : y % 8 = 0
    · have hd : dlt n y = (2, nI (y / 8 % 8), 0) := by unfold dlt; rw [if_pos c0]
      rw [if_pos (by rw [c0]; rfl), hd, g_3, g_3, n_3]
      unfold k_let
      rw [nI_1]
      have e33 : K2 70 3 = rep n (eL n seed ds q) fa 3 := by have := hM2 3 (by decide); rwa [Nat.zero_add] at this
      rw [e33]
      refine Ho_s ⟨rfl, rfl, Ma_step e2 r1 r2 r3 r4 (by rw [dAp_2]; exact HMh_upd hM2) (fun b k hb => k_up_oth (fun z => hb (Or.inl z.1))), fun i hi => ?_⟩
      show k_up K2 70 3 (rep n (eL n seed ds q) fa 3 ^^^ ((1 : Int32) <<< (nI (y / 8 % 8) &&& 31))) 72 i = fa (40 + i)
      rw [k_up_oth (by omega)]
      exact hk2 i hi
    · rw [if_neg (k_ne0 (by omega) (by omega))]
      by_cases c1 : y % 8 = 1
      · have hd : dlt n y = (5, nI (y / 8 % n), 0) := by unfold dlt; rw [if_neg c0, if_pos c1]
        have hin : y / 8 % n < n := Nat.mod_lt _ h0
        rw [if_pos (by rw [c1]; rfl), hd, h42, nI_L (by omega), nL_rem (by omega) (by omega), nL_I (by omega)]
        unfold k_nzL
        rw [if_neg (by rw [nL_z (by omega)]; omega)]
        refine Ho_bm (M_resets (i := y / 8 % n) (by omega) hM2 ?_) (fun K3 hp3 => ?_)
        · rw [r4 69 _ (by decide) (by omega), e2.2.2.2 69 _ (by unfold sMd; omega), rep_hi hn hDq.2.1 (by omega)]
          exact hr _ hin
        · unfold k_let
          rw [nI_1]
          refine Ho_s ⟨rfl, rfl, Ma_step e2 r1 r2 r3 r4 (by rw [dAp_5 (by omega)]; exact hp3.1) (fun b k hb => hp3.2 b k (fun z => hb (Or.inl z))), fun i hi => ?_⟩
          show K3 72 i = _
          rw [hp3.2 72 i (by decide)]
          exact hk2 i hi
      · have hd : dlt n y = (1, 0, 0) := by unfold dlt; rw [if_neg c0, if_neg c1]
        have e00 : K2 70 0 = rep n (eL n seed ds q) fa 0 := by have := hM2 0 (by decide); rwa [Nat.zero_add] at this
        rw [if_neg (by rw [show (1 : Int32) = nI 1 from rfl, nI_eq (by omega) (by omega)]; exact c1), hd, g_0, n_0, if_neg (by
          rw [e00, i_le]
          have := hgq.1.2.1
          simp only [Int32.reduceToInt]
          omega), M_isUp (Or.inl rfl) (by decide) hgq.1 hM2]
        refine Ho_b1 ?_
        refine Ho_bm (M_goes (u := 0) (up := upv (rep n (eL n seed ds q) fa)) (Or.inl rfl) hgq.1 hM2 (fun i hi => by rw [rep_hi hn hDq.2.1 (by omega)]; exact hk2 i hi) h42) (fun t ht => ?_)
        obtain ⟨tv, tJ⟩ := t
        obtain ⟨t1, t2, -, -, t4⟩ := ht
        dsimp only at t1 t2 t4 ⊢
        unfold k_let
        rw [nI_1]
        refine Ho_s ⟨rfl, rfl, Ma_step e2 r1 r2 r3 r4 (by rw [dAp_1]; exact t2) (fun b k hb => t4 b k (by unfold sMe at hb; omega) (by unfold sMe at hb; omega)), fun i hi => ?_⟩
        show tJ 72 i = _
        rw [t4 72 i (by decide) (by omega)]
        exact hk2 i hi
  · intro x hx
    obtain ⟨v, w, K⟩ := x
    obtain ⟨e0, e1, e2, e3⟩ := hx
    dsimp only at e0 e1 e2 e3
    subst e0 e1
    dsimp only
    unfold f_X5_lots_L60_b
    rw [if_pos (by rw [nI_leI (by omega) (by omega)]; omega), g_1, n_1]
    refine Ho_s ⟨?_, e2⟩
    have := e2.1 1 (by decide)
    rwa [Nat.zero_add] at this
theorem L_lots {I : StI} {L : StL} (h : Rel I L) (v1 v2 : Int32) : Sm (f_X4_lots v1 v2 I) (f_X5_lots v1 v2) L := by
  obtain ⟨n, fa, ds, hx⟩ := h.2.2.2
  obtain ⟨hg, hc, h7, hm, h4, hk, hrm, -⟩ := hx.vw
  have hn := hg.1.1
  have hl := hx.2.1
  have hl40 := hl.1
  have h42 : I 42 3 = nI ds.length := hx.ca.1.1
  have h11 : I 63 11 = nI ds.length := (hx.ma (J := I) (fun _ _ _ => rfl)).2.2.1
  have min : f_X5_in v1.toInt64 (1 : Int64) (20 : Int64) = some (if 1 ≤ v1.toInt ∧ v1.toInt ≤ 20 then 1 else 0) := by
    rw [show (1 : Int64) = (1 : Int32).toInt64 from rfl, show (20 : Int64) = (20 : Int32).toInt64 from rfl, in_i]
    rfl
  have min2 : f_X5_in v2.toInt64 (1 : Int64) (2147483646 : Int64) = some (if 1 ≤ v2.toInt ∧ v2.toInt ≤ 2147483646 then 1 else 0) := by
    rw [show (1 : Int64) = (1 : Int32).toInt64 from rfl, show (2147483646 : Int64) = (2147483646 : Int32).toInt64 from rfl, in_i]
    rfl
  have cmp : (lg_cmp v2.toInt64 (2147483647 : Int64) < 0) ↔ v2.toInt < 2147483647 := by
    rw [lg_cmp_lt, Int64.lt_iff_toInt_lt, Int32.toInt_toInt64]
    rfl
  by_cases h1 : 1 ≤ v1.toInt ∧ v1.toInt ≤ 20
  · have c1 : ¬ v1 < 1 := by rw [i_lt]; simp only [Int32.reduceToInt]; omega
    have c2 : ¬ 20 < v1 := by rw [i_lt]; simp only [Int32.reduceToInt]; omega
    by_cases h2 : 1 ≤ v2.toInt ∧ v2.toInt ≤ 2147483646
    · have c3 : ¬ v2 < 1 := by rw [i_lt]; simp only [Int32.reduceToInt]; omega
      have c4 : lg_cmp v2.toInt64 (2147483647 : Int64) < 0 := cmp.mpr (by omega)
      by_cases h0 : n = 0
      · subst h0
        refine Sm_same h (-4) ?_ ?_
        · unfold f_X4_lots
          rw [if_neg c1, if_neg c2, if_neg c3, if_pos c4, if_pos (by rw [hc.1]; rfl)]
        · unfold f_X5_lots
          rw [min, if_pos h1, Option.bind_some, if_neg (by decide), min2, if_pos h2, Option.bind_some, if_neg (by decide), if_pos (by rw [h4]; rfl)]
      · have hz : ¬ I 24 1 = 0 := by rw [hc.1]; exact k_ne0 (by omega) (by omega)
        have hz4 : ∀ J : StI, (∀ b k, 63 ≤ b → J b k = I b k) → ¬ J 63 4 = 0 := fun J hJ => by rw [hJ 63 4 (by decide), h4]; exact k_ne0 (by omega) (by omega)
        obtain ⟨N, hN, rfl⟩ := i_in (n := 21) (by omega : 0 ≤ v1.toInt) (by omega)
        obtain ⟨sd, hsd, rfl⟩ := i_in (n := 2147483647) (by omega : 0 ≤ v2.toInt) (by omega)
        by_cases hlt : ds.length + N ≤ 40
        · refine Sm_deeds h hx (DL_eL (seed := sd) (by omega) hl N hlt) (rep n (eL n sd ds N) fa 1) ?_ (fun J hJ => ?_)
          · unfold f_X4_lots
            rw [if_neg c1, if_neg c2, if_neg c3, if_pos c4, if_neg hz, C_full h42 hl40 (by omega), if_pos hlt]
            refine Ho_b1 ?_
            rw [if_pos rfl, nI_L (by omega)]
            refine Ho_let_i.mpr ?_
            exact C_lotsL hx.1 (by omega) hl hlt hsd hx.ca
          · unfold f_X5_lots
            rw [min, if_pos h1]
            refine Ho_b1 (Ho_n0 ?_)
            rw [min2, if_pos h2]
            refine Ho_b1 (Ho_n0 ?_)
            rw [if_neg (hz4 J hJ), hJ 63 11 (by decide), h11, nI_add, if_pos (by rw [show (40 : Int32) = nI 40 from rfl, nI_leI (by omega) (by omega)]; exact hlt)]
            have hx4 := hx
            obtain ⟨x1, x2, x3, x4, x5, x6, x7, x8, x9, x10, x11, x12, x13⟩ := hx4
            refine Ho_bm (M_kin (I := J) (n := n) (a := fa) hn (fun i hi => by rw [hJ 68 i (by decide)]; exact x4 i hi)) (fun J1 hp1 => ?_)
            rw [nI_L (by omega)]
            refine Ho_let_i.mpr ?_
            obtain ⟨m1, m2, m3, m4⟩ := hx.ma hJ
            have hM1 : Ma J J1 n fa ds := ⟨m1.ag (fun k => hp1.2.2 70 k (by decide)), fun d hd => (m2 d hd).ag (fun k => hp1.2.2 73 k (by decide)), by rw [hp1.2.2 63 11 (by decide)]; exact m3, fun b k hb => hp1.2.2 b k (by unfold sMd at hb; omega)⟩
            exact M_lotsL hx.1 (by omega) hl hlt hsd hM1 hp1.1 (by rw [hJ 63 4 (by decide)]; exact h4) (fun i hi => by rw [hJ 69 i (by decide)]; exact x5 i hi)
        · refine Sm_same h (-2) ?_ ?_
          · unfold f_X4_lots
            rw [if_neg c1, if_neg c2, if_neg c3, if_pos c4, if_neg hz, C_full h42 hl40 (by omega), if_neg hlt, Option.bind_some, if_neg (by decide)]
          · unfold f_X5_lots
            rw [min, if_pos h1, Option.bind_some, if_neg (by decide), min2, if_pos h2, Option.bind_some, if_neg (by decide), if_neg (hz4 I (fun _ _ _ => rfl)), h11, nI_add, if_neg (by rw [show (40 : Int32) = nI 40 from rfl, nI_leI (by omega) (by omega)]; exact hlt)]
    · refine Sm_same h (-1) ?_ ?_
      · unfold f_X4_lots
        rw [if_neg c1, if_neg c2]
        by_cases q : v2 < 1
        · rw [if_pos q]
        · rw [if_neg q, if_neg (by rw [cmp]; rw [i_lt] at q; simp only [Int32.reduceToInt] at q; omega)]
      · unfold f_X5_lots
        rw [min, if_pos h1, Option.bind_some, if_neg (by decide), min2, if_neg h2, Option.bind_some, if_pos rfl]
  · refine Sm_same h (-1) ?_ ?_
    · unfold f_X4_lots
      by_cases q : v1 < 1
      · rw [if_pos q]
      · rw [if_neg q, if_pos (by rw [i_lt] at q ⊢; simp only [Int32.reduceToInt] at q ⊢; omega)]
    · unfold f_X5_lots
      rw [min, if_neg h1, Option.bind_some, if_pos rfl]
