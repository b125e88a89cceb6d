/-! step, flip, room, limit, reset -/
theorem lit40 {l : Nat} (h : l < 40) : ¬ nI l = 40 := by
  rw [show (40 : Int32) = nI 40 from rfl, nI_eq (by omega) (by omega)]
  omega
theorem C_full1 {I : StI} {l : Nat} (h : I 42 3 = nI l) (hl : l ≤ 40) (_h : 1 ≤ 40) : f_X4_isFullWith 1 I = some (if l + 1 ≤ 40 then 0 else 1) := C_full (m := 1) h hl (by decide)
/-- one deed on the reference's side -/
theorem M_one {J : StI} {n : Nat} {fa : AH} {ds : List Dd} {d : Dd} {g : StI → Option (Int32 × StI)} {R : Int32} (hM : Ma J J n fa ds) (hlt : ds.length < 40) (hg : ∀ J2 : StI, HM J2 70 0 (rep n ds fa) → (∀ b k, b ≠ 73 → ¬ (b = 63 ∧ k = 11) → J2 b k = J b k) → Ho (g J2) (fun u => u.1 = R ∧ HM u.2 70 0 (dAp n d (rep n ds fa)) ∧ ∀ b k, ¬ sMe b k → u.2 b k = J2 b k)) : Ho (Option.bind (f_X5_remembers J) g) (fun u => u.1 = R ∧ Ma J u.2 n fa (ds ++ [d])) := by
  refine Ho_bm (M_rem hlt hM.2.2.1) (fun J2 hp => ?_)
  refine (hg J2 (hM.1.ag (fun k => hp.2.2.2 70 k (by decide) (by omega))) hp.2.2.2).mono (fun u hu => ?_)
  exact ⟨hu.1, Ma_step hM hp.1 hp.2.1 hp.2.2.1 hp.2.2.2 hu.2.1 hu.2.2⟩
theorem HC_0 {I : StI} {n m : Nat} {a : AH} (hv : AV n m a) (hm : m ≤ 98) (hc : HC I 24 a n) : I 24 4 < 99 := by
  rw [hc.2.2.2.1, i_lt]
  have := hv.2.1
  simp only [Int32.reduceToInt]
  omega
theorem L_step {I : StI} {L : StL} (h : Rel I L) : Sm (f_X4_step I) f_X5_step L := by
  obtain ⟨n, fa, ds, hx⟩ := h.2.2.2
  obtain ⟨hg, hc, h7, hm, h4, hk, hrm, -⟩ := hx.vw
  have hn := hg.1.1
  have hl := hx.2.1
  have h42 : I 42 3 = nI ds.length := hx.ca.1.1
  have h11 : I 63 11 = nI ds.length := (hx.ma (J := I) (fun _ _ _ => rfl)).2.2.1
  have e0 : ∀ J : StI, (∀ b k, 63 ≤ b → J b k = I b k) → ¬ J 70 0 = 99 := by
    intro J hJ z
    have e := hm 0 (by decide)
    rw [Nat.zero_add] at e
    rw [hJ 70 0 (by decide), e] at z
    have := hg.1.2.1
    rw [z] at this
    exact absurd this.2 (by decide)
  by_cases h0 : n = 0
  · subst h0
    refine Sm_same h (-4) ?_ ?_
    · unfold f_X4_step
      rw [if_pos (by rw [hc.1]; rfl)]
    · unfold f_X5_step
      rw [if_pos (by rw [h4]; rfl)]
  · have hz : ¬ I 24 1 = 0 := by rw [hc.1]; exact k_ne0 (by omega) (by omega)
    have hz4 : ∀ J : StI, (∀ b k, 63 ≤ b → J b k = I b k) → ¬ J 63 4 = 0 := fun J hJ => by rw [hJ 63 4 (by decide), h4]; exact k_ne0 (by omega) (by omega)
    by_cases hlt : ds.length < 40
    · have hd : DV n ((1 : Int32), (0 : Int32), (0 : Int32)) := DV_1
      refine Sm_deeds h hx (DL_app h0 hl hlt hd) (sr n 0 (upv (rep n ds fa)) (rep n ds fa)) ?_ (fun J hJ => ?_)
      · unfold f_X4_step
        rw [if_neg hz, if_pos (HC_0 hg.1 (by decide) hc), C_full1 h42 (by omega) (by decide), if_pos (by omega)]
        refine Ho_b1 ?_
        rw [if_pos rfl]
        refine Ho_let_i.mpr ?_
        refine Ho_bm (Ca_step hx.1 hl hlt hd hx.ca) (fun I2 hp => Ho_s ⟨?_, hp⟩)
        show I2 24 5 - I 24 5 = _
        rw [hp.2.1.2.2.2.2.1, hc.2.2.2.2.1, rep_app, dAp_1]
        unfold sr
        show (if wel n 0 (upv (rep n ds fa)) (rep n ds fa) = true then rep n ds fa 1 + pcn (wst n 0 (rep n ds fa)) else rep n ds fa 1) - rep n ds fa 1 = _
        by_cases hw : wel n 0 (upv (rep n ds fa)) (rep n ds fa) = true
        · rw [if_pos hw, if_pos hw, Int32.add_comm]
          exact Int32.add_sub_cancel _ _
        · rw [if_neg hw, if_neg hw]
          exact Int32.sub_self _
      · unfold f_X5_step
        rw [if_neg (hz4 J hJ), g_0, n_0, if_neg (e0 J hJ), if_neg (by rw [hJ 63 11 (by decide), h11]; exact lit40 hlt)]
        refine M_one (hx.ma hJ) hlt (fun J2 hM hF => ?_)
        refine Ho_bm (M_kin (I := J2) (n := n) (a := rep n ds fa) hn (fun i hi => by rw [hF 68 i (by decide) (by omega), hJ 68 i (by decide)]; exact hk i hi)) (fun J3 hp3 => ?_)
        have hM3 : HM J3 70 0 (rep n ds fa) := hM.ag (fun k => hp3.2.2 70 k (by decide))
        rw [M_isUp (Or.inl rfl) (by decide) hg.1 hM3]
        refine Ho_b1 ?_
        refine Ho_bm (M_goes (u := 0) (up := upv (rep n ds fa)) (Or.inl rfl) hg.1 hM3 hp3.1 (by rw [hp3.2.2 63 4 (by decide), hF 63 4 (by decide) (by decide), hJ 63 4 (by decide)]; exact h4)) (fun t ht => Ho_s ⟨ht.1, ?_, fun b k hb => ?_⟩)
        · rw [dAp_1]; exact ht.2.1
        · show t.2 b k = J2 b k
          unfold sMe at hb
          rw [ht.2.2.2.2 b k (by omega) (by omega), hp3.2.2 b k (by omega)]
    · refine Sm_same h (-2) ?_ ?_
      · unfold f_X4_step
        rw [if_neg hz, if_pos (HC_0 hg.1 (by decide) hc), C_full1 h42 (by have := hl.1; omega) (by decide), if_neg (by omega), Option.bind_some, if_neg (by decide)]
      · unfold f_X5_step
        rw [if_neg (hz4 I (fun _ _ _ => rfl)), g_0, n_0, if_neg (e0 I (fun _ _ _ => rfl)), if_pos (by rw [h11, show ds.length = 40 by have := hl.1; omega]; rfl)]
theorem L_flip {I : StI} {L : StL} (h : Rel I L) (v1 : Int32) : Sm (f_X4_flip v1 I) (f_X5_flip v1) L := by
  obtain ⟨n, fa, ds, hx⟩ := h.2.2.2
  obtain ⟨hg, hc, h7, hm, h4, hk, hrm, -⟩ := hx.vw
  have hn := hg.1.1
  have hl := hx.2.1
  have h42 : I 42 3 = nI ds.length := hx.ca.1.1
  have h11 : I 63 11 = nI ds.length := (hx.ma (J := I) (fun _ _ _ => rfl)).2.2.1
  have min : f_X5_in v1.toInt64 (0 : Int64) (7 : Int64) = some (if 0 ≤ v1.toInt ∧ v1.toInt ≤ 7 then 1 else 0) := by
    rw [show (0 : Int64) = (0 : Int32).toInt64 from rfl, show (7 : Int64) = (7 : Int32).toInt64 from rfl, in_i]
    rfl
  by_cases h2 : 0 ≤ v1.toInt ∧ v1.toInt ≤ 7
  · have c1 : ¬ v1 < 0 := by rw [i_lt]; simp only [Int32.reduceToInt]; omega
    have c2 : v1 < 8 := by rw [i_lt]; simp only [Int32.reduceToInt]; omega
    by_cases h0 : n = 0
    · subst h0
      refine Sm_same h (-4) ?_ ?_
      · unfold f_X4_flip
        rw [if_neg c1, if_pos c2, if_pos (by rw [hc.1]; rfl)]
      · unfold f_X5_flip
        rw [min, if_pos h2, Option.bind_some, if_neg (by decide), if_pos (by rw [h4]; rfl)]
    · have hz : ¬ I 24 1 = 0 := by rw [hc.1]; exact k_ne0 (by omega) (by omega)
      have hz4 : ∀ J : StI, (∀ b k, 63 ≤ b → J b k = I b k) → ¬ J 63 4 = 0 := fun J hJ => by rw [hJ 63 4 (by decide), h4]; exact k_ne0 (by omega) (by omega)
      by_cases hlt : ds.length < 40
      · obtain ⟨s, hs, rfl⟩ := i_in (n := 8) h2.1 (by omega)
        have hd : DV n ((2 : Int32), nI s, (0 : Int32)) := DV_2 hs
        obtain ⟨p, hp, h3⟩ := hg.2.1
        have hxr := pat_x0 ⟨p, hp⟩ ⟨s, hs⟩
        have hnew : dAp n ((2 : Int32), nI s, (0 : Int32)) (rep n ds fa) = upd (rep n ds fa) 3 (nI (p ^^^ 2 ^ s)) := by rw [dAp_2, h3, hxr]
        refine Sm_deeds h hx (DL_app h0 hl hlt hd) (pcn (nI (p ^^^ 2 ^ s))) ?_ (fun J hJ => ?_)
        · unfold f_X4_flip
          rw [if_neg c1, if_pos c2, if_neg hz, C_full1 h42 (by omega) (by decide), if_pos (by omega)]
          refine Ho_b1 ?_
          rw [if_pos rfl]
          refine Ho_bm (Ca_step hx.1 hl hlt hd hx.ca) (fun I2 hp2 => ?_)
          rw [pcn_eq]
          refine Ho_b1 (Ho_s ⟨?_, hp2⟩)
          show pcn (I2 24 3) = _
          rw [hp2.2.1.2.2.1, rep_app, hnew, upd_s]
        · unfold f_X5_flip
          rw [min, if_pos h2]
          refine Ho_b1 (Ho_n0 ?_)
          rw [if_neg (hz4 J hJ), if_neg (by rw [hJ 63 11 (by decide), h11]; exact lit40 hlt)]
          refine M_one (hx.ma hJ) hlt (fun J2 hM hF => ?_)
          have e3 : J2 70 3 = nI p := by have := hM 3 (by decide); rw [Nat.zero_add] at this; rw [this, h3]
          rw [g_3, g_3, n_3, e3, hxr]
          unfold k_let
          dsimp only
          rw [g_3, k_up_same, pat_bits0 ⟨p ^^^ 2 ^ s, xor256 hp hs⟩]
          refine Ho_b1 (Ho_s ⟨rfl, ?_, fun b k hb => ?_⟩)
          · rw [hnew]; exact HMh_upd hM
          · show k_up J2 70 3 _ b k = J2 b k
            rw [k_up_oth (fun z => hb (Or.inl z.1))]
      · refine Sm_same h (-2) ?_ ?_
        · unfold f_X4_flip
          rw [if_neg c1, if_pos c2, if_neg hz, C_full1 h42 (by have := hl.1; omega) (by decide), if_neg (by omega), Option.bind_some, if_neg (by decide)]
        · unfold f_X5_flip
          rw [min, if_pos h2, Option.bind_some, if_neg (by decide), if_neg (hz4 I (fun _ _ _ => rfl)), if_pos (by rw [h11, show ds.length = 40 by have := hl.1; omega]; rfl)]
  · refine Sm_same h (-1) ?_ ?_
    · unfold f_X4_flip
      by_cases q : v1 < 0
      · rw [if_pos q]
      · rw [if_neg q, if_neg (by rw [i_lt] at q ⊢; simp only [Int32.reduceToInt] at q ⊢; omega)]
    · unfold f_X5_flip
      rw [min, if_neg h2, Option.bind_some, if_pos rfl]
theorem L_room {I : StI} {L : StL} (h : Rel I L) (v1 : Int32) : Sm (f_X4_room v1 I) (f_X5_room v1) L := by
  obtain ⟨n, fa, ds, hx⟩ := h.2.2.2
  obtain ⟨hg, hc, h7, hm, h4, hk, hrm, -⟩ := hx.vw
  have hn := hg.1.1
  have hl := hx.2.1
  have h42 : I 42 3 = nI ds.length := hx.ca.1.1
  have h11 : I 63 11 = nI ds.length := (hx.ma (J := I) (fun _ _ _ => rfl)).2.2.1
  have e4 : I 70 4 = rep n ds fa 4 := by have := hm 4 (by decide); rwa [Nat.zero_add] at this
  by_cases h2 : 1 ≤ v1.toInt ∧ v1.toInt ≤ 9
  · by_cases h0 : n = 0
    · subst h0
      refine Sm_same h (-4) ?_ ?_
      · unfold f_X4_room
        rw [C_isFigure, if_pos h2, Option.bind_some, if_neg (by decide), if_pos (by rw [hc.1]; rfl)]
      · unfold f_X5_room
        rw [M_isNumber, if_pos h2, Option.bind_some, if_neg (by decide), if_pos (by rw [h4]; rfl)]
    · have hz : ¬ I 24 1 = 0 := by rw [hc.1]; exact k_ne0 (by omega) (by omega)
      have hz4 : ∀ J : StI, (∀ b k, 63 ≤ b → J b k = I b k) → ¬ J 63 4 = 0 := fun J hJ => by rw [hJ 63 4 (by decide), h4]; exact k_ne0 (by omega) (by omega)
      by_cases hsame : rep n ds fa 4 = v1
      · refine Sm_same h (-4) ?_ ?_
        · unfold f_X4_room
          rw [C_isFigure, if_pos h2, Option.bind_some, if_neg (by decide), if_neg hz, if_pos (by rw [hc.2.1]; exact hsame)]
        · unfold f_X5_room
          rw [M_isNumber, if_pos h2, Option.bind_some, if_neg (by decide), if_neg (hz4 I (fun _ _ _ => rfl)), g_4, n_4, if_pos (by rw [e4]; exact hsame)]
      · by_cases hlt : ds.length < 40
        · have hd : DV n ((3 : Int32), (0 : Int32), v1) := DV_3 h2
          refine Sm_deeds h hx (DL_app h0 hl hlt hd) (rep n ds fa 4) ?_ (fun J hJ => ?_)
          · unfold f_X4_room
            rw [C_isFigure, if_pos h2]
            refine Ho_b1 (Ho_n0 ?_)
            rw [if_neg hz, if_neg (by rw [hc.2.1]; exact hsame), C_full1 h42 (by omega) (by decide), if_pos (by omega)]
            refine Ho_b1 ?_
            rw [if_pos rfl]
            refine Ho_let_i.mpr ?_
            exact Ho_bm (Ca_step hx.1 hl hlt hd hx.ca) (fun I2 hp2 => Ho_s ⟨hc.2.1, hp2⟩)
          · unfold f_X5_room
            rw [M_isNumber, if_pos h2]
            refine Ho_b1 (Ho_n0 ?_)
            rw [if_neg (hz4 J hJ), g_4, n_4, if_neg (by rw [hJ 70 4 (by decide), e4]; exact hsame), if_neg (by rw [hJ 63 11 (by decide), h11]; exact lit40 hlt)]
            refine M_one (hx.ma hJ) hlt (fun J2 hM hF => ?_)
            have e3 : J2 70 4 = rep n ds fa 4 := by have := hM 4 (by decide); rwa [Nat.zero_add] at this
            rw [g_4]
            unfold k_let
            dsimp only
            rw [g_4, e3]
            refine Ho_s ⟨rfl, ?_, fun b k hb => ?_⟩
            · rw [dAp_3]; exact HMh_upd hM
            · show k_up J2 70 4 _ b k = J2 b k
              rw [k_up_oth (fun z => hb (Or.inl z.1))]
        · refine Sm_same h (-2) ?_ ?_
          · unfold f_X4_room
            rw [C_isFigure, if_pos h2, Option.bind_some, if_neg (by decide), if_neg hz, if_neg (by rw [hc.2.1]; exact hsame), C_full1 h42 (by have := hl.1; omega) (by decide), if_neg (by omega), Option.bind_some, if_neg (by decide)]
          · unfold f_X5_room
            rw [M_isNumber, if_pos h2, Option.bind_some, if_neg (by decide), if_neg (hz4 I (fun _ _ _ => rfl)), g_4, n_4, if_neg (by rw [e4]; exact hsame), if_pos (by rw [h11, show ds.length = 40 by have := hl.1; omega]; rfl)]
  · refine Sm_same h (-1) ?_ ?_
    · unfold f_X4_room
      rw [C_isFigure, if_neg h2, Option.bind_some, if_pos rfl]
    · unfold f_X5_room
      rw [M_isNumber, if_neg h2, Option.bind_some, if_pos rfl]
theorem L_limit {I : StI} {L : StL} (h : Rel I L) (v1 v2 : Int32) : Sm (f_X4_limit v1 v2 I) (f_X5_limit v1 v2) L := by
  obtain ⟨n, fa, ds, hx⟩ := h.2.2.2
  obtain ⟨hg, hc, h7, hm, h4, hk, hrm, -⟩ := hx.vw
  have hn := hg.1.1
  have hl := hx.2.1
  have h42 : I 42 3 = nI ds.length := hx.ca.1.1
  have h11 : I 63 11 = nI ds.length := (hx.ma (J := I) (fun _ _ _ => rfl)).2.2.1
  by_cases hr : 0 ≤ v1.toInt ∧ v1.toInt < n
  · by_cases h2 : 1 ≤ v2.toInt ∧ v2.toInt ≤ 9
    · obtain ⟨i, hi, rfl⟩ := i_in hr.1 hr.2
      have hi7 : i < 7 := by omega
      have h0 : n ≠ 0 := by omega
      have e5 : I 70 (5 + i) = rep n ds fa (5 + i) := by have := hm (5 + i) (by omega); rwa [Nat.zero_add] at this
      have ec := (hc.2.2.2.2.2.2 i hi).2.1
      by_cases hsame : rep n ds fa (5 + i) = v2
      · refine Sm_same h (-4) ?_ ?_
        · unfold f_X4_limit
          rw [C_isCaller hn hc.1, if_pos hr, Option.bind_some, if_neg (by decide), C_isFigure, if_pos h2, Option.bind_some, if_neg (by decide), g_i hi7, m_i hi7]
          unfold k_let
          dsimp only
          rw [if_pos (by rw [ec]; exact hsame)]
        · unfold f_X5_limit
          rw [M_isCaller hn h4, if_pos hr, Option.bind_some, if_neg (by decide), M_isNumber, if_pos h2, Option.bind_some, if_neg (by decide), g_5 hi7, m_5 hi7, if_pos (by rw [e5]; exact hsame)]
      · by_cases hlt : ds.length < 40
        · have hd : DV n ((4 : Int32), nI i, v2) := DV_4 hi h2
          refine Sm_deeds h hx (DL_app h0 hl hlt hd) (rep n ds fa (5 + i)) ?_ (fun J hJ => ?_)
          · unfold f_X4_limit
            rw [C_isCaller hn hc.1, if_pos hr]
            refine Ho_b1 (Ho_n0 ?_)
            rw [C_isFigure, if_pos h2]
            refine Ho_b1 (Ho_n0 ?_)
            rw [g_i hi7, m_i hi7, ec]
            refine Ho_let_i.mpr ?_
            rw [if_neg hsame, C_full1 h42 (by omega) (by decide), if_pos (by omega)]
            refine Ho_b1 ?_
            rw [if_pos rfl]
            exact Ho_bm (Ca_step hx.1 hl hlt hd hx.ca) (fun I2 hp2 => Ho_s ⟨rfl, hp2⟩)
          · unfold f_X5_limit
            rw [M_isCaller hn (by rw [hJ 63 4 (by decide)]; exact h4), if_pos hr]
            refine Ho_b1 (Ho_n0 ?_)
            rw [M_isNumber, if_pos h2]
            refine Ho_b1 (Ho_n0 ?_)
            rw [g_5 hi7, m_5 hi7, if_neg (by rw [hJ 70 _ (by decide), e5]; exact hsame), if_neg (by rw [hJ 63 11 (by decide), h11]; exact lit40 hlt)]
            refine M_one (hx.ma hJ) hlt (fun J2 hM hF => ?_)
            have e3 : J2 70 (5 + i) = rep n ds fa (5 + i) := by have := hM (5 + i) (by omega); rwa [Nat.zero_add] at this
            rw [g_5 hi7]
            unfold k_let
            dsimp only
            rw [g_5 hi7, e3]
            refine Ho_s ⟨rfl, ?_, fun b k hb => ?_⟩
            · rw [dAp_4 hi7]; exact HMh_upd hM
            · show k_up J2 70 (5 + i) _ b k = J2 b k
              rw [k_up_oth (fun z => hb (Or.inl z.1))]
        · refine Sm_same h (-2) ?_ ?_
          · unfold f_X4_limit
            rw [C_isCaller hn hc.1, if_pos hr, Option.bind_some, if_neg (by decide), C_isFigure, if_pos h2, Option.bind_some, if_neg (by decide), g_i hi7, m_i hi7]
            unfold k_let
            dsimp only
            rw [if_neg (by rw [ec]; exact hsame), C_full1 h42 (by have := hl.1; omega) (by decide), if_neg (by omega), Option.bind_some, if_neg (by decide)]
          · unfold f_X5_limit
            rw [M_isCaller hn h4, if_pos hr, Option.bind_some, if_neg (by decide), M_isNumber, if_pos h2, Option.bind_some, if_neg (by decide), g_5 hi7, m_5 hi7, if_neg (by rw [e5]; exact hsame), if_pos (by rw [h11, show ds.length = 40 by have := hl.1; omega]; rfl)]
    · refine Sm_same h (-1) ?_ ?_
      · unfold f_X4_limit
        rw [C_isCaller hn hc.1, if_pos hr, Option.bind_some, if_neg (by decide), C_isFigure, if_neg h2, Option.bind_some, if_pos rfl]
      · unfold f_X5_limit
        rw [M_isCaller hn h4, if_pos hr, Option.bind_some, if_neg (by decide), M_isNumber, if_neg h2, Option.bind_some, if_pos rfl]
  · refine Sm_same h (-1) ?_ ?_
    · unfold f_X4_limit
      rw [C_isCaller hn hc.1, if_neg hr, Option.bind_some, if_pos rfl]
    · unfold f_X5_limit
      rw [M_isCaller hn h4, if_neg hr, Option.bind_some, if_pos rfl]
theorem L_reset {I : StI} {L : StL} (h : Rel I L) (v1 : Int32) : Sm (f_X4_reset v1 I) (f_X5_reset v1) L := by
  obtain ⟨n, fa, ds, hx⟩ := h.2.2.2
  obtain ⟨hg, hc, h7, hm, h4, hk, hrm, -⟩ := hx.vw
  have hn := hg.1.1
  have hl := hx.2.1
  have h42 : I 42 3 = nI ds.length := hx.ca.1.1
  have h11 : I 63 11 = nI ds.length := (hx.ma (J := I) (fun _ _ _ => rfl)).2.2.1
  by_cases hr : 0 ≤ v1.toInt ∧ v1.toInt < n
  · obtain ⟨i, hi, rfl⟩ := i_in hr.1 hr.2
    have hi7 : i < 7 := by omega
    have h0 : n ≠ 0 := by omega
    have ec := (hc.2.2.2.2.2.2 i hi).2.2.2.1
    by_cases hlt : ds.length < 40
    · have hd : DV n ((5 : Int32), nI i, (0 : Int32)) := DV_5 hi
      refine Sm_deeds h hx (DL_app h0 hl hlt hd) (rep n ds fa (12 + i)) ?_ (fun J hJ => ?_)
      · unfold f_X4_reset
        rw [C_isCaller hn hc.1, if_pos hr]
        refine Ho_b1 (Ho_n0 ?_)
        rw [C_full1 h42 (by omega) (by decide), if_pos (by omega)]
        refine Ho_b1 ?_
        rw [if_pos rfl, g_i hi7, m_i hi7, ec]
        refine Ho_let_i.mpr ?_
        exact Ho_bm (Ca_step hx.1 hl hlt hd hx.ca) (fun I2 hp2 => Ho_s ⟨rfl, hp2⟩)
      · unfold f_X5_reset
        rw [M_isCaller hn (by rw [hJ 63 4 (by decide)]; exact h4), if_pos hr]
        refine Ho_b1 (Ho_n0 ?_)
        rw [if_neg (by rw [hJ 63 11 (by decide), h11]; exact lit40 hlt)]
        refine M_one (hx.ma hJ) hlt (fun J2 hM hF => ?_)
        have e3 : J2 70 (12 + i) = rep n ds fa (12 + i) := by have := hM (12 + i) (by omega); rwa [Nat.zero_add] at this
        rw [g_12 hi7, m_12 hi7, e3]
        refine Ho_let_i.mpr ?_
        refine Ho_bm (M_resets hi7 hM (by rw [hF 69 i (by decide) (by omega), hJ 69 i (by decide)]; exact hrm i hi)) (fun J3 hp3 => Ho_s ⟨rfl, ?_, fun b k hb => ?_⟩)
        · rw [dAp_5 hi7]; exact hp3.1
        · exact hp3.2 b k (fun z => hb (Or.inl z))
    · refine Sm_same h (-2) ?_ ?_
      · unfold f_X4_reset
        rw [C_isCaller hn hc.1, if_pos hr, Option.bind_some, if_neg (by decide), C_full1 h42 (by have := hl.1; omega) (by decide), if_neg (by omega), Option.bind_some, if_neg (by decide)]
      · unfold f_X5_reset
        rw [M_isCaller hn h4, if_pos hr, Option.bind_some, if_neg (by decide), if_pos (by rw [h11, show ds.length = 40 by have := hl.1; omega]; rfl)]
  · refine Sm_same h (-1) ?_ ?_
    · unfold f_X4_reset
      rw [C_isCaller hn hc.1, if_neg hr, Option.bind_some, if_pos rfl]
    · unfold f_X5_reset
      rw [M_isCaller hn h4, if_neg hr, Option.bind_some, if_pos rfl]
