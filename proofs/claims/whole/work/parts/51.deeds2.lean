/-! lists of deeds on either side, and the relation behind them -/
def sCd (b : Nat) : Prop := sC 24 b ∨ (42 ≤ b ∧ b ≤ 45)
def Ca (I I' : StI) (n : Nat) (fa : AH) (ds : List Dd) : Prop := DC I' 42 ds ∧ HC I' 24 (rep n ds fa) n ∧ I' 24 7 = 0 ∧ ∀ b k, ¬ sCd b → I' b k = I b k
def sMd (b k : Nat) : Prop := b = 70 ∨ b = 72 ∨ b = 73 ∨ (b = 63 ∧ (k = 11 ∨ k = 23 ∨ k = 24))
def Ma (J J' : StI) (n : Nat) (fa : AH) (ds : List Dd) : Prop := HM J' 70 0 (rep n ds fa) ∧ (∀ d, d < ds.length → HM J' 73 (40 * d) (rep n (ds.take d) fa)) ∧ J' 63 11 = nI ds.length ∧ ∀ b k, ¬ sMd b k → J' b k = J b k
theorem Hx_deeds {I I1 I2 : StI} {n : Nat} {fa : AH} {ds es : List Dd} (hx : Hx I n fa ds) (hd : DL n es) (hc : Ca I I1 n fa es) (hm : Ma I1 I2 n fa es) : Hx I2 n fa es := by
  obtain ⟨h1, h2, h3, h4, h5, h6, h7, h8, h9, h10, h11, h12, h13⟩ := hx
  obtain ⟨c1, c2, c3, c4⟩ := hc
  obtain ⟨m1, m2, m3, m4⟩ := hm
  have hn := h1.1.1
  have g : ∀ b k, ¬ sCd b → ¬ sMd b k → I2 b k = I b k := fun b k h1 h2 => (m4 b k h2).trans (c4 b k h1)
  refine ⟨h1, hd, ?_, fun i hi => ?_, fun i hi => ?_, ⟨h6.1.ag hn (fun b k hb => ?_), ?_⟩, ⟨c2.ag hn (fun b k hb => ?_), ?_⟩, m1, c1.ag (fun b k b1 b2 => ?_), m3, m2, fun p hp => (h12 p hp).ag hp (fun b k hb => ?_), h13⟩
  · rw [g 63 4 (by unfold sCd sC; omega) (by unfold sMd; omega)]; exact h3
  · rw [g 68 i (by unfold sCd sC; omega) (by unfold sMd; omega)]; exact h4 i hi
  · rw [g 69 i (by unfold sCd sC; omega) (by unfold sMd; omega)]; exact h5 i hi
  · exact g b k (by unfold sC at hb; unfold sCd sC; omega) (by unfold sC at hb; unfold sMd; omega)
  · rw [g 15 7 (by unfold sCd sC; omega) (by unfold sMd; omega)]; exact h6.2
  · exact m4 b k (by unfold sC at hb; unfold sMd; omega)
  · rw [m4 24 7 (by unfold sMd; omega)]; exact c3
  · exact m4 b k (by unfold sMd; omega)
  · exact g b k (by unfold sCd sC; omega) (by unfold sMd; omega)
theorem Sm_deeds {I : StI} {L : StL} (h : Rel I L) {n : Nat} {fa : AH} {ds es : List Dd} (hx : Hx I n fa ds) (hd : DL n es) {o : Option (Int32 × StI)} {f : StI → Option (Int32 × StI)} (R : Int32) (hc : Ho o (fun t => t.1 = R ∧ Ca I t.2 n fa es)) (hm : ∀ J : StI, (∀ b k, 63 ≤ b → J b k = I b k) → Ho (f J) (fun u => u.1 = R ∧ Ma J u.2 n fa es)) : Sm o f L := by
  refine hc.mono (fun t ht => ?_)
  obtain ⟨t1, t2⟩ := ht
  refine (hm t.2 (fun b k hb => t2.2.2.2 b k (by unfold sCd sC; omega))).mono (fun u hu => ?_)
  obtain ⟨u1, u2⟩ := hu
  have g : ∀ b k, ¬ sCd b → ¬ sMd b k → u.2 b k = I b k := fun b k h1 h2 => (u2.2.2.2 b k h2).trans (t2.2.2.2 b k h1)
  refine ⟨t1.trans u1.symm, h.1.ag (fun b k hb => ?_), h.2.1.ag (fun b k hb => ?_), h.2.2.1.ag (fun b k hb => ?_), n, fa, es, Hx_deeds hx hd t2 u2⟩
  · exact g b k (by unfold sRw at hb; unfold sCd sC; omega) (by unfold sRw at hb; unfold sMd; omega)
  · exact g b k (by unfold sTx at hb; unfold sCd sC; omega) (by unfold sTx at hb; unfold sMd; omega)
  · exact g b k (by unfold sTd at hb; unfold sCd sC; omega) (by unfold sTd at hb; unfold sMd; omega)
theorem Hx.ca {I : StI} {n : Nat} {fa : AH} {ds : List Dd} (hx : Hx I n fa ds) : Ca I I n fa ds := by
  obtain ⟨h1, h2, h3, h4, h5, h6, h7, h8, h9, h10, h11, h12, h13⟩ := hx
  exact ⟨h9, h7.1, h7.2, fun _ _ _ => rfl⟩
theorem Hx.ma {I J : StI} {n : Nat} {fa : AH} {ds : List Dd} (hx : Hx I n fa ds) (hJ : ∀ b k, 63 ≤ b → J b k = I b k) : Ma J J n fa ds := by
  obtain ⟨h1, h2, h3, h4, h5, h6, h7, h8, h9, h10, h11, h12, h13⟩ := hx
  exact ⟨h8.ag (fun k => hJ 70 k (by decide)), fun d hd => (h11 d hd).ag (fun k => hJ 73 k (by decide)), (hJ 63 11 (by decide)).trans h10, fun _ _ _ => rfl⟩
theorem AV_rep {n : Nat} {fa : AH} {ds : List Dd} (h1 : GV n 0 fa) (hl : DL n ds) : GV n 40 (rep n ds fa) := by
  have := hl.1
  have hg := GV_rep h1 hl.2.1 (by omega)
  exact ⟨hg.1.mono (by omega), hg.2⟩
theorem DL_app {n : Nat} {ds : List Dd} {d : Dd} (h0 : n ≠ 0) (hl : DL n ds) (hlt : ds.length < 40) (hd : DV n d) : DL n (ds ++ [d]) := by
  refine ⟨by rw [List.length_append, List.length_singleton]; omega, fun x hx => ?_, fun z => absurd z h0⟩
  rcases List.mem_append.mp hx with h | h
  · exact hl.2.1 x h
  · rw [List.mem_singleton.mp h]; exact hd
theorem Ca_step {I I1 : StI} {n : Nat} {fa : AH} {ds : List Dd} {w1 w2 w3 : Int32} (h1 : GV n 0 fa) (hl : DL n ds) (hlt : ds.length < 40) (hd : DV n (w1, w2, w3)) (hc : Ca I I1 n fa ds) : Ho (f_X4_doDeed w1 w2 w3 I1) (fun I2 => Ca I I2 n fa (ds ++ [(w1, w2, w3)])) := by
  have hn := h1.1.1
  obtain ⟨c1, c2, c3, c4⟩ := hc
  unfold f_X4_doDeed
  refine Ho_bm (C_add c1 hlt) (fun J1 hp => ?_)
  refine Ho_bm (C_carry (m := 40) (d := (w1, w2, w3)) (AV_rep h1 hl).1 (by decide) (c2.ag hn (fun b k hb => hp.2 b k (by unfold sC at hb; omega))) (by rw [hp.2 24 7 (by omega)]; exact c3) hd) (fun J2 hp2 => Ho_s ⟨?_, ?_, hp2.2.1, fun b k hb => ?_⟩)
  · exact hp.1.ag (fun b k b1 b2 => hp2.2.2 b k (by unfold sC; omega))
  · rw [rep_app]; exact hp2.1
  · rw [hp2.2.2 b k (fun z => hb (Or.inl z)), hp.2 b k (fun z => hb (Or.inr (by omega)))]
    exact c4 b k hb
theorem M_rem {J : StI} {l : Nat} (hl : l < 40) (h11 : J 63 11 = nI l) : Ho (f_X5_remembers J) (fun J2 => (∀ k, k < 40 → J2 73 (40 * l + k) = J 70 k) ∧ (∀ k, k < 40 * l → J2 73 k = J 73 k) ∧ J2 63 11 = nI (l + 1) ∧ ∀ b k, b ≠ 73 → ¬ (b = 63 ∧ k = 11) → J2 b k = J b k) := by
  unfold f_X5_remembers
  rw [h11, show (40 : Int32) * nI l = nI (40 * l) by rw [show (40 : Int32) = nI 40 from rfl, pk_mul]]
  refine Ho_bm (M_copies (a := 70) (b := 73) (i := 0) (j := 40 * l) (m := 40) (by decide) (by decide) (by show 40 * l + 40 ≤ 1600; omega) (by decide) (by decide)) (fun J1 hp => ?_)
  unfold k_let
  have e : J1 63 11 = nI l := (hp.2 63 11 (by omega)).trans h11
  rw [e, nI_1]
  refine Ho_s ⟨fun k hk => ?_, fun k hk => ?_, ?_, fun b k h1 h2 => ?_⟩
  · rw [k_up_oth (by omega), hp.1 k hk, Nat.zero_add]
  · rw [k_up_oth (by omega), hp.2 73 k (by omega)]
  · rw [k_up_same]
  · rw [k_up_oth h2, hp.2 b k (fun z => h1 z.1)]
/-- what the deed itself may write -/
def sMe (b k : Nat) : Prop := b = 70 ∨ b = 72 ∨ (b = 63 ∧ (k = 23 ∨ k = 24))
theorem Ma_step {J J1 J2 J3 : StI} {n : Nat} {fa : AH} {ds : List Dd} {d : Dd} (hM : Ma J J1 n fa ds) (r1 : ∀ k, k < 40 → J2 73 (40 * ds.length + k) = J1 70 k) (r2 : ∀ k, k < 40 * ds.length → J2 73 k = J1 73 k) (r3 : J2 63 11 = nI (ds.length + 1)) (r4 : ∀ b k, b ≠ 73 → ¬ (b = 63 ∧ k = 11) → J2 b k = J1 b k) (e1 : HM J3 70 0 (dAp n d (rep n ds fa))) (e2 : ∀ b k, ¬ sMe b k → J3 b k = J2 b k) : Ma J J3 n fa (ds ++ [d]) := by
  obtain ⟨m1, m2, m3, m4⟩ := hM
  have e73 : ∀ k, J3 73 k = J2 73 k := fun k => e2 73 k (by unfold sMe; omega)
  refine ⟨by rw [rep_app]; exact e1, fun d' hd' j hj => ?_, ?_, fun b k hb => ?_⟩
  · rw [List.length_append, List.length_singleton] at hd'
    rw [e73, List.take_append_of_le_length (by omega)]
    by_cases he : d' = ds.length
    · subst he
      rw [r1 j hj, List.take_length]
      have := m1 j hj
      rwa [Nat.zero_add] at this
    · rw [r2 (40 * d' + j) (by omega)]
      exact m2 d' (by omega) j hj
  · rw [e2 63 11 (by unfold sMe; omega), r3, List.length_append]
    rfl
  · rw [e2 b k (by unfold sMe; unfold sMd at hb; omega), r4 b k (by unfold sMd at hb; omega) (by unfold sMd at hb; omega)]
    exact m4 b k hb
theorem M_resets {J : StI} {i : Nat} {a : AH} (hi : i < 7) (hm : HM J 70 0 a) (h69 : J 69 i = a (47 + i)) : Ho (f_X5_resets (nI i) J) (fun J' => HM J' 70 0 (rst a i) ∧ ∀ b k, b ≠ 70 → J' b k = J b k) := by
  unfold f_X5_resets
  simp only [k_let, g_12 hi, m_12 hi, g_19 hi, m_19 hi, g_26 hi, m_26 hi, g_i hi, g_33 hi, m_33 hi, m_i hi]
  have e69 : k_up (k_up (k_up J 70 (12 + i) 0) 70 (19 + i) 0) 70 (26 + i) 0 69 i = a (47 + i) := by
    rw [k_up_oth (by omega), k_up_oth (by omega), k_up_oth (by omega)]; exact h69
  rw [e69]
  refine Ho_s ⟨fun j hj => ?_, fun b k hb => ?_⟩
  · rw [Nat.zero_add]
    have hj2 := hm j hj
    rw [Nat.zero_add] at hj2
    by_cases h4 : j = 33 + i
    · subst h4; rw [k_up_same, rst_33]
    · rw [k_up_oth (fun z => h4 z.2)]
      by_cases h3 : j = 26 + i
      · subst h3; rw [k_up_same, rst_26]
      · rw [k_up_oth (fun z => h3 z.2)]
        by_cases h2 : j = 19 + i
        · subst h2; rw [k_up_same, rst_19]
        · rw [k_up_oth (fun z => h2 z.2)]
          by_cases h1 : j = 12 + i
          · subst h1; rw [k_up_same, rst_12]
          · rw [k_up_oth (fun z => h1 z.2), rst_o h1 h2 h3 h4]
            exact hj2
  · rw [k_up_oth (fun z => hb z.1), k_up_oth (fun z => hb z.1), k_up_oth (fun z => hb z.1), k_up_oth (fun z => hb z.1)]
theorem C_full {I : StI} {l m : Nat} (h : I 42 3 = nI l) (hl : l ≤ 40) (hm : m ≤ 40) : f_X4_isFullWith (nI m) I = some (if l + m ≤ 40 then 0 else 1) := by
  unfold f_X4_isFullWith
  rw [h, nI_add]
  by_cases hc : l + m ≤ 40
  · rw [if_pos (by rw [show (40 : Int32) = nI 40 from rfl, nI_leI (by omega) (by omega)]; exact hc), if_pos hc]
  · rw [if_neg (by rw [show (40 : Int32) = nI 40 from rfl, nI_leI (by omega) (by omega)]; exact hc), if_neg hc]
theorem C_isFigure (v : Int32) : f_X4_isFigure v = some (if 1 ≤ v.toInt ∧ v.toInt ≤ 9 then 1 else 0) := by
  unfold f_X4_isFigure
  simp only [i_lt, Int32.reduceToInt]
  repeat' split
  all_goals first | rfl | omega
theorem M_isNumber (v : Int32) : f_X5_isNumber v = some (if 1 ≤ v.toInt ∧ v.toInt ≤ 9 then 1 else 0) := by
  unfold f_X5_isNumber
  rw [show (1 : Int64) = (1 : Int32).toInt64 from rfl, show (9 : Int64) = (9 : Int32).toInt64 from rfl, in_i]
  simp only [Option.bind_some, k_bo, Int32.reduceToInt]
  repeat' split
  all_goals first | rfl | omega | simp_all
theorem dAp_1 {n : Nat} {a : AH} : dAp n (1, 0, 0) a = sg n 0 (upv a) a := by
  unfold dAp
  rw [if_pos rfl]
theorem dAp_2 {n : Nat} {a : AH} {x y : Int32} : dAp n (2, x, y) a = upd a 3 (a 3 ^^^ ((1 : Int32) <<< (x &&& 31))) := by
  unfold dAp
  rw [if_neg (show ¬ ((2 : Int32) = 1) by decide), if_pos rfl]
theorem dAp_3 {n : Nat} {a : AH} {x y : Int32} : dAp n (3, x, y) a = upd a 4 y := by
  unfold dAp
  rw [if_neg (show ¬ ((3 : Int32) = 1) by decide), if_neg (show ¬ ((3 : Int32) = 2) by decide), if_pos rfl]
theorem dAp_4 {n i : Nat} {a : AH} {y : Int32} (hi : i < 7) : dAp n (4, nI i, y) a = upd a (5 + i) y := by
  unfold dAp
  rw [if_neg (show ¬ ((4 : Int32) = 1) by decide), if_neg (show ¬ ((4 : Int32) = 2) by decide), if_neg (show ¬ ((4 : Int32) = 3) by decide), if_pos rfl]
  show upd a (5 + (nI i).toNatClampNeg) y = _
  rw [m_i hi]
theorem dAp_5 {n i : Nat} {a : AH} {y : Int32} (hi : i < 7) : dAp n (5, nI i, y) a = rst a i := by
  unfold dAp
  rw [if_neg (show ¬ ((5 : Int32) = 1) by decide), if_neg (show ¬ ((5 : Int32) = 2) by decide), if_neg (show ¬ ((5 : Int32) = 3) by decide), if_neg (show ¬ ((5 : Int32) = 4) by decide), if_pos rfl]
  show upd (upd (upd (upd a (12 + (nI i).toNatClampNeg) 0) (19 + (nI i).toNatClampNeg) 0) (26 + (nI i).toNatClampNeg) 0) (33 + (nI i).toNatClampNeg) (a (47 + (nI i).toNatClampNeg)) = _
  rw [m_i hi]
  rfl
theorem dAp_0 {n : Nat} {a : AH} {x y : Int32} : dAp n (0, x, y) a = a := by
  unfold dAp
  rw [if_neg (show ¬ ((0 : Int32) = 1) by decide), if_neg (show ¬ ((0 : Int32) = 2) by decide), if_neg (show ¬ ((0 : Int32) = 3) by decide), if_neg (show ¬ ((0 : Int32) = 4) by decide), if_neg (show ¬ ((0 : Int32) = 5) by decide)]
theorem DV_1 {n : Nat} {x y : Int32} : DV n (1, x, y) := ⟨fun z => absurd z (show ¬ ((1 : Int32) = 2) by decide), fun z => absurd z (show ¬ ((1 : Int32) = 3) by decide), fun z => absurd z (show ¬ ((1 : Int32) = 4) by decide), fun z => absurd z (show ¬ ((1 : Int32) = 5) by decide)⟩
theorem DV_0 {n : Nat} {x y : Int32} : DV n (0, x, y) := ⟨fun z => absurd z (show ¬ ((0 : Int32) = 2) by decide), fun z => absurd z (show ¬ ((0 : Int32) = 3) by decide), fun z => absurd z (show ¬ ((0 : Int32) = 4) by decide), fun z => absurd z (show ¬ ((0 : Int32) = 5) by decide)⟩
theorem DV_2 {n s : Nat} {y : Int32} (hs : s < 8) : DV n (2, nI s, y) := ⟨fun _ => ⟨s, hs, rfl⟩, fun z => absurd z (show ¬ ((2 : Int32) = 3) by decide), fun z => absurd z (show ¬ ((2 : Int32) = 4) by decide), fun z => absurd z (show ¬ ((2 : Int32) = 5) by decide)⟩
theorem DV_3 {n : Nat} {x y : Int32} (hy : 1 ≤ y.toInt ∧ y.toInt ≤ 9) : DV n (3, x, y) := ⟨fun z => absurd z (show ¬ ((3 : Int32) = 2) by decide), fun _ => hy, fun z => absurd z (show ¬ ((3 : Int32) = 4) by decide), fun z => absurd z (show ¬ ((3 : Int32) = 5) by decide)⟩
theorem DV_4 {n i : Nat} {y : Int32} (hi : i < n) (hy : 1 ≤ y.toInt ∧ y.toInt ≤ 9) : DV n (4, nI i, y) := ⟨fun z => absurd z (show ¬ ((4 : Int32) = 2) by decide), fun z => absurd z (show ¬ ((4 : Int32) = 3) by decide), fun _ => ⟨⟨i, hi, rfl⟩, hy⟩, fun z => absurd z (show ¬ ((4 : Int32) = 5) by decide)⟩
theorem DV_5 {n i : Nat} {y : Int32} (hi : i < n) : DV n (5, nI i, y) := ⟨fun z => absurd z (show ¬ ((5 : Int32) = 2) by decide), fun z => absurd z (show ¬ ((5 : Int32) = 3) by decide), fun z => absurd z (show ¬ ((5 : Int32) = 4) by decide), fun _ => ⟨i, hi, rfl⟩⟩
theorem HMh_upd {J : StI} {a : AH} {j : Nat} {v : Int32} (h : HM J 70 0 a) : HM (k_up J 70 j v) 70 0 (upd a j v) := by
  intro x hx
  rw [Nat.zero_add]
  have hxx := h x hx
  rw [Nat.zero_add] at hxx
  by_cases e : x = j
  · subst e
    rw [k_up_same, upd_s]
  · rw [k_up_oth (fun z => e z.2), upd_o e]
    exact hxx
theorem pat_bits0 : ∀ p : Fin 256, f_X5_bits (nI p.val) = some (pcn (nI p.val)) := by decide +kernel
