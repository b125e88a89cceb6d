/-! test -/
theorem and1 (x : Int32) : x &&& 1 = 0 ∨ x &&& 1 = 1 := by
  have h2 : (x &&& 1).toBitVec.toNat = x.toBitVec.toNat % 2 := by
    rw [Int32.toBitVec_and, BitVec.toNat_and]
    exact Nat.and_one_is_mod _
  rcases Nat.mod_two_eq_zero_or_one x.toBitVec.toNat with h | h
  · left
    exact Int32.toBitVec_inj.mp (BitVec.eq_of_toNat_eq (by rw [h2, h]; rfl))
  · right
    exact Int32.toBitVec_inj.mp (BitVec.eq_of_toNat_eq (by rw [h2, h]; rfl))
theorem hasb_f {s : Int32} {i : Nat} : (((s >>> (nI i &&& 31)) &&& (1 : Int32)) = 0) ↔ hasb s i = false := by
  unfold hasb
  rcases and1 (s >>> (nI i &&& 31)) with h | h
  · rw [h]; decide
  · rw [h]; decide
theorem mul3 {t s : Nat} : nI t * (3 : Int32) + nI s = nI (3 * t + s) := by
  rw [show (3 : Int32) = nI 3 from rfl, pk_mul, nI_add, Nat.mul_comm]
theorem mul21 {t s : Nat} : (21 : Int32) * nI t + nI s = nI (21 * t + s) := by
  rw [show (21 : Int32) = nI 21 from rfl, pk_mul, nI_add]
def cnt (p : Nat → Bool) : Nat → Nat
  | 0 => 0
  | k + 1 => cnt p k + if p k then 1 else 0
theorem cnt_le (p : Nat → Bool) : ∀ k, cnt p k ≤ k
  | 0 => Nat.le_refl 0
  | k + 1 => by
    have := cnt_le p k
    show cnt p k + (if p k then 1 else 0) ≤ k + 1
    split <;> omega
theorem cnt_s {p : Nat → Bool} {k : Nat} : cnt p (k + 1) = cnt p k + if p k then 1 else 0 := rfl
/-- how one is behind t steps, being of a kind -/
def hw (n i : Nat) (a : AH) (kd t : Nat) : Int32 := it n 0 t (upd a (40 + i) (nI kd)) (12 + i)
def tP (n i : Nat) (a : AH) (set : Int32) (t st kd : Nat) : Bool := hasb set kd && decide (hw n i a kd t = nI st)
def gP (n i : Nat) (a : AH) (set : Int32) (t : Nat) : Nat := max (cnt (tP n i a set t 0) 6) (max (cnt (tP n i a set t 1) 6) (cnt (tP n i a set t 2) 6))
def tsR (n i : Nat) (a : AH) (set : Int32) : Nat → Int32 × Int32
  | 0 => (7, -9)
  | q + 1 => if (tsR n i a set q).1 ≤ nI (gP n i a set (q + 1)) then tsR n i a set q else (nI (gP n i a set (q + 1)), nI (q + 1))
theorem hw_st {n i kd t : Nat} {a : AH} (hg : AV n 40 a) (hi : i < n) (ht : t ≤ 20) : ∃ st, st < 3 ∧ hw n i a kd t = nI st := by
  have := (AV_it (u := 0) (AV_kind (v := nI kd) hg hi) t (by omega)).2.2 i hi
  obtain ⟨-, -, h, -⟩ := this
  rcases h with h | h | h
  · exact ⟨0, by decide, h⟩
  · exact ⟨1, by decide, h⟩
  · exact ⟨2, by decide, h⟩
theorem k_nIinj {x y : Nat} (hx : x < 2147483648) (hy : y < 2147483648) (h : nI x = nI y) : x = y := by
  have := congrArg Int32.toInt h
  rw [i_n hx, i_n hy] at this
  omega
/-- the class's count, in the midst of it: kinds below q, steps below t0 of kind q, too -/
def aI (n i : Nat) (a : AH) (set : Int32) (q t0 : Nat) (J : StI) : Prop := ∀ t st, t < 20 → st < 3 → J 50 (3 * t + st) = nI (cnt (tP n i a set (t + 1) st) (if t < t0 then q + 1 else q))
theorem C_alikeL {I J0 : StI} {n i q : Nat} {a : AH} {set : Int32} (hg : AV n 40 a) (hi : i < n) (hq : q < 6) (hs : hasb set q = true) (hc : HC J0 33 (upd a (40 + i) (nI q)) n) (h7 : J0 33 7 = 0) (hJ : CF I J0) (ha : aI n i a set q 0 J0) : Ho (f_X4_countAlike_L54 (nI i) set (nI q) k_fu 0 J0) (fun x => ∃ J, x = .inl (nI (q + 1), J) ∧ CF I J ∧ aI n i a set (q + 1) 0 J) := by
  have hn := hg.1
  have hi7 : i < 7 := by omega
  unfold f_X4_countAlike_L54
  refine Ho_loop0 (fun t0 x => x.1 = nI t0 ∧ HC x.2 33 (it n 0 t0 (upd a (40 + i) (nI q))) n ∧ x.2 33 7 = 0 ∧ CF I x.2 ∧ aI n i a set q t0 x.2) 20 (by decide) ?_ ?_ _ ⟨rfl, hc, h7, hJ, ha⟩
  · intro t0 x ht0 hx
    obtain ⟨v, J⟩ := x
    obtain ⟨e1, e2, e7, e3, e4⟩ := hx
    dsimp only at e1 e2 e7 e3 e4
    subst e1
    dsimp only
    unfold f_X4_countAlike_L54_b
    have hq2 := AV_it (u := 0) (AV_kind (v := nI q) hg hi) t0 (by omega)
    rw [if_neg (by rw [show (20 : Int32) = nI 20 from rfl, nI_leI (by omega) (by omega)]; omega), C_isUp (by omega) hq2 e2]
    refine Ho_b1 ?_
    refine Ho_bm (C_pass (up := upv (it n 0 t0 (upd a (40 + i) (nI q)))) hq2 e2) (fun t ht => ?_)
    rw [e7] at ht
    obtain ⟨st0, hst, est⟩ := hw_st (kd := q) (t := t0 + 1) hg hi (by omega)
    have hst3 : t.2 (k_cq 33 i) 3 = nI st0 := (ht.2.1.2.2.2.2.2.2 i hi).2.2.2.1.trans est
    rw [g_i hi7, m_i hi7, hst3, mul3, gd_n (show 3 * t0 + st0 < 60 by omega) (by decide), gd_n (show 3 * t0 + st0 < 60 by omega) (by decide), cl_n (show 3 * t0 + st0 < 2147483648 by omega)]
    obtain ⟨tv, tJ⟩ := t
    dsimp only at ht ⊢
    unfold k_let
    rw [nI_1]
    refine Ho_s ⟨rfl, ht.2.1.ag hn (fun b k hb => k_up_oth (by unfold sC at hb; omega)), ?_, (CF.trans33 e3 ht.2.2.2).up33 (Or.inl (by unfold sCs; omega)), fun t' st' ht' hst' => ?_⟩
    · show k_up tJ 50 (3 * t0 + st0) (tJ 50 (3 * t0 + st0) + 1) 33 7 = 0
      rw [k_up_oth (by omega)]; exact ht.2.2.1
    · have o50 : ∀ k, tJ 50 k = J 50 k := fun k => ht.2.2.2 50 k (by unfold sC; omega)
      show k_up tJ 50 (3 * t0 + st0) (tJ 50 (3 * t0 + st0) + 1) 50 (3 * t' + st') = _
      by_cases he : t' = t0
      · subst he
        rw [if_pos (by omega), cnt_s]
        have h1 := e4 t' st' ht' hst'
        rw [if_neg (by omega)] at h1
        by_cases hss : st' = st0
        · subst hss
          rw [k_up_same, o50, h1, nI_1]
          have : tP n i a set (t' + 1) st' q = true := by unfold tP; rw [hs, est]; simp
          rw [this]
          rfl
        · rw [k_up_oth (by omega), o50, h1]
          have : tP n i a set (t' + 1) st' q = false := by
            unfold tP
            rw [hs, est, decide_eq_false (fun z => hss (k_nIinj (by omega) (by omega) z).symm)]
            rfl
          rw [this]
          rfl
      · rw [k_up_oth (by omega), o50, e4 t' st' ht' hst']
        by_cases hlt : t' < t0
        · rw [if_pos hlt, if_pos (by omega)]
        · rw [if_neg hlt, if_neg (by omega)]
  · intro x hx
    obtain ⟨v, J⟩ := x
    obtain ⟨e1, e2, e7, e3, e4⟩ := hx
    dsimp only at e1 e2 e7 e3 e4
    subst e1
    dsimp only
    unfold f_X4_countAlike_L54_b
    rw [if_pos (by decide), nI_1]
    refine Ho_s ⟨J, rfl, e3, fun t st ht hst => ?_⟩
    have := e4 t st ht hst
    rw [if_pos ht] at this
    rw [if_neg (by omega)]
    exact this
theorem C_alike {I J0 : StI} {n i : Nat} {a : AH} {set : Int32} (hg : AV n 40 a) (hc : HC I 24 a n) (h7 : I 24 7 = 0) (hi : i < n) (hJ : CF I J0) : Ho (f_X4_countAlike (nI i) set J0) (fun J => CF I J ∧ aI n i a set 6 0 J) := by
  have hn := hg.1
  have hi7 : i < 7 := by omega
  unfold f_X4_countAlike
  refine Ho_bm (J_fill (a := 50) (N := 60) rfl (by decide)) (fun J1 hp => ?_)
  unfold f_X4_countAlike_L10
  refine Ho_loop0 (fun q x => x.1 = nI q ∧ CF I x.2 ∧ aI n i a set q 0 x.2) 6 (by decide) ?_ ?_ _ ⟨rfl, fun b k hb hb2 => ?_, fun t st ht hst => ?_⟩
  · intro q x hq hx
    obtain ⟨v, J⟩ := x
    obtain ⟨e1, e2, e3⟩ := hx
    dsimp only at e1 e2 e3
    subst e1
    dsimp only
    unfold f_X4_countAlike_L10_b
    rw [if_neg (by rw [show (6 : Int32) = nI 6 from rfl, nI_leI (by omega) (by omega)]; omega)]
    by_cases hb : hasb set q = false
    · rw [if_pos (hasb_f.mpr hb)]
      simp only [k_let, nI_1]
      refine Ho_s ⟨rfl, e2, fun t st ht hst => ?_⟩
      have := e3 t st ht hst
      rw [if_neg (by omega)] at this ⊢
      show J 50 (3 * t + st) = _
      rw [this, cnt_s]
      have h0 : tP n i a set (t + 1) st q = false := by unfold tP; rw [hb]; rfl
      rw [h0]
      rfl
    · rw [if_neg (fun z => hb (hasb_f.mp z))]
      refine Ho_bm (C_lay hn hc h7 e2) (fun J1 hp1 => ?_)
      rw [g_i hi7, m_i hi7]
      refine Ho_let_i.mpr ?_
      have hcf : CF I (k_up J1 (k_cq 33 i) 0 (nI q)) := (CF.trans33 e2 hp1.2.2).up33 (Or.inl (by unfold sCs k_cq; omega))
      refine (C_alikeL hg hi hq (by simpa using hb) (HC_kind hp1.1 hn hi) (by rw [k_up_oth (by unfold k_cq; omega)]; exact hp1.2.1) hcf (fun t st ht hst => ?_)).mono (fun x hx => ?_)
      · rw [k_up_oth (by unfold k_cq; omega), hp1.2.2 50 _ (by unfold sC; omega)]
        exact e3 t st ht hst
      · obtain ⟨J2, rfl, x1, x2⟩ := hx
        exact ⟨rfl, x1, x2⟩
  · intro x hx
    obtain ⟨v, J⟩ := x
    obtain ⟨e1, e2, e3⟩ := hx
    dsimp only at e1 e2 e3
    subst e1
    dsimp only
    unfold f_X4_countAlike_L10_b
    rw [if_pos (by decide)]
    exact Ho_s ⟨e2, e3⟩
  · show J1 b k = I b k
    rw [hp.2 b k (by unfold sCs at hb; omega)]
    exact hJ b k hb hb2
  · show J1 50 (3 * t + st) = _
    rw [hp.1 _ (by omega), if_neg (by omega)]
    rfl
theorem max_n {x y : Nat} (hx : x < 1000) (hy : y < 1000) : f_J9_max_7cf53 (nI x) (nI y) = some (nI (max x y)) := by
  unfold f_J9_max_7cf53
  by_cases h : x < y
  · rw [if_pos (by rw [nI_ltI (by omega) (by omega)]; exact h), Nat.max_eq_right (by omega)]
  · rw [if_neg (by rw [nI_ltI (by omega) (by omega)]; exact h), Nat.max_eq_left (by omega)]
theorem C_greatest {n i q : Nat} {a : AH} {set : Int32} {J : StI} (hq : q < 20) (ha : aI n i a set 6 0 J) : f_X4_greatestPart (nI (q + 1)) J = some (nI (gP n i a set (q + 1))) := by
  unfold f_X4_greatestPart
  have e : (nI (q + 1) - (1 : Int32)) = nI q := by rw [← nI_1]; exact Int32.add_sub_cancel _ _
  have l : ∀ st, cnt (tP n i a set (q + 1) st) 6 ≤ 6 := fun st => cnt_le _ 6
  have ha' : ∀ st, st < 3 → J 50 (3 * q + st) = nI (cnt (tP n i a set (q + 1) st) 6) := fun st hst => by
    have := ha q st hq hst
    rwa [if_neg (by omega)] at this
  have l0 := l 0
  have l1 := l 1
  have l2 := l 2
  simp only [k_let, e]
  rw [show (0 : Int32) = nI 0 from rfl, show (1 : Int32) = nI 1 from rfl, show (2 : Int32) = nI 2 from rfl, mul3, mul3, mul3, gd_n (by omega) (by decide), gd_n (by omega) (by decide), gd_n (by omega) (by decide), cl_n (by omega), cl_n (by omega), cl_n (by omega), ha' 0 (by decide), ha' 1 (by decide), ha' 2 (by decide), max_n (by omega) (by omega), Option.bind_some, max_n (by omega) (by omega), Option.bind_some]
  rfl
theorem C_testL {I J : StI} {n i : Nat} {a : AH} {set : Int32} (hJ : CF I J) (ha : aI n i a set 6 0 J) : Ho (f_X4_test_L67 J k_fu 7 (-9) 1) (fun t => (t.2 0 9, t.1) = tsR n i a set 20 ∧ CF I t.2) := by
  unfold f_X4_test_L67
  refine Ho_loop0 (fun q x => (x.1, x.2.1) = tsR n i a set q ∧ x.2.2 = nI (q + 1)) 20 (by decide) ?_ ?_ _ ⟨rfl, rfl⟩
  · intro q x hq hx
    obtain ⟨l, w, v⟩ := x
    obtain ⟨e0, e1⟩ := hx
    dsimp only at e0 e1
    subst e1
    dsimp only
    unfold f_X4_test_L67_b
    rw [if_neg (by rw [show (20 : Int32) = nI 20 from rfl, nI_ltI (by omega) (by omega)]; omega), C_greatest hq ha]
    refine Ho_b1 ?_
    have h1 : l = (tsR n i a set q).1 := by rw [← e0]
    by_cases hle : l ≤ nI (gP n i a set (q + 1))
    · rw [if_pos hle]
      simp only [k_let, nI_1]
      refine Ho_s ⟨?_, rfl⟩
      show (l, w) = if (tsR n i a set q).1 ≤ nI (gP n i a set (q + 1)) then tsR n i a set q else (nI (gP n i a set (q + 1)), nI (q + 1))
      rw [if_pos (by rw [← h1]; exact hle), e0]
    · rw [if_neg hle]
      simp only [k_let, nI_1]
      refine Ho_s ⟨?_, rfl⟩
      show (nI (gP n i a set (q + 1)), nI (q + 1)) = if (tsR n i a set q).1 ≤ nI (gP n i a set (q + 1)) then tsR n i a set q else (nI (gP n i a set (q + 1)), nI (q + 1))
      rw [if_neg (by rw [← h1]; exact hle)]
  · intro x hx
    obtain ⟨l, w, v⟩ := x
    obtain ⟨e0, e1⟩ := hx
    dsimp only at e0 e1
    subst e1
    dsimp only
    unfold f_X4_test_L67_b
    rw [if_pos (by decide)]
    simp only [k_let]
    refine Ho_s ⟨?_, hJ.up33 (Or.inr ⟨rfl, rfl⟩)⟩
    show (k_up J 0 9 l 0 9, w) = _
    rw [k_up_same, e0]
/-! the reference's count -/
theorem M_part {I : StI} {n i t g h : Nat} {a : AH} {set v5 v6 : Int32} (ht : t ≤ 20) (hg : g ≤ 6) (hh : h < 3) (hI : ∀ kd, kd < 6 → I 79 (21 * kd + t) = hw n i a kd t) : Ho (f_X5_test_L159 set v5 v6 (nI t) (nI g) (nI h) I k_fu 0 0) (fun x => x = .inl (nI (max g (cnt (tP n i a set t h) 6)), nI (h + 1))) := by
  unfold f_X5_test_L159
  refine Ho_loop0 (fun q x => x.1 = nI (cnt (tP n i a set t h) q) ∧ x.2 = nI q) 6 (by decide) ?_ ?_ _ ⟨rfl, rfl⟩
  · intro q x hq hx
    obtain ⟨p, v⟩ := x
    obtain ⟨e0, e1⟩ := hx
    dsimp only at e0 e1
    subst e0 e1
    dsimp only
    unfold f_X5_test_L159_b f_X5_test_j200 f_X5_test_j201
    rw [if_neg (by rw [show (6 : Int32) = nI 6 from rfl, nI_leI (by omega) (by omega)]; omega), M_has, mul21, gd_n (show 21 * q + t < 126 by omega) (by decide), cl_n (show 21 * q + t < 2147483648 by omega), hI q hq]
    refine Ho_b1 ?_
    simp only [k_let, nI_1]
    by_cases hb : hasb set q = true
    · rw [if_pos hb, if_neg (by decide)]
      by_cases he : hw n i a q t = nI h
      · rw [if_pos he]
        refine Ho_s ⟨?_, rfl⟩
        show nI (cnt (tP n i a set t h) q + 1) = nI (cnt (tP n i a set t h) (q + 1))
        have : tP n i a set t h q = true := by unfold tP; rw [hb, he]; simp
        rw [cnt_s, this]
        rfl
      · rw [if_neg he]
        refine Ho_s ⟨?_, rfl⟩
        show nI (cnt (tP n i a set t h) q) + 0 = nI (cnt (tP n i a set t h) (q + 1))
        have : tP n i a set t h q = false := by unfold tP; rw [decide_eq_false he, Bool.and_false]
        rw [Int32.add_zero, cnt_s, this]
        rfl
    · rw [if_neg hb, if_pos rfl]
      refine Ho_s ⟨?_, rfl⟩
      show nI (cnt (tP n i a set t h) q) + 0 = nI (cnt (tP n i a set t h) (q + 1))
      have : tP n i a set t h q = false := by unfold tP; rw [Bool.eq_false_iff.mpr hb]; rfl
      rw [Int32.add_zero, cnt_s, this]
      rfl
  · intro x hx
    obtain ⟨p, v⟩ := x
    obtain ⟨e0, e1⟩ := hx
    dsimp only at e0 e1
    subst e0 e1
    dsimp only
    have l := cnt_le (tP n i a set t h) 6
    unfold f_X5_test_L159_b
    rw [if_pos (by decide)]
    simp only [k_let, nI_1]
    by_cases hle : cnt (tP n i a set t h) 6 ≤ g
    · rw [if_pos (by rw [nI_leI (by omega) (by omega)]; exact hle), Nat.max_eq_left hle]
      exact Ho_s rfl
    · rw [if_neg (by rw [nI_leI (by omega) (by omega)]; exact hle), Nat.max_eq_right (by omega)]
      exact Ho_s rfl
def gM (n i : Nat) (a : AH) (set : Int32) (t : Nat) : Nat → Nat
  | 0 => 0
  | h + 1 => max (gM n i a set t h) (cnt (tP n i a set t h) 6)
theorem gM_le {n i t : Nat} {a : AH} {set : Int32} : ∀ h, gM n i a set t h ≤ 6
  | 0 => by show 0 ≤ 6; omega
  | h + 1 => Nat.max_le.mpr ⟨gM_le h, cnt_le _ 6⟩
theorem gM_eq {n i t : Nat} {a : AH} {set : Int32} : gM n i a set t 3 = gP n i a set t := by
  show max (max (max 0 (cnt (tP n i a set t 0) 6)) (cnt (tP n i a set t 1) 6)) (cnt (tP n i a set t 2) 6) = max (cnt (tP n i a set t 0) 6) (max (cnt (tP n i a set t 1) 6) (cnt (tP n i a set t 2) 6))
  rw [Nat.zero_max, Nat.max_assoc]
theorem M_great {I : StI} {n i t : Nat} {a : AH} {set v5 v6 : Int32} (ht : t ≤ 20) (hI : ∀ kd, kd < 6 → I 79 (21 * kd + t) = hw n i a kd t) : Ho (f_X5_test_L147 set v5 v6 (nI t) I k_fu 0 0) (fun x => x = .inl (if v6 ≤ nI (gP n i a set t) then v5 else nI t, if v6 ≤ nI (gP n i a set t) then v6 else nI (gP n i a set t), nI (t + 1))) := by
  unfold f_X5_test_L147
  refine Ho_loop0 (fun h x => x.1 = nI (gM n i a set t h) ∧ x.2 = nI h) 3 (by decide) ?_ ?_ _ ⟨rfl, rfl⟩
  · intro h x hh hx
    obtain ⟨p, v⟩ := x
    obtain ⟨e0, e1⟩ := hx
    dsimp only at e0 e1
    subst e0 e1
    dsimp only
    unfold f_X5_test_L147_b
    rw [if_neg (by rw [show (3 : Int32) = nI 3 from rfl, nI_leI (by omega) (by omega)]; omega)]
    refine (M_part ht (gM_le h) hh hI).mono (fun x hx => ?_)
    subst hx
    exact ⟨rfl, rfl⟩
  · intro x hx
    obtain ⟨p, v⟩ := x
    obtain ⟨e0, e1⟩ := hx
    dsimp only at e0 e1
    subst e0 e1
    dsimp only
    unfold f_X5_test_L147_b f_X5_test_j246
    rw [if_pos (by decide), gM_eq]
    simp only [k_let, nI_1]
    by_cases hle : v6 ≤ nI (gP n i a set t)
    · simp only [hle, if_true]
      exact Ho_s rfl
    · simp only [hle, if_false]
      exact Ho_s rfl
theorem M_testE {I : StI} {n i : Nat} {a : AH} {set : Int32} (hI : ∀ kd t, kd < 6 → 1 ≤ t → t ≤ 20 → I 79 (21 * kd + t) = hw n i a kd t) : Ho (f_X5_test_L134 set I k_fu (-9) 7 1) (fun u => u = ((tsR n i a set 20).2, k_up I 63 14 (tsR n i a set 20).1)) := by
  unfold f_X5_test_L134
  refine Ho_loop0 (fun q x => (x.2.1, x.1) = tsR n i a set q ∧ x.2.2 = nI (q + 1)) 20 (by decide) ?_ ?_ _ ⟨rfl, rfl⟩
  · intro q x hq hx
    obtain ⟨w, l, v⟩ := x
    obtain ⟨e0, e1⟩ := hx
    dsimp only at e0 e1
    subst e1
    dsimp only
    unfold f_X5_test_L134_b
    rw [if_neg (by rw [show (21 : Int32) = nI 21 from rfl, nI_leI (by omega) (by omega)]; omega)]
    refine (M_great (n := n) (i := i) (a := a) (t := q + 1) (by omega) (fun kd hkd => hI kd (q + 1) hkd (by omega) (by omega))).mono (fun x hx => ?_)
    subst hx
    refine ⟨?_, rfl⟩
    have h1 : l = (tsR n i a set q).1 := by rw [← e0]
    show (if l ≤ nI (gP n i a set (q + 1)) then l else nI (gP n i a set (q + 1)), if l ≤ nI (gP n i a set (q + 1)) then w else nI (q + 1)) = if (tsR n i a set q).1 ≤ nI (gP n i a set (q + 1)) then tsR n i a set q else (nI (gP n i a set (q + 1)), nI (q + 1))
    rw [← h1, ← e0]
    by_cases hle : l ≤ nI (gP n i a set (q + 1))
    · rw [if_pos hle, if_pos hle, if_pos hle]
    · rw [if_neg hle, if_neg hle, if_neg hle]
  · intro x hx
    obtain ⟨w, l, v⟩ := x
    obtain ⟨e0, e1⟩ := hx
    dsimp only at e0 e1
    subst e1
    dsimp only
    unfold f_X5_test_L134_b f_X5_answer
    rw [if_pos (by decide), ← e0]
    exact Ho_s rfl
/-- what the reference has seen: kinds below q, and steps up to t0 of kind q -/
def mI (n i : Nat) (a : AH) (q t0 : Nat) (J : StI) : Prop := ∀ kd t, kd < 6 → 1 ≤ t → t ≤ 20 → (kd < q ∨ (kd = q ∧ t ≤ t0)) → J 79 (21 * kd + t) = hw n i a kd t
theorem M_howL {J0 J1 : StI} {n i q : Nat} {a : AH} {set : Int32} (hg : AV n 40 a) (hi : i < n) (hq : q < 6) (h4 : J0 63 4 = nI n) (hm : HM J1 71 0 (upd a (40 + i) (nI q))) (hk : KM J1 72 (upd a (40 + i) (nI q)) n) (hF : MF J0 J1) (ha : mI n i a q 0 J1) : Ho (f_X5_test_L74 (nI i) set (nI q) k_fu 1 J1) (fun x => ∃ J, x = .inl (nI (q + 1), J) ∧ MF J0 J ∧ KM J 72 (upd a (40 + i) (nI q)) n ∧ mI n i a (q + 1) 0 J) := by
  have hn := hg.1
  have hi7 : i < 7 := by omega
  unfold f_X5_test_L74
  refine Ho_loop0 (fun t0 x => x.1 = nI (t0 + 1) ∧ HM x.2 71 0 (it n 0 t0 (upd a (40 + i) (nI q))) ∧ KM x.2 72 (upd a (40 + i) (nI q)) n ∧ MF J0 x.2 ∧ mI n i a q t0 x.2) 20 (by decide) ?_ ?_ _ ⟨rfl, hm, hk, hF, ha⟩
  · intro t0 x ht0 hx
    obtain ⟨v, J⟩ := x
    obtain ⟨e1, e2, e3, e4, e5⟩ := hx
    dsimp only at e1 e2 e3 e4 e5
    subst e1
    dsimp only
    unfold f_X5_test_L74_b
    have hq2 := AV_it (u := 0) (AV_kind (v := nI q) hg hi) t0 (by omega)
    rw [if_neg (by rw [show (21 : Int32) = nI 21 from rfl, nI_leI (by omega) (by omega)]; omega)]
    refine Ho_bm (M_goesOn (u := 0) (m := 40 + t0) (N := 1) hq2 (by omega) e2 (fun x hx => ?_) ?_) (fun t ht => ?_)
    · rw [it_hi hn (by omega) t0]; exact e3 x hx
    · rw [e4 63 4 (by unfold sMs; omega) (by omega)]; exact h4
    · have h12 : t.2 71 (12 + i) = hw n i a q (t0 + 1) := by
        have := ht.2.1 (12 + i) (by omega)
        rw [Nat.zero_add] at this
        exact this
      rw [g_12 hi7, m_12 hi7, h12, mul21, gd_n (show 21 * q + (t0 + 1) < 126 by omega) (by decide), cl_n (show 21 * q + (t0 + 1) < 2147483648 by omega)]
      obtain ⟨tv, tJ⟩ := t
      dsimp only at ht h12 ⊢
      unfold k_let
      rw [nI_1]
      refine Ho_s ⟨rfl, ?_, fun x hx => ?_, (e4.goes ht.2.2).up (Or.inl (by unfold sMs; omega)), fun kd t' hkd h1 h20 hor => ?_⟩
      · have hh : ∀ k, k_up tJ 79 (21 * q + (t0 + 1)) (hw n i a q (t0 + 1)) 71 k = tJ 71 k := fun k => k_up_oth (by omega)
        exact HM.ag ht.2.1 hh
      · show k_up tJ 79 (21 * q + (t0 + 1)) (hw n i a q (t0 + 1)) 72 x = _
        rw [k_up_oth (by omega), ht.2.2 72 x (by unfold sA; omega)]
        exact e3 x hx
      · show k_up tJ 79 (21 * q + (t0 + 1)) (hw n i a q (t0 + 1)) 79 (21 * kd + t') = _
        by_cases he : kd = q ∧ t' = t0 + 1
        · obtain ⟨rfl, rfl⟩ := he
          rw [k_up_same]
        · rw [k_up_oth (by omega), ht.2.2 79 _ (by unfold sA; omega)]
          exact e5 kd t' hkd h1 h20 (by omega)
  · intro x hx
    obtain ⟨v, J⟩ := x
    obtain ⟨e1, e2, e3, e4, e5⟩ := hx
    dsimp only at e1 e2 e3 e4 e5
    subst e1
    dsimp only
    unfold f_X5_test_L74_b
    rw [if_pos (by decide)]
    simp only [k_let, nI_1]
    exact Ho_s ⟨J, rfl, e4, e3, fun kd t hkd h1 h20 hor => e5 kd t hkd h1 h20 (by omega)⟩
theorem M_testL {J0 J1 : StI} {n i : Nat} {a : AH} {set : Int32} (hg : AV n 40 a) (hi : i < n) (h4 : J0 63 4 = nI n) (hm : HM J0 70 0 a) (hk : KMx J1 a n i) (hF : MF J0 J1) : Ho (f_X5_test_L52 (nI i) set k_fu 0 J1) (fun t => (t.2 63 14, t.1) = tsR n i a set 20 ∧ MF J0 t.2) := by
  have hn := hg.1
  have hi7 : i < 7 := by omega
  unfold f_X5_test_L52
  refine Ho_loop0 (fun q x => x.1 = nI q ∧ MF J0 x.2 ∧ KMx x.2 a n i ∧ mI n i a q 0 x.2) 6 (by decide) ?_ ?_ _ ⟨rfl, hF, hk, fun kd t hkd h1 h20 hor => absurd hor (by omega)⟩
  · intro q x hq hx
    obtain ⟨v, J⟩ := x
    obtain ⟨e1, e2, e3, e4⟩ := hx
    dsimp only at e1 e2 e3 e4
    subst e1
    dsimp only
    unfold f_X5_test_L52_b
    rw [if_neg (by rw [show (6 : Int32) = nI 6 from rfl, nI_leI (by omega) (by omega)]; omega), g_i hi7, m_i hi7]
    unfold k_let
    have e2' : MF J0 (k_up J 72 i (nI q)) := e2.up (Or.inl (by unfold sMs; omega))
    refine Ho_bm (M_lay (n := n) (I := J0) (J := k_up J 72 i (nI q)) (a := a) hm e2') (fun J2 hp2 => ?_)
    refine (M_howL hg hi hq h4 (HM_hi hp2.1) (fun x hx => by rw [hp2.2.1 72 x (by decide)]; exact e3.set x hx) hp2.2.2 (fun kd t hkd h1 h20 hor => ?_)).mono (fun x hx => ?_)
    · rw [hp2.2.1 79 _ (by decide), k_up_oth (by omega)]
      exact e4 kd t hkd h1 h20 hor
    · obtain ⟨J3, rfl, x1, x2, x3⟩ := hx
      refine ⟨rfl, x1, fun y hy hne => ?_, x3⟩
      have := x2 y hy
      rwa [upd_o (by omega)] at this
  · intro x hx
    obtain ⟨v, J⟩ := x
    obtain ⟨e1, e2, e3, e4⟩ := hx
    dsimp only at e1 e2 e3 e4
    subst e1
    dsimp only
    unfold f_X5_test_L52_b
    rw [if_pos (by decide), Ho_map_i]
    refine (M_testE (n := n) (i := i) (a := a) (fun kd t hkd h1 h20 => e4 kd t hkd h1 h20 (by omega))).mono (fun u hu => ?_)
    subst hu
    refine ⟨?_, e2.up (Or.inr ⟨rfl, rfl⟩)⟩
    show (k_up J 63 14 (tsR n i a set 20).1 63 14, (tsR n i a set 20).2) = _
    rw [k_up_same]
theorem L_test {I : StI} {L : StL} (h : Rel I L) (v1 v2 : Int32) : Sm (f_X4_test v1 v2 I) (f_X5_test v1 v2) L := by
  obtain ⟨n, fa, ds, hx⟩ := h.2.2.2
  obtain ⟨hg, hc, h7, hm, h4, hk, hrm, -⟩ := hx.vw
  have hn := hg.1.1
  by_cases hi : 0 ≤ v1.toInt ∧ v1.toInt < n
  · by_cases hr : 0 ≤ v2.toInt ∧ v2.toInt < 6
    · obtain ⟨i, hin, rfl⟩ := i_in hi.1 hi.2
      obtain ⟨r, hr6, rfl⟩ := i_in hr.1 (show v2.toInt < (6 : Nat) from hr.2)
      obtain ⟨j, hj, s1, s2, s3⟩ := seen_all h.1 hr6
      by_cases hj0 : j = 0
      · subst hj0
        obtain ⟨K, k1, k2, k3⟩ := s3 rfl
        have hC := C_kindsL (s := I (k_rq r)) (J0 := I) hg.1 hc h7 hin hr6 k2 k3 (fun _ _ => rfl) (fun _ _ _ _ => rfl) rfl
        have hM : ∀ J : StI, (∀ b k, 63 ≤ b → J b k = I b k) → _ := fun J hJ => M_kindsBy (J0 := J) (i := i) (r := r) (s := I (k_rq r)) hg.1 (fun j hj => by rw [hJ 70 _ (by decide)]; exact hm j hj) (by rw [hJ 63 4 (by decide)]; exact h4) (fun i hi => by rw [hJ 68 i (by decide)]; exact hk i hi) hin hr6 k2 (by rw [hJ 64 r (by decide), (h.1 r hr6).2.1]; exact k3) (fun i hi => by rw [hJ 65 _ (by decide)]; exact (h.1 r hr6).2.2 i (by omega))
        by_cases hz : setOf (kSt n i K (rep n ds fa) (I (k_rq r))) 6 = 0
        · refine Sm_aside h (-9) (I 0 9) ?_ (fun J hJ => ?_)
          · unfold f_X4_test
            rw [C_isCaller hn hc.1, if_pos hi]
            refine Ho_b1 (Ho_n0 ?_)
            rw [C_isRow, if_pos hr]
            refine Ho_b1 (Ho_n0 ?_)
            rw [s1]
            refine Ho_b1 ?_
            rw [if_pos (by decide)]
            refine Ho_bm hC (fun t ht => ?_)
            rw [if_pos (by rw [ht.1]; exact hz)]
            exact Ho_s ⟨rfl, ht.2.2, ht.2.1⟩
          · unfold f_X5_test
            rw [M_isCaller hn (by rw [hJ 63 4 (by decide)]; exact h4), if_pos hi]
            refine Ho_b1 (Ho_n0 ?_)
            rw [M_isRow, if_pos hr]
            refine Ho_b1 (Ho_n0 ?_)
            rw [s2 J hJ]
            refine Ho_b1 ?_
            rw [if_pos (by decide)]
            refine Ho_bm (hM J hJ) (fun t ht => ?_)
            rw [if_pos (by rw [ht.1]; exact hz)]
            refine Ho_s ⟨rfl, ?_, ht.2.1⟩
            show t.2 63 14 = _
            rw [ht.2.2.1, hJ 63 14 (by decide), h.2.2.1.1]
        · refine Sm_pair h (tsR n i (rep n ds fa) (setOf (kSt n i K (rep n ds fa) (I (k_rq r))) 6) 20) ?_ (fun J hJ => ?_)
          · unfold f_X4_test
            rw [C_isCaller hn hc.1, if_pos hi]
            refine Ho_b1 (Ho_n0 ?_)
            rw [C_isRow, if_pos hr]
            refine Ho_b1 (Ho_n0 ?_)
            rw [s1]
            refine Ho_b1 ?_
            rw [if_pos (by decide)]
            refine Ho_bm hC (fun t ht => ?_)
            rw [if_neg (by rw [ht.1]; exact hz), ht.1]
            refine Ho_bm (C_alike hg.1 hc h7 hin ht.2.1) (fun J1 hp => ?_)
            exact C_testL hp.1 hp.2
          · have h4' : J 63 4 = nI n := by rw [hJ 63 4 (by decide)]; exact h4
            unfold f_X5_test
            rw [M_isCaller hn h4', if_pos hi]
            refine Ho_b1 (Ho_n0 ?_)
            rw [M_isRow, if_pos hr]
            refine Ho_b1 (Ho_n0 ?_)
            rw [s2 J hJ]
            refine Ho_b1 ?_
            rw [if_pos (by decide)]
            refine Ho_bm (hM J hJ) (fun t ht => ?_)
            rw [if_neg (by rw [ht.1]; exact hz), ht.1]
            exact M_testL hg.1 hin h4' (fun j hj => by rw [hJ 70 _ (by decide)]; exact hm j hj) ht.2.2.2 ht.2.1
      · refine Sm_found h j (by omega) hj ?_ (fun J hJ => ?_)
        · unfold f_X4_test
          rw [C_isCaller hn hc.1, if_pos hi, Option.bind_some, if_neg (by decide), C_isRow, if_pos hr, Option.bind_some, if_neg (by decide), s1, Option.bind_some, if_neg (k_ne0 (by omega) (by omega)), bind_eta]
        · unfold f_X5_test
          rw [M_isCaller hn (by rw [hJ 63 4 (by decide)]; exact h4), if_pos hi, Option.bind_some, if_neg (by decide), M_isRow, if_pos hr, Option.bind_some, if_neg (by decide), s2 J hJ, Option.bind_some, if_neg (k_npos (by omega) (by omega)), bind_eta]
    · refine Sm_same h (-1) ?_ ?_
      · unfold f_X4_test
        rw [C_isCaller hn hc.1, if_pos hi, Option.bind_some, if_neg (by decide), C_isRow, if_neg hr, Option.bind_some, if_pos rfl]
      · unfold f_X5_test
        rw [M_isCaller hn h4, if_pos hi, Option.bind_some, if_neg (by decide), M_isRow, if_neg hr, Option.bind_some, if_pos rfl]
  · refine Sm_same h (-1) ?_ ?_
    · unfold f_X4_test
      rw [C_isCaller hn hc.1, if_neg hi, Option.bind_some, if_pos rfl]
    · unfold f_X5_test
      rw [M_isCaller hn h4, if_neg hi, Option.bind_some, if_pos rfl]
