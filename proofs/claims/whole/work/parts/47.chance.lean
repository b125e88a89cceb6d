/-! six steps, it not being up in some of them -/
def u6 (d : Int32) (q : Nat) (a : AH) : Int32 := if hasb d q = true then 0 else upv a
def i6 (n : Nat) (d : Int32) : Nat → AH → AH
  | 0, a => a
  | q + 1, a => sg n 0 (u6 d q (i6 n d q a)) (i6 n d q a)
def s6 (n : Nat) (d : Int32) : Nat → AH → Int32
  | 0, _ => 0
  | q + 1, a => s6 n d q a + sr n 0 (u6 d q (i6 n d q a)) (i6 n d q a)
theorem AV_i6 {n m : Nat} {d : Int32} {a : AH} (h : AV n m a) : ∀ k, m + k < 1000 → AV n (m + k) (i6 n d k a)
  | 0, _ => h
  | k + 1, hk => AV_sg (m := m + k) (AV_i6 h k (by omega)) (by omega)
theorem i6_hi {n j : Nat} {d : Int32} {a : AH} (hn : n ≤ 7) (hj : 40 ≤ j) : ∀ k, i6 n d k a j = a j
  | 0 => rfl
  | k + 1 => by
    show sg n 0 (u6 d k (i6 n d k a)) (i6 n d k a) j = a j
    rw [sg_o (by omega) (Or.inr hj) hn]
    exact i6_hi hn hj k
theorem s6_rng {n : Nat} {d : Int32} {a : AH} (hn : n ≤ 7) : ∀ k, k < 1000 → 0 ≤ (s6 n d k a).toInt ∧ (s6 n d k a).toInt ≤ 7 * k
  | 0, _ => ⟨by show 0 ≤ (0 : Int32).toInt; decide, by show (0 : Int32).toInt ≤ 7 * ((0 : Nat) : Int); decide⟩
  | k + 1, hk => by
    have h1 := s6_rng (d := d) (a := a) hn k (by omega)
    have h2 := sr_rng (n := n) (u := 0) (up := u6 d k (i6 n d k a)) (a := i6 n d k a) hn
    show 0 ≤ (s6 n d k a + sr n 0 (u6 d k (i6 n d k a)) (i6 n d k a)).toInt ∧ (s6 n d k a + sr n 0 (u6 d k (i6 n d k a)) (i6 n d k a)).toInt ≤ _
    have e : (s6 n d k a + sr n 0 (u6 d k (i6 n d k a)) (i6 n d k a)).toInt = (s6 n d k a).toInt + (sr n 0 (u6 d k (i6 n d k a)) (i6 n d k a)).toInt := i_add (by omega) (by omega)
    rw [e]
    omega
theorem upv_01 {a : AH} : upv a = 0 ∨ upv a = 1 := by
  unfold upv
  split
  · exact Or.inr rfl
  · exact Or.inl rfl
theorem C_six {I J0 : StI} {n : Nat} {a : AH} {d : Int32} (hg : AV n 40 a) (hc : HC I 24 a n) (h7 : I 24 7 = 0) (hJ : CF I J0) (h9 : J0 0 9 = I 0 9) : Ho (f_X4_answeredWithDowns d J0) (fun t => t.1 = s6 n d 6 a ∧ CF I t.2 ∧ t.2 0 9 = I 0 9) := by
  have hn := hg.1
  unfold f_X4_answeredWithDowns
  refine Ho_bm (C_lay hn hc h7 hJ) (fun J1 hp => ?_)
  unfold f_X4_answeredWithDowns_L15
  refine Ho_loop0 (fun q x => x.1 = s6 n d q a ∧ x.2.1 = nI q ∧ HC x.2.2 33 (i6 n d q a) n ∧ x.2.2 33 7 = 0 ∧ CF I x.2.2 ∧ x.2.2 0 9 = I 0 9) 6 (by decide) ?_ ?_ _ ⟨rfl, rfl, hp.1, hp.2.1, CF.trans33 hJ hp.2.2, (hp.2.2 0 9 (by unfold sC; omega)).trans h9⟩
  · intro q x hq hx
    obtain ⟨s, v, J⟩ := x
    obtain ⟨e0, e1, e2, e7, e3, e9⟩ := hx
    dsimp only at e0 e1 e2 e7 e3 e9
    subst e0 e1
    dsimp only
    have hq2 := AV_i6 (d := d) hg q (by omega)
    have fin : Ho (f_X4_answeredWithDowns_j62 d (nI q) (s6 n d q a) (u6 d q (i6 n d q a)) J) (Sum.elim (fun x => x.1 = s6 n d (q + 1) a ∧ x.2.1 = nI (q + 1) ∧ HC x.2.2 33 (i6 n d (q + 1) a) n ∧ x.2.2 33 7 = 0 ∧ CF I x.2.2 ∧ x.2.2 0 9 = I 0 9) (fun t => t.1 = s6 n d 6 a ∧ CF I t.2 ∧ t.2 0 9 = I 0 9)) := by
      unfold f_X4_answeredWithDowns_j62
      refine Ho_bm (C_pass (up := u6 d q (i6 n d q a)) hq2 e2) (fun t ht => ?_)
      obtain ⟨tv, tJ⟩ := t
      rw [e7] at ht
      obtain ⟨t1, t2, t3, t4⟩ := ht
      dsimp only at t1 t2 t3 t4 ⊢
      subst t1
      unfold k_let
      rw [nI_1]
      exact Ho_s ⟨rfl, rfl, t2, t3, CF.trans33 e3 t4, (t4 0 9 (by unfold sC; omega)).trans e9⟩
    unfold f_X4_answeredWithDowns_L15_b f_X4_answeredWithDowns_j35 f_X4_answeredWithDowns_j61
    rw [if_neg (by rw [show (6 : Int32) = nI 6 from rfl, nI_leI (by omega) (by omega)]; omega), C_isUp (by omega) hq2 e2]
    by_cases hb : hasb d q = true
    · rw [if_pos (show ((d >>> (nI q &&& 31)) &&& (1 : Int32)) = 1 by unfold hasb at hb; exact of_decide_eq_true hb), if_neg (by decide)]
      have : u6 d q (i6 n d q a) = 0 := by unfold u6; rw [if_pos hb]
      rw [this] at fin
      exact fin
    · rw [if_neg (show ¬ ((d >>> (nI q &&& 31)) &&& (1 : Int32)) = 1 from fun z => hb (by unfold hasb; exact decide_eq_true z)), if_pos rfl]
      have hu : u6 d q (i6 n d q a) = upv (i6 n d q a) := by unfold u6; rw [if_neg hb]
      rw [hu] at fin
      refine Ho_b1 ?_
      rcases upv_01 (a := i6 n d q a) with h | h
      · rw [h] at fin ⊢
        rw [if_pos rfl]
        exact fin
      · rw [h] at fin ⊢
        rw [if_neg (by decide)]
        exact fin
  · intro x hx
    obtain ⟨s, v, J⟩ := x
    obtain ⟨e0, e1, e2, e7, e3, e9⟩ := hx
    dsimp only at e0 e1 e2 e7 e3 e9
    subst e0 e1
    dsimp only
    unfold f_X4_answeredWithDowns_L15_b
    rw [if_pos (by decide)]
    exact Ho_s ⟨rfl, e3, e9⟩
theorem M_six {J0 J1 : StI} {n d : Nat} {a : AH} (hg : AV n 40 a) (hm : HM J0 70 0 a) (h4 : J0 63 4 = nI n) (hk : KM J1 72 a n) (hF : MF J0 J1) (h14 : J1 63 14 = J0 63 14) : Ho (f_X5_sixBy (nI d) J1) (fun t => t.1 = s6 n (nI d) 6 a ∧ MF J0 t.2 ∧ KM t.2 72 a n ∧ t.2 63 14 = J0 63 14) := by
  have hn := hg.1
  unfold f_X5_sixBy
  refine Ho_bm (M_lay (n := n) (I := J0) (J := J1) (a := a) hm hF) (fun J2 hp => ?_)
  unfold f_X5_sixBy_L8
  refine Ho_loop0 (fun q x => x.1 = s6 n (nI d) q a ∧ x.2.1 = nI q ∧ HM x.2.2 71 0 (i6 n (nI d) q a) ∧ MF J0 x.2.2 ∧ KM x.2.2 72 a n ∧ x.2.2 63 14 = J0 63 14) 6 (by decide) ?_ ?_ _ ⟨rfl, rfl, hp.1, hp.2.2, fun i hi => (hp.2.1 72 i (by decide)).trans (hk i hi), (hp.2.1 63 14 (by decide)).trans h14⟩
  · intro q x hq hx
    obtain ⟨s, v, J⟩ := x
    obtain ⟨e0, e1, e2, e3, e4, e9⟩ := hx
    dsimp only at e0 e1 e2 e3 e4 e9
    subst e0 e1
    dsimp only
    have hq2 := AV_i6 (d := nI d) hg q (by omega)
    have fin : Ho (f_X5_sixBy_j45 (nI d) (nI q) (s6 n (nI d) q a) 0 (u6 (nI d) q (i6 n (nI d) q a)) J) (Sum.elim (fun x => x.1 = s6 n (nI d) (q + 1) a ∧ x.2.1 = nI (q + 1) ∧ HM x.2.2 71 0 (i6 n (nI d) (q + 1) a) ∧ MF J0 x.2.2 ∧ KM x.2.2 72 a n ∧ x.2.2 63 14 = J0 63 14) (fun t => t.1 = s6 n (nI d) 6 a ∧ MF J0 t.2 ∧ KM t.2 72 a n ∧ t.2 63 14 = J0 63 14)) := by
      unfold f_X5_sixBy_j45
      refine Ho_bm (M_goes (u := 0) (up := u6 (nI d) q (i6 n (nI d) q a)) (Or.inr rfl) hq2 e2 (fun i hi => by rw [i6_hi hn (by omega)]; exact e4 i hi) (by rw [e3 63 4 (by unfold sMs; omega) (by omega)]; exact h4)) (fun t ht => ?_)
      obtain ⟨tv, tJ⟩ := t
      obtain ⟨t1, t2, -, -, t4⟩ := ht
      dsimp only at t1 t2 t4 ⊢
      subst t1
      unfold k_let
      rw [nI_1]
      refine Ho_s ⟨rfl, rfl, t2, e3.goes (fun b k hb => t4 b k (by unfold sA at hb; omega) (by unfold sA at hb; omega)), fun i hi => (t4 72 i (by decide) (by omega)).trans (e4 i hi), (t4 63 14 (by decide) (by decide)).trans e9⟩
    unfold f_X5_sixBy_L8_b f_X5_sixBy_j44
    rw [if_neg (by rw [show (6 : Int32) = nI 6 from rfl, nI_leI (by omega) (by omega)]; omega), M_isUp (Or.inr rfl) (by omega) hq2 e2, M_has]
    refine Ho_b1 ?_
    have hu : u6 (nI d) q (i6 n (nI d) q a) = if hasb (nI d) q = true then 0 else upv (i6 n (nI d) q a) := rfl
    rcases upv_01 (a := i6 n (nI d) q a) with h | h
    · have h0 : u6 (nI d) q (i6 n (nI d) q a) = 0 := by rw [hu, h]; split <;> rfl
      rw [h, if_pos rfl]
      rw [h0] at fin
      exact fin
    · rw [h, if_neg (by decide)]
      refine Ho_b1 ?_
      by_cases hb : hasb (nI d) q = true
      · rw [if_pos hb, if_neg (by decide)]
        rw [hu, if_pos hb] at fin
        exact fin
      · rw [if_neg hb, if_pos rfl]
        rw [hu, if_neg hb, h] at fin
        exact fin
  · intro x hx
    obtain ⟨s, v, J⟩ := x
    obtain ⟨e0, e1, e2, e3, e4, e9⟩ := hx
    dsimp only at e0 e1 e2 e3 e4 e9
    subst e0 e1
    dsimp only
    unfold f_X5_sixBy_L8_b
    rw [if_pos (by decide)]
    exact Ho_s ⟨rfl, e3, e4, e9⟩
/-! odds, mid -/
def S6 (n : Nat) (a : AH) (d : Nat) : Nat := (s6 n (nI d) 6 a).toInt.toNat
theorem S6_le {n : Nat} {a : AH} {d : Nat} (hn : n ≤ 7) : S6 n a d ≤ 42 := by
  have := s6_rng (d := nI d) (a := a) hn 6 (by decide)
  unfold S6
  omega
theorem S6_eq {n : Nat} {a : AH} {d : Nat} (hn : n ≤ 7) : s6 n (nI d) 6 a = nI (S6 n a d) := i_of _ (s6_rng hn 6 (by decide)).1
def pW (c : Nat → Nat) (p : Nat) : Nat → Nat
  | 0 => 0
  | q + 1 => pW c p q + c q * wN p q 6
theorem pW_le {c : Nat → Nat} {p : Nat} (hp : p ≤ 12) (hc : ∀ q, c q ≤ 42) : ∀ q, pW c p q ≤ q * 125411328
  | 0 => by show 0 ≤ 0 * 125411328; omega
  | q + 1 => by
    have h1 := pW_le hp hc q
    have h2 : c q * wN p q 6 ≤ 42 * 2985984 := Nat.mul_le_mul (hc q) (wN_le hp 6)
    show pW c p q + c q * wN p q 6 ≤ (q + 1) * 125411328
    omega
theorem pW_40 {c : Nat → Nat} {p : Nat} (hp : p ≤ 12) (hc : ∀ q, c q ≤ 42) : pW c p 64 < 2 ^ 40 := by
  have := pW_le hp hc 64
  omega
def cO (n v : Nat) (a : AH) (d : Nat) : Nat := if S6 n a d < v then 0 else 1
theorem cO_le {n v : Nat} {a : AH} (d : Nat) : cO n v a d ≤ 42 := by
  unfold cO
  split <;> omega
def SmL (o : Option (Int32 × StI × StL)) (f : StI → StL → Option (Int32 × StI × StL)) : Prop := Ho o (fun t => Ho (f t.2.1 t.2.2) (fun u => t.1 = u.1 ∧ Rel u.2.1 u.2.2))
theorem Rel.lng {I : StI} {L L' : StL} (h : Rel I L) (h1 : L' 63 15 = L' 0 10) (h2 : L' 63 16 = L' 0 11) : Rel I L' := ⟨h.1, h.2.1, ⟨h.2.2.1.1, h.2.2.1.2.1, h.2.2.1.2.2.1, h1, h2⟩, h.2.2.2⟩
theorem SmL_same {I : StI} {L : StL} {o : Option (Int32 × StI × StL)} {f : StI → StL → Option (Int32 × StI × StL)} (h : Rel I L) (c : Int32) (h1 : o = some (c, I, L)) (h2 : f I L = some (c, I, L)) : SmL o f := ⟨_, h1, _, h2, rfl, h⟩
theorem SmL_told {I : StI} {L : StL} {o : Option (Int32 × StI × StL)} {f : StI → StL → Option (Int32 × StI × StL)} (h : Rel I L) (X Y : Int64) (hc : Ho o (fun t => t.1 = 1 ∧ CF I t.2.1 ∧ t.2.1 0 9 = I 0 9 ∧ t.2.2 = k_upL (k_upL L 0 10 X) 0 11 Y)) (hm : ∀ (J : StI) (K : StL), (∀ b k, 63 ≤ b → J b k = I b k) → Ho (f J K) (fun u => u.1 = 1 ∧ MF J u.2.1 ∧ u.2.1 63 14 = J 63 14 ∧ u.2.2 = k_upL (k_upL K 63 15 X) 63 16 Y)) : SmL o f := by
  refine hc.mono (fun t ht => ?_)
  obtain ⟨t1, t2, t3, t4⟩ := ht
  have hJ : ∀ b k, 63 ≤ b → t.2.1 b k = I b k := fun b k hb => t2 b k (by unfold sCs; omega) (by omega)
  refine (hm t.2.1 t.2.2 hJ).mono (fun u hu => ?_)
  obtain ⟨u1, u2, u3, u4⟩ := hu
  refine ⟨t1.trans u1.symm, (Rel_aside h t2 u2 ?_).lng ?_ ?_⟩
  · rw [u3, hJ 63 14 (by decide), u2 0 9 (by unfold sMs; omega) (by omega), t3]
    exact h.2.2.1.1
  · rw [u4, t4]
    rw [k_upL_oth (by omega), k_upL_same, k_upL_oth (by omega), k_upL_oth (by omega), k_upL_oth (by omega), k_upL_same]
  · rw [u4, t4]
    rw [k_upL_same, k_upL_oth (by omega), k_upL_oth (by omega), k_upL_same]
theorem C_isChance (v : Int32) : f_X4_isChance v = some (if 0 ≤ v.toInt ∧ v.toInt ≤ 12 then 1 else 0) := by
  unfold f_X4_isChance
  simp only [i_lt, i_le, Int32.reduceToInt]
  repeat' split
  all_goals first | rfl | omega
theorem C_oddsL {I : StI} {L : StL} {n v p : Nat} {a : AH} (hg : AV n 40 a) (hc : HC I 24 a n) (h7 : I 24 7 = 0) (hv : v ≤ 42) (hp : p ≤ 12) : Ho (f_X4_odds_L37 (nI v) (nI p) L k_fu 0 0 I) (fun t => t.1 = 1 ∧ CF I t.2.1 ∧ t.2.1 0 9 = I 0 9 ∧ t.2.2 = k_upL (k_upL L 0 10 (nL (pW (cO n v a) p 64) / gW (pW (cO n v a) p 64))) 0 11 (2985984 / gW (pW (cO n v a) p 64))) := by
  have hn := hg.1
  generalize hN : (64 : Nat) = N
  unfold f_X4_odds_L37
  refine Ho_loop0 (fun q x => x.1 = nL (pW (cO n v a) p q) ∧ x.2.1 = nI q ∧ CF I x.2.2 ∧ x.2.2 0 9 = I 0 9) N (by omega) ?_ ?_ _ ⟨rfl, rfl, fun _ _ _ _ => rfl, rfl⟩
  · intro q x hq hx
    obtain ⟨s, w, J⟩ := x
    obtain ⟨e0, e1, e3, e9⟩ := hx
    dsimp only at e0 e1 e3 e9
    subst e0 e1
    dsimp only
    unfold f_X4_odds_L37_b
    rw [if_neg (by rw [show (64 : Int32) = nI 64 from rfl, nI_leI (by omega) (by omega)]; omega)]
    refine Ho_bm (C_six (d := nI q) hg hc h7 e3 e9) (fun t ht => ?_)
    obtain ⟨tv, tJ⟩ := t
    obtain ⟨t1, t2, t3⟩ := ht
    dsimp only at t1 t2 t3 ⊢
    rw [S6_eq hn] at t1
    subst t1
    have hS := S6_le (a := a) (d := q) hn
    rw [C_weight hp]
    by_cases hlt : S6 n a q < v
    · rw [if_pos (by rw [nI_ltI (by omega) (by omega)]; exact hlt)]
      unfold k_let
      rw [nI_1]
      refine Ho_s ⟨?_, rfl, t2, t3⟩
      show nL (pW (cO n v a) p q) = nL (pW (cO n v a) p q + cO n v a q * wN p q 6)
      unfold cO
      rw [if_pos hlt, Nat.zero_mul, Nat.add_zero]
    · rw [if_neg (by rw [nI_ltI (by omega) (by omega)]; exact hlt)]
      refine Ho_b1 ?_
      unfold k_let
      rw [nI_1, nL_add]
      refine Ho_s ⟨?_, rfl, t2, t3⟩
      show nL (pW (cO n v a) p q + wN p q 6) = nL (pW (cO n v a) p q + cO n v a q * wN p q 6)
      have : cO n v a q = 1 := by unfold cO; rw [if_neg hlt]
      rw [this, Nat.one_mul]
  · intro x hx
    obtain ⟨s, w, J⟩ := x
    obtain ⟨e0, e1, e3, e9⟩ := hx
    dsimp only at e0 e1 e3 e9
    subst e0 e1
    dsimp only
    unfold f_X4_odds_L37_b
    have hlt : pW (cO n v a) p N < 2 ^ 40 := by rw [← hN]; exact pW_40 hp cO_le
    rw [if_pos (by rw [show (64 : Int32) = nI 64 from rfl, nI_leI (by omega) (by omega)]; omega), C_tell hlt]
    exact Ho_b1 (Ho_s ⟨rfl, e3, e9, rfl⟩)
theorem C_midL {I : StI} {L : StL} {n p : Nat} {a : AH} (hg : AV n 40 a) (hc : HC I 24 a n) (h7 : I 24 7 = 0) (hp : p ≤ 12) : Ho (f_X4_mid_L27 (nI p) L k_fu 0 0 I) (fun t => t.1 = 1 ∧ CF I t.2.1 ∧ t.2.1 0 9 = I 0 9 ∧ t.2.2 = k_upL (k_upL L 0 10 (nL (pW (S6 n a) p 64) / gW (pW (S6 n a) p 64))) 0 11 (2985984 / gW (pW (S6 n a) p 64))) := by
  have hn := hg.1
  generalize hN : (64 : Nat) = N
  unfold f_X4_mid_L27
  refine Ho_loop0 (fun q x => x.1 = nL (pW (S6 n a) p q) ∧ x.2.1 = nI q ∧ CF I x.2.2 ∧ x.2.2 0 9 = I 0 9) N (by omega) ?_ ?_ _ ⟨rfl, rfl, fun _ _ _ _ => rfl, rfl⟩
  · intro q x hq hx
    obtain ⟨s, w, J⟩ := x
    obtain ⟨e0, e1, e3, e9⟩ := hx
    dsimp only at e0 e1 e3 e9
    subst e0 e1
    dsimp only
    unfold f_X4_mid_L27_b
    rw [if_neg (by rw [show (64 : Int32) = nI 64 from rfl, nI_leI (by omega) (by omega)]; omega)]
    refine Ho_bm (C_six (d := nI q) hg hc h7 e3 e9) (fun t ht => ?_)
    obtain ⟨tv, tJ⟩ := t
    obtain ⟨t1, t2, t3⟩ := ht
    dsimp only at t1 t2 t3 ⊢
    rw [S6_eq hn] at t1
    subst t1
    have hS := S6_le (a := a) (d := q) hn
    rw [C_weight hp]
    refine Ho_b1 ?_
    unfold k_let
    rw [nI_1, nI_L (by omega), nL_mul, nL_add]
    exact Ho_s ⟨rfl, rfl, t2, t3⟩
  · intro x hx
    obtain ⟨s, w, J⟩ := x
    obtain ⟨e0, e1, e3, e9⟩ := hx
    dsimp only at e0 e1 e3 e9
    subst e0 e1
    dsimp only
    unfold f_X4_mid_L27_b
    have hlt : pW (S6 n a) p N < 2 ^ 40 := by rw [← hN]; exact pW_40 hp (fun q => S6_le hn)
    rw [if_pos (by rw [show (64 : Int32) = nI 64 from rfl, nI_leI (by omega) (by omega)]; omega), C_tell hlt]
    exact Ho_b1 (Ho_s ⟨rfl, e3, e9, rfl⟩)
theorem M_chanceL {J0 J1 : StI} {K : StL} {n v p : Nat} {a : AH} {b : Int32} (c : Nat → Nat) (hcc : ∀ q, c q ≤ 42) (hb : (b = 0 ∧ c = cO n v a) ∨ (b = 1 ∧ c = S6 n a)) (hg : AV n 40 a) (hm : HM J0 70 0 a) (h4 : J0 63 4 = nI n) (hk : KM J1 72 a n) (hF : MF J0 J1) (h14 : J1 63 14 = J0 63 14) (hv : v ≤ 42) (hp : p ≤ 12) : Ho (f_X5_chance_L50 (nI v) (nI p) b K k_fu 0 0 J1) (fun t => t.1 = 1 ∧ MF J0 t.2.1 ∧ t.2.1 63 14 = J0 63 14 ∧ t.2.2 = k_upL (k_upL K 63 15 (nL (pW c p 64) / gW (pW c p 64))) 63 16 (2985984 / gW (pW c p 64))) := by
  have hn := hg.1
  generalize hN : (64 : Nat) = N
  unfold f_X5_chance_L50
  refine Ho_loop0 (fun q x => x.1 = nL (pW c p q) ∧ x.2.1 = nI q ∧ MF J0 x.2.2 ∧ KM x.2.2 72 a n ∧ x.2.2 63 14 = J0 63 14) N (by omega) ?_ ?_ _ ⟨rfl, rfl, hF, hk, h14⟩
  · intro q x hq hx
    obtain ⟨s, w, J⟩ := x
    obtain ⟨e0, e1, e3, e4, e9⟩ := hx
    dsimp only at e0 e1 e3 e4 e9
    subst e0 e1
    dsimp only
    unfold f_X5_chance_L50_b f_X5_chance_j93
    rw [if_neg (by rw [show (64 : Int32) = nI 64 from rfl, nI_leI (by omega) (by omega)]; omega)]
    refine Ho_bm (M_six (d := q) hg hm h4 e4 e3 e9) (fun t ht => ?_)
    obtain ⟨tv, tJ⟩ := t
    obtain ⟨t1, t2, t3, t4⟩ := ht
    dsimp only at t1 t2 t3 t4 ⊢
    rw [S6_eq hn] at t1
    subst t1
    have hS := S6_le (a := a) (d := q) hn
    rw [M_weigh hp]
    refine Ho_b1 ?_
    unfold k_let
    rw [nI_1, nI_L (by omega), show (0 : Int32).toInt64 = nL 0 from rfl, show (1 : Int32).toInt64 = nL 1 from rfl]
    rw [nL_mul, nL_mul, nL_mul, nL_add, nL_add, nL_add]
    rcases hb with ⟨rfl, rfl⟩ | ⟨rfl, rfl⟩
    · rw [if_pos rfl]
      by_cases hlt : S6 n a q < v
      · rw [if_pos (by rw [nI_ltI (by omega) (by omega)]; exact hlt)]
        refine Ho_s ⟨?_, rfl, t2, t3, t4⟩
        show nL (pW (cO n v a) p q + wN p q 6 * 0) = nL (pW (cO n v a) p q + cO n v a q * wN p q 6)
        have : cO n v a q = 0 := by unfold cO; rw [if_pos hlt]
        rw [this, Nat.zero_mul, Nat.mul_zero]
      · rw [if_neg (by rw [nI_ltI (by omega) (by omega)]; exact hlt)]
        refine Ho_s ⟨?_, rfl, t2, t3, t4⟩
        show nL (pW (cO n v a) p q + wN p q 6 * 1) = nL (pW (cO n v a) p q + cO n v a q * wN p q 6)
        have : cO n v a q = 1 := by unfold cO; rw [if_neg hlt]
        rw [this, Nat.one_mul, Nat.mul_one]
    · rw [if_neg (by decide)]
      refine Ho_s ⟨?_, rfl, t2, t3, t4⟩
      show nL (pW (S6 n a) p q + wN p q 6 * S6 n a q) = nL (pW (S6 n a) p q + S6 n a q * wN p q 6)
      rw [Nat.mul_comm]
  · intro x hx
    obtain ⟨s, w, J⟩ := x
    obtain ⟨e0, e1, e3, e4, e9⟩ := hx
    dsimp only at e0 e1 e3 e4 e9
    subst e0 e1
    dsimp only
    unfold f_X5_chance_L50_b
    have hlt : pW c p N < 2 ^ 40 := by rw [← hN]; exact pW_40 hp hcc
    rw [if_pos (by rw [show (64 : Int32) = nI 64 from rfl, nI_leI (by omega) (by omega)]; omega), M_tell hlt]
    exact Ho_b1 (Ho_s ⟨rfl, e3, e9, rfl⟩)
theorem L_odds {I : StI} {L : StL} (h : Rel I L) (v1 v2 : Int32) : SmL (f_X4_odds v1 v2 I L) (f_X5_odds v1 v2) := by
  obtain ⟨n, fa, ds, hx⟩ := h.2.2.2
  obtain ⟨hg, hc, h7, hm, h4, hk, hrm, -⟩ := hx.vw
  have hn := hg.1.1
  have min : f_X5_in v2.toInt64 (0 : Int64) (12 : Int64) = some (if 0 ≤ v2.toInt ∧ v2.toInt ≤ 12 then 1 else 0) := by
    rw [show (0 : Int64) = (0 : Int32).toInt64 from rfl, show (12 : Int64) = (12 : Int32).toInt64 from rfl, in_i]
    rfl
  have min2 : f_X5_in v1.toInt64 (0 : Int64) (42 : Int64) = some (if 0 ≤ v1.toInt ∧ v1.toInt ≤ 42 then 1 else 0) := by
    rw [show (0 : Int64) = (0 : Int32).toInt64 from rfl, show (42 : Int64) = (42 : Int32).toInt64 from rfl, in_i]
    rfl
  by_cases h1 : 0 ≤ v1.toInt ∧ v1.toInt ≤ 42
  · have c1 : ¬ v1 < 0 := by rw [i_lt]; simp only [Int32.reduceToInt]; omega
    have c2 : ¬ 42 < v1 := by rw [i_lt]; simp only [Int32.reduceToInt]; omega
    by_cases h2 : 0 ≤ v2.toInt ∧ v2.toInt ≤ 12
    · by_cases h0 : n = 0
      · subst h0
        refine SmL_same h (-4) ?_ ?_
        · unfold f_X4_odds
          rw [if_neg c1, if_neg c2, C_isChance, if_pos h2, Option.bind_some, if_neg (by decide), if_pos (by rw [hc.1]; rfl)]
        · unfold f_X5_odds f_X5_chance f_X5_chance_j30
          rw [min, if_pos h2, Option.bind_some, if_neg (by decide), if_pos rfl, min2, if_pos h1, Option.bind_some, if_neg (by decide), if_pos (by rw [h4]; rfl)]
          rfl
      · obtain ⟨v, hv, rfl⟩ := i_in (n := 43) h1.1 (by omega)
        obtain ⟨p, hp, rfl⟩ := i_in (n := 13) h2.1 (by omega)
        refine SmL_told h (nL (pW (cO n v (rep n ds fa)) p 64) / gW (pW (cO n v (rep n ds fa)) p 64)) (2985984 / gW (pW (cO n v (rep n ds fa)) p 64)) ?_ (fun J K hJ => ?_)
        · unfold f_X4_odds
          rw [if_neg c1, if_neg c2, C_isChance, if_pos h2]
          refine Ho_b1 (Ho_n0 ?_)
          rw [if_neg (by rw [hc.1]; exact k_ne0 (by omega) (by omega))]
          exact C_oddsL hg.1 hc h7 (by omega) (by omega)
        · have h4' : J 63 4 = nI n := by rw [hJ 63 4 (by decide)]; exact h4
          unfold f_X5_odds f_X5_chance f_X5_chance_j30
          refine Ho_bm (P := fun t => t.1 = 1 ∧ MF J t.2.1 ∧ t.2.1 63 14 = J 63 14 ∧ t.2.2 = k_upL (k_upL K 63 15 (nL (pW (cO n v (rep n ds fa)) p 64) / gW (pW (cO n v (rep n ds fa)) p 64))) 63 16 (2985984 / gW (pW (cO n v (rep n ds fa)) p 64))) ?_ (fun t ht => Ho_s ht)
          rw [min, if_pos h2]
          refine Ho_b1 (Ho_n0 ?_)
          rw [if_pos rfl, min2, if_pos h1]
          refine Ho_b1 (Ho_n0 ?_)
          rw [if_neg (by rw [h4']; exact k_ne0 (by omega) (by omega))]
          refine Ho_bm (M_kin (I := J) hn (fun i hi => by rw [hJ 68 i (by decide)]; exact hk i hi)) (fun J1 hp1 => ?_)
          exact M_chanceL (cO n v (rep n ds fa)) cO_le (Or.inl ⟨rfl, rfl⟩) hg.1 (fun j hj => by rw [hJ 70 _ (by decide)]; exact hm j hj) h4' hp1.1 hp1.2.1 (hp1.2.2 63 14 (by decide)) (by omega) (by omega)
    · refine SmL_same h (-1) ?_ ?_
      · unfold f_X4_odds
        rw [if_neg c1, if_neg c2, C_isChance, if_neg h2, Option.bind_some, if_pos rfl]
      · unfold f_X5_odds f_X5_chance
        rw [min, if_neg h2, Option.bind_some, if_pos rfl]
        rfl
  · refine SmL_same h (-1) ?_ ?_
    · unfold f_X4_odds
      by_cases q : v1 < 0
      · rw [if_pos q]
      · rw [if_neg q, if_pos (by rw [i_lt] at q ⊢; simp only [Int32.reduceToInt] at q ⊢; omega)]
    · unfold f_X5_odds f_X5_chance
      rw [min, min2, if_neg h1]
      by_cases h2 : 0 ≤ v2.toInt ∧ v2.toInt ≤ 12
      · rw [if_pos h2, Option.bind_some, if_neg (by decide), if_pos rfl, Option.bind_some, if_pos rfl]
        rfl
      · rw [if_neg h2, Option.bind_some, if_pos rfl]
        rfl
theorem L_mid {I : StI} {L : StL} (h : Rel I L) (v1 : Int32) : SmL (f_X4_mid v1 I L) (f_X5_mid v1) := by
  obtain ⟨n, fa, ds, hx⟩ := h.2.2.2
  obtain ⟨hg, hc, h7, hm, h4, hk, hrm, -⟩ := hx.vw
  have hn := hg.1.1
  have min : f_X5_in v1.toInt64 (0 : Int64) (12 : Int64) = some (if 0 ≤ v1.toInt ∧ v1.toInt ≤ 12 then 1 else 0) := by
    rw [show (0 : Int64) = (0 : Int32).toInt64 from rfl, show (12 : Int64) = (12 : Int32).toInt64 from rfl, in_i]
    rfl
  by_cases h2 : 0 ≤ v1.toInt ∧ v1.toInt ≤ 12
  · by_cases h0 : n = 0
    · subst h0
      refine SmL_same h (-4) ?_ ?_
      · unfold f_X4_mid
        rw [C_isChance, if_pos h2, Option.bind_some, if_neg (by decide), if_pos (by rw [hc.1]; rfl)]
      · unfold f_X5_mid f_X5_chance f_X5_chance_j30
        rw [min, if_pos h2, Option.bind_some, if_neg (by decide), if_neg (by decide), if_pos (by rw [h4]; rfl)]
        rfl
    · obtain ⟨p, hp, rfl⟩ := i_in (n := 13) h2.1 (by omega)
      refine SmL_told h (nL (pW (S6 n (rep n ds fa)) p 64) / gW (pW (S6 n (rep n ds fa)) p 64)) (2985984 / gW (pW (S6 n (rep n ds fa)) p 64)) ?_ (fun J K hJ => ?_)
      · unfold f_X4_mid
        rw [C_isChance, if_pos h2]
        refine Ho_b1 (Ho_n0 ?_)
        rw [if_neg (by rw [hc.1]; exact k_ne0 (by omega) (by omega))]
        exact C_midL hg.1 hc h7 (by omega)
      · have h4' : J 63 4 = nI n := by rw [hJ 63 4 (by decide)]; exact h4
        unfold f_X5_mid f_X5_chance f_X5_chance_j30
        refine Ho_bm (P := fun t => t.1 = 1 ∧ MF J t.2.1 ∧ t.2.1 63 14 = J 63 14 ∧ t.2.2 = k_upL (k_upL K 63 15 (nL (pW (S6 n (rep n ds fa)) p 64) / gW (pW (S6 n (rep n ds fa)) p 64))) 63 16 (2985984 / gW (pW (S6 n (rep n ds fa)) p 64))) ?_ (fun t ht => Ho_s ht)
        rw [min, if_pos h2]
        refine Ho_b1 (Ho_n0 ?_)
        rw [if_neg (by decide), if_neg (by rw [h4']; exact k_ne0 (by omega) (by omega))]
        refine Ho_bm (M_kin (I := J) hn (fun i hi => by rw [hJ 68 i (by decide)]; exact hk i hi)) (fun J1 hp1 => ?_)
        exact M_chanceL (v := 0) (S6 n (rep n ds fa)) (fun q => S6_le hn) (Or.inr ⟨rfl, rfl⟩) hg.1 (fun j hj => by rw [hJ 70 _ (by decide)]; exact hm j hj) h4' hp1.1 hp1.2.1 (hp1.2.2 63 14 (by decide)) (by omega) (by omega)
  · refine SmL_same h (-1) ?_ ?_
    · unfold f_X4_mid
      rw [C_isChance, if_neg h2, Option.bind_some, if_pos rfl]
    · unfold f_X5_mid f_X5_chance
      rw [min, if_neg h2, Option.bind_some, if_pos rfl]
      rfl
