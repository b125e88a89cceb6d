/-! deeds, and the whole relation -/
abbrev Dd : Type := Int32 × Int32 × Int32
def dAp (n : Nat) (d : Dd) (a : AH) : AH :=
  if d.1 = 1 then sg n 0 (upv a) a
  else if d.1 = 2 then upd a 3 (a 3 ^^^ ((1 : Int32) <<< (d.2.1 &&& 31)))
  else if d.1 = 3 then upd a 4 d.2.2
  else if d.1 = 4 then upd a (5 + d.2.1.toNatClampNeg) d.2.2
  else if d.1 = 5 then upd (upd (upd (upd a (12 + d.2.1.toNatClampNeg) 0) (19 + d.2.1.toNatClampNeg) 0) (26 + d.2.1.toNatClampNeg) 0) (33 + d.2.1.toNatClampNeg) (a (47 + d.2.1.toNatClampNeg))
  else a
def rep (n : Nat) : List Dd → AH → AH
  | [], a => a
  | d :: ds, a => rep n ds (dAp n d a)
def DV (n : Nat) (d : Dd) : Prop := (d.1 = 2 → ∃ s, s < 8 ∧ d.2.1 = nI s) ∧ (d.1 = 3 → 1 ≤ d.2.2.toInt ∧ d.2.2.toInt ≤ 9) ∧ (d.1 = 4 → (∃ i, i < n ∧ d.2.1 = nI i) ∧ 1 ≤ d.2.2.toInt ∧ d.2.2.toInt ≤ 9) ∧ (d.1 = 5 → ∃ i, i < n ∧ d.2.1 = nI i)
def GV (n m : Nat) (a : AH) : Prop := AV n m a ∧ (∃ p, p < 256 ∧ a 3 = nI p) ∧ (n = 0 ∨ (1 ≤ (a 4).toInt ∧ (a 4).toInt ≤ 9))
theorem upd_s {f : Nat → Int32} {k : Nat} {x : Int32} : upd f k x k = x := by simp [upd]
theorem upd_o {f : Nat → Int32} {k j : Nat} {x : Int32} (h : j ≠ k) : upd f k x j = f j := by simp [upd, h]
theorem AV.mono {n m m' : Nat} {a : AH} (h : AV n m a) (hm : m ≤ m') : AV n m' a := ⟨h.1, ⟨h.2.1.1, by have := h.2.1.2; omega⟩, h.2.2⟩
theorem pat_x0 : ∀ p : Fin 256, ∀ s : Fin 8, nI p.val ^^^ ((1 : Int32) <<< (nI s.val &&& 31)) = nI (p.val ^^^ 2 ^ s.val) := by decide +kernel
theorem pat_x {p s : Nat} (hp : p < 256) (hs : s < 8) : ∃ q, q < 256 ∧ nI p ^^^ ((1 : Int32) <<< (nI s &&& 31)) = nI q :=
  ⟨p ^^^ 2 ^ s, Nat.xor_lt_two_pow (n := 8) hp (Nat.pow_lt_pow_right (by decide) hs), pat_x0 ⟨p, hp⟩ ⟨s, hs⟩⟩
theorem GV_dAp {n m : Nat} {a : AH} {d : Dd} (h : GV n m a) (hd : DV n d) (hm : m < 1000) : GV n (m + 1) (dAp n d a) := by
  obtain ⟨hv, hp, hr⟩ := h
  unfold dAp
  by_cases h1 : d.1 = 1
  · rw [if_pos h1]
    exact ⟨AV_sg hv hm, by rw [sg_o (by omega) (by omega) hv.1]; exact hp, by rw [sg_o (by omega) (by omega) hv.1]; exact hr⟩
  · rw [if_neg h1]
    have hv' := hv.mono (Nat.le_succ m)
    obtain ⟨hn, h0, hc⟩ := hv'
    by_cases h2 : d.1 = 2
    · rw [if_pos h2]
      obtain ⟨s, hs, es⟩ := hd.1 h2
      obtain ⟨p, hp1, hp2⟩ := hp
      refine ⟨⟨hn, by rw [upd_o (by omega)]; exact h0, fun i hi => ?_⟩, ?_, by rw [upd_o (by omega)]; exact hr⟩
      · rw [upd_o (by omega), upd_o (by omega), upd_o (by omega), upd_o (by omega), upd_o (by omega), upd_o (by omega)]
        exact hc i hi
      · rw [upd_s, es, hp2]
        exact pat_x hp1 hs
    · rw [if_neg h2]
      by_cases h3 : d.1 = 3
      · rw [if_pos h3]
        refine ⟨⟨hn, by rw [upd_o (by omega)]; exact h0, fun i hi => ?_⟩, by rw [upd_o (by omega)]; exact hp, Or.inr (by rw [upd_s]; exact hd.2.1 h3)⟩
        rw [upd_o (by omega), upd_o (by omega), upd_o (by omega), upd_o (by omega), upd_o (by omega), upd_o (by omega)]
        exact hc i hi
      · rw [if_neg h3]
        by_cases h4 : d.1 = 4
        · rw [if_pos h4]
          obtain ⟨⟨i0, hi0, e0⟩, hl⟩ := hd.2.2.1 h4
          rw [e0, cl_n (by omega)]
          refine ⟨⟨hn, by rw [upd_o (by omega)]; exact h0, fun i hi => ?_⟩, by rw [upd_o (by omega)]; exact hp, by rw [upd_o (by omega)]; exact hr⟩
          obtain ⟨v1, v2, v3, v4, v5, v6, v7⟩ := hc i hi
          rw [upd_o (j := 47 + i) (by omega), upd_o (j := 12 + i) (by omega), upd_o (j := 19 + i) (by omega), upd_o (j := 26 + i) (by omega), upd_o (j := 33 + i) (by omega)]
          refine ⟨?_, v2, v3, v4, v5, v6, v7⟩
          by_cases e : i = i0
          · subst e
            rw [upd_s]; exact hl
          · rw [upd_o (by omega)]; exact v1
        · rw [if_neg h4]
          by_cases h5 : d.1 = 5
          · rw [if_pos h5]
            obtain ⟨i0, hi0, e0⟩ := hd.2.2.2 h5
            rw [e0, cl_n (by omega)]
            refine ⟨⟨hn, by rw [upd_o (by omega), upd_o (by omega), upd_o (by omega), upd_o (by omega)]; exact h0, fun i hi => ?_⟩, by rw [upd_o (by omega), upd_o (by omega), upd_o (by omega), upd_o (by omega)]; exact hp, by rw [upd_o (by omega), upd_o (by omega), upd_o (by omega), upd_o (by omega)]; exact hr⟩
            have hh := hc i hi
            by_cases e : i = i0
            · subst e
              obtain ⟨v1, v2, v3, v4, v5, v6, v7⟩ := hh
              have e5 : upd (upd (upd (upd a (12 + i) 0) (19 + i) 0) (26 + i) 0) (33 + i) (a (47 + i)) (5 + i) = a (5 + i) := by rw [upd_o (by omega), upd_o (by omega), upd_o (by omega), upd_o (by omega)]
              have e47 : upd (upd (upd (upd a (12 + i) 0) (19 + i) 0) (26 + i) 0) (33 + i) (a (47 + i)) (47 + i) = a (47 + i) := by rw [upd_o (by omega), upd_o (by omega), upd_o (by omega), upd_o (by omega)]
              have e12 : upd (upd (upd (upd a (12 + i) 0) (19 + i) 0) (26 + i) 0) (33 + i) (a (47 + i)) (12 + i) = 0 := by rw [upd_o (by omega), upd_o (by omega), upd_o (by omega), upd_s]
              have e19 : upd (upd (upd (upd a (12 + i) 0) (19 + i) 0) (26 + i) 0) (33 + i) (a (47 + i)) (19 + i) = 0 := by rw [upd_o (by omega), upd_o (by omega), upd_s]
              have e26 : upd (upd (upd (upd a (12 + i) 0) (19 + i) 0) (26 + i) 0) (33 + i) (a (47 + i)) (26 + i) = 0 := by rw [upd_o (by omega), upd_s]
              rw [e5, e47, e12, e19, e26, upd_s]
              exact ⟨v1, v2, Or.inl rfl, ⟨by decide, by decide⟩, ⟨by decide, by decide⟩, ⟨v2.1, by omega⟩, fun z => absurd z (by decide)⟩
            · have eo : ∀ j, j ≠ 12 + i0 → j ≠ 19 + i0 → j ≠ 26 + i0 → j ≠ 33 + i0 → upd (upd (upd (upd a (12 + i0) 0) (19 + i0) 0) (26 + i0) 0) (33 + i0) (a (47 + i0)) j = a j := by
                intro j j1 j2 j3 j4
                rw [upd_o j4, upd_o j3, upd_o j2, upd_o j1]
              rw [eo (5 + i) (by omega) (by omega) (by omega) (by omega), eo (47 + i) (by omega) (by omega) (by omega) (by omega), eo (12 + i) (by omega) (by omega) (by omega) (by omega), eo (19 + i) (by omega) (by omega) (by omega) (by omega), eo (26 + i) (by omega) (by omega) (by omega) (by omega), eo (33 + i) (by omega) (by omega) (by omega) (by omega)]
              exact hh
          · rw [if_neg h5]
            exact ⟨⟨hn, h0, hc⟩, hp, hr⟩
theorem GV_rep {n : Nat} : ∀ {ds : List Dd} {m : Nat} {a : AH}, GV n m a → (∀ d ∈ ds, DV n d) → m + ds.length < 1000 → GV n (m + ds.length) (rep n ds a)
  | [], _, _, h, _, _ => h
  | d :: ds, m, a, h, hd, hm => by
    have := GV_rep (ds := ds) (GV_dAp h (hd d List.mem_cons_self) (by simp at hm; omega)) (fun x hx => hd x (List.mem_cons_of_mem _ hx)) (by simp at hm ⊢; omega)
    rw [List.length_cons, show m + (ds.length + 1) = m + 1 + ds.length by omega]
    exact this
theorem rep_app {n : Nat} : ∀ {ds : List Dd} {d : Dd} {a : AH}, rep n (ds ++ [d]) a = dAp n d (rep n ds a)
  | [], _, _ => rfl
  | e :: ds, d, a => rep_app (ds := ds) (d := d) (a := dAp n e a)
theorem dAp_hi {n : Nat} {d : Dd} {a : AH} {j : Nat} (hn : n ≤ 7) (hd : DV n d) (hj : 40 ≤ j) : dAp n d a j = a j := by
  unfold dAp
  by_cases h1 : d.1 = 1
  · rw [if_pos h1, sg_o (by omega) (by omega) hn]
  · rw [if_neg h1]
    by_cases h2 : d.1 = 2
    · rw [if_pos h2, upd_o (by omega)]
    · rw [if_neg h2]
      by_cases h3 : d.1 = 3
      · rw [if_pos h3, upd_o (by omega)]
      · rw [if_neg h3]
        by_cases h4 : d.1 = 4
        · rw [if_pos h4]
          obtain ⟨⟨i0, hi0, e0⟩, hl⟩ := hd.2.2.1 h4
          rw [e0, cl_n (by omega), upd_o (by omega)]
        · rw [if_neg h4]
          by_cases h5 : d.1 = 5
          · rw [if_pos h5]
            obtain ⟨i0, hi0, e0⟩ := hd.2.2.2 h5
            rw [e0, cl_n (by omega), upd_o (by omega), upd_o (by omega), upd_o (by omega), upd_o (by omega)]
          · rw [if_neg h5]
theorem rep_hi {n : Nat} (hn : n ≤ 7) : ∀ {ds : List Dd} {a : AH} {j : Nat}, (∀ d ∈ ds, DV n d) → 40 ≤ j → rep n ds a j = a j
  | [], _, _, _, _ => rfl
  | d :: ds, a, j, hd, hj => (rep_hi hn (ds := ds) (a := dAp n d a) (fun x hx => hd x (List.mem_cons_of_mem _ hx)) hj).trans (dAp_hi hn (hd d List.mem_cons_self) hj)
def DC (I : StI) (q : Nat) (ds : List Dd) : Prop := I q 3 = nI ds.length ∧ ∀ j, j < ds.length → (I (q + 1) j, I (q + 2) j, I (q + 3) j) = ds.getD j (0, 0, 0)
/-- what a list of deeds must be -/
def DL (n : Nat) (ds : List Dd) : Prop := ds.length ≤ 40 ∧ (∀ d ∈ ds, DV n d) ∧ (n = 0 → ds = [])
def Kp (I : StI) (n : Nat) (fa : AH) (p : Nat) : Prop := (I (k_dq p) 3 = -1 ∧ I 75 p = 0) ∨ ∃ es : List Dd, DL n es ∧ n ≠ 0 ∧ DC I (k_dq p) es ∧ I 75 p = 1 ∧ I 74 (1641 * p + 40) = nI es.length ∧ HM I 74 (1641 * p) (rep n es fa) ∧ ∀ d, d < es.length → HM I 74 (1641 * p + 41 + 40 * d) (rep n (es.take d) fa)
/-- the house: n callers, first as told, the deeds since -/
def Hx (I : StI) (n : Nat) (fa : AH) (ds : List Dd) : Prop := GV n 0 fa ∧ DL n ds ∧ I 63 4 = nI n ∧ KM I 68 fa n ∧ RM I fa n ∧ (HC I 15 fa n ∧ I 15 7 = 0) ∧ (HC I 24 (rep n ds fa) n ∧ I 24 7 = 0) ∧ HM I 70 0 (rep n ds fa) ∧ DC I 42 ds ∧ I 63 11 = nI ds.length ∧ (∀ d, d < ds.length → HM I 73 (40 * d) (rep n (ds.take d) fa)) ∧ (∀ p, p < 3 → Kp I n fa p) ∧ (n = 0 → fa 3 = 0)
def Hs (I : StI) : Prop := ∃ (n : Nat) (fa : AH) (ds : List Dd), Hx I n fa ds
def Rel (I : StI) (L : StL) : Prop := Rw I ∧ Tx I ∧ Td I L ∧ Hs I
theorem HC.ag {I I' : StI} {h n : Nat} {a : AH} (hc : HC I h a n) (hn : n ≤ 7) (ha : ∀ b k, sC h b → I' b k = I b k) : HC I' h a n := by
  obtain ⟨c1, c2, c3, c4, c5, c6, cc⟩ := hc
  have hh : ∀ k, I' h k = I h k := fun k => ha h k (Or.inl rfl)
  refine ⟨by rw [hh]; exact c1, by rw [hh]; exact c2, by rw [hh]; exact c3, by rw [hh]; exact c4, by rw [hh]; exact c5, by rw [hh]; exact c6, fun i hi => ?_⟩
  have hq : ∀ k, I' (k_cq h i) k = I (k_cq h i) k := fun k => ha _ k (Or.inr (by unfold k_cq; omega))
  rw [hq, hq, hq, hq, hq, hq, hq]
  exact cc i hi
theorem HM.ag {I I' : StI} {t o : Nat} {a : AH} (hc : HM I t o a) (ha : ∀ k, I' t k = I t k) : HM I' t o a := fun j hj => by rw [ha]; exact hc j hj
theorem DC.ag {I I' : StI} {q : Nat} {ds : List Dd} (hc : DC I q ds) (ha : ∀ b k, q ≤ b → b ≤ q + 3 → I' b k = I b k) : DC I' q ds := by
  refine ⟨by rw [ha q 3 (by omega) (by omega)]; exact hc.1, fun j hj => ?_⟩
  rw [ha (q + 1) j (by omega) (by omega), ha (q + 2) j (by omega) (by omega), ha (q + 3) j (by omega) (by omega)]
  exact hc.2 j hj
theorem Kp.ag {I I' : StI} {n p : Nat} {fa : AH} (hk : Kp I n fa p) (hp : p < 3) (ha : ∀ b k, (51 ≤ b ∧ b ≤ 62) ∨ b = 74 ∨ b = 75 → I' b k = I b k) : Kp I' n fa p := by
  have hq : ∀ b k, k_dq p ≤ b → b ≤ k_dq p + 3 → I' b k = I b k := fun b k h1 h2 => ha b k (by unfold k_dq at h1 h2; omega)
  have h4 : ∀ k, I' 74 k = I 74 k := fun k => ha 74 k (by omega)
  have h5 : ∀ k, I' 75 k = I 75 k := fun k => ha 75 k (by omega)
  rcases hk with ⟨k1, k2⟩ | ⟨es, e1, e2, e3, e4, e5, e6, e7⟩
  · exact Or.inl ⟨by rw [hq _ 3 (by omega) (by omega)]; exact k1, by rw [h5]; exact k2⟩
  · exact Or.inr ⟨es, e1, e2, e3.ag hq, by rw [h5]; exact e4, by rw [h4]; exact e5, e6.ag h4, fun d hd => (e7 d hd).ag h4⟩
theorem Hx.ag {I I' : StI} {n : Nat} {fa : AH} {ds : List Dd} (h : Hx I n fa ds) (ha : Ag sHs I I') : Hx I' n fa ds := by
  obtain ⟨h1, h2, h3, h4, h5, h6, h7, h8, h9, h10, h11, h12, h13⟩ := h
  have hn := h1.1.1
  have g : ∀ b k, sHs b k → I' b k = I b k := ha
  refine ⟨h1, h2, by rw [g 63 4 (by unfold sHs; omega)]; exact h3, fun i hi => by rw [g 68 i (by unfold sHs; omega)]; exact h4 i hi, fun i hi => by rw [g 69 i (by unfold sHs; omega)]; exact h5 i hi, ⟨h6.1.ag hn (fun b k hb => g b k (by unfold sC at hb; unfold sHs; omega)), by rw [g 15 7 (by unfold sHs; omega)]; exact h6.2⟩, ⟨h7.1.ag hn (fun b k hb => g b k (by unfold sC at hb; unfold sHs; omega)), by rw [g 24 7 (by unfold sHs; omega)]; exact h7.2⟩, h8.ag (fun k => g 70 k (by unfold sHs; omega)), h9.ag (fun b k b1 b2 => g b k (by unfold sHs; omega)), by rw [g 63 11 (by unfold sHs; omega)]; exact h10, fun d hd => (h11 d hd).ag (fun k => g 73 k (by unfold sHs; omega)), fun p hp => (h12 p hp).ag hp (fun b k hb => g b k (by unfold sHs; omega)), h13⟩
theorem Hs.ag {I I' : StI} (h : Hs I) (ha : Ag sHs I I') : Hs I' := by
  obtain ⟨n, fa, ds, hx⟩ := h
  exact ⟨n, fa, ds, hx.ag ha⟩
/-- what reads and steps aside need -/
def Vw (I : StI) (n : Nat) (a : AH) : Prop := GV n 40 a ∧ HC I 24 a n ∧ I 24 7 = 0 ∧ HM I 70 0 a ∧ I 63 4 = nI n ∧ KM I 68 a n ∧ RM I a n ∧ (n = 0 → a 3 = 0)
theorem Hx.vw {I : StI} {n : Nat} {fa : AH} {ds : List Dd} (h : Hx I n fa ds) : Vw I n (rep n ds fa) := by
  obtain ⟨h1, h2, h3, h4, h5, h6, h7, h8, h9, h10, h11, h12, h13⟩ := h
  have hl := h2.1
  have hg := GV_rep h1 h2.2.1 (by omega)
  refine ⟨⟨hg.1.mono (by omega), hg.2⟩, h7.1, h7.2, h8, h3, fun i hi => ?_, fun i hi => ?_, fun z => ?_⟩
  · rw [rep_hi h1.1.1 h2.2.1 (by omega)]; exact h4 i hi
  · rw [rep_hi h1.1.1 h2.2.1 (by omega)]; exact h5 i hi
  · rw [h2.2.2 z]; exact h13 z
