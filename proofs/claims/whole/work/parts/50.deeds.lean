/-! deeds: what they do on either side -/
theorem HCh_room {h : Nat} {J : StI} {n : Nat} {a : AH} {v : Int32} (hc : HC J h a n) : HC (k_up J h 2 v) h (upd a 4 v) n := by
  obtain ⟨c1, c2, c3, c4, c5, c6, cc⟩ := hc
  refine ⟨by rw [k_up_oth (by omega)]; exact c1, by rw [k_up_same, upd_s], by rw [k_up_oth (by omega), upd_o (by omega)]; exact c3, by rw [k_up_oth (by omega), upd_o (by omega)]; exact c4, by rw [k_up_oth (by omega), upd_o (by omega)]; exact c5, by rw [k_up_oth (by omega), upd_o (by omega)]; exact c6, fun i hi => ?_⟩
  have hq : ∀ k, k_up J h 2 v (k_cq h i) k = J (k_cq h i) k := fun k => k_up_oth (by unfold k_cq; omega)
  rw [hq, hq, hq, hq, hq, hq, hq, upd_o (by omega), upd_o (by omega), upd_o (by omega), upd_o (by omega), upd_o (by omega), upd_o (by omega), upd_o (by omega)]
  exact cc i hi
theorem HCh_pat {h : Nat} {J : StI} {n : Nat} {a : AH} {v : Int32} (hc : HC J h a n) : HC (k_up J h 3 v) h (upd a 3 v) n := by
  obtain ⟨c1, c2, c3, c4, c5, c6, cc⟩ := hc
  refine ⟨by rw [k_up_oth (by omega)]; exact c1, by rw [k_up_oth (by omega), upd_o (by omega)]; exact c2, by rw [k_up_same, upd_s], by rw [k_up_oth (by omega), upd_o (by omega)]; exact c4, by rw [k_up_oth (by omega), upd_o (by omega)]; exact c5, by rw [k_up_oth (by omega), upd_o (by omega)]; exact c6, fun i hi => ?_⟩
  have hq : ∀ k, k_up J h 3 v (k_cq h i) k = J (k_cq h i) k := fun k => k_up_oth (by unfold k_cq; omega)
  rw [hq, hq, hq, hq, hq, hq, hq, upd_o (by omega), upd_o (by omega), upd_o (by omega), upd_o (by omega), upd_o (by omega), upd_o (by omega), upd_o (by omega)]
  exact cc i hi
theorem HCh_lim {h : Nat} {J : StI} {n i0 : Nat} {a : AH} {v : Int32} (hc : HC J h a n) (hn : n ≤ 7) (h0 : i0 < n) : HC (k_up J (k_cq h i0) 1 v) h (upd a (5 + i0) v) n := by
  obtain ⟨c1, c2, c3, c4, c5, c6, cc⟩ := hc
  have h33 : ∀ k, k_up J (k_cq h i0) 1 v h k = J h k := fun k => k_up_oth (by unfold k_cq; omega)
  refine ⟨by rw [h33]; exact c1, by rw [h33, upd_o (by omega)]; exact c2, by rw [h33, upd_o (by omega)]; exact c3, by rw [h33, upd_o (by omega)]; exact c4, by rw [h33, upd_o (by omega)]; exact c5, by rw [h33, upd_o (by omega)]; exact c6, fun i hi => ?_⟩
  obtain ⟨d0, d1, d2, d3, d4, d5, d6⟩ := cc i hi
  have hq : ∀ k, k ≠ 1 → k_up J (k_cq h i0) 1 v (k_cq h i) k = J (k_cq h i) k := fun k hk => k_up_oth (fun z => hk z.2)
  rw [hq 0 (by decide), hq 2 (by decide), hq 3 (by decide), hq 4 (by decide), hq 5 (by decide), hq 6 (by decide), upd_o (j := 40 + i) (by omega), upd_o (j := 47 + i) (by omega), upd_o (j := 12 + i) (by omega), upd_o (j := 19 + i) (by omega), upd_o (j := 26 + i) (by omega), upd_o (j := 33 + i) (by omega)]
  refine ⟨d0, ?_, d2, d3, d4, d5, d6⟩
  by_cases e : i = i0
  · subst e
    rw [k_up_same, upd_s]
  · rw [k_up_oth (fun z => e (k_cq_inj z.1)), upd_o (by omega)]
    exact d1
def rst (a : AH) (i : Nat) : AH := upd (upd (upd (upd a (12 + i) 0) (19 + i) 0) (26 + i) 0) (33 + i) (a (47 + i))
theorem rst_o {a : AH} {i j : Nat} (h1 : j ≠ 12 + i) (h2 : j ≠ 19 + i) (h3 : j ≠ 26 + i) (h4 : j ≠ 33 + i) : rst a i j = a j := by
  unfold rst
  rw [upd_o h4, upd_o h3, upd_o h2, upd_o h1]
theorem rst_12 {a : AH} {i : Nat} : rst a i (12 + i) = 0 := by
  unfold rst
  rw [upd_o (by omega), upd_o (by omega), upd_o (by omega), upd_s]
theorem rst_19 {a : AH} {i : Nat} : rst a i (19 + i) = 0 := by
  unfold rst
  rw [upd_o (by omega), upd_o (by omega), upd_s]
theorem rst_26 {a : AH} {i : Nat} : rst a i (26 + i) = 0 := by
  unfold rst
  rw [upd_o (by omega), upd_s]
theorem rst_33 {a : AH} {i : Nat} : rst a i (33 + i) = a (47 + i) := by
  unfold rst
  rw [upd_s]
theorem C_renew {q : Nat} {I : StI} : Ho (f_X0_renew q I) (PostC q I (0, 0, 0, I q 2)) := by
  unfold f_X0_renew
  simp only [k_let]
  refine Ho_s ⟨by simp [k_up], by simp [k_up], by simp [k_up], by simp [k_up], fun b k hb => by simp only [k_up_q3 hb, k_up_q4 hb, k_up_q5 hb, k_up_q6 hb]⟩
theorem HCh_rst {h : Nat} {J J' : StI} {n i0 : Nat} {a : AH} (hc : HC J h a n) (hn : n ≤ 7) (h0 : i0 < n) (hp : PostC (k_cq h i0) J (0, 0, 0, J (k_cq h i0) 2) J') : HC J' h (rst a i0) n := by
  obtain ⟨c1, c2, c3, c4, c5, c6, cc⟩ := hc
  obtain ⟨p3, p4, p5, p6, po⟩ := hp
  have h33 : ∀ k, J' h k = J h k := fun k => po h k (by unfold k_cq; omega)
  refine ⟨by rw [h33]; exact c1, by rw [h33, rst_o (by omega) (by omega) (by omega) (by omega)]; exact c2, by rw [h33, rst_o (by omega) (by omega) (by omega) (by omega)]; exact c3, by rw [h33, rst_o (by omega) (by omega) (by omega) (by omega)]; exact c4, by rw [h33, rst_o (by omega) (by omega) (by omega) (by omega)]; exact c5, by rw [h33, rst_o (by omega) (by omega) (by omega) (by omega)]; exact c6, fun i hi => ?_⟩
  obtain ⟨d0, d1, d2, d3, d4, d5, d6⟩ := cc i hi
  have hq : ∀ k, k < 3 → J' (k_cq h i) k = J (k_cq h i) k := fun k hk => po _ k (by omega)
  rw [hq 0 (by decide), hq 1 (by decide), hq 2 (by decide), rst_o (j := 40 + i) (by omega) (by omega) (by omega) (by omega), rst_o (j := 5 + i) (by omega) (by omega) (by omega) (by omega), rst_o (j := 47 + i) (by omega) (by omega) (by omega) (by omega)]
  refine ⟨d0, d1, d2, ?_⟩
  by_cases e : i = i0
  · subst e
    rw [p3, p4, p5, p6, rst_12, rst_19, rst_26, rst_33]
    exact ⟨rfl, rfl, rfl, d2⟩
  · have ho : ∀ k, J' (k_cq h i) k = J (k_cq h i) k := fun k => po _ k (fun z => e (k_cq_inj z.1))
    rw [ho, ho, ho, ho, rst_o (j := 12 + i) (by omega) (by omega) (by omega) (by omega), rst_o (j := 19 + i) (by omega) (by omega) (by omega) (by omega), rst_o (j := 26 + i) (by omega) (by omega) (by omega) (by omega), rst_o (j := 33 + i) (by omega) (by omega) (by omega) (by omega)]
    exact ⟨d3, d4, d5, d6⟩
theorem C_carry {h n m : Nat} {I : StI} {a : AH} {d : Dd} (hv : AV n m a) (hm : m < 400) (hc : HC I h a n) (h7 : I h 7 = 0) (hd : DV n d) : Ho (f_X3_carryOut h d.1 d.2.1 d.2.2 I) (fun I' => HC I' h (dAp n d a) n ∧ I' h 7 = 0 ∧ ∀ b k, ¬ sC h b → I' b k = I b k) := by
  have hn := hv.1
  unfold f_X3_carryOut dAp
  by_cases h1 : d.1 = 1
  · rw [if_pos h1, if_pos h1, C_isUp hm hv hc]
    refine Ho_b1 ?_
    refine Ho_bm (C_pass (up := upv a) hv hc) (fun t ht => ?_)
    rw [h7] at ht
    exact Ho_s ⟨ht.2.1, ht.2.2.1, ht.2.2.2⟩
  · rw [if_neg h1, if_neg h1]
    by_cases h2 : d.1 = 2
    · rw [if_pos h2, if_pos h2, hc.2.2.1]
      refine Ho_s ⟨HCh_pat hc, ?_, fun b k hb => ?_⟩
      · show k_up I h 3 _ h 7 = 0
        rw [k_up_oth (by omega)]; exact h7
      · show k_up I h 3 _ b k = I b k
        rw [k_up_oth (fun z => hb (Or.inl z.1))]
    · rw [if_neg h2, if_neg h2]
      by_cases h3 : d.1 = 3
      · rw [if_pos h3, if_pos h3]
        refine Ho_s ⟨HCh_room hc, ?_, fun b k hb => ?_⟩
        · show k_up I h 2 _ h 7 = 0
          rw [k_up_oth (by omega)]; exact h7
        · show k_up I h 2 _ b k = I b k
          rw [k_up_oth (fun z => hb (Or.inl z.1))]
      · rw [if_neg h3, if_neg h3]
        by_cases h4 : d.1 = 4
        · rw [if_pos h4, if_pos h4]
          obtain ⟨⟨i0, hi0, e0⟩, hl⟩ := hd.2.2.1 h4
          rw [e0, g_i (show i0 < 7 by omega), m_i (show i0 < 7 by omega)]
          refine Ho_s ⟨HCh_lim hc hn hi0, ?_, fun b k hb => ?_⟩
          · show k_up I (k_cq h i0) 1 _ h 7 = 0
            rw [k_up_oth (by unfold k_cq; omega)]; exact h7
          · show k_up I (k_cq h i0) 1 _ b k = I b k
            rw [k_up_oth (fun z => hb (Or.inr (by have := z.1; unfold k_cq at this; omega)))]
        · rw [if_neg h4, if_neg h4]
          by_cases h5 : d.1 = 5
          · rw [if_pos h5, if_pos h5]
            obtain ⟨i0, hi0, e0⟩ := hd.2.2.2 h5
            rw [e0, g_i (show i0 < 7 by omega), m_i (show i0 < 7 by omega)]
            refine Ho_bm C_renew (fun J hp => Ho_s ⟨HCh_rst hc hn hi0 hp, ?_, fun b k hb => ?_⟩)
            · rw [hp.2.2.2.2 h 7 (by unfold k_cq; omega)]; exact h7
            · exact hp.2.2.2.2 b k (fun z => hb (Or.inr (by have := z.1; unfold k_cq at this; omega)))
          · rw [if_neg h5, if_neg h5]
            exact Ho_s ⟨hc, h7, fun _ _ _ => rfl⟩
/-- a deed is added to a list -/
theorem C_add {q : Nat} {I : StI} {ds : List Dd} {w1 w2 w3 : Int32} (hc : DC I q ds) (hl : ds.length < 40) : Ho (f_X2_add q w1 w2 w3 I) (fun I' => DC I' q (ds ++ [(w1, w2, w3)]) ∧ ∀ b k, ¬ (q ≤ b ∧ b ≤ q + 3) → I' b k = I b k) := by
  obtain ⟨c1, c2⟩ := hc
  unfold f_X2_add
  have hg : ∀ {T : Type} {o : Option T}, k_gd (nI ds.length) 40 o = o := gd_n hl (by decide)
  have o1 : ∀ {J : StI} {j k : Nat} {v : Int32}, 1 ≤ j → k_up J (q + j) k v q 3 = J q 3 := fun {J j k v} hj => k_up_oth (by omega)
  rw [c1, if_neg (nI_pos (by omega)), if_pos (by rw [show (40 : Int32) = nI 40 from rfl, nI_ltI (by omega) (by omega)]; exact hl)]
  unfold k_let
  simp only [o1 (show 1 ≤ 1 by decide), o1 (show 1 ≤ 2 by decide), o1 (show 1 ≤ 3 by decide), c1, hg, cl_n (show ds.length < 2147483648 by omega), nI_1]
  refine Ho_s ⟨⟨?_, fun j hj => ?_⟩, fun b k hb => ?_⟩
  · rw [k_up_same, List.length_append]
    rfl
  · rw [List.length_append, List.length_singleton] at hj
    rw [k_up_oth (by omega), k_up_oth (by omega), k_up_oth (by omega)]
    rw [k_up_oth (i := q + 2) (by omega), k_up_oth (i := q + 2) (b := q + 3) (by omega)]
    rw [k_up_oth (i := q + 3) (b := q) (by omega)]
    by_cases he : j = ds.length
    · subst he
      rw [k_up_same, k_up_same, k_up_same, List.getD_eq_getElem?_getD, List.getElem?_append_right (Nat.le_refl _), Nat.sub_self]
      rfl
    · rw [k_up_oth (by omega), k_up_oth (i := q + 2) (by omega), k_up_oth (i := q + 3) (by omega), k_up_oth (i := q + 2) (by omega), k_up_oth (i := q + 3) (by omega), k_up_oth (i := q + 3) (by omega)]
      rw [List.getD_eq_getElem?_getD, List.getElem?_append_left (by omega), ← List.getD_eq_getElem?_getD]
      exact c2 j (by omega)
  · rw [k_up_oth (by omega), k_up_oth (by omega), k_up_oth (by omega), k_up_oth (by omega)]
