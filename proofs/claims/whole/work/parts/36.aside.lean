/-! what is tried aside -/
def sCs (b : Nat) : Prop := (33 ≤ b ∧ b ≤ 41) ∨ (48 ≤ b ∧ b ≤ 50)
def sMs (b k : Nat) : Prop := b = 71 ∨ b = 72 ∨ (77 ≤ b ∧ b ≤ 80) ∨ (b = 63 ∧ (k = 19 ∨ k = 20 ∨ k = 23 ∨ k = 24))
/-- only scratch has changed, and what is told -/
def CF (I J : StI) : Prop := ∀ b k, ¬ sCs b → ¬ (b = 0 ∧ k = 9) → J b k = I b k
def MF (I J : StI) : Prop := ∀ b k, ¬ sMs b k → ¬ (b = 63 ∧ k = 14) → J b k = I b k
theorem Rel_aside {I I1 I2 : StI} {L : StL} (h : Rel I L) (hc : CF I I1) (hm : MF I1 I2) (ht : I2 63 14 = I2 0 9) : Rel I2 L := by
  have g : ∀ b k, ¬ sCs b → ¬ (b = 0 ∧ k = 9) → ¬ sMs b k → ¬ (b = 63 ∧ k = 14) → I2 b k = I b k := fun b k h1 h2 h3 h4 => (hm b k h3 h4).trans (hc b k h1 h2)
  refine h.of (fun b k hb => g b k (by unfold sRw at hb; unfold sCs; omega) (by unfold sRw at hb; omega) (by unfold sRw at hb; unfold sMs; omega) (by unfold sRw at hb; omega)) (fun b k hb => g b k (by unfold sTx at hb; unfold sCs; omega) (by unfold sTx at hb; omega) (by unfold sTx at hb; unfold sMs; omega) (by unfold sTx at hb; omega)) ?_ (fun b k hb => g b k (by unfold sHs at hb; unfold sCs; omega) (by unfold sHs at hb; omega) (by unfold sHs at hb; unfold sMs; omega) (by unfold sHs at hb; omega))
  obtain ⟨t1, t2, t3, t4⟩ := h.2.2.1
  refine ⟨ht, ?_, fun f a b => ?_, t4⟩
  · rw [g 63 17 (by unfold sCs; omega) (by omega) (by unfold sMs; omega) (by omega), g 0 12 (by unfold sCs; omega) (by omega) (by unfold sMs; omega) (by omega)]
    exact t2
  · rw [g 76 f (by unfold sCs; omega) (by omega) (by unfold sMs; omega) (by omega), g 47 f (by unfold sCs; omega) (by omega) (by unfold sMs; omega) (by omega)]
    exact t3 f a b
theorem Sm_aside {I : StI} {L : StL} {o : Option (Int32 × StI)} {f : StI → Option (Int32 × StI)} (h : Rel I L) (R T : Int32) (hc : Ho o (fun t => t.1 = R ∧ t.2 0 9 = T ∧ CF I t.2)) (hm : ∀ J : StI, (∀ b k, 63 ≤ b → J b k = I b k) → Ho (f J) (fun u => u.1 = R ∧ u.2 63 14 = T ∧ MF J u.2)) : Sm o f L := by
  refine hc.mono (fun t ht => ?_)
  obtain ⟨t1, t2, t3⟩ := ht
  refine (hm t.2 (fun b k hb => t3 b k (by unfold sCs; omega) (by omega))).mono (fun u hu => ?_)
  obtain ⟨u1, u2, u3⟩ := hu
  refine ⟨t1.trans u1.symm, Rel_aside h t3 u3 ?_⟩
  rw [u2, u3 0 9 (by unfold sMs; omega) (by omega), t2]
theorem C_lay {I J : StI} {n : Nat} {a : AH} (hn : n ≤ 7) (hc : HC I 24 a n) (h7 : I 24 7 = 0) (hJ : CF I J) : Ho (f_X3_become 33 24 J) (fun J' => HC J' 33 a n ∧ J' 33 7 = 0 ∧ ∀ b k, ¬ sC 33 b → J' b k = J b k) := by
  have e : ∀ b k, sC 24 b → J b k = I b k := fun b k hb => hJ b k (by unfold sC at hb; unfold sCs; omega) (by unfold sC at hb; omega)
  refine (C_become (h := 33) (g := 24) k_H33 k_H24 (by decide) hn (hc.ag hn e)).mono (fun J' hp => ⟨hp.1, ?_, hp.2.2⟩)
  rw [hp.2.1, e 24 7 (Or.inl rfl), h7]
theorem CF.trans33 {I J J' : StI} (h : CF I J) (h2 : ∀ b k, ¬ sC 33 b → J' b k = J b k) : CF I J' := fun b k h3 h4 => (h2 b k (by unfold sC; unfold sCs at h3; omega)).trans (h b k h3 h4)
theorem CF.up33 {I J : StI} {b k : Nat} {v : Int32} (h : CF I J) (hb : sCs b ∨ (b = 0 ∧ k = 9)) : CF I (k_up J b k v) := by
  intro b' k' h3 h4
  rw [k_up_oth]
  · exact h b' k' h3 h4
  · rintro ⟨rfl, rfl⟩
    rcases hb with hb | hb
    · exact h3 hb
    · exact h4 hb
theorem MF.up {I J : StI} {b k : Nat} {v : Int32} (h : MF I J) (hb : sMs b k ∨ (b = 63 ∧ k = 14)) : MF I (k_up J b k v) := by
  intro b' k' h3 h4
  rw [k_up_oth]
  · exact h b' k' h3 h4
  · rintro ⟨rfl, rfl⟩
    rcases hb with hb | hb
    · exact h3 hb
    · exact h4 hb
theorem MF.goes {I J J' : StI} (h : MF I J) (h2 : ∀ b k, ¬ sA b k → J' b k = J b k) : MF I J' := fun b k h3 h4 => (h2 b k (by unfold sA; unfold sMs at h3; omega)).trans (h b k h3 h4)
/-- the reference's state aside -/
theorem M_lay {I J : StI} {n : Nat} {a : AH} (hm : HM I 70 0 a) (hJ : MF I J) : Ho (f_X5_laysAside J) (fun J' => HM J' 71 0 a ∧ (∀ c k, c ≠ 71 → J' c k = J c k) ∧ MF I J') := by
  refine M_laysAside.mono (fun J' hp => ⟨fun j hj => ?_, hp.2, fun b k h3 h4 => (hp.2 b k (by unfold sMs at h3; omega)).trans (hJ b k h3 h4)⟩)
  rw [Nat.zero_add, hp.1 j hj, hJ 70 j (by unfold sMs; omega) (by omega)]
  have := hm j hj
  rwa [Nat.zero_add] at this
theorem M_kin {I : StI} {n : Nat} {a : AH} (hn : n ≤ 7) (hk : KM I 68 a n) : Ho (f_X5_asKinds I) (fun J => KM J 72 a n ∧ MF I J ∧ ∀ c k, c ≠ 72 → J c k = I c k) := by
  refine M_asKinds.mono (fun J hp => ⟨fun i hi => ?_, fun b k h3 h4 => hp.2 b k (by unfold sMs at h3; omega), hp.2⟩)
  rw [hp.1 i (by omega)]
  exact hk i hi
theorem sr_rng {n : Nat} {u up : Int32} {a : AH} (hn : n ≤ 7) : 0 ≤ (sr n u up a).toInt ∧ (sr n u up a).toInt ≤ 7 := by
  unfold sr
  by_cases hw : wel n u up a = true
  · rw [if_pos hw]; exact set_rng _ hn
  · rw [if_neg hw]; exact ⟨by decide, by decide⟩
theorem sm_rng {n : Nat} {u : Int32} {a : AH} (hn : n ≤ 7) : ∀ k, k < 1000 → 0 ≤ (sm n u k a).toInt ∧ (sm n u k a).toInt ≤ 7 * k
  | 0, _ => ⟨by show 0 ≤ (0 : Int32).toInt; decide, by show (0 : Int32).toInt ≤ 7 * ((0 : Nat) : Int); decide⟩
  | k + 1, hk => by
    have h1 := sm_rng (u := u) (a := a) hn k (by omega)
    have h2 := sr_rng (n := n) (u := u) (up := upv (it n u k a)) (a := it n u k a) hn
    show 0 ≤ (sm n u k a + sr n u (upv (it n u k a)) (it n u k a)).toInt ∧ _
    have e : (sm n u k a + sr n u (upv (it n u k a)) (it n u k a)).toInt = (sm n u k a).toInt + (sr n u (upv (it n u k a)) (it n u k a)).toInt := i_add (by omega) (by omega)
    show 0 ≤ _ ∧ (sm n u k a + sr n u (upv (it n u k a)) (it n u k a)).toInt ≤ _
    rw [e]
    omega
theorem C_later {I : StI} {n i N : Nat} {a : AH} (hg : AV n 40 a) (hc : HC I 24 a n) (h7 : I 24 7 = 0) (hi : i < n) (hN : N ≤ 60) : Ho (f_X4_later (nI i) (nI N) I) (fun t => t.1 = it n 0 N a (12 + i) ∧ t.2 0 9 = sm n 0 N a ∧ CF I t.2) := by
  have hn := hg.1
  have hi7 : i < 7 := by omega
  unfold f_X4_later
  rw [C_isCaller hn hc.1, if_pos (by rw [i_n (by omega)]; omega)]
  simp only [Option.bind_some, g_i hi7, m_i hi7, k_let]
  rw [if_neg (by decide), if_neg (by rw [i_lt, i_n (by omega)]; simp only [Int32.reduceToInt]; omega), if_pos (by rw [i_le, i_n (by omega)]; simp only [Int32.reduceToInt]; omega)]
  simp only [Ho_bind_i, Ho_some_i]
  refine (C_lay hn hc h7 (J := I) (fun _ _ _ _ => rfl)).mono (fun J1 hp => ?_)
  refine (C_answeredIn (m := 40) (N := N) hg (by omega) hp.1).mono (fun t ht => ?_)
  rw [hp.2.1] at ht
  refine ⟨?_, ?_, ?_⟩
  · rw [k_up_oth (by unfold k_cq; omega)]
    exact (ht.2.1.2.2.2.2.2.2 i hi).2.2.2.1
  · rw [k_up_same, ht.1]
  · exact CF.up33 ((CF.trans33 (CF.trans33 (fun _ _ _ _ => rfl) hp.2.2) ht.2.2.2)) (Or.inr ⟨rfl, rfl⟩)
/-! steps by rows, not by simp: the kernel must never run the loops of copies -/
theorem Ho_b1 {T U : Type} {c : T} {f : T → Option U} {K : U → Prop} (h : Ho (f c) K) : Ho ((some c).bind f) K := h
theorem Ho_n0 {T : Type} {A B : Option T} {K : T → Prop} (h : Ho B K) : Ho (if (1 : Int32) = 0 then A else B) K := by
  rw [if_neg (by decide)]
  exact h
theorem Ho_bm {α T : Type} {o : Option α} {f : α → Option T} {K : T → Prop} {P : α → Prop} (h : Ho o P) (hk : ∀ a, P a → Ho (f a) K) : Ho (o.bind f) K := by
  obtain ⟨a, e, hp⟩ := h
  obtain ⟨t, e2, hk2⟩ := hk a hp
  exact ⟨t, by rw [e]; exact e2, hk2⟩
theorem Ho_s {T : Type} {t : T} {K : T → Prop} (h : K t) : Ho (some t) K := ⟨t, rfl, h⟩
theorem M_later {J : StI} {n i N : Nat} {a : AH} (hg : AV n 40 a) (hm : HM J 70 0 a) (h4 : J 63 4 = nI n) (hk : KM J 68 a n) (hi : i < n) (hN : N ≤ 60) : Ho (f_X5_later (nI i) (nI N) J) (fun t => t.1 = it n 0 N a (12 + i) ∧ t.2 63 14 = sm n 0 N a ∧ MF J t.2) := by
  have hn := hg.1
  have hi7 : i < 7 := by omega
  have min : f_X5_in (nI N).toInt64 (0 : Int64) (60 : Int64) = some 1 := by
    rw [show (0 : Int64) = (0 : Int32).toInt64 from rfl, show (60 : Int64) = (60 : Int32).toInt64 from rfl, in_i, if_pos]
    rw [i_n (by omega)]
    simp only [Int32.reduceToInt]
    omega
  unfold f_X5_later
  rw [M_isCaller hn h4, if_pos (by rw [i_n (by omega)]; omega), min]
  refine Ho_b1 (Ho_n0 (Ho_b1 (Ho_n0 ?_)))
  refine Ho_bm (M_kin (I := J) hn hk) (fun J1 hp1 => ?_)
  refine Ho_bm (M_lay (n := n) (I := J) (J := J1) (a := a) hm hp1.2.1) (fun J2 hp2 => ?_)
  refine Ho_bm (M_goesOn (u := 0) (m := 40) (N := N) hg (by omega) hp2.1 (fun i hi => by rw [hp2.2.1 72 i (by decide)]; exact hp1.1 i hi) (by rw [hp2.2.1 63 4 (by decide), hp1.2.2 63 4 (by decide)]; exact h4)) (fun t ht => ?_)
  rw [g_12 hi7, m_12 hi7]
  refine Ho_s ⟨?_, ?_, ?_⟩
  · have := ht.2.1 (12 + i) (by omega)
    rwa [Nat.zero_add] at this
  · show k_up t.2 63 14 t.1 63 14 = _
    rw [k_up_same, ht.1]
  · exact (hp2.2.2.goes ht.2.2).up (Or.inr ⟨rfl, rfl⟩)
theorem L_later {I : StI} {L : StL} (h : Rel I L) (v1 v2 : Int32) : Sm (f_X4_later v1 v2 I) (f_X5_later v1 v2) L := by
  obtain ⟨n, fa, ds, hx⟩ := h.2.2.2
  obtain ⟨hg, hc, h7, hm, h4, hk, hrm, -⟩ := hx.vw
  have hn := hg.1.1
  have min : f_X5_in v2.toInt64 (0 : Int64) (60 : Int64) = some (if 0 ≤ v2.toInt ∧ v2.toInt ≤ 60 then 1 else 0) := by
    rw [show (0 : Int64) = (0 : Int32).toInt64 from rfl, show (60 : Int64) = (60 : Int32).toInt64 from rfl, in_i]
    rfl
  by_cases hr : 0 ≤ v1.toInt ∧ v1.toInt < n
  · by_cases h2 : 0 ≤ v2.toInt ∧ v2.toInt ≤ 60
    · obtain ⟨i, hi, rfl⟩ := i_in hr.1 hr.2
      obtain ⟨N, hN, rfl⟩ := i_in (n := 61) h2.1 (by omega)
      exact Sm_aside h _ _ (C_later hg.1 hc h7 hi (by omega)) (fun J hJ => M_later hg.1 (fun j hj => by rw [hJ 70 _ (by decide)]; exact hm j hj) (by rw [hJ 63 4 (by decide)]; exact h4) (fun i hi => by rw [hJ 68 i (by decide)]; exact hk i hi) hi (by omega))
    · refine Sm_same h (-1) ?_ ?_
      · unfold f_X4_later
        rw [C_isCaller hn hc.1, if_pos hr, Option.bind_some, if_neg (by decide)]
        by_cases q : v2 < 0
        · rw [if_pos q]
        · rw [if_neg q, if_neg (by rw [i_lt] at q; rw [i_le]; simp only [Int32.reduceToInt] at q ⊢; omega)]
      · unfold f_X5_later
        rw [M_isCaller hn h4, if_pos hr, Option.bind_some, if_neg (by decide), min, if_neg h2, Option.bind_some, if_pos rfl]
  · refine Sm_same h (-1) ?_ ?_
    · unfold f_X4_later
      rw [C_isCaller hn hc.1, if_neg hr, Option.bind_some, if_pos rfl]
    · unfold f_X5_later
      rw [M_isCaller hn h4, if_neg hr, Option.bind_some, if_pos rfl]
