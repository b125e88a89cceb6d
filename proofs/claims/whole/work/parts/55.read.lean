/-! the small language -/
theorem kl_l {σ T : Type} {f : σ → Option (σ ⊕ T)} {n : Nat} {s s' : σ} (h : f s = some (.inl s')) : k_loop f (n + 1) s = k_loop f n s' := by
  show (f s).bind _ = _
  rw [h]
  rfl
theorem kl_r {σ T : Type} {f : σ → Option (σ ⊕ T)} {n : Nat} {s : σ} {t : T} (h : f s = some (.inr t)) : k_loop f (n + 1) s = some t := by
  show (f s).bind _ = _
  rw [h]
  rfl
theorem fig_iff {x : Int32} : (1 ≤ (x - 48).toInt ∧ (x - 48).toInt ≤ 9) ↔ (49 ≤ x.toInt ∧ x.toInt ≤ 57) := by
  constructor
  · intro h
    have e : x = (x - 48) + 48 := by rw [Int32.sub_add_cancel]
    have e2 : ((x - 48) + 48).toInt = (x - 48).toInt + 48 := i_add (by simp only [Int32.reduceToInt]; omega) (by simp only [Int32.reduceToInt]; omega)
    rw [← e] at e2
    omega
  · intro h
    have e2 : (x - 48).toInt = x.toInt - 48 := i_sub (by simp only [Int32.reduceToInt]; omega) (by simp only [Int32.reduceToInt]; omega)
    omega
/-- the figure at a place, 0: none such -/
def fg (s : Nat → Int32) (N j : Nat) : Int32 := if j < N then (if 1 ≤ (s j - 48).toInt ∧ (s j - 48).toInt ≤ 9 then s j - 48 else 0) else 0
def kA (x : Int32) : Int32 := if x = 98 then 5 else if x = 101 then 3 else if x = 108 then 1 else if x = 112 then 0 else if x = 115 then 4 else if x = 116 then 2 else -9
theorem M_kindOf (x : Int32) : f_X5_kindOf x = some (kA x) := by
  unfold f_X5_kindOf kA
  repeat' split
  all_goals rfl
theorem fg_pos {s : Nat → Int32} {N j : Nat} (h : ¬ fg s N j = 0) : j < N ∧ fg s N j = s j - 48 ∧ 1 ≤ (fg s N j).toInt ∧ (fg s N j).toInt ≤ 9 := by
  by_cases h1 : j < N
  · by_cases h2 : 1 ≤ (s j - 48).toInt ∧ (s j - 48).toInt ≤ 9
    · have e : fg s N j = s j - 48 := by unfold fg; rw [if_pos h1, if_pos h2]
      rw [e]
      exact ⟨h1, rfl, h2⟩
    · exact absurd (by unfold fg; rw [if_pos h1, if_neg h2]) h
  · exact absurd (by unfold fg; rw [if_neg h1]) h
def rdS (s : Nat → Int32) (N : Nat) : Nat → Nat → Int32 → List Dd → Int32 × Int32 × List Dd
  | 0, _, r, cs => (0, r, cs)
  | f + 1, j, r, cs =>
    if N ≤ j then (if 2 ≤ cs.length then -9 else nI N, r, cs)
    else if s j = 32 then rdS s N f (j + 1) r cs
    else if r = 0 then (if fg s N j = 0 then (nI j, r, cs) else rdS s N f (j + 1) (fg s N j) cs)
    else if cs.length = 7 then (nI j, r, cs)
    else if kA (s j) = -9 then (nI j, r, cs)
    else if fg s N (j + 1) = 0 then (nI (j + 1), r, cs)
    else if fg s N (j + 2) = 0 then (nI (j + 2), r, cs)
    else rdS s N f (j + 3) r (cs ++ [(kA (s j), fg s N (j + 1), fg s N (j + 2))])
theorem rdS_fu {s : Nat → Int32} {N : Nat} : ∀ (f f' j : Nat) (r : Int32) (cs : List Dd), N - j < f → N - j < f' → rdS s N f j r cs = rdS s N f' j r cs
  | 0, _, _, _, _, h, _ => absurd h (Nat.not_lt_zero _)
  | f + 1, f', j, r, cs, h, h' => by
    obtain ⟨g, rfl⟩ : ∃ g, f' = g + 1 := ⟨f' - 1, by omega⟩
    unfold rdS
    by_cases h1 : N ≤ j
    · rw [if_pos h1, if_pos h1]
    · rw [if_neg h1, if_neg h1, rdS_fu f g (j + 1) r cs (by omega) (by omega), rdS_fu f g (j + 1) (fg s N j) cs (by omega) (by omega), rdS_fu f g (j + 3) r _ (by omega) (by omega)]
/-- the first place from j on that is no blank -/
def pbF (s : Nat → Int32) : Nat → Nat → Nat
  | 0, j => j
  | f + 1, j => if s j = 32 then pbF s f (j + 1) else j
theorem pbF_ge {s : Nat → Int32} : ∀ f j, j ≤ pbF s f j ∧ pbF s f j ≤ j + f
  | 0, j => ⟨Nat.le_refl _, Nat.le_refl _⟩
  | f + 1, j => by
    unfold pbF
    have := pbF_ge (s := s) f (j + 1)
    split
    · omega
    · omega
theorem pbF_nb {s : Nat → Int32} : ∀ f j, pbF s f j < j + f → ¬ s (pbF s f j) = 32
  | 0, j, h => absurd h (by show ¬ j < j + 0; omega)
  | f + 1, j, h => by
    unfold pbF at h ⊢
    by_cases h1 : s j = 32
    · rw [if_pos h1] at h ⊢
      exact pbF_nb f (j + 1) (by omega)
    · rw [if_neg h1]
      exact h1
theorem rdS_pb {s : Nat → Int32} {N : Nat} : ∀ (f j fu : Nat) (r : Int32) (cs : List Dd), j + f = N → f < fu → rdS s N fu j r cs = rdS s N fu (pbF s f j) r cs
  | 0, _, _, _, _, _, _ => rfl
  | f + 1, j, fu, r, cs, h, hf => by
    by_cases h1 : s j = 32
    · obtain ⟨g, rfl⟩ : ∃ g, fu = g + 1 := ⟨fu - 1, by omega⟩
      have e1 : rdS s N (g + 1) j r cs = rdS s N g (j + 1) r cs := by
        show (if N ≤ j then _ else if s j = 32 then _ else _) = _
        rw [if_neg (by omega), if_pos h1]
      have e2 : pbF s (f + 1) j = pbF s f (j + 1) := by
        show (if s j = 32 then _ else _) = _
        rw [if_pos h1]
      have hge := pbF_ge (s := s) f (j + 1)
      rw [e1, e2, rdS_pb f (j + 1) g r cs (by omega) (by omega), rdS_fu g (g + 1) _ r cs (by omega) (by omega)]
    · have e2 : pbF s (f + 1) j = j := by
        show (if s j = 32 then _ else _) = _
        rw [if_neg h1]
      rw [e2]
/-- what is read is as it should be -/
def RV (r : Int32) (cs : List Dd) : Prop := (r = 0 ∧ cs = [] ∨ 1 ≤ r.toInt ∧ r.toInt ≤ 9) ∧ cs.length ≤ 7 ∧ ∀ d ∈ cs, (1 ≤ d.2.1.toInt ∧ d.2.1.toInt ≤ 9) ∧ (1 ≤ d.2.2.toInt ∧ d.2.2.toInt ≤ 9)
theorem rdS_rv {s : Nat → Int32} {N : Nat} : ∀ (f j : Nat) (r : Int32) (cs : List Dd), N - j < f → N ≤ 60 → RV r cs → (rdS s N f j r cs).1 = -9 → RV (rdS s N f j r cs).2.1 (rdS s N f j r cs).2.2 ∧ 2 ≤ (rdS s N f j r cs).2.2.length
  | 0, _, _, _, h, _, _, _ => absurd h (Nat.not_lt_zero _)
  | f + 1, j, r, cs, h, hN, hv, he => by
    have nn : ∀ k : Nat, k < 1000 → nI k ≠ -9 := fun k hk => nn_ne (by rw [i_n (by omega)]; omega)
    unfold rdS at he ⊢
    by_cases h1 : N ≤ j
    · rw [if_pos h1] at he ⊢
      dsimp only at he ⊢
      by_cases h2 : 2 ≤ cs.length
      · exact ⟨hv, h2⟩
      · rw [if_neg h2] at he
        exact absurd he (nn N (by omega))
    · rw [if_neg h1] at he ⊢
      by_cases h2 : s j = 32
      · rw [if_pos h2] at he ⊢
        exact rdS_rv f (j + 1) r cs (by omega) hN hv he
      · rw [if_neg h2] at he ⊢
        by_cases h3 : r = 0
        · rw [if_pos h3] at he ⊢
          by_cases h4 : fg s N j = 0
          · rw [if_pos h4] at he
            exact absurd he (nn j (by omega))
          · rw [if_neg h4] at he ⊢
            obtain ⟨-, -, p3⟩ := fg_pos h4
            exact rdS_rv f (j + 1) _ cs (by omega) hN ⟨Or.inr p3, hv.2⟩ he
        · rw [if_neg h3] at he ⊢
          by_cases h4 : cs.length = 7
          · rw [if_pos h4] at he
            exact absurd he (nn j (by omega))
          · rw [if_neg h4] at he ⊢
            by_cases h5 : kA (s j) = -9
            · rw [if_pos h5] at he
              exact absurd he (nn j (by omega))
            · rw [if_neg h5] at he ⊢
              by_cases h6 : fg s N (j + 1) = 0
              · rw [if_pos h6] at he
                exact absurd he (nn (j + 1) (by omega))
              · rw [if_neg h6] at he ⊢
                by_cases h7 : fg s N (j + 2) = 0
                · rw [if_pos h7] at he
                  exact absurd he (nn (j + 2) (by omega))
                · rw [if_neg h7] at he ⊢
                  obtain ⟨-, -, p3⟩ := fg_pos h6
                  obtain ⟨-, -, q3⟩ := fg_pos h7
                  refine rdS_rv f (j + 3) r _ (by omega) hN ⟨?_, ?_, fun d hd => ?_⟩ he
                  · rcases hv.1 with ⟨z, _⟩ | z
                    · exact absurd z h3
                    · exact Or.inr z
                  · have := hv.2.1
                    rw [List.length_append, List.length_singleton]
                    omega
                  · rcases List.mem_append.mp hd with hd | hd
                    · exact hv.2.2 d hd
                    · rw [List.mem_singleton.mp hd]
                      exact ⟨p3, q3⟩
/-! the class -/
theorem C_past {q N : Nat} {s : Nat → Int32} {J : StI} (hq : (k_sh q).2 = 60) (hN : N ≤ 60) (hs : ∀ i, i < N → J q i = s i) : ∀ f j fu, j + f = N → f < fu → k_loop (fun v => f_X4_pastBlanks_L2_b q (nI N) v J) fu (nI j) = some (nI (pbF s f j))
  | 0, j, fu, h, hf => by
    obtain ⟨g, rfl⟩ : ∃ g, fu = g + 1 := ⟨fu - 1, by omega⟩
    apply kl_r
    show f_X4_pastBlanks_L2_b q (nI N) (nI j) J = _
    unfold f_X4_pastBlanks_L2_b
    rw [if_pos (by rw [nI_leI (by omega) (by omega)]; omega)]
    rfl
  | f + 1, j, fu, h, hf => by
    obtain ⟨g, rfl⟩ : ∃ g, fu = g + 1 := ⟨fu - 1, by omega⟩
    by_cases h1 : s j = 32
    · have e2 : pbF s (f + 1) j = pbF s f (j + 1) := by
        show (if s j = 32 then _ else _) = _
        rw [if_pos h1]
      rw [e2, ← C_past hq hN hs f (j + 1) g (by omega) (by omega)]
      apply kl_l
      show f_X4_pastBlanks_L2_b q (nI N) (nI j) J = _
      unfold f_X4_pastBlanks_L2_b
      rw [if_neg (by rw [nI_leI (by omega) (by omega)]; omega), hq, gd_n (by omega) (by decide), cl_n (by omega), hs j (by omega), if_pos h1]
      unfold k_let
      rw [nI_1]
    · have e2 : pbF s (f + 1) j = j := by
        show (if s j = 32 then _ else _) = _
        rw [if_neg h1]
      rw [e2]
      apply kl_r
      show f_X4_pastBlanks_L2_b q (nI N) (nI j) J = _
      unfold f_X4_pastBlanks_L2_b
      rw [if_neg (by rw [nI_leI (by omega) (by omega)]; omega), hq, gd_n (by omega) (by decide), cl_n (by omega), hs j (by omega), if_neg h1]
theorem C_pb {q N j : Nat} {s : Nat → Int32} {J : StI} (hq : (k_sh q).2 = 60) (hN : N ≤ 60) (hs : ∀ i, i < N → J q i = s i) (hj : j ≤ N) : f_X4_pastBlanks q (nI j) (nI N) J = some (nI (pbF s (N - j) j)) := by
  unfold f_X4_pastBlanks f_X4_pastBlanks_L2
  exact C_past hq hN hs (N - j) j k_fu (by omega) (by show _ < 10000; omega)
theorem C_fig {q N j : Nat} {s : Nat → Int32} {J : StI} (hq : (k_sh q).2 = 60) (hN : N ≤ 60) (hs : ∀ i, i < N → J q i = s i) (hj : j < 1000) : f_X4_figureAt q (nI j) (nI N) J = some (fg s N j) := by
  unfold f_X4_figureAt fg
  by_cases h1 : j < N
  · rw [if_pos (by rw [nI_ltI (by omega) (by omega)]; exact h1), if_pos h1, hq, gd_n (by omega) (by decide), cl_n (by omega), hs j h1]
    unfold k_let
    dsimp only
    rw [C_isFigure]
    by_cases h2 : 1 ≤ (s j - 48).toInt ∧ (s j - 48).toInt ≤ 9
    · rw [if_pos h2, if_pos h2, Option.bind_some, if_neg (by decide)]
    · rw [if_neg h2, if_neg h2, Option.bind_some, if_pos rfl]
  · rw [if_neg (by rw [nI_ltI (by omega) (by omega)]; exact h1), if_neg h1]
theorem C_kind {q N j : Nat} {s : Nat → Int32} {J : StI} (hq : (k_sh q).2 = 60) (hN : N ≤ 60) (hs : ∀ i, i < N → J q i = s i) (hj : j < N) : f_X4_kindAt q (nI j) (nI N) J = some (kA (s j)) := by
  unfold f_X4_kindAt f_X4_kindAt_L2
  apply Ho_at
  refine Ho_loop0 (fun k v => v = nI k ∧ ∀ i, i < k → ¬ s j = k_letters i) 6 (by decide) ?_ ?_ _ ⟨rfl, fun i hi => absurd hi (by omega)⟩
  · rintro k v hk ⟨rfl, hall⟩
    unfold f_X4_kindAt_L2_b
    rw [if_neg (by rw [show (6 : Int32) = nI 6 from rfl, nI_leI (by omega) (by omega)]; omega), if_neg (by rw [nI_leI (by omega) (by omega)]; omega), hq, gd_n (by omega) (by decide), gd_n (by omega) (by decide), cl_n (by omega), cl_n (by omega), hs j hj]
    by_cases he : s j = k_letters k
    · rw [if_pos he]
      refine Ho_s ?_
      show nI k = kA (s j)
      rw [he]
      rcases (show k = 0 ∨ k = 1 ∨ k = 2 ∨ k = 3 ∨ k = 4 ∨ k = 5 by omega) with rfl | rfl | rfl | rfl | rfl | rfl <;> decide
    · rw [if_neg he]
      unfold k_let
      rw [nI_1]
      refine Ho_s ⟨rfl, fun i hi => ?_⟩
      by_cases hik : i = k
      · subst hik; exact he
      · exact hall i (by omega)
  · rintro v ⟨rfl, hall⟩
    unfold f_X4_kindAt_L2_b
    rw [if_pos (by decide)]
    refine Ho_s ?_
    show -9 = kA (s j)
    unfold kA
    rw [if_neg (show ¬ s j = 98 from hall 5 (by decide)), if_neg (show ¬ s j = 101 from hall 3 (by decide)), if_neg (show ¬ s j = 108 from hall 1 (by decide)), if_neg (show ¬ s j = 112 from hall 0 (by decide)), if_neg (show ¬ s j = 115 from hall 4 (by decide)), if_neg (show ¬ s j = 116 from hall 2 (by decide))]
/-- the callers read so far, in the class's house aside -/
def RC (J : StI) (cs : List Dd) : Prop := J 33 1 = nI cs.length ∧ ∀ i, i < cs.length → J (k_cq 33 i) 0 = (cs.getD i (0, 0, 0)).1 ∧ J (k_cq 33 i) 1 = (cs.getD i (0, 0, 0)).2.1 ∧ J (k_cq 33 i) 2 = (cs.getD i (0, 0, 0)).2.2 ∧ J (k_cq 33 i) 3 = 0 ∧ J (k_cq 33 i) 4 = 0 ∧ J (k_cq 33 i) 5 = 0 ∧ J (k_cq 33 i) 6 = (cs.getD i (0, 0, 0)).2.2
theorem C_begin {q : Nat} {I : StI} {x y z : Int32} : Ho (f_X0_begin q x y z I) (fun I' => I' q 0 = x ∧ I' q 1 = y ∧ I' q 2 = z ∧ I' q 3 = 0 ∧ I' q 4 = 0 ∧ I' q 5 = 0 ∧ I' q 6 = z ∧ ∀ b k, b ≠ q → I' b k = I b k) := by
  unfold f_X0_begin
  refine Ho_let_i.mpr (Ho_let_i.mpr (Ho_let_i.mpr ?_))
  refine Ho_bm C_renew (fun J hp => Ho_s ⟨?_, ?_, ?_, hp.1, hp.2.1, hp.2.2.1, ?_, fun b k hb => ?_⟩)
  · rw [hp.2.2.2.2 q 0 (by omega)]; simp [k_up]
  · rw [hp.2.2.2.2 q 1 (by omega)]; simp [k_up]
  · rw [hp.2.2.2.2 q 2 (by omega)]; simp [k_up]
  · rw [hp.2.2.2.1]; simp [k_up]
  · rw [hp.2.2.2.2 b k (fun z => hb z.1), k_up_oth (fun z => hb z.1), k_up_oth (fun z => hb z.1), k_up_oth (fun z => hb z.1)]
theorem getD_app_l {cs : List Dd} {d : Dd} {i : Nat} (h : i < cs.length) : (cs ++ [d]).getD i (0, 0, 0) = cs.getD i (0, 0, 0) := by
  rw [List.getD_eq_getElem?_getD, List.getElem?_append_left h, ← List.getD_eq_getElem?_getD]
theorem getD_app_r {cs : List Dd} {d : Dd} : (cs ++ [d]).getD cs.length (0, 0, 0) = d := by
  rw [List.getD_eq_getElem?_getD, List.getElem?_append_right (Nat.le_refl _), Nat.sub_self]
  rfl
theorem RC_add {J J1 : StI} {cs : List Dd} {x y z : Int32} (h : RC J cs) (h7 : cs.length < 7) (h0 : J1 (k_cq 33 cs.length) 0 = x ∧ J1 (k_cq 33 cs.length) 1 = y ∧ J1 (k_cq 33 cs.length) 2 = z ∧ J1 (k_cq 33 cs.length) 3 = 0 ∧ J1 (k_cq 33 cs.length) 4 = 0 ∧ J1 (k_cq 33 cs.length) 5 = 0 ∧ J1 (k_cq 33 cs.length) 6 = z) (ho : ∀ b k, b ≠ k_cq 33 cs.length → J1 b k = J b k) : RC (k_up J1 33 1 (nI (cs.length + 1))) (cs ++ [(x, y, z)]) := by
  refine ⟨by rw [k_up_same, List.length_append]; rfl, fun i hi => ?_⟩
  rw [List.length_append, List.length_singleton] at hi
  have hq : ∀ k, k_up J1 33 1 (nI (cs.length + 1)) (k_cq 33 i) k = J1 (k_cq 33 i) k := fun k => k_up_oth (by unfold k_cq; omega)
  rw [hq, hq, hq, hq, hq, hq, hq]
  by_cases he : i = cs.length
  · subst he
    rw [getD_app_r]
    exact h0
  · rw [getD_app_l (by omega), ho _ 0 (fun z => he (k_cq_inj z)), ho _ 1 (fun z => he (k_cq_inj z)), ho _ 2 (fun z => he (k_cq_inj z)), ho _ 3 (fun z => he (k_cq_inj z)), ho _ 4 (fun z => he (k_cq_inj z)), ho _ 5 (fun z => he (k_cq_inj z)), ho _ 6 (fun z => he (k_cq_inj z))]
    exact h.2 i (by omega)
/-- the frame of the class's reading: the callers aside, and how many -/
def CR (J J' : StI) : Prop := ∀ b k, ¬ (35 ≤ b ∧ b ≤ 41) → ¬ (b = 33 ∧ k = 1) → J' b k = J b k
theorem C_readL {q N : Nat} {s : Nat → Int32} {J0 : StI} {r : Int32} (hq : (k_sh q).2 = 60) (hq2 : q < 33) (hN : N ≤ 60) (hs : ∀ i, i < N → J0 q i = s i) (hr : ¬ r = 0) : ∀ (m j : Nat) (cs : List Dd) (J : StI) (fu : Nat), cs.length + m = 7 → m < fu → j ≤ N → (j < N → ¬ s j = 32) → RC J cs → CR J0 J → Ho (k_loop (fun x => f_X4_readHouse_L44_b q (nI N) 33 x.1 x.2.1 x.2.2) fu (nI j, nI cs.length, J)) (fun t => t.1 = (rdS s N (N + 1) j r cs).1 ∧ CR J0 t.2 ∧ (t.1 = -9 → RC t.2 (rdS s N (N + 1) j r cs).2.2 ∧ (rdS s N (N + 1) j r cs).2.1 = r)) := by
  intro m
  induction m with
  | zero =>
    intro j cs J fu hm hfu hj hnb hrc hcr
    obtain ⟨g, rfl⟩ : ∃ g, fu = g + 1 := ⟨fu - 1, by omega⟩
    show Ho ((f_X4_readHouse_L44_b q (nI N) 33 (nI j) (nI cs.length) J).bind _) _
    unfold f_X4_readHouse_L44_b
    rw [if_neg (by rw [show (7 : Int32) = nI 7 from rfl, nI_ltI (by omega) (by omega)]; omega)]
    by_cases h1 : N ≤ j
    · have e : rdS s N (N + 1) j r cs = (if 2 ≤ cs.length then -9 else nI N, r, cs) := by
        show (if N ≤ j then _ else _) = _
        rw [if_pos h1]
      rw [if_pos (by rw [nI_leI (by omega) (by omega)]; exact h1), e]
      unfold f_X4_readHouse_j90
      rw [hrc.1, if_pos (by rw [show (2 : Int32) = nI 2 from rfl, nI_leI (by omega) (by omega)]; omega), if_pos (show 2 ≤ cs.length by omega)]
      exact Ho_s ⟨rfl, hcr, fun _ => ⟨hrc, rfl⟩⟩
    · have hlt : j < N := by omega
      have e : rdS s N (N + 1) j r cs = (nI j, r, cs) := by
        show (if N ≤ j then _ else if s j = 32 then _ else if r = 0 then _ else if cs.length = 7 then _ else _) = _
        rw [if_neg h1, if_neg (hnb hlt), if_neg hr, if_pos (by omega)]
      have hsJ : ∀ i, i < N → J q i = s i := fun i hi => (hcr q i (by omega) (by omega)).trans (hs i hi)
      rw [if_neg (by rw [nI_leI (by omega) (by omega)]; exact h1), e]
      unfold f_X4_readCaller
      have hne : ¬ nI j = -9 := nn_ne (by rw [i_n (by omega)]; omega)
      rw [C_kind hq hN hsJ hlt, Option.bind_some]
      have hfin : Ho (Option.bind (Option.bind (some (nI j, J)) (fun t14 => if t14.1 = (-9 : Int32) then Option.bind (f_X4_pastBlanks q (nI j + (3 : Int32)) (nI N) t14.2) (fun t17 => k_let (nI cs.length + (1 : Int32)) (fun x19 => some (.inl (t17, x19, t14.2)))) else some (.inr (t14.1, t14.2)))) (fun t => Sum.elim (k_loop (fun x => f_X4_readHouse_L44_b q (nI N) 33 x.1 x.2.1 x.2.2) g) some t)) (fun t => t.1 = (nI j, r, cs).1 ∧ CR J0 t.2 ∧ (t.1 = -9 → RC t.2 (nI j, r, cs).2.2 ∧ (nI j, r, cs).2.1 = r)) := by
        rw [Option.bind_some, if_neg hne]
        exact Ho_s ⟨rfl, hcr, fun z => absurd z hne⟩
      by_cases hk : kA (s j) = -9
      · rw [if_pos hk]
        exact hfin
      · rw [if_neg hk, hrc.1, if_neg (by rw [show (7 : Int32) = nI 7 from rfl, nI_ltI (by omega) (by omega)]; omega)]
        exact hfin
  | succ m ih =>
    intro j cs J fu hm hfu hj hnb hrc hcr
    obtain ⟨g, rfl⟩ : ∃ g, fu = g + 1 := ⟨fu - 1, by omega⟩
    show Ho ((f_X4_readHouse_L44_b q (nI N) 33 (nI j) (nI cs.length) J).bind _) _
    unfold f_X4_readHouse_L44_b
    rw [if_neg (by rw [show (7 : Int32) = nI 7 from rfl, nI_ltI (by omega) (by omega)]; omega)]
    by_cases h1 : N ≤ j
    · have e : rdS s N (N + 1) j r cs = (if 2 ≤ cs.length then -9 else nI N, r, cs) := by
        show (if N ≤ j then _ else _) = _
        rw [if_pos h1]
      rw [if_pos (by rw [nI_leI (by omega) (by omega)]; exact h1), e]
      unfold f_X4_readHouse_j90
      rw [hrc.1]
      by_cases h2 : 2 ≤ cs.length
      · rw [if_pos (by rw [show (2 : Int32) = nI 2 from rfl, nI_leI (by omega) (by omega)]; omega), if_pos h2]
        exact Ho_s ⟨rfl, hcr, fun _ => ⟨hrc, rfl⟩⟩
      · rw [if_neg (by rw [show (2 : Int32) = nI 2 from rfl, nI_leI (by omega) (by omega)]; omega), if_neg h2]
        exact Ho_s ⟨rfl, hcr, fun _ => ⟨hrc, rfl⟩⟩
    · have hlt : j < N := by omega
      have e : rdS s N (N + 1) j r cs = if kA (s j) = -9 then (nI j, r, cs) else if fg s N (j + 1) = 0 then (nI (j + 1), r, cs) else if fg s N (j + 2) = 0 then (nI (j + 2), r, cs) else rdS s N N (j + 3) r (cs ++ [(kA (s j), fg s N (j + 1), fg s N (j + 2))]) := by
        show (if N ≤ j then _ else if s j = 32 then _ else if r = 0 then _ else if cs.length = 7 then _ else _) = _
        rw [if_neg h1, if_neg (hnb hlt), if_neg hr, if_neg (by omega)]
      have hsJ : ∀ i, i < N → J q i = s i := fun i hi => (hcr q i (by omega) (by omega)).trans (hs i hi)
      rw [if_neg (by rw [nI_leI (by omega) (by omega)]; exact h1), e]
      have nn : ∀ k : Nat, k < 1000 → ¬ nI k = -9 := fun k hk => nn_ne (by rw [i_n (by omega)]; omega)
      have hfin : ∀ k : Nat, k < 1000 → Ho (Option.bind (Option.bind (some (nI k, J)) (fun t14 => if t14.1 = (-9 : Int32) then Option.bind (f_X4_pastBlanks q (nI j + (3 : Int32)) (nI N) t14.2) (fun t17 => k_let (nI cs.length + (1 : Int32)) (fun x19 => some (.inl (t17, x19, t14.2)))) else some (.inr (t14.1, t14.2)))) (fun t => Sum.elim (k_loop (fun x => f_X4_readHouse_L44_b q (nI N) 33 x.1 x.2.1 x.2.2) g) some t)) (fun t => t.1 = (nI k, r, cs).1 ∧ CR J0 t.2 ∧ (t.1 = -9 → RC t.2 (nI k, r, cs).2.2 ∧ (nI k, r, cs).2.1 = r)) := by
        intro k hk
        rw [Option.bind_some, if_neg (nn k hk)]
        exact Ho_s ⟨rfl, hcr, fun z => absurd z (nn k hk)⟩
      unfold f_X4_readCaller
      rw [C_kind hq hN hsJ hlt, Option.bind_some]
      by_cases hk : kA (s j) = -9
      · rw [if_pos hk, if_pos hk]
        exact hfin j (by omega)
      · rw [if_neg hk, if_neg hk, hrc.1, if_pos (by rw [show (7 : Int32) = nI 7 from rfl, nI_ltI (by omega) (by omega)]; omega), nI_1, C_fig hq hN hsJ (by omega), Option.bind_some]
        by_cases h6 : fg s N (j + 1) = 0
        · rw [if_pos h6, if_pos h6]
          exact hfin (j + 1) (by omega)
        · rw [if_neg h6, if_neg h6, show (2 : Int32) = nI 2 from rfl, nI_add, C_fig hq hN hsJ (by omega), Option.bind_some]
          by_cases h7 : fg s N (j + 2) = 0
          · rw [if_pos h7, if_pos h7]
            exact hfin (j + 2) (by omega)
          · rw [if_neg h7, if_neg h7, g_i (by omega), m_i (by omega)]
            have hj2 := (fg_pos h7).1
            obtain ⟨J1, eb, hb⟩ := C_begin (q := k_cq 33 cs.length) (I := J) (x := kA (s j)) (y := fg s N (j + 1)) (z := fg s N (j + 2))
            have e331 : J1 33 1 = nI cs.length := (hb.2.2.2.2.2.2.2 33 1 (by unfold k_cq; omega)).trans hrc.1
            rw [eb, Option.bind_some]
            unfold k_let
            rw [e331, nI_1]
            dsimp only
            rw [Option.bind_some]
            dsimp only
            rw [if_pos rfl]
            have hrc2 : RC (k_up J1 33 1 (nI (cs.length + 1))) (cs ++ [(kA (s j), fg s N (j + 1), fg s N (j + 2))]) := RC_add hrc (by omega) ⟨hb.1, hb.2.1, hb.2.2.1, hb.2.2.2.1, hb.2.2.2.2.1, hb.2.2.2.2.2.1, hb.2.2.2.2.2.2.1⟩ hb.2.2.2.2.2.2.2
            have hcr2 : CR J0 (k_up J1 33 1 (nI (cs.length + 1))) := fun b k hb1 hb2 => by
              rw [k_up_oth (by omega), hb.2.2.2.2.2.2.2 b k (by unfold k_cq; omega)]
              exact hcr b k hb1 hb2
            have hs2 : ∀ i, i < N → k_up J1 33 1 (nI (cs.length + 1)) q i = s i := fun i hi => (hcr2 q i (by omega) (by omega)).trans (hs i hi)
            rw [show (3 : Int32) = nI 3 from rfl, nI_add, C_pb hq hN hs2 (by omega), Option.bind_some, Option.bind_some]
            have hge := pbF_ge (s := s) (N - (j + 3)) (j + 3)
            have := ih (pbF s (N - (j + 3)) (j + 3)) (cs ++ [(kA (s j), fg s N (j + 1), fg s N (j + 2))]) _ g (by rw [List.length_append, List.length_singleton]; omega) (by omega) (by omega) (fun hlt => pbF_nb _ _ (by omega)) hrc2 hcr2
            rw [List.length_append, List.length_singleton] at this
            rw [rdS_fu N (N + 1) (j + 3) r _ (by omega) (by omega), rdS_pb (N - (j + 3)) (j + 3) (N + 1) r _ (by omega) (by omega)]
            exact this
