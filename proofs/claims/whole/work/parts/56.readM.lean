/-! the reference's reading -/
/-- the callers read so far, in the reference -/
def RK (J : StI) (r : Int32) (cs : List Dd) : Prop := J 63 19 = r ∧ J 63 20 = nI cs.length ∧ ∀ i, i < cs.length → J 77 i = (cs.getD i (0, 0, 0)).1 ∧ J 78 (2 * i) = (cs.getD i (0, 0, 0)).2.1 ∧ J 78 (2 * i + 1) = (cs.getD i (0, 0, 0)).2.2
/-- the frame of the reference's reading -/
def MR (J J' : StI) : Prop := ∀ b k, ¬ (b = 77 ∨ b = 78) → ¬ (b = 63 ∧ (k = 19 ∨ k = 20)) → J' b k = J b k
theorem mul2 {i k : Nat} : (2 : Int32) * nI i + nI k = nI (2 * i + k) := by
  rw [show (2 : Int32) = nI 2 from rfl, pk_mul, nI_add]
theorem M_fig {J : StI} {t N j : Nat} {s : Nat → Int32} (ht : t < 4) (hN : N ≤ 60) (h66 : J 66 t = nI N) (hs : ∀ i, i < N → J 67 (60 * t + i) = s i) (hj : j < 1000) : f_X5_isFigure (nI t) (nI j) J = some (if fg s N j = 0 then 0 else 1) := by
  unfold f_X5_isFigure
  rw [gd_n ht (by decide), cl_n (by omega), h66]
  by_cases h1 : j < N
  · rw [if_neg (by rw [nI_leI (by omega) (by omega)]; omega), mul60, gd_n (by omega) (by decide), cl_n (by omega), hs j h1, show (49 : Int64) = (49 : Int32).toInt64 from rfl, show (57 : Int64) = (57 : Int32).toInt64 from rfl, in_i, Option.bind_some]
    unfold fg
    rw [if_pos h1]
    by_cases h2 : 1 ≤ (s j - 48).toInt ∧ (s j - 48).toInt ≤ 9
    · have h3 := fig_iff.mp h2
      rw [if_pos (show (49 : Int32).toInt ≤ (s j).toInt ∧ (s j).toInt ≤ (57 : Int32).toInt from h3), if_neg (by decide), if_pos h2, if_neg (by
        intro z
        rw [z] at h2
        exact absurd h2.1 (by decide))]
    · rw [if_neg (show ¬ ((49 : Int32).toInt ≤ (s j).toInt ∧ (s j).toInt ≤ (57 : Int32).toInt) from fun z => h2 (fig_iff.mpr z)), if_pos rfl, if_neg h2, if_pos rfl]
  · rw [if_pos (by rw [nI_leI (by omega) (by omega)]; omega)]
    unfold fg
    rw [if_neg h1, if_pos rfl]
theorem M_inner {J : StI} {t N j l : Nat} {s : Nat → Int32} (ht : t < 4) (hN : N ≤ 60) (h66 : J 66 t = nI N) (hs : ∀ i, i < N → J 67 (60 * t + i) = s i) (hj : j < N) (h20 : J 63 20 = nI l) (hl : l < 7) : f_X5_reads_L119 (nI t) (nI N) k_fu (nI j) 0 J = if fg s N (j + 1) = 0 then some (.inr (nI (j + 1), J)) else if fg s N (j + 2) = 0 then some (.inr (nI (j + 2), k_up J 78 (2 * l) (fg s N (j + 1)))) else some (.inl (nI (j + 3), k_up (k_up (k_up J 78 (2 * l) (fg s N (j + 1))) 78 (2 * l + 1) (fg s N (j + 2))) 63 20 (nI (l + 1)))) := by
  unfold f_X5_reads_L119
  by_cases h6 : fg s N (j + 1) = 0
  · rw [if_pos h6]
    refine kl_r (n := 9999) ?_
    dsimp only
    unfold f_X5_reads_L119_b k_let
    rw [if_neg (by decide), nI_1]
    dsimp only
    rw [M_fig ht hN h66 hs (by omega), if_pos h6, Option.bind_some, if_pos rfl]
  · rw [if_neg h6]
    obtain ⟨p1, p2, -⟩ := fg_pos h6
    have e1 : f_X5_reads_L119_b (nI t) (nI N) (nI j) 0 J = some (.inl (nI (j + 1), nI 1, k_up J 78 (2 * l) (fg s N (j + 1)))) := by
      unfold f_X5_reads_L119_b k_let
      rw [if_neg (by decide), nI_1]
      dsimp only
      rw [M_fig ht hN h66 hs (by omega), if_neg h6, Option.bind_some, if_neg (by decide), h20, show (0 : Int32) = nI 0 from rfl, mul60, mul2, gd_n (by omega) (by decide), gd_n (by omega) (by decide), cl_n (by omega), cl_n (by omega), hs _ p1, ← p2]
      rfl
    refine (kl_l (n := 9999) e1).trans ?_
    have o78 : ∀ b k, b ≠ 78 → k_up J 78 (2 * l) (fg s N (j + 1)) b k = J b k := fun b k hb => k_up_oth (fun z => hb z.1)
    have h66' : k_up J 78 (2 * l) (fg s N (j + 1)) 66 t = nI N := (o78 66 t (by decide)).trans h66
    have hs' : ∀ i, i < N → k_up J 78 (2 * l) (fg s N (j + 1)) 67 (60 * t + i) = s i := fun i hi => (o78 67 _ (by decide)).trans (hs i hi)
    have h20' : k_up J 78 (2 * l) (fg s N (j + 1)) 63 20 = nI l := (o78 63 20 (by decide)).trans h20
    generalize k_up J 78 (2 * l) (fg s N (j + 1)) = K at *
    by_cases h7 : fg s N (j + 2) = 0
    · rw [if_pos h7]
      refine kl_r (n := 9998) ?_
      dsimp only
      unfold f_X5_reads_L119_b k_let
      rw [if_neg (by decide), nI_1 (j + 1), show j + 1 + 1 = j + 2 from rfl]
      dsimp only
      rw [M_fig ht hN h66' hs' (by omega), if_pos h7, Option.bind_some, if_pos rfl]
    · rw [if_neg h7]
      obtain ⟨q1, q2, -⟩ := fg_pos h7
      have e2 : f_X5_reads_L119_b (nI t) (nI N) (nI (j + 1)) (nI 1) K = some (.inl (nI (j + 2), nI 2, k_up K 78 (2 * l + 1) (fg s N (j + 2)))) := by
        unfold f_X5_reads_L119_b k_let
        rw [if_neg (by decide), nI_1 (j + 1), show j + 1 + 1 = j + 2 from rfl]
        dsimp only
        rw [M_fig ht hN h66' hs' (by omega), if_neg h7, Option.bind_some, if_neg (by decide), h20', mul60, mul2, gd_n (by omega) (by decide), gd_n (by omega) (by decide), cl_n (by omega), cl_n (by omega), hs' _ q1, ← q2]
        rfl
      refine (kl_l (n := 9998) e2).trans ?_
      refine kl_r (n := 9997) ?_
      dsimp only
      unfold f_X5_reads_L119_b k_let
      rw [if_pos (by decide), nI_1, k_up_oth (by omega), h20', nI_1]
theorem RK_add {J J1 : StI} {r : Int32} {cs : List Dd} {x y z : Int32} (h : RK J r cs) (h19 : J1 63 19 = r) (h20 : J1 63 20 = nI (cs.length + 1)) (h77 : J1 77 cs.length = x) (h78 : J1 78 (2 * cs.length) = y) (h79 : J1 78 (2 * cs.length + 1) = z) (ho : ∀ k, k < cs.length → J1 77 k = J 77 k ∧ J1 78 (2 * k) = J 78 (2 * k) ∧ J1 78 (2 * k + 1) = J 78 (2 * k + 1)) : RK J1 r (cs ++ [(x, y, z)]) := by
  refine ⟨h19, by rw [h20, List.length_append]; rfl, fun i hi => ?_⟩
  rw [List.length_append, List.length_singleton] at hi
  by_cases he : i = cs.length
  · subst he
    rw [getD_app_r]
    exact ⟨h77, h78, h79⟩
  · rw [getD_app_l (by omega), (ho i (by omega)).1, (ho i (by omega)).2.1, (ho i (by omega)).2.2]
    exact h.2.2 i (by omega)
theorem M_readL {t N : Nat} {s : Nat → Int32} {J0 : StI} (ht : t < 4) (hN : N ≤ 60) (h66 : J0 66 t = nI N) (hs : ∀ i, i < N → J0 67 (60 * t + i) = s i) : ∀ (f j : Nat) (r : Int32) (cs : List Dd) (J : StI), N - j < f → j ≤ N → RV r cs → RK J r cs → MR J0 J → Ho (k_loop (fun x => f_X5_reads_L19_b (nI t) (nI N) x.1 x.2) f (nI j, J)) (fun u => u.1 = (rdS s N f j r cs).1 ∧ MR J0 u.2 ∧ (u.1 = -9 → RK u.2 (rdS s N f j r cs).2.1 (rdS s N f j r cs).2.2)) := by
  intro f
  induction f with
  | zero => intro j r cs J h; exact absurd h (Nat.not_lt_zero _)
  | succ f ih =>
    intro j r cs J hf hj hrv hrk hmr
    have h66J : J 66 t = nI N := (hmr 66 t (by omega) (by omega)).trans h66
    have hsJ : ∀ i, i < N → J 67 (60 * t + i) = s i := fun i hi => (hmr 67 _ (by omega) (by omega)).trans (hs i hi)
    have nn : ∀ k : Nat, k < 1000 → ¬ nI k = -9 := fun k hk => nn_ne (by rw [i_n (by omega)]; omega)
    have hcl := hrv.2.1
    show Ho ((f_X5_reads_L19_b (nI t) (nI N) (nI j) J).bind _) _
    unfold rdS f_X5_reads_L19_b
    by_cases h1 : N ≤ j
    · rw [if_pos h1, if_pos (by rw [nI_leI (by omega) (by omega)]; exact h1), hrk.2.1]
      by_cases h2 : 2 ≤ cs.length
      · rw [if_pos (by rw [show (2 : Int32) = nI 2 from rfl, nI_leI (by omega) (by omega)]; omega), if_pos h2]
        exact Ho_s ⟨rfl, hmr, fun _ => hrk⟩
      · rw [if_neg (by rw [show (2 : Int32) = nI 2 from rfl, nI_leI (by omega) (by omega)]; omega), if_neg h2]
        exact Ho_s ⟨rfl, hmr, fun _ => hrk⟩
    · have hlt : j < N := by omega
      rw [if_neg h1, if_neg (by rw [nI_leI (by omega) (by omega)]; exact h1), mul60, gd_n (by omega) (by decide), cl_n (by omega), hsJ j hlt]
      unfold k_let
      dsimp only
      by_cases h2 : s j = 32
      · rw [if_pos h2, if_pos h2]
        unfold f_X5_reads_j74 k_let
        rw [if_pos h2, nI_1]
        exact ih (j + 1) r cs J (by omega) (by omega) hrv hrk hmr
      · rw [if_neg h2, if_neg h2, hrk.1]
        by_cases h3 : r = 0
        · rw [if_pos h3, if_pos h3, M_fig ht hN h66J hsJ (by omega), Option.bind_some]
          by_cases h4 : fg s N j = 0
          · rw [if_pos h4, if_pos h4, if_pos rfl]
            exact Ho_s ⟨rfl, hmr, fun z => absurd z (nn j (by omega))⟩
          · obtain ⟨p1, p2, p3⟩ := fg_pos h4
            rw [if_neg h4, if_neg h4, if_neg (by decide), nI_1, ← p2]
            have hcs : cs = [] := by
              rcases hrv.1 with ⟨_, z⟩ | z
              · exact z
              · rw [h3] at z
                exact absurd z.1 (by decide)
            subst hcs
            refine ih (j + 1) (fg s N j) [] _ (by omega) (by omega) ⟨Or.inr p3, hrv.2⟩ ⟨k_up_same, by rw [k_up_oth (by omega)]; exact hrk.2.1, fun i hi => absurd hi (by show ¬ i < 0; omega)⟩ (fun b k hb1 hb2 => ?_)
            rw [k_up_oth (by omega)]
            exact hmr b k hb1 hb2
        · rw [if_neg h3, if_neg h3]
          unfold f_X5_reads_j74
          rw [if_neg h2, hrk.2.1]
          by_cases h4 : cs.length = 7
          · rw [if_pos h4, if_pos (by rw [h4]; rfl)]
            exact Ho_s ⟨rfl, hmr, fun z => absurd z (nn j (by omega))⟩
          · rw [if_neg h4, if_neg (by rw [show (7 : Int32) = nI 7 from rfl, nI_eq (by omega) (by omega)]; exact h4), M_kindOf, Option.bind_some]
            by_cases h5 : kA (s j) = -9
            · rw [if_pos h5, if_pos h5]
              exact Ho_s ⟨rfl, hmr, fun z => absurd z (nn j (by omega))⟩
            · rw [if_neg h5, if_neg h5, Option.bind_some, g_i (by omega), m_i (by omega)]
              unfold k_let
              dsimp only
              have o77 : ∀ b k, b ≠ 77 → k_up J 77 cs.length (kA (s j)) b k = J b k := fun b k hb => k_up_oth (fun z => hb z.1)
              rw [M_inner (l := cs.length) ht hN ((o77 66 t (by decide)).trans h66J) (fun i hi => (o77 67 _ (by decide)).trans (hsJ i hi)) hlt ((o77 63 20 (by decide)).trans hrk.2.1) (by omega)]
              have hm1 : MR J0 (k_up J 77 cs.length (kA (s j))) := fun b k hb1 hb2 => (o77 b k (by omega)).trans (hmr b k hb1 hb2)
              by_cases h6 : fg s N (j + 1) = 0
              · rw [if_pos h6, if_pos h6]
                exact Ho_s ⟨rfl, hm1, fun z => absurd z (nn (j + 1) (by omega))⟩
              · rw [if_neg h6, if_neg h6]
                by_cases h7 : fg s N (j + 2) = 0
                · rw [if_pos h7, if_pos h7]
                  refine Ho_s ⟨rfl, fun b k hb1 hb2 => ?_, fun z => absurd z (nn (j + 2) (by omega))⟩
                  show k_up (k_up J 77 cs.length (kA (s j))) 78 (2 * cs.length) (fg s N (j + 1)) b k = J0 b k
                  rw [k_up_oth (by omega)]
                  exact hm1 b k hb1 hb2
                · rw [if_neg h7, if_neg h7]
                  have hj2 := (fg_pos h7).1
                  obtain ⟨-, -, p3⟩ := fg_pos h6
                  obtain ⟨-, -, q3⟩ := fg_pos h7
                  refine ih (j + 3) r _ _ (by omega) (by omega) ⟨?_, ?_, fun d hd => ?_⟩ (RK_add hrk ?_ k_up_same ?_ ?_ ?_ (fun k hk => ⟨?_, ?_, ?_⟩)) (fun b k hb1 hb2 => ?_)
                  · rcases hrv.1 with ⟨z, _⟩ | z
                    · exact absurd z h3
                    · exact Or.inr z
                  · rw [List.length_append, List.length_singleton]; omega
                  · rcases List.mem_append.mp hd with hd | hd
                    · exact hrv.2.2 d hd
                    · rw [List.mem_singleton.mp hd]
                      exact ⟨p3, q3⟩
                  · rw [k_up_oth (by omega), k_up_oth (by omega), k_up_oth (by omega), k_up_oth (by omega)]; exact hrk.1
                  · rw [k_up_oth (by omega), k_up_oth (by omega), k_up_oth (by omega), k_up_same]
                  · rw [k_up_oth (by omega), k_up_oth (by omega), k_up_same]
                  · rw [k_up_oth (by omega), k_up_same]
                  · rw [k_up_oth (by omega), k_up_oth (by omega), k_up_oth (by omega), k_up_oth (by omega)]
                  · rw [k_up_oth (by omega), k_up_oth (by omega), k_up_oth (by omega), k_up_oth (by omega)]
                  · rw [k_up_oth (by omega), k_up_oth (by omega), k_up_oth (by omega), k_up_oth (by omega)]
                  · rw [k_up_oth (by omega), k_up_oth (by omega), k_up_oth (by omega)]
                    exact hm1 b k hb1 hb2
/-- the whole reading, from a text -/
def rdT (s : Nat → Int32) (N : Nat) : Int32 × Int32 × List Dd := rdS s N (N + 1) 0 0 []
theorem RV_0 : RV 0 [] := ⟨Or.inl ⟨rfl, rfl⟩, by decide, fun d hd => absurd hd (by simp)⟩
theorem M_reads {J : StI} {t N : Nat} {s : Nat → Int32} (ht : t < 4) (hN : N ≤ 60) (h66 : J 66 t = nI N) (hs : ∀ i, i < N → J 67 (60 * t + i) = s i) : Ho (f_X5_reads (nI t) J) (fun u => u.1 = (rdT s N).1 ∧ MR J u.2 ∧ (u.1 = -9 → RK u.2 (rdT s N).2.1 (rdT s N).2.2)) := by
  unfold f_X5_reads
  rw [gd_n ht (by decide), cl_n (by omega), h66]
  refine Ho_let_i.mpr (Ho_let_i.mpr (Ho_let_i.mpr ?_))
  unfold f_X5_reads_L19
  have o1 : ∀ b k, ¬ (b = 63 ∧ (k = 19 ∨ k = 20)) → k_up (k_up J 63 19 0) 63 20 0 b k = J b k := fun b k hb => by rw [k_up_oth (by omega), k_up_oth (by omega)]
  have hrk : RK (k_up (k_up J 63 19 0) 63 20 0) 0 [] := ⟨by rw [k_up_oth (by omega), k_up_same], by rw [k_up_same]; rfl, fun i hi => absurd hi (by show ¬ i < 0; omega)⟩
  have hmr : MR J (k_up (k_up J 63 19 0) 63 20 0) := fun b k _ hb => o1 b k hb
  have h66' : k_up (k_up J 63 19 0) 63 20 0 66 t = nI N := (o1 66 t (by omega)).trans h66
  have key := M_readL (s := s) ht hN h66 hs k_fu 0 0 [] _ (by show N - 0 < 10000; omega) (by omega) RV_0 hrk hmr
  rw [rdS_fu k_fu (N + 1) 0 0 [] (by show N - 0 < 10000; omega) (by omega)] at key
  exact key
/-- the class's house aside as it is read -/
theorem C_clear {J : StI} : Ho (f_X3_clear 33 J) (fun J' => J' 33 1 = 0 ∧ J' 33 2 = 0 ∧ J' 33 3 = 255 ∧ J' 33 4 = 0 ∧ J' 33 5 = 0 ∧ J' 33 6 = 0 ∧ J' 33 7 = 0 ∧ ∀ b k, b ≠ 33 → J' b k = J b k) := by
  unfold f_X3_clear
  simp only [k_let]
  refine Ho_s ⟨by simp [k_up], by simp [k_up], by simp [k_up], by simp [k_up], by simp [k_up], by simp [k_up], by simp [k_up], fun b k hb => ?_⟩
  rw [k_up_oth (fun z => hb z.1), k_up_oth (fun z => hb z.1), k_up_oth (fun z => hb z.1), k_up_oth (fun z => hb z.1), k_up_oth (fun z => hb z.1), k_up_oth (fun z => hb z.1), k_up_oth (fun z => hb z.1)]
def CH (J : StI) (r : Int32) (cs : List Dd) : Prop := RC J cs ∧ J 33 2 = r ∧ J 33 3 = 255 ∧ J 33 4 = 0 ∧ J 33 5 = 0 ∧ J 33 6 = 0 ∧ J 33 7 = 0
theorem C_reads {J : StI} {t N : Nat} {s : Nat → Int32} (ht : t < 4) (hN : N ≤ 60) (hs : ∀ i, i < N → J (k_tq t) i = s i) : Ho (f_X4_readHouse (k_tq t) (nI N) 33 J) (fun u => u.1 = (rdT s N).1 ∧ (∀ b k, ¬ sC 33 b → u.2 b k = J b k) ∧ (u.1 = -9 → CH u.2 (rdT s N).2.1 (rdT s N).2.2)) := by
  have hq : (k_sh (k_tq t)).2 = 60 := by
    unfold k_tq
    rcases (show t = 0 ∨ t = 1 ∨ t = 2 ∨ t = 3 by omega) with rfl | rfl | rfl | rfl <;> rfl
  have nn : ∀ k : Nat, k < 1000 → ¬ nI k = -9 := fun k hk => nn_ne (by rw [i_n (by omega)]; omega)
  unfold f_X4_readHouse
  refine Ho_bm C_clear (fun J1 hp => ?_)
  obtain ⟨c1, c2, c3, c4, c5, c6, c7, co⟩ := hp
  have hs1 : ∀ i, i < N → J1 (k_tq t) i = s i := fun i hi => (co _ i (by unfold k_tq; omega)).trans (hs i hi)
  have hge := pbF_ge (s := s) (N - 0) 0
  have e0 := rdS_pb (s := s) (N := N) (N - 0) 0 (N + 1) 0 [] (by omega) (by omega)
  have hnb := pbF_nb (s := s) (N - 0) 0
  unfold rdT
  rw [show f_X4_pastBlanks (k_tq t) 0 (nI N) J1 = some (nI (pbF s (N - 0) 0)) from C_pb (j := 0) hq hN hs1 (by omega)]
  refine Ho_b1 ?_
  rw [e0]
  generalize pbF s (N - 0) 0 = j at *
  rw [C_fig hq hN hs1 (by omega)]
  refine Ho_b1 ?_
  have e1 : rdS s N (N + 1) j 0 [] = if N ≤ j then (nI N, 0, []) else if fg s N j = 0 then (nI j, 0, []) else rdS s N N (j + 1) (fg s N j) [] := by
    show (if N ≤ j then _ else if s j = 32 then _ else _) = _
    by_cases h1 : N ≤ j
    · rw [if_pos h1, if_pos h1]
      rfl
    · rw [if_neg h1, if_neg h1, if_neg (hnb (by omega)), if_pos rfl]
  rw [e1]
  by_cases h4 : fg s N j = 0
  · rw [if_pos h4]
    have : (if N ≤ j then ((nI N, 0, []) : Int32 × Int32 × List Dd) else if fg s N j = 0 then (nI j, 0, []) else rdS s N N (j + 1) (fg s N j) []).1 = nI j := by
      by_cases h1 : N ≤ j
      · rw [if_pos h1, show N = j by omega]
      · rw [if_neg h1, if_pos h4]
    refine Ho_s ⟨this.symm, fun b k hb => co b k (fun z => hb (Or.inl z)), fun z => absurd z (nn j (by omega))⟩
  · obtain ⟨p1, p2, p3⟩ := fg_pos h4
    rw [if_neg h4, if_neg (by omega), if_neg h4]
    refine Ho_let_i.mpr ?_
    have o1 : ∀ b k, b ≠ 33 → k_up J1 33 2 (fg s N j) b k = J b k := fun b k hb => by rw [k_up_oth (fun z => hb z.1)]; exact co b k hb
    have hs2 : ∀ i, i < N → k_up J1 33 2 (fg s N j) (k_tq t) i = s i := fun i hi => (o1 _ i (by unfold k_tq; omega)).trans (hs i hi)
    rw [nI_1, C_pb hq hN hs2 (by omega)]
    refine Ho_b1 ?_
    unfold f_X4_readHouse_L44
    have hge2 := pbF_ge (s := s) (N - (j + 1)) (j + 1)
    have hr : ¬ fg s N j = 0 := h4
    have key := C_readL (q := k_tq t) (s := s) (J0 := k_up J1 33 2 (fg s N j)) (r := fg s N j) hq (by unfold k_tq; omega) hN hs2 hr 7 (pbF s (N - (j + 1)) (j + 1)) [] (k_up J1 33 2 (fg s N j)) k_fu rfl (by decide) (by omega) (fun hlt => pbF_nb _ _ (by omega)) ⟨by rw [k_up_oth (by omega)]; exact c1, fun i hi => absurd hi (by show ¬ i < 0; omega)⟩ (fun _ _ _ _ => rfl)
    rw [rdS_fu N (N + 1) (j + 1) _ [] (by omega) (by omega), rdS_pb (N - (j + 1)) (j + 1) (N + 1) _ [] (by omega) (by omega)]
    refine key.mono (fun u hu => ?_)
    obtain ⟨u1, u2, u3⟩ := hu
    refine ⟨u1, fun b k hb => ?_, fun z => ?_⟩
    · unfold sC at hb
      rw [u2 b k (by omega) (by omega)]
      exact o1 b k (by omega)
    · obtain ⟨w1, w2⟩ := u3 z
      refine ⟨w1, ?_, ?_, ?_, ?_, ?_, ?_⟩
      · rw [u2 33 2 (by omega) (by omega), k_up_same, w2]
      · rw [u2 33 3 (by omega) (by omega), k_up_oth (by omega)]; exact c3
      · rw [u2 33 4 (by omega) (by omega), k_up_oth (by omega)]; exact c4
      · rw [u2 33 5 (by omega) (by omega), k_up_oth (by omega)]; exact c5
      · rw [u2 33 6 (by omega) (by omega), k_up_oth (by omega)]; exact c6
      · rw [u2 33 7 (by omega) (by omega), k_up_oth (by omega)]; exact c7
theorem L_fault {I : StI} {L : StL} (h : Rel I L) (v1 : Int32) : Sm (f_X4_fault v1 I) (f_X5_fault v1) L := by
  by_cases hr : 0 ≤ v1.toInt ∧ v1.toInt < 4
  · obtain ⟨t, ht, rfl⟩ := i_in hr.1 (show v1.toInt < (4 : Nat) from hr.2)
    have n4 : ∀ {T : Type} {o : Option T}, k_gd (nI t) 4 o = o := gd_n ht (by decide)
    have c4 : (nI t).toNatClampNeg = t := cl_n (by omega)
    obtain ⟨a1, a2, a3⟩ := h.2.1 t ht
    rcases sz_cases (M := 60) a1 with hs | ⟨N, hN, hs⟩
    · refine Sm_found h 1 (by decide) (by decide) ?_ (fun J hJ => ?_)
      · unfold f_X4_fault
        rw [C_isText, if_pos hr, Option.bind_some, if_neg (by decide), n4, c4, if_pos hs, bind_eta]
        rfl
      · unfold f_X5_fault
        rw [M_isText, if_pos hr, Option.bind_some, if_neg (by decide), n4, c4, if_neg (by rw [hJ 66 t (by decide), a2, hs]; decide), bind_eta]
        rfl
    · refine Sm_aside h (rdT (I (k_tq t)) N).1 (I 0 9) ?_ (fun J hJ => ?_)
      · unfold f_X4_fault
        rw [C_isText, if_pos hr]
        refine Ho_b1 (Ho_n0 ?_)
        rw [n4, c4, hs, if_neg (by
          intro z
          have := congrArg Int32.toInt z
          rw [i_n (by omega), k_m1] at this
          omega), n4, n4]
        refine Ho_bm (C_reads (s := I (k_tq t)) ht hN (fun _ _ => rfl)) (fun u hu => Ho_s ⟨hu.1, hu.2.1 0 9 (by unfold sC; omega), fun b k hb1 hb2 => hu.2.1 b k (by unfold sCs at hb1; unfold sC; omega)⟩)
      · unfold f_X5_fault
        rw [M_isText, if_pos hr]
        refine Ho_b1 (Ho_n0 ?_)
        have h66 : J 66 t = nI N := by rw [hJ 66 t (by decide), a2]; exact hs
        rw [n4, c4, h66, if_pos (nI_ge0 (by omega))]
        refine Ho_bm (M_reads (s := I (k_tq t)) ht hN h66 (fun i hi => by rw [hJ 67 _ (by decide)]; exact a3 i (by omega))) (fun u hu => Ho_s ⟨hu.1, ?_, fun b k hb1 hb2 => hu.2.1 b k (by unfold sMs at hb1; omega) (by unfold sMs at hb1; omega)⟩)
        show u.2 63 14 = I 0 9
        rw [hu.2.1 63 14 (by omega) (by omega), hJ 63 14 (by decide)]
        exact h.2.2.1.1
  · refine Sm_same h (-1) ?_ ?_
    · unfold f_X4_fault
      rw [C_isText, if_neg hr, Option.bind_some, if_pos rfl]
    · unfold f_X5_fault
      rw [M_isText, if_neg hr, Option.bind_some, if_pos rfl]
