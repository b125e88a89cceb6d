/-! duel: the reference's side -/
theorem pf_nn {b : Bool} {p : Nat} {g : Nat → Int32} (hg : ∀ q, 0 ≤ (g q).toInt) : ∀ s, 0 ≤ (pf b p g s).toInt
  | 0 => hg p
  | s + 1 => by
    have h1 := pf_nn (b := b) (p := p) hg s
    have h2 := hg (p ^^^ 2 ^ s)
    unfold pf
    repeat' split
    all_goals assumption
theorem Pl_nn {V : Nat → Int32} (hV : ∀ q, 0 ≤ (V q).toInt) : ∀ t p b, 0 ≤ (Pl V t p b).toInt
  | 0, p, _ => hV p
  | t + 1, p, b => pf_nn (fun q => Pl_nn hV t q (!b)) 8
/-- whose turn it is: the first takes out -/
def ev (k : Nat) : Bool := decide (k % 2 = 0)
theorem ev_s (k : Nat) : ev (k + 1) = !(ev k) := by
  unfold ev
  rcases (show k % 2 = 0 ∨ k % 2 = 1 by omega) with h | h
  · rw [h, show (k + 1) % 2 = 1 by omega]; rfl
  · rw [h, show (k + 1) % 2 = 0 by omega]; rfl
def pD (k s p : Nat) : Option Nat := if s < 8 then (if hasb (nI p) s = ev k then some (p ^^^ 2 ^ s) else none) else some p
/-- the pattern behind k of a code's turns -/
def pB (p0 code : Nat) : Nat → Option Nat
  | 0 => some p0
  | k + 1 => (pB p0 code k).bind (pD k (code / 9 ^ k % 9))
theorem pB_lt {p0 code : Nat} (h0 : p0 < 256) : ∀ k p, pB p0 code k = some p → p < 256
  | 0, p, h => by
    cases h
    exact h0
  | k + 1, p, h => by
    change (pB p0 code k).bind (pD k (code / 9 ^ k % 9)) = some p at h
    cases hq : pB p0 code k with
    | none => rw [hq] at h; cases h
    | some q =>
      rw [hq] at h
      have hlt := pB_lt h0 k q hq
      change pD k (code / 9 ^ k % 9) q = some p at h
      unfold pD at h
      by_cases h8 : code / 9 ^ k % 9 < 8
      · rw [if_pos h8] at h
        by_cases hb : hasb (nI q) (code / 9 ^ k % 9) = ev k
        · rw [if_pos hb] at h
          cases h
          exact xor256 hlt h8
        · rw [if_neg hb] at h
          cases h
      · rw [if_neg h8] at h
        cases h
        exact hlt
theorem pB_none {p0 code k : Nat} (h : pB p0 code k = none) : ∀ j, pB p0 code (k + j) = none
  | 0 => h
  | j + 1 => by
    show (pB p0 code (k + j)).bind _ = none
    rw [pB_none h j]
    rfl
theorem pB_cg {p0 c c' : Nat} : ∀ k, (∀ j, j < k → c / 9 ^ j % 9 = c' / 9 ^ j % 9) → pB p0 c k = pB p0 c' k
  | 0, _ => rfl
  | k + 1, h => by
    show (pB p0 c k).bind (pD k (c / 9 ^ k % 9)) = (pB p0 c' k).bind (pD k (c' / 9 ^ k % 9))
    rw [pB_cg k (fun j hj => h j (by omega)), h k (by omega)]
theorem dig_hi {T c s : Nat} (hT : T ≤ 3) (hc : c < 9 ^ T) (hs : s < 9) : (c + s * 9 ^ T) / 9 ^ T % 9 = s := by
  rw [Nat.add_mul_div_right _ _ (Nat.pow_pos (by decide)), Nat.div_eq_of_lt hc, Nat.zero_add, Nat.mod_eq_of_lt hs]
theorem dig_lo {T c s j : Nat} (hj : j < T) : (c + s * 9 ^ T) / 9 ^ j % 9 = c / 9 ^ j % 9 := by
  have e : s * 9 ^ T = (s * 9 ^ (T - j - 1) * 9) * 9 ^ j := by
    rw [Nat.mul_assoc, Nat.mul_assoc, ← Nat.pow_succ', ← Nat.pow_add]
    congr 2
    omega
  rw [e, Nat.add_mul_div_right _ _ (Nat.pow_pos (by decide)), Nat.add_mul_mod_self_right]
theorem pB_dig {p0 T c s : Nat} (hT : T ≤ 3) (hc : c < 9 ^ T) (hs : s < 9) : pB p0 (c + s * 9 ^ T) (T + 1) = (pB p0 c T).bind (pD T s) := by
  show (pB p0 (c + s * 9 ^ T) T).bind (pD T ((c + s * 9 ^ T) / 9 ^ T % 9)) = _
  rw [pB_cg T (fun j hj => dig_lo hj), dig_hi hT hc hs]
def pR (p0 code k : Nat) : Int32 := match pB p0 code k with
  | none => -9
  | some p => nI p
theorem M_patternBy {J : StI} {p0 code n : Nat} (h0 : p0 < 256) (hc : code < 6561) (hn : n ≤ 4) (h3 : J 70 3 = nI p0) : f_X5_patternBy (nI code) (nI n) J = some (pR p0 code n) := by
  unfold f_X5_patternBy
  rw [g_3, n_3, h3]
  unfold k_let f_X5_patternBy_L13
  apply Ho_at
  refine Ho_loop0 (fun k x => (∃ p, pB p0 code k = some p ∧ x.1 = nI p) ∧ x.2.1 = nI (code / 9 ^ k) ∧ x.2.2 = nI k) n (by omega) ?_ ?_ _ ⟨⟨p0, rfl, rfl⟩, by show nI code = nI (code / 1); rw [Nat.div_one], rfl⟩
  · intro k x hk hx
    obtain ⟨u, v, w⟩ := x
    obtain ⟨⟨p, e0, e3⟩, e1, e2⟩ := hx
    dsimp only at e3 e1 e2
    subst e1 e2 e3
    dsimp only
    have hp := pB_lt h0 k p e0
    have hle : code / 9 ^ k ≤ code := Nat.div_le_self _ _
    have hs9 : code / 9 ^ k % 9 < 9 := Nat.mod_lt _ (by decide)
    have hd : code / 9 ^ k / 9 = code / 9 ^ (k + 1) := by rw [Nat.div_div_eq_div_mul, Nat.pow_succ]
    have hnx : pB p0 code (k + 1) = pD k (code / 9 ^ k % 9) p := by
      show (pB p0 code k).bind (pD k (code / 9 ^ k % 9)) = _
      rw [e0]
      rfl
    have hno : ∀ {T : Type} {A : T}, pB p0 code (k + 1) = none → pR p0 code n = -9 := by
      intro T A hN
      have := pB_none hN (n - (k + 1))
      rw [show k + 1 + (n - (k + 1)) = n by omega] at this
      unfold pR
      rw [this]
    unfold f_X5_patternBy_L13_b k_let
    rw [if_neg (by rw [nI_leI (by omega) (by omega)]; omega), show (9 : Int32) = nI 9 from rfl, pk_rem (by omega) (by decide) (by decide), pk_div (by omega) (by decide) (by decide), hd]
    generalize code / 9 ^ k % 9 = s at *
    dsimp only
    by_cases h8 : s < 8
    · rw [if_neg (by rw [show (8 : Int32) = nI 8 from rfl, nI_leI (by omega) (by omega)]; omega), M_has, show (2 : Int32) = nI 2 from rfl, pk_rem (by omega) (by decide) (by decide)]
      refine Ho_b1 ?_
      have core : Ho (f_X5_patternBy_j58 (nI n) (nI p) (nI (code / 9 ^ (k + 1))) (nI k) (nI s) (bI (hasb (nI p) s)) (bI (ev k)) J) (Sum.elim (fun x => (∃ p, pB p0 code (k + 1) = some p ∧ x.1 = nI p) ∧ x.2.1 = nI (code / 9 ^ (k + 1)) ∧ x.2.2 = nI (k + 1)) (fun x => x = pR p0 code n)) := by
        unfold f_X5_patternBy_j58 f_X5_patternBy_j64 f_X5_patternBy_j80 k_let
        by_cases hb : hasb (nI p) s = ev k
        · rw [if_pos (bI_inj.mpr hb), if_neg (by rw [show (8 : Int32) = nI 8 from rfl, nI_leI (by omega) (by omega)]; omega), pat_x0 ⟨p, hp⟩ ⟨s, h8⟩, nI_1]
          refine Ho_s ⟨⟨p ^^^ 2 ^ s, ?_, rfl⟩, rfl, rfl⟩
          rw [hnx]
          unfold pD
          rw [if_pos h8, if_pos hb]
        · rw [if_neg (fun z => hb (bI_inj.mp z))]
          refine Ho_s ?_
          refine (hno (A := ()) ?_).symm
          rw [hnx]
          unfold pD
          rw [if_pos h8, if_neg hb]
      have e1 : (if hasb (nI p) s = true then (1 : Int32) else 0) = bI (hasb (nI p) s) := rfl
      rw [e1]
      unfold ev at core
      by_cases hk2 : k % 2 = 0
      · rw [if_pos (by rw [hk2]; rfl)]
        rw [decide_eq_true hk2] at core
        exact core
      · rw [if_neg (k_ne0 (by omega) (by omega))]
        rw [decide_eq_false hk2] at core
        exact core
    · rw [if_pos (by rw [show (8 : Int32) = nI 8 from rfl, nI_leI (by omega) (by omega)]; omega)]
      unfold f_X5_patternBy_j64 f_X5_patternBy_j80 k_let
      rw [if_pos (by rw [show (8 : Int32) = nI 8 from rfl, nI_leI (by omega) (by omega)]; omega), nI_1]
      refine Ho_s ⟨⟨p, ?_, ?_⟩, rfl, rfl⟩
      · rw [hnx]
        unfold pD
        rw [if_neg h8]
      · show nI p ^^^ 0 = nI p
        exact Int32.xor_zero
  · intro x hx
    obtain ⟨u, v, w⟩ := x
    obtain ⟨⟨p, e0, e3⟩, e1, e2⟩ := hx
    dsimp only at e3 e1 e2
    subst e1 e2 e3
    dsimp only
    unfold f_X5_patternBy_L13_b
    rw [if_pos (by rw [nI_leI (by omega) (by omega)]; omega)]
    refine Ho_s ?_
    show nI p = pR p0 code n
    unfold pR
    rw [e0]
/-- what a row of turns comes to, T of n being fixed -/
def dv (V : Nat → Int32) (n p0 T c : Nat) : Int32 := match pB p0 c T with
  | none => -9
  | some p => Pl V (n - T) p (ev T)
/-- only the row of what comes is written -/
def M80 (J J' : StI) : Prop := ∀ b k, b ≠ 80 → J' b k = J b k
theorem nn_ne {x : Int32} (h : 0 ≤ x.toInt) : ¬ x = -9 := by
  intro z
  rw [z] at h
  exact absurd h (by decide)
theorem M_duelS {V : Nat → Int32} {J : StI} {n p0 T c : Nat} (hV : ∀ q, 0 ≤ (V q).toInt) (hp0 : p0 < 256) (hT : T < n) (hn : n ≤ 4) (hc : c < 9 ^ T) (hJ : ∀ s, s < 9 → J 80 (c + s * 9 ^ T) = dv V n p0 (T + 1) (c + s * 9 ^ T)) (hA : 9 ^ (T + 1) ≤ 6561) : Ho (f_X5_duel_L151 (nI (9 ^ T)) (nI T) (nI c) J k_fu (J 80 (c + 8 * 9 ^ T)) 0) (fun x => x = .inl (nI (c + 1), k_up J 80 c (dv V n p0 T c))) := by
  have hpow : 9 ^ (T + 1) = 9 * 9 ^ T := by rw [Nat.pow_succ, Nat.mul_comm]
  have h1 : 1 ≤ 9 ^ T := Nat.pow_pos (by decide)
  unfold f_X5_duel_L151
  -- the best so far
  have hvs : ∀ s, s < 9 → dv V n p0 (T + 1) (c + s * 9 ^ T) = match (pB p0 c T).bind (pD T s) with
      | none => -9
      | some p => Pl V (n - (T + 1)) p (!(ev T)) := by
    intro s hs
    unfold dv
    rw [pB_dig (by omega) hc hs, ev_s]
  cases hpb : pB p0 c T with
  | none =>
    have hall : ∀ s, s < 9 → J 80 (c + s * 9 ^ T) = -9 := by
      intro s hs
      rw [hJ s hs, hvs s hs, hpb]
      rfl
    have hdv : dv V n p0 T c = -9 := by unfold dv; rw [hpb]
    refine Ho_loop0 (fun s x => x.1 = -9 ∧ x.2 = nI s) 8 (by decide) ?_ ?_ _ ⟨hall 8 (by decide), rfl⟩
    · intro s x hs hx
      obtain ⟨u, w⟩ := x
      obtain ⟨e0, e1⟩ := hx
      dsimp only at e0 e1
      subst e0 e1
      dsimp only
      have hm : s * 9 ^ T ≤ 7 * 9 ^ T := Nat.mul_le_mul_right _ (by omega)
      unfold f_X5_duel_L151_b f_X5_duel_j207 k_let
      rw [if_neg (by rw [show (8 : Int32) = nI 8 from rfl, nI_leI (by omega) (by omega)]; omega), pk_mul, nI_add, gd_n (by omega) (by decide), cl_n (by omega), hall s (by omega), nI_1]
      dsimp only
      rw [if_pos rfl]
      exact Ho_s ⟨rfl, rfl⟩
    · intro x hx
      obtain ⟨u, w⟩ := x
      obtain ⟨e0, e1⟩ := hx
      dsimp only at e0 e1
      subst e0 e1
      dsimp only
      unfold f_X5_duel_L151_b k_let
      rw [if_pos (by decide), gd_n (by omega) (by decide), cl_n (by omega), nI_1]
      refine Ho_s ?_
      rw [hdv]
      rfl
  | some p =>
    have hp := pB_lt hp0 T p hpb
    have hdv : dv V n p0 T c = pf (ev T) p (fun q => Pl V (n - (T + 1)) q (!(ev T))) 8 := by
      unfold dv
      rw [hpb, show n - T = (n - (T + 1)) + 1 by omega]
      rfl
    have h8 : J 80 (c + 8 * 9 ^ T) = Pl V (n - (T + 1)) p (!(ev T)) := by
      rw [hJ 8 (by decide), hvs 8 (by decide), hpb]
      rfl
    refine Ho_loop0 (fun s x => x.1 = pf (ev T) p (fun q => Pl V (n - (T + 1)) q (!(ev T))) s ∧ x.2 = nI s) 8 (by decide) ?_ ?_ _ ⟨h8, rfl⟩
    · intro s x hs hx
      obtain ⟨u, w⟩ := x
      obtain ⟨e0, e1⟩ := hx
      dsimp only at e0 e1
      subst e1
      dsimp only
      have hm : s * 9 ^ T ≤ 7 * 9 ^ T := Nat.mul_le_mul_right _ (by omega)
      have hpf : pf (ev T) p (fun q => Pl V (n - (T + 1)) q (!(ev T))) (s + 1) = if hasb (nI p) s = ev T then (if ev T = true then (if Pl V (n - (T + 1)) (p ^^^ 2 ^ s) (!(ev T)) < pf (ev T) p (fun q => Pl V (n - (T + 1)) q (!(ev T))) s then Pl V (n - (T + 1)) (p ^^^ 2 ^ s) (!(ev T)) else pf (ev T) p (fun q => Pl V (n - (T + 1)) q (!(ev T))) s) else (if pf (ev T) p (fun q => Pl V (n - (T + 1)) q (!(ev T))) s < Pl V (n - (T + 1)) (p ^^^ 2 ^ s) (!(ev T)) then Pl V (n - (T + 1)) (p ^^^ 2 ^ s) (!(ev T)) else pf (ev T) p (fun q => Pl V (n - (T + 1)) q (!(ev T))) s)) else pf (ev T) p (fun q => Pl V (n - (T + 1)) q (!(ev T))) s := rfl
      rw [← e0] at hpf
      have hval := (hJ s (by omega)).trans (hvs s (by omega))
      rw [hpb] at hval
      change _ = (match pD T s p with | none => -9 | some p => Pl V (n - (T + 1)) p (!(ev T))) at hval
      unfold pD at hval
      rw [if_pos hs] at hval
      unfold f_X5_duel_L151_b f_X5_duel_j207 f_X5_duel_j202 k_let
      rw [if_neg (by rw [show (8 : Int32) = nI 8 from rfl, nI_leI (by omega) (by omega)]; omega), pk_mul, nI_add, gd_n (by omega) (by decide), cl_n (by omega), show (2 : Int32) = nI 2 from rfl, pk_rem (by omega) (by decide) (by decide), nI_1]
      dsimp only
      by_cases hb : hasb (nI p) s = ev T
      · rw [if_pos hb] at hval hpf
        change _ = Pl V (n - (T + 1)) (p ^^^ 2 ^ s) (!(ev T)) at hval
        rw [← hval] at hpf
        have hnn : 0 ≤ (J 80 (c + s * 9 ^ T)).toInt := by rw [hval]; exact Pl_nn hV _ _ _
        generalize J 80 (c + s * 9 ^ T) = y at *
        rw [if_neg (nn_ne hnn)]
        by_cases hk2 : T % 2 = 0
        · have hev : ev T = true := decide_eq_true hk2
          rw [if_pos hev] at hpf
          rw [if_pos (by rw [hk2]; rfl)]
          by_cases hlt : y < u
          · rw [if_neg (by rw [i_le]; rw [i_lt] at hlt; omega)]
            rw [if_pos hlt] at hpf
            exact Ho_s ⟨hpf.symm, rfl⟩
          · rw [if_pos (by rw [i_le]; rw [i_lt] at hlt; omega)]
            rw [if_neg hlt] at hpf
            exact Ho_s ⟨hpf.symm, rfl⟩
        · have hev : ¬ ev T = true := by unfold ev; rw [decide_eq_false hk2]; decide
          rw [if_neg hev] at hpf
          rw [if_neg (k_ne0 (by omega) (by omega))]
          by_cases hlt : u < y
          · rw [if_neg (by rw [i_le]; rw [i_lt] at hlt; omega)]
            rw [if_pos hlt] at hpf
            exact Ho_s ⟨hpf.symm, rfl⟩
          · rw [if_pos (by rw [i_le]; rw [i_lt] at hlt; omega)]
            rw [if_neg hlt] at hpf
            exact Ho_s ⟨hpf.symm, rfl⟩
      · rw [if_neg hb] at hval hpf
        change _ = (-9 : Int32) at hval
        rw [hval, if_pos rfl]
        exact Ho_s ⟨hpf.symm, rfl⟩
    · intro x hx
      obtain ⟨u, w⟩ := x
      obtain ⟨e0, e1⟩ := hx
      dsimp only at e0 e1
      subst e0 e1
      dsimp only
      unfold f_X5_duel_L151_b k_let
      rw [if_pos (by decide), gd_n (by omega) (by decide), cl_n (by omega), nI_1]
      refine Ho_s ?_
      rw [hdv]
      rfl
theorem M_duelT {V : Nat → Int32} {J0 : StI} {n p0 T : Nat} (hV : ∀ q, 0 ≤ (V q).toInt) (hp0 : p0 < 256) (hT : T < n) (hn : n ≤ 4) (hJ : ∀ c, c < 9 ^ (T + 1) → J0 80 c = dv V n p0 (T + 1) c) (hA : 9 ^ (T + 1) ≤ 6561) : Ho (f_X5_duel_L128 (nI (9 ^ T)) (nI T) k_fu 0 J0) (fun x => ∃ J, x = .inl (nI (9 ^ T), nI T + (-1), J) ∧ (∀ c, c < 9 ^ T → J 80 c = dv V n p0 T c) ∧ M80 J0 J) := by
  have hpow : 9 ^ (T + 1) = 9 * 9 ^ T := by rw [Nat.pow_succ, Nat.mul_comm]
  have h1 : 1 ≤ 9 ^ T := Nat.pow_pos (by decide)
  unfold f_X5_duel_L128
  refine Ho_loop0 (fun k x => x.1 = nI k ∧ (∀ c, c < k → x.2 80 c = dv V n p0 T c) ∧ (∀ c, k ≤ c → c < 9 ^ (T + 1) → x.2 80 c = dv V n p0 (T + 1) c) ∧ M80 J0 x.2) (9 ^ T) (by omega) ?_ ?_ _ ⟨rfl, fun c hc => absurd hc (by omega), fun c _ hc => hJ c hc, fun _ _ _ => rfl⟩
  · intro k x hk hx
    obtain ⟨w, J⟩ := x
    obtain ⟨e0, e1, e2, e3⟩ := hx
    dsimp only at e0 e1 e2 e3
    subst e0
    dsimp only
    unfold f_X5_duel_L128_b k_let
    rw [if_neg (by rw [nI_leI (by omega) (by omega)]; omega), show (8 : Int32) = nI 8 from rfl, pk_mul, nI_add, gd_n (by omega) (by decide), cl_n (by omega)]
    refine (M_duelS hV hp0 hT hn hk (fun s hs => e2 _ (by omega) ?_) hA).mono (fun x hx => ?_)
    · have hm : s * 9 ^ T ≤ 8 * 9 ^ T := Nat.mul_le_mul_right _ (by omega)
      omega
    · subst hx
      refine ⟨rfl, fun c hc => ?_, fun c hc1 hc2 => ?_, fun b k' hb => ?_⟩
      · show k_up J 80 k (dv V n p0 T k) 80 c = dv V n p0 T c
        by_cases he : c = k
        · subst he
          rw [k_up_same]
        · rw [k_up_oth (by omega)]
          exact e1 c (by omega)
      · show k_up J 80 k (dv V n p0 T k) 80 c = dv V n p0 (T + 1) c
        rw [k_up_oth (by omega)]
        exact e2 c (by omega) hc2
      · show k_up J 80 k (dv V n p0 T k) b k' = J0 b k'
        rw [k_up_oth (fun z => hb z.1)]
        exact e3 b k' hb
  · intro x hx
    obtain ⟨w, J⟩ := x
    obtain ⟨e0, e1, e2, e3⟩ := hx
    dsimp only at e0 e1 e2 e3
    subst e0
    dsimp only
    unfold f_X5_duel_L128_b k_let
    rw [if_pos (by rw [nI_leI (by omega) (by omega)]; omega)]
    exact Ho_s ⟨J, rfl, e1, e3⟩
theorem p9 {T : Nat} (h : T ≤ 4) : 9 ^ T ≤ 6561 := Nat.pow_le_pow_right (n := 9) (by decide) h
theorem M_duelU {V : Nat → Int32} {J0 : StI} {n p0 : Nat} (hV : ∀ q, 0 ≤ (V q).toInt) (hp0 : p0 < 256) (hn : n ≤ 4) (hJ : ∀ c, c < 9 ^ n → J0 80 c = dv V n p0 n c) : Ho (f_X5_duel_L116 k_fu (nI (9 ^ n)) (nI n - 1) J0) (fun t => t.1 = Pl V n p0 true ∧ M80 J0 t.2) := by
  unfold f_X5_duel_L116
  refine Ho_loop0 (fun k x => x.1 = nI (9 ^ (n - k)) ∧ x.2.1.toInt = ((n - k : Nat) : Int) - 1 ∧ (∀ c, c < 9 ^ (n - k) → x.2.2 80 c = dv V n p0 (n - k) c) ∧ M80 J0 x.2.2) n (by omega) ?_ ?_ _ ⟨rfl, ?_, hJ, fun _ _ _ => rfl⟩
  · intro k x hk hx
    obtain ⟨A, v, J⟩ := x
    obtain ⟨e0, e1, e2, e3⟩ := hx
    dsimp only at e0 e1 e2 e3
    obtain ⟨T, hT⟩ : ∃ T, n - k = T + 1 := ⟨n - k - 1, by omega⟩
    have hT2 : n - (k + 1) = T := by omega
    rw [hT] at e0 e1 e2
    have hv : v = nI T := by rw [i_eq, i_n (by omega)]; omega
    subst e0 hv
    dsimp only
    have h6 := p9 (T := T + 1) (by omega)
    have hpow : 9 ^ (T + 1) = 9 ^ T * 9 := Nat.pow_succ _ _
    unfold f_X5_duel_L116_b k_let
    rw [if_neg (nI_pos (by omega)), show (9 : Int32) = nI 9 from rfl, pk_div (by omega) (by decide) (by decide), hpow, Nat.mul_div_cancel _ (by decide)]
    refine (M_duelT hV hp0 (by omega) hn e2 h6).mono (fun x hx => ?_)
    obtain ⟨J1, rfl, x1, x2⟩ := hx
    refine ⟨?_, ?_, ?_, fun b k' hb => (x2 b k' hb).trans (e3 b k' hb)⟩
    · show nI (9 ^ T) = nI (9 ^ (n - (k + 1)))
      rw [hT2]
    · show (nI T + (-1)).toInt = ((n - (k + 1) : Nat) : Int) - 1
      rw [hT2, i_add (by rw [i_n (by omega), k_m1]; omega) (by rw [i_n (by omega), k_m1]; omega), i_n (by omega), k_m1]
      omega
    · show ∀ c, c < 9 ^ (n - (k + 1)) → J1 80 c = dv V n p0 (n - (k + 1)) c
      rw [hT2]
      exact x1
  · intro x hx
    obtain ⟨A, v, J⟩ := x
    obtain ⟨e0, e1, e2, e3⟩ := hx
    dsimp only at e0 e1 e2 e3
    rw [Nat.sub_self] at e0 e1 e2
    dsimp only
    unfold f_X5_duel_L116_b
    rw [if_pos (by rw [i_lt, e1]; simp only [Int32.reduceToInt]; omega), show (0 : Int32) = nI 0 from rfl, gd_n (by decide) (by decide), cl_n (by decide)]
    refine Ho_s ⟨?_, e3⟩
    show J 80 0 = Pl V n p0 true
    rw [e2 0 (by decide)]
    rfl
  · show (nI n - 1).toInt = ((n - 0 : Nat) : Int) - 1
    have := i_n (n := n) (by omega)
    rw [i_sub (by rw [this]; simp only [Int32.reduceToInt]; omega) (by rw [this]; simp only [Int32.reduceToInt]; omega), this]
    simp only [Int32.reduceToInt]
    omega
theorem dV_nn {n : Nat} {a : AH} (hn : n ≤ 7) (q : Nat) : 0 ≤ (dV n a q).toInt := (sm_rng hn 8 (by decide)).1
theorem M_duelV {J0 J1 : StI} {m n p0 : Nat} {a : AH} (hg : AV m 40 a) (hm : HM J0 70 0 a) (h4 : J0 63 4 = nI m) (h3 : a 3 = nI p0) (hp0 : p0 < 256) (hk : KM J1 72 a m) (hF : MF J0 J1) (h14 : J1 63 14 = J0 63 14) (hn : n ≤ 4) : Ho (f_X5_duel_L50 (nI n) (nI (9 ^ n)) k_fu 0 J1) (fun t => t.1 = Pl (dV m a) n p0 true ∧ t.2 63 14 = J0 63 14 ∧ MF J0 t.2) := by
  have hn7 := hg.1
  have h6 := p9 hn
  unfold f_X5_duel_L50
  refine Ho_loop0 (fun k x => x.1 = nI k ∧ (∀ c, c < k → x.2 80 c = dv (dV m a) n p0 n c) ∧ MF J0 x.2 ∧ KM x.2 72 a m ∧ x.2 63 14 = J0 63 14) (9 ^ n) (by omega) ?_ ?_ _ ⟨rfl, fun c hc => absurd hc (by omega), hF, hk, h14⟩
  · intro k x hk hx
    obtain ⟨w, J⟩ := x
    obtain ⟨e0, e1, e2, e3, e9⟩ := hx
    dsimp only at e0 e1 e2 e3 e9
    subst e0
    dsimp only
    unfold f_X5_duel_L50_b
    have h70 : J 70 3 = nI p0 := by
      rw [e2 70 3 (by unfold sMs; omega) (by omega), ← h3]
      have := hm 3 (by decide)
      rwa [Nat.zero_add] at this
    have hself : dv (dV m a) n p0 n k = match pB p0 k n with
      | none => -9
      | some p => dV m a p := by
      unfold dv
      rw [Nat.sub_self]
      rfl
    rw [if_neg (by rw [nI_leI (by omega) (by omega)]; omega), M_patternBy hp0 (by omega) hn h70]
    refine Ho_b1 ?_
    unfold pR
    cases hpb : pB p0 k n with
    | none =>
      dsimp only
      rw [if_pos rfl, gd_n (by omega) (by decide), cl_n (by omega)]
      unfold k_let
      rw [nI_1]
      refine Ho_s ⟨rfl, fun c hc => ?_, e2.up (Or.inl (by unfold sMs; omega)), fun i hi => ?_, ?_⟩
      · show k_up J 80 k (-9) 80 c = dv (dV m a) n p0 n c
        by_cases he : c = k
        · subst he
          rw [k_up_same, hself, hpb]
        · rw [k_up_oth (by omega)]
          exact e1 c (by omega)
      · show k_up J 80 k (-9) 72 i = _
        rw [k_up_oth (by omega)]
        exact e3 i hi
      · show k_up J 80 k (-9) 63 14 = _
        rw [k_up_oth (by omega)]
        exact e9
    | some p =>
      have hp := pB_lt hp0 n p hpb
      dsimp only
      rw [if_neg (nn_ne (by rw [i_n (by omega)]; omega))]
      refine Ho_bm (M_lay (n := m) (I := J0) (J := J) (a := a) hm e2) (fun J2 hp2 => ?_)
      rw [g_3, n_3]
      refine Ho_let_i.mpr ?_
      refine Ho_bm (M_goesOn (u := 0) (m := 40) (N := 8) (AV_lo (v := nI p) hg (Or.inl rfl)) (by omega) (HM_upd (v := nI p) hp2.1) (fun i hi => ?_) ?_) (fun t ht => ?_)
      · rw [k_up_oth (by omega), hp2.2.1 72 i (by decide), upd_o (by omega)]
        exact e3 i hi
      · rw [k_up_oth (by omega), hp2.2.2 63 4 (by unfold sMs; omega) (by omega)]
        exact h4
      · obtain ⟨tv, tJ⟩ := t
        obtain ⟨t1, t2, t3⟩ := ht
        dsimp only at t1 t2 t3 ⊢
        have t1' : tv = dV m a p := t1
        subst t1'
        rw [gd_n (by omega) (by decide), cl_n (by omega)]
        unfold k_let
        rw [nI_1]
        have hMF : MF J0 tJ := (hp2.2.2.up (Or.inl (Or.inl rfl))).goes t3
        refine Ho_s ⟨rfl, fun c hc => ?_, hMF.up (Or.inl (by unfold sMs; omega)), fun i hi => ?_, ?_⟩
        · show k_up tJ 80 k (dV m a p) 80 c = dv (dV m a) n p0 n c
          by_cases he : c = k
          · subst he
            rw [k_up_same, hself, hpb]
          · rw [k_up_oth (by omega), t3 80 c (by unfold sA; omega), k_up_oth (by omega), hp2.2.1 80 c (by decide)]
            exact e1 c (by omega)
        · show k_up tJ 80 k (dV m a p) 72 i = _
          rw [k_up_oth (by omega), t3 72 i (by unfold sA; omega), k_up_oth (by omega), hp2.2.1 72 i (by decide)]
          exact e3 i hi
        · show k_up tJ 80 k (dV m a p) 63 14 = _
          rw [k_up_oth (by omega), t3 63 14 (by unfold sA; omega), k_up_oth (by omega), hp2.2.1 63 14 (by decide)]
          exact e9
  · intro x hx
    obtain ⟨w, J⟩ := x
    obtain ⟨e0, e1, e2, e3, e9⟩ := hx
    dsimp only at e0 e1 e2 e3 e9
    subst e0
    dsimp only
    unfold f_X5_duel_L50_b k_let
    rw [if_pos (by rw [nI_leI (by omega) (by omega)]; omega), Ho_map_i]
    refine (M_duelU (fun q => dV_nn hn7 q) hp0 hn e1).mono (fun u hu => ?_)
    refine ⟨hu.1, ?_, fun b k h3' h4' => ?_⟩
    · rw [hu.2 63 14 (by decide)]
      exact e9
    · rw [hu.2 b k (by unfold sMs at h3'; omega)]
      exact e2 b k h3' h4'
theorem M_duel {J0 : StI} {m n p0 : Nat} {a : AH} (hg : AV m 40 a) (hm : HM J0 70 0 a) (h4 : J0 63 4 = nI m) (hk : KM J0 68 a m) (h0 : 0 < m) (h3 : a 3 = nI p0) (hp0 : p0 < 256) (hn : n ≤ 4) : Ho (f_X5_duel (nI n) J0) (fun t => t.1 = Pl (dV m a) n p0 true ∧ t.2 63 14 = J0 63 14 ∧ MF J0 t.2) := by
  have hn7 := hg.1
  have min : f_X5_in (nI n).toInt64 (0 : Int64) (4 : Int64) = some 1 := by
    rw [show (0 : Int64) = (0 : Int32).toInt64 from rfl, show (4 : Int64) = (4 : Int32).toInt64 from rfl, in_i, if_pos]
    rw [i_n (by omega)]
    simp only [Int32.reduceToInt]
    omega
  unfold f_X5_duel
  rw [min]
  refine Ho_b1 (Ho_n0 ?_)
  rw [if_neg (by rw [h4]; exact k_ne0 (by omega) (by omega))]
  refine Ho_bm (M_kin (I := J0) hn7 hk) (fun J1 hp1 => ?_)
  unfold f_X5_duel_L32
  refine Ho_loop0 (fun k x => x.1 = nI (9 ^ k) ∧ x.2 = nI k) n (by omega) ?_ ?_ _ ⟨rfl, rfl⟩
  · intro k x hk hx
    obtain ⟨A, w⟩ := x
    obtain ⟨e0, e1⟩ := hx
    dsimp only at e0 e1
    subst e0 e1
    dsimp only
    unfold f_X5_duel_L32_b k_let
    rw [if_neg (by rw [nI_leI (by omega) (by omega)]; omega), show (9 : Int32) = nI 9 from rfl, pk_mul, nI_1, ← Nat.pow_succ]
    exact Ho_s ⟨rfl, rfl⟩
  · intro x hx
    obtain ⟨A, w⟩ := x
    obtain ⟨e0, e1⟩ := hx
    dsimp only at e0 e1
    subst e0 e1
    dsimp only
    unfold f_X5_duel_L32_b
    rw [if_pos (by rw [nI_leI (by omega) (by omega)]; omega), Ho_map_i]
    exact M_duelV hg hm h4 h3 hp0 hp1.1 hp1.2.1 (hp1.2.2 63 14 (by decide)) hn
theorem L_duel {I : StI} {L : StL} (h : Rel I L) (v1 : Int32) : Sm (f_X4_duel v1 I) (f_X5_duel v1) L := by
  obtain ⟨n, fa, ds, hx⟩ := h.2.2.2
  obtain ⟨hg, hc, h7, hm, h4, hk, hrm, -⟩ := hx.vw
  have hn := hg.1.1
  have min : f_X5_in v1.toInt64 (0 : Int64) (4 : Int64) = some (if 0 ≤ v1.toInt ∧ v1.toInt ≤ 4 then 1 else 0) := by
    rw [show (0 : Int64) = (0 : Int32).toInt64 from rfl, show (4 : Int64) = (4 : Int32).toInt64 from rfl, in_i]
    rfl
  by_cases h2 : 0 ≤ v1.toInt ∧ v1.toInt ≤ 4
  · by_cases h0 : n = 0
    · subst h0
      refine Sm_same h (-4) ?_ ?_
      · unfold f_X4_duel
        rw [if_neg (by rw [i_lt]; simp only [Int32.reduceToInt]; omega), if_pos (by rw [i_le]; simp only [Int32.reduceToInt]; omega), if_pos (by rw [hc.1]; rfl)]
      · unfold f_X5_duel
        rw [min, if_pos h2, Option.bind_some, if_neg (by decide), if_pos (by rw [h4]; rfl)]
    · obtain ⟨N, hN, rfl⟩ := i_in (n := 5) h2.1 (by omega)
      obtain ⟨p, hp, h3⟩ := hg.2.1
      refine Sm_aside h _ (I 0 9) (C_duel hg.1 hc h7 (by omega) (by omega) hp h3) (fun J hJ => (M_duel hg.1 (fun j hj => by rw [hJ 70 _ (by decide)]; exact hm j hj) (by rw [hJ 63 4 (by decide)]; exact h4) (fun i hi => by rw [hJ 68 i (by decide)]; exact hk i hi) (by omega) h3 hp (by omega)).mono (fun u hu => ⟨hu.1, ?_, hu.2.2⟩))
      rw [hu.2.1, hJ 63 14 (by decide), h.2.2.1.1]
  · refine Sm_same h (-1) ?_ ?_
    · unfold f_X4_duel
      by_cases q : v1 < 0
      · rw [if_pos q]
      · rw [if_neg q, if_neg (by rw [i_lt] at q; rw [i_le]; simp only [Int32.reduceToInt] at q ⊢; omega)]
    · unfold f_X5_duel
      rw [min, if_neg h2, Option.bind_some, if_pos rfl]
