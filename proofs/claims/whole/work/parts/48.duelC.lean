/-! duel: the class's side -/
/-- the best of one's turns: b takes out and wants few, else puts in and wants many -/
def pf (b : Bool) (p : Nat) (g : Nat → Int32) : Nat → Int32
  | 0 => g p
  | s + 1 => if hasb (nI p) s = b then (if b = true then (if g (p ^^^ 2 ^ s) < pf b p g s then g (p ^^^ 2 ^ s) else pf b p g s) else (if pf b p g s < g (p ^^^ 2 ^ s) then g (p ^^^ 2 ^ s) else pf b p g s)) else pf b p g s
def Pl (V : Nat → Int32) : Nat → Nat → Bool → Int32
  | 0, p, _ => V p
  | t + 1, p, b => pf b p (fun q => Pl V t q (!b)) 8
def dV (n : Nat) (a : AH) (p : Nat) : Int32 := sm n 0 8 (upd a 3 (nI p))
/-- what has been tried is kept -/
def mmo (V : Nat → Int32) (J : StI) : Prop := ∀ p, p < 256 → J 49 p = -1 ∨ J 49 p = V p
def dPost (n : Nat) (a : AH) (I : StI) (t p : Nat) (b : Bool) (x : Int32 × StI) : Prop := x.1 = Pl (dV n a) t p b ∧ CF I x.2 ∧ x.2 0 9 = I 0 9 ∧ mmo (dV n a) x.2
theorem xor256 {p s : Nat} (hp : p < 256) (hs : s < 8) : p ^^^ 2 ^ s < 256 := Nat.xor_lt_two_pow (n := 8) hp (Nat.pow_lt_pow_right (by decide) hs)
theorem C_duelEnd {I J : StI} {n p : Nat} {a : AH} {b : Bool} (hg : AV n 40 a) (hc : HC I 24 a n) (h7 : I 24 7 = 0) (hp : p < 256) (hJ : CF I J) (h9 : J 0 9 = I 0 9) (hmm : mmo (dV n a) J) : Ho (f_X4_duelEnd (nI p) J) (dPost n a I 0 p b) := by
  have hn := hg.1
  have n2 : ∀ {T : Type} {o : Option T}, k_gd (nI p) 256 o = o := gd_n hp (by decide)
  have c2 : (nI p).toNatClampNeg = p := cl_n (by omega)
  unfold f_X4_duelEnd f_X4_duelEnd_j44
  simp only [n2, c2]
  by_cases hm : J 49 p = -1
  · rw [if_pos hm]
    refine Ho_bm (C_lay hn hc h7 hJ) (fun J1 hp1 => ?_)
    refine Ho_let_i.mpr ?_
    refine Ho_bm (C_answeredIn (m := 40) (N := 8) (AV_lo (v := nI p) hg (Or.inl rfl)) (by omega) (HC_pat hp1.1)) (fun t ht => ?_)
    have e7 : k_up J1 33 3 (nI p) 33 7 = 0 := by rw [k_up_oth (by omega)]; exact hp1.2.1
    rw [e7] at ht
    obtain ⟨tv, tJ⟩ := t
    obtain ⟨t1, t2, t3, t4⟩ := ht
    dsimp only at t1 t2 t3 t4 ⊢
    subst t1
    unfold k_let
    have hcf : CF I (k_up J1 33 3 (nI p)) := (CF.trans33 hJ hp1.2.2).up33 (Or.inl (by unfold sCs; omega))
    refine Ho_s ⟨?_, (CF.trans33 hcf t4).up33 (Or.inl (by unfold sCs; omega)), ?_, fun x hx => ?_⟩
    · show k_up tJ 49 p (dV n a p) 49 p = dV n a p
      rw [k_up_same]
    · show k_up tJ 49 p (dV n a p) 0 9 = I 0 9
      rw [k_up_oth (by omega), t4 0 9 (by unfold sC; omega), k_up_oth (by omega), hp1.2.2 0 9 (by unfold sC; omega)]
      exact h9
    · show k_up tJ 49 p (dV n a p) 49 x = -1 ∨ k_up tJ 49 p (dV n a p) 49 x = dV n a x
      by_cases he : x = p
      · subst he
        right
        rw [k_up_same]
      · rw [k_up_oth (by omega), t4 49 x (by unfold sC; omega), k_up_oth (by omega), hp1.2.2 49 x (by unfold sC; omega)]
        exact hmm x hx
  · rw [if_neg hm]
    refine Ho_s ⟨?_, hJ, h9, hmm⟩
    rcases hmm p hp with h | h
    · exact absurd h hm
    · exact h
def bI (b : Bool) : Int32 := if b = true then 1 else 0
theorem hasb_bI {p s : Nat} : (if ((nI p >>> (nI s &&& 31)) &&& (1 : Int32)) = 1 then (1 : Int32) else 0) = bI (hasb (nI p) s) := by
  unfold bI hasb
  by_cases h : ((nI p >>> (nI s &&& 31)) &&& (1 : Int32)) = 1
  · simp [h]
  · simp [h]
theorem bI_inj {b c : Bool} : bI b = bI c ↔ b = c := by
  cases b <;> cases c <;> decide
theorem C_playL {I : StI} {n p t : Nat} {a : AH} {b : Bool} (rf : Int32 → Int32 → Int32 → StI → Option (Int32 × StI)) (ht : t ≤ 3) (hp : p < 256) (hrf : ∀ (q : Nat) (J : StI), q < 256 → CF I J → J 0 9 = I 0 9 → mmo (dV n a) J → Ho (rf (nI q) (nI t) (bI (!b)) J) (dPost n a I t q (!b))) {J0 : StI} (hJ : CF I J0) (h9 : J0 0 9 = I 0 9) (hmm : mmo (dV n a) J0) : Ho (f_X4_playFrom_L34 rf (nI p) (nI (t + 1)) (bI b) k_fu (Pl (dV n a) t p (!b)) 0 J0) (dPost n a I (t + 1) p b) := by
  unfold f_X4_playFrom_L34
  refine Ho_loop0 (fun s x => x.1 = pf b p (fun q => Pl (dV n a) t q (!b)) s ∧ x.2.1 = nI s ∧ CF I x.2.2 ∧ x.2.2 0 9 = I 0 9 ∧ mmo (dV n a) x.2.2) 8 (by decide) ?_ ?_ _ ⟨rfl, rfl, hJ, h9, hmm⟩
  · intro s x hs hx
    obtain ⟨r, v, J⟩ := x
    obtain ⟨e0, e1, e3, e9, em⟩ := hx
    dsimp only at e0 e1 e3 e9 em
    subst e1
    dsimp only
    have hpf : pf b p (fun q => Pl (dV n a) t q (!b)) (s + 1) = if hasb (nI p) s = b then (if b = true then (if Pl (dV n a) t (p ^^^ 2 ^ s) (!b) < pf b p (fun q => Pl (dV n a) t q (!b)) s then Pl (dV n a) t (p ^^^ 2 ^ s) (!b) else pf b p (fun q => Pl (dV n a) t q (!b)) s) else (if pf b p (fun q => Pl (dV n a) t q (!b)) s < Pl (dV n a) t (p ^^^ 2 ^ s) (!b) then Pl (dV n a) t (p ^^^ 2 ^ s) (!b) else pf b p (fun q => Pl (dV n a) t q (!b)) s)) else pf b p (fun q => Pl (dV n a) t q (!b)) s := rfl
    rw [← e0] at hpf
    have core : Ho (f_X4_playFrom_j60 rf (nI p) (nI (t + 1)) (bI b) r (nI s) (bI (hasb (nI p) s)) J) (Sum.elim (fun x => x.1 = pf b p (fun q => Pl (dV n a) t q (!b)) (s + 1) ∧ x.2.1 = nI (s + 1) ∧ CF I x.2.2 ∧ x.2.2 0 9 = I 0 9 ∧ mmo (dV n a) x.2.2) (dPost n a I (t + 1) p b)) := by
      unfold f_X4_playFrom_j60
      by_cases hb : hasb (nI p) s = b
      · rw [if_pos (bI_inj.mpr hb), nI_pred, pat_x0 ⟨p, hp⟩ ⟨s, hs⟩]
        dsimp only
        have hq := hrf (p ^^^ 2 ^ s) J (xor256 hp hs) e3 e9 em
        have fin : ∀ c : Int32, c = bI (!b) → Ho (f_X4_playFrom_j87 rf (nI p) (nI (t + 1)) (bI b) r (nI s) (nI (p ^^^ 2 ^ s)) (nI t) c J) (Sum.elim (fun x => x.1 = pf b p (fun q => Pl (dV n a) t q (!b)) (s + 1) ∧ x.2.1 = nI (s + 1) ∧ CF I x.2.2 ∧ x.2.2 0 9 = I 0 9 ∧ mmo (dV n a) x.2.2) (dPost n a I (t + 1) p b)) := by
          rintro c rfl
          unfold f_X4_playFrom_j87
          refine Ho_bm hq (fun u hu => ?_)
          obtain ⟨uv, uJ⟩ := u
          obtain ⟨u1, u2, u3, u4⟩ := hu
          dsimp only at u1 u2 u3 u4 ⊢
          rw [hpf, if_pos hb, ← u1]
          unfold f_J9_max_7cf53 f_J9_min_7cf53 k_let
          rw [nI_1]
          cases b with
          | true =>
            rw [if_neg (show ¬ bI true = 0 by decide), if_pos (show true = true from rfl)]
            by_cases hlt : uv < r
            · rw [if_pos hlt, if_pos hlt]
              exact Ho_b1 (Ho_s ⟨rfl, rfl, u2, u3, u4⟩)
            · rw [if_neg hlt, if_neg hlt]
              exact Ho_b1 (Ho_s ⟨rfl, rfl, u2, u3, u4⟩)
          | false =>
            rw [if_pos (show bI false = 0 by decide), if_neg (show ¬ (false = true) by decide)]
            by_cases hlt : r < uv
            · rw [if_pos hlt, if_pos hlt]
              exact Ho_b1 (Ho_s ⟨rfl, rfl, u2, u3, u4⟩)
            · rw [if_neg hlt, if_neg hlt]
              exact Ho_b1 (Ho_s ⟨rfl, rfl, u2, u3, u4⟩)
        by_cases h0 : bI b = 0
        · rw [if_pos h0]
          refine fin 1 ?_
          cases b
          · rfl
          · exact absurd h0 (by decide)
        · rw [if_neg h0]
          refine fin 0 ?_
          cases b
          · exact absurd rfl h0
          · rfl
      · rw [if_neg (fun z => hb (bI_inj.mp z))]
        unfold k_let
        rw [nI_1]
        refine Ho_s ⟨?_, rfl, e3, e9, em⟩
        rw [hpf, if_neg hb]
    unfold f_X4_playFrom_L34_b
    rw [if_neg (by rw [show (8 : Int32) = nI 8 from rfl, nI_leI (by omega) (by omega)]; omega), if_neg (nI_nle (by omega) (by omega))]
    rw [← hasb_bI] at core
    by_cases h1 : ((nI p >>> (nI s &&& 31)) &&& (1 : Int32)) = 1
    · rw [if_pos h1] at core ⊢
      exact core
    · rw [if_neg h1] at core ⊢
      exact core
  · intro x hx
    obtain ⟨r, v, J⟩ := x
    obtain ⟨e0, e1, e3, e9, em⟩ := hx
    dsimp only at e0 e1 e3 e9 em
    subst e0 e1
    dsimp only
    unfold f_X4_playFrom_L34_b
    rw [if_pos (by decide)]
    exact Ho_s ⟨rfl, e3, e9, em⟩
theorem C_playE {I : StI} {n p : Nat} {a : AH} {b : Bool} (rf : Int32 → Int32 → Int32 → StI → Option (Int32 × StI)) {r : Int32} {J0 : StI} (hp : dPost n a I 0 p b (r, J0)) : Ho (f_X4_playFrom_L34 rf (nI p) (nI 0) (bI b) k_fu r 0 J0) (dPost n a I 0 p b) := by
  unfold f_X4_playFrom_L34
  refine Ho_loop0 (fun _ x => x = (r, 0, J0)) 0 (by decide) (fun i s hi => absurd hi (by omega)) ?_ _ rfl
  rintro x rfl
  dsimp only
  unfold f_X4_playFrom_L34_b
  rw [if_neg (by decide), if_pos (by decide)]
  exact Ho_s hp
theorem C_play {I : StI} {n : Nat} {a : AH} (hg : AV n 40 a) (hc : HC I 24 a n) (h7 : I 24 7 = 0) : ∀ (t fu p : Nat) (b : Bool) (J : StI), t ≤ 4 → t < fu → p < 256 → CF I J → J 0 9 = I 0 9 → mmo (dV n a) J → Ho (f_X4_playFrom fu (nI p) (nI t) (bI b) J) (dPost n a I t p b)
  | 0, fu, p, b, J, _, hf, hp, hJ, h9, hm => by
    obtain ⟨f, rfl⟩ : ∃ f, fu = f + 1 := ⟨fu - 1, by omega⟩
    show Ho (f_X4_playFrom_r (f_X4_playFrom f) (nI p) (nI 0) (bI b) J) _
    unfold f_X4_playFrom_r
    rw [if_neg (by decide)]
    refine Ho_bm (C_duelEnd (b := b) hg hc h7 hp hJ h9 hm) (fun u hu => ?_)
    obtain ⟨uv, uJ⟩ := u
    exact C_playE _ hu
  | t + 1, fu, p, b, J, ht, hf, hp, hJ, h9, hm => by
    obtain ⟨f, rfl⟩ : ∃ f, fu = f + 1 := ⟨fu - 1, by omega⟩
    show Ho (f_X4_playFrom_r (f_X4_playFrom f) (nI p) (nI (t + 1)) (bI b) J) _
    unfold f_X4_playFrom_r f_X4_playFrom_j26
    have hrf : ∀ (q : Nat) (J : StI), q < 256 → CF I J → J 0 9 = I 0 9 → mmo (dV n a) J → Ho (f_X4_playFrom f (nI q) (nI t) (bI (!b)) J) (dPost n a I t q (!b)) := fun q J hq h1 h2 h3 => C_play hg hc h7 t f q (!b) J (by omega) (by omega) hq h1 h2 h3
    rw [if_pos (by rw [show (0 : Int32) = nI 0 from rfl, nI_ltI (by omega) (by omega)]; omega), nI_pred]
    have fin : Ho (Option.bind (f_X4_playFrom f (nI p) (nI t) (bI (!b)) J) (fun t3 => f_X4_playFrom_L34 (f_X4_playFrom f) (nI p) (nI (t + 1)) (bI b) k_fu t3.1 (0 : Int32) t3.2)) (dPost n a I (t + 1) p b) := by
      refine Ho_bm (hrf p J hp hJ h9 hm) (fun u hu => ?_)
      obtain ⟨uv, uJ⟩ := u
      obtain ⟨u1, u2, u3, u4⟩ := hu
      dsimp only at u1 u2 u3 u4 ⊢
      subst u1
      exact C_playL _ (by omega) hp hrf u2 u3 u4
    cases b with
    | true =>
      rw [if_neg (show ¬ bI true = 0 by decide)]
      exact fin
    | false =>
      rw [if_pos (show bI false = 0 by decide)]
      exact fin
theorem C_duel {I : StI} {n t p : Nat} {a : AH} (hg : AV n 40 a) (hc : HC I 24 a n) (h7 : I 24 7 = 0) (h0 : 0 < n) (ht : t ≤ 4) (hp : p < 256) (h3 : a 3 = nI p) : Ho (f_X4_duel (nI t) I) (fun x => x.1 = Pl (dV n a) t p true ∧ x.2 0 9 = I 0 9 ∧ CF I x.2) := by
  have hn := hg.1
  unfold f_X4_duel
  rw [if_neg (by rw [i_lt, i_n (by omega)]; simp only [Int32.reduceToInt]; omega), if_pos (by rw [show (4 : Int32) = nI 4 from rfl, nI_leI (by omega) (by omega)]; omega), if_neg (by rw [hc.1]; exact k_ne0 (by omega) (by omega))]
  refine Ho_bm (J_fill (a := 49) (N := 256) rfl (by decide)) (fun J1 hp1 => ?_)
  have hcf : CF I J1 := fun b k hb hb2 => hp1.2 b k (by unfold sCs at hb; omega)
  rw [hcf 24 3 (by unfold sCs; omega) (by omega), hc.2.2.1, h3]
  refine Ho_bm (C_play hg hc h7 t 7 p true J1 ht (by omega) hp hcf (hp1.2 0 9 (by omega)) (fun x hx => Or.inl (hp1.1 x hx))) (fun u hu => ?_)
  obtain ⟨uv, uJ⟩ := u
  exact Ho_s ⟨hu.1, hu.2.2.1, hu.2.1⟩
