/-! pure part: the calculus of Ho -/
theorem Ho_some_i {T : Type} {t : T} {K : T → Prop} : Ho (some t) K ↔ K t := ⟨Ho_some, fun h => ⟨t, rfl, h⟩⟩
theorem Ho_let_i {α T : Type} {a : α} {f : α → Option T} {K : T → Prop} : Ho (k_let a f) K ↔ Ho (f a) K := Iff.rfl
theorem Ho_ite_i {T : Type} {c : Prop} [Decidable c] {A B : Option T} {K : T → Prop} : Ho (if c then A else B) K ↔ ((c → Ho A K) ∧ (¬ c → Ho B K)) := by
  by_cases hc : c
  · simp [hc]
  · simp [hc]
theorem Ho_bind_i {α T : Type} {o : Option α} {f : α → Option T} {K : T → Prop} : Ho (o.bind f) K ↔ Ho o (fun a => Ho (f a) K) := by
  constructor
  · intro h
    obtain ⟨x, e, hx⟩ := Ho_bind h
    exact ⟨x, e, hx⟩
  · intro ⟨x, e, t, e2, hk⟩
    exact ⟨t, by rw [e]; exact e2, hk⟩
theorem Ho_map_i {α T : Type} {o : Option α} {f : α → T} {K : T → Prop} : Ho (o.map f) K ↔ Ho o (fun a => K (f a)) := by
  constructor
  · exact Ho_map
  · intro ⟨x, e, hk⟩
    exact ⟨f x, by rw [e]; rfl, hk⟩
theorem Ho_gd_i {T : Type} {i : Int32} {n : Nat} {A : Option T} {K : T → Prop} : Ho (k_gd i n A) K ↔ ((0 ≤ i.toInt ∧ i.toInt < n) ∧ Ho A K) := by
  unfold k_gd
  by_cases hc : 0 ≤ i.toInt ∧ i.toInt < n
  · rw [if_pos hc]
    exact ⟨fun h => ⟨hc, h⟩, fun h => h.2⟩
  · rw [if_neg hc]
    exact ⟨fun h => (Ho_none h).elim, fun h => absurd h.1 hc⟩
theorem Ho.mono {T : Type} {o : Option T} {K K' : T → Prop} (h : Ho o K) (hk : ∀ t, K t → K' t) : Ho o K' := by
  obtain ⟨t, e, h1⟩ := h
  exact ⟨t, e, hk t h1⟩
theorem Ho_eq {T : Type} {o : Option T} {t : T} {K : T → Prop} (e : o = some t) : Ho o K ↔ K t := by
  rw [e]
  exact Ho_some_i
theorem Ho_of {T : Type} {o : Option T} {t : T} (e : o = some t) : Ho o (fun x => x = t) := ⟨t, e, rfl⟩
theorem Ho_at {T : Type} {o : Option T} {t : T} (h : Ho o (fun x => x = t)) : o = some t := by
  obtain ⟨x, e, rfl⟩ := h
  exact e
theorem Ho_loop {σ T : Type} {f : σ → Option (σ ⊕ T)} (Inv : Nat → σ → Prop) (N : Nat) {K : T → Prop} (hs : ∀ i s, i < N → Inv i s → Ho (f s) (Sum.elim (Inv (i + 1)) K)) (he : ∀ s, Inv N s → Ho (f s) (Sum.elim (fun _ => False) K)) : ∀ (n i : Nat) (s : σ), i ≤ N → N - i < n → Inv i s → Ho (k_loop f n s) K
  | 0, _, _, _, h, _ => absurd h (Nat.not_lt_zero _)
  | n + 1, i, s, hi, hn, hI => by
    show Ho ((f s).bind _) K
    rw [Ho_bind_i]
    rcases Nat.lt_or_ge i N with h | h
    · obtain ⟨t, e, hk⟩ := hs i s h hI
      refine ⟨t, e, ?_⟩
      cases t with
      | inl s' => exact Ho_loop Inv N hs he n (i + 1) s' (by omega) (by omega) hk
      | inr r => exact ⟨r, rfl, hk⟩
    · have : i = N := by omega
      subst this
      obtain ⟨t, e, hk⟩ := he s hI
      refine ⟨t, e, ?_⟩
      cases t with
      | inl s' => exact hk.elim
      | inr r => exact ⟨r, rfl, hk⟩
theorem Ho_loop0 {σ T : Type} {f : σ → Option (σ ⊕ T)} (Inv : Nat → σ → Prop) (N : Nat) {K : T → Prop} (hN : N < 10000) (hs : ∀ i s, i < N → Inv i s → Ho (f s) (Sum.elim (Inv (i + 1)) K)) (he : ∀ s, Inv N s → Ho (f s) (Sum.elim (fun _ => False) K)) (s : σ) (h0 : Inv 0 s) : Ho (k_loop f k_fu s) K :=
  Ho_loop Inv N hs he k_fu 0 s (Nat.zero_le _) (by show N - 0 < 10000; omega) h0
/-! numbers -/
theorem i_lt {a b : Int32} : a < b ↔ a.toInt < b.toInt := Int32.lt_iff_toInt_lt
theorem i_le {a b : Int32} : a ≤ b ↔ a.toInt ≤ b.toInt := Int32.le_iff_toInt_le
theorem i_eq {a b : Int32} : a = b ↔ a.toInt = b.toInt := ⟨fun h => by rw [h], fun h => Int32.toInt_inj.mp h⟩
theorem i_rng (a : Int32) : -2147483648 ≤ a.toInt ∧ a.toInt ≤ 2147483647 := ⟨Int32.le_toInt a, by have := Int32.toInt_lt a; omega⟩
theorem i_cl (a : Int32) : a.toNatClampNeg = a.toInt.toNat := rfl
theorem i_bm {z : Int} (h : -2147483648 ≤ z) (h2 : z ≤ 2147483647) : z.bmod (2 ^ 32) = z := by
  apply Int.bmod_eq_of_le <;> omega
theorem i_add {a b : Int32} (h : -2147483648 ≤ a.toInt + b.toInt) (h2 : a.toInt + b.toInt ≤ 2147483647) : (a + b).toInt = a.toInt + b.toInt := by
  rw [Int32.toInt_add]
  exact i_bm h h2
theorem i_sub {a b : Int32} (h : -2147483648 ≤ a.toInt - b.toInt) (h2 : a.toInt - b.toInt ≤ 2147483647) : (a - b).toInt = a.toInt - b.toInt := by
  rw [Int32.toInt_sub]
  exact i_bm h h2
theorem i_mul {a b : Int32} (h : -2147483648 ≤ a.toInt * b.toInt) (h2 : a.toInt * b.toInt ≤ 2147483647) : (a * b).toInt = a.toInt * b.toInt := by
  rw [Int32.toInt_mul]
  exact i_bm h h2
theorem i_n {n : Nat} (h : n < 2147483648) : (nI n).toInt = n := nI_toInt (by omega)
theorem i_of (x : Int32) (h : 0 ≤ x.toInt) : x = nI x.toInt.toNat := by
  rw [i_eq, i_n (by have := i_rng x; omega)]
  omega
/-- an int between 0 and n is one of the naturals -/
theorem i_in {x : Int32} {n : Nat} (h : 0 ≤ x.toInt) (h2 : x.toInt < n) : ∃ j : Nat, j < n ∧ x = nI j := ⟨x.toInt.toNat, by omega, i_of x h⟩
theorem k_up_same {I : StI} {b k : Nat} {v : Int32} : k_up I b k v b k = v := by simp [k_up]
theorem k_up_oth {I : StI} {b k i j : Nat} {v : Int32} (h : ¬ (i = b ∧ j = k)) : k_up I b k v i j = I i j := by simp [k_up, h]
theorem k_upL_same {I : StL} {b k : Nat} {v : Int64} : k_upL I b k v b k = v := by simp [k_upL]
theorem k_upL_oth {I : StL} {b k i j : Nat} {v : Int64} (h : ¬ (i = b ∧ j = k)) : k_upL I b k v i j = I i j := by simp [k_upL, h]
theorem gd_n {T : Type} {j n : Nat} {o : Option T} (h : j < n) (hn : n < 2147483648) : k_gd (nI j) n o = o := by
  unfold k_gd
  rw [if_pos]
  rw [i_n (by omega)]
  omega
theorem cl_n {n : Nat} (h : n < 2147483648) : (nI n).toNatClampNeg = n := nI_clamp (by omega)
theorem in_eq (a b c : Int64) : f_X5_in a b c = some (if b ≤ a ∧ a ≤ c then 1 else 0) := by
  unfold f_X5_in
  by_cases h1 : lg_cmp a b < 0
  · rw [if_pos h1]
    have : ¬ b ≤ a := fun z => absurd ((lg_cmp_ge a b).mpr z) (by rw [i_le]; rw [i_lt] at h1; omega)
    rw [if_neg (fun z => this z.1)]
  · rw [if_neg h1]
    have h2 : b ≤ a := (lg_cmp_ge a b).mp (by rw [i_le]; rw [i_lt] at h1; omega)
    by_cases h3 : 0 < lg_cmp a c
    · rw [if_pos h3]
      have : c < a := (lg_cmp_gt a c).mp h3
      rw [if_neg (fun z : b ≤ a ∧ a ≤ c => Int64.lt_irrefl (Int64.lt_of_lt_of_le this z.2))]
    · rw [if_neg h3]
      have : ¬ c < a := fun z => h3 ((lg_cmp_gt a c).mpr z)
      rw [if_pos ⟨h2, Int64.not_lt.mp this⟩]
/-- in(), of ints -/
theorem in_i (x a b : Int32) : f_X5_in x.toInt64 a.toInt64 b.toInt64 = some (if a.toInt ≤ x.toInt ∧ x.toInt ≤ b.toInt then 1 else 0) := by
  rw [in_eq]
  congr 1
  simp only [Int64.le_iff_toInt_le, Int32.toInt_toInt64]
