/-! Arrays.fill of ints, for the constructors -/
def kf_Pre (D : va_G) (a N : Nat) (cA : ClassId) (f : Nat → Int32) (sz : Nat) (U : State) : Prop := U.heap.size = sz ∧ kc_T U ∧ va_K D vwCl [(cA, .int)] U ∧ va_P D vwCl [(a, .inl (cA, N, .inl f))] U.heap ∧ va_D (fun _ => True) [(a, .inl (cA, N, .inl f))]
def kf_post (a N : Nat) (cA : ClassId) (v : Int32) (ws : va_W) (tys : kc_Y) : Prop := ∃ g : Nat → Int32, ws = [(a, .inl (cA, N, .inl g))] ∧ tys = [(cA, .int)] ∧ ∀ j, j < N → g j = v
theorem JC_alen {X : kc_C} {cc : ByteArray} {own : String} {nL : Nat} {ret : Option FieldType} {d : Nat} {ws : va_W} {tys : kc_Y} {cells slots mc ms : Nat} {pc : Nat} {lv : List (Nat × Value)} {st : List Value} {a : Nat} {cA : ClassId} {x : vp_A} {ty : FieldType} {v : Int32} (hx : OkC X cc own nL ret d mc ms) (q0 t0 : Nat) (ha : ws[q0]? = some (a, .inl (cA, x))) (ht : tys[t0]? = some (cA, ty)) (hv : Int32.ofNat x.1 = v) (hd : decode cc pc = .ok (.arraylength, 1)) (kk : JC X nL ws tys cells slots (pc + 1) lv (.int v :: st)) : JC X nL ws tys cells slots pc lv (.ref a :: st) := by
  obtain ⟨p, l, e, R, s, m, args, below, meth, c, Q, D, A⟩ := X
  obtain ⟨hexec, hb, hml, hown, hts, hlk, hr, hA, hT, hcl, hsl, hfr, hlo⟩ := hx
  intro H locs ls hP hD hS hK hl
  exact va_alen hexec hb hK hP q0 t0 ha ht hv hd (kk H locs ls hP hD hS hK hl)
theorem kf_loop {X : kc_C} {a N : Nat} {cA : ClassId} {v : Int32} (hN : N < 1000) (hx : OkC X cJ7_fill_53178 RJ7 4 none 1 0 0) (hQ : kc_OkQ X (kf_post a N cA v) 0 0) : ∀ (k i : Nat) (f : Nat → Int32), N - i < k → i ≤ N → (∀ j, j < i → f j = v) → JC X 4 [(a, .inl (cA, N, .inl f))] [(cA, .int)] 0 0 5 [(2, .int (nI i)), (3, .int (nI N)), (0, .ref a), (1, .int v)] []
  | 0, _, _, h, _, _ => absurd h (Nat.not_lt_zero _)
  | k + 1, i, f, h, hi, hf => by
    refine JC_iload_n hx dJ7_fill_53178_5 0 rfl ?_
    refine JC_iload_n hx dJ7_fill_53178_6 1 rfl ?_
    refine JC_ic_ge hx dJ7_fill_53178_7 20 (by decide) (fun c => ?_) (fun c => ?_)
    · refine JC_vret hx hQ dJ7_fill_53178_20 ⟨f, rfl, rfl, fun j hj => hf j ?_⟩
      rw [nI_leI (by omega) (by omega)] at c
      omega
    · rw [nI_leI (by omega) (by omega)] at c
      refine JC_aload_n hx dJ7_fill_53178_10 2 rfl ?_
      refine JC_iload_n hx dJ7_fill_53178_11 0 rfl ?_
      refine JC_iload_n hx dJ7_fill_53178_12 3 rfl ?_
      refine JC_iast hx 0 0 rfl rfl (vp_in_iff.mpr (by rw [i_n (by omega)]; omega)) dJ7_fill_53178_13 ?_
      refine JC_iinc (x := nI (i + 1)) (lv' := [(2, .int (nI (i + 1))), (3, .int (nI N)), (0, .ref a), (1, .int v)]) hx dJ7_fill_53178_14 0 rfl (nI_add i 1) (by decide) rfl ?_
      refine JC_goto hx dJ7_fill_53178_17 5 (by decide) ?_
      rw [cl_n (by omega)]
      refine kf_loop hN hx hQ k (i + 1) _ (by omega) (by omega) (fun j hj => ?_)
      by_cases e : j = i
      · subst e
        exact upd_s
      · rw [upd_o e]
        exact hf j (by omega)
theorem kf_Met (l : Launch) {a N : Nat} {cA : ClassId} {f : Nat → Int32} {v : Int32} (hN : N < 1000) (D : va_G) (sz : Nat) : Met l yJ7_fill_53178 (.code yJ7_fill_53178 cJ7_fill_53178 4 none :: k_tbl) (kc_rm 1 0 0) (va_Pc [.ref a, .int v] (kf_Pre D a N cA f sz)) (kc_Q D (kf_post a N cA v) (va_A [(a, .inl (cA, N, .inl f))] sz)) 0 0 (va_A [(a, .inl (cA, N, .inl f))] sz) := by
  refine k_ofW (cc := cJ7_fill_53178) (maxL := 4) (ret := none) (by decide +kernel) rfl ?_
  intro p e s m args below meth c s₁ B hml hv
  obtain ⟨rfl, hsz, hT, hK, hP, hD0⟩ := hv
  subst hsz
  have hD := hD0.self (sz := s.heap.size)
  have hts := atoms_spec (ws := .code yJ7_fill_53178 cJ7_fill_53178 4 none :: k_tbl) B.pre
  have hA0 : ∀ q : Nat, s.heap.size ≤ q → va_A [(a, .inl (cA, N, .inl f))] s.heap.size q := fun q h => Or.inr h
  generalize va_A [(a, .inl (cA, N, .inl f))] s.heap.size = A at hD hA0 ⊢
  have body : ∀ X : kc_C, OkC X cJ7_fill_53178 RJ7 4 none 1 0 0 → kc_OkQ X (kf_post a N cA v) 0 0 → JC X 4 [(a, .inl (cA, N, .inl f))] [(cA, .int)] 0 0 0 [(0, .ref a), (1, .int v)] [] := by
    intro X hx hQ
    refine JC_iconst (v := 0) hx dJ7_fill_53178_0 (by decide) ?_
    refine JC_istore_n (x := 0) (lv' := [(2, .int 0), (0, .ref a), (1, .int v)]) hx dJ7_fill_53178_1 rfl (by decide) rfl ?_
    refine JC_aload_n hx dJ7_fill_53178_2 1 rfl ?_
    refine JC_alen (v := nI N) hx 0 0 rfl rfl rfl dJ7_fill_53178_3 ?_
    refine JC_istore_n (x := nI N) (lv' := [(3, .int (nI N)), (2, .int 0), (0, .ref a), (1, .int v)]) hx dJ7_fill_53178_4 rfl (by decide) rfl ?_
    have h := kf_loop hN hx hQ (N + 1) 0 f (by omega) (by omega) (fun j hj => absurd hj (by omega))
    obtain ⟨p, l, e, R, s, m, args, below, meth, c, Q, D, A⟩ := X
    intro H locs ls hP hD hS hK hl
    exact h H locs ls hP hD hS hK (lv_sub hl [1, 0, 2, 3] rfl)
  have h := body (p, l, e, (headSpec (.code yJ7_fill_53178 cJ7_fill_53178 4 none :: k_tbl) (kc_rm 1 0 0)).room, s, m, ([.ref a, .int v] : List Value).toArray, below, meth, c, MQ below (kc_Q D (kf_post a N cA v) A) ([.ref a, .int v] : List Value).toArray s 0 0 A, D, A)
    ⟨B.exec, B.bytes, hml, findClass_of_methodNamed B.named, fun w hw => hts w (List.mem_cons_of_mem _ hw), B.notSynchronized, B.returns, hA0, hT, Nat.le_refl _, Nat.le_refl _, Nat.le_refl _, Nat.le_refl _⟩ rfl
  have hl := lv_entry ([.ref a, .int v] : List Value) (n := 4) (Nat.le_of_ble_eq_true rfl)
  rw [lg_entry_eq]
  exact h s.heap [] _ hP hD va_S.rf hK hl
theorem kf_blind {D : va_G} {a N sz : Nat} {cA : ClassId} {f : Nat → Int32} {v : Int32} : FrameBlind (va_Pc [.ref a, .int v] (kf_Pre D a N cA f sz)) := by
  intro b U g mk q
  obtain ⟨q0, q1, qT, qK, qP, qD⟩ := q
  exact ⟨q0, q1, kc_T.same rfl qT, va_K.moved (u := U) (U := U.calling g mk b) (Vm.Alike.refl U.vm) qK, qP, qD⟩
theorem va_D_set {A : Nat → Prop} {w : va_W} {j a : Nat} {e0 e1 : va_E} (h : va_D A w) (hj : w[j]? = some (a, e0)) : va_D A (w.set j (a, e1)) := by
  have key : ∀ (k : Nat) (x : Nat × va_E), (w.set j (a, e1))[k]? = some x → ∃ y, w[k]? = some y ∧ y.1 = x.1 := by
    intro k x hx
    by_cases hk : j = k
    · subst hk
      have hlt := (List.getElem?_eq_some_iff.mp hj).1
      rw [List.getElem?_set_self hlt] at hx
      cases hx
      exact ⟨_, hj, rfl⟩
    · rw [List.getElem?_set_ne hk] at hx
      exact ⟨x, hx, rfl⟩
  refine ⟨fun i k p q hi hk e => ?_, fun k q hk => ?_⟩
  · obtain ⟨y, h1, h2⟩ := key i p hi
    obtain ⟨z, h3, h4⟩ := key k q hk
    exact h.1 i k y z h1 h3 (by rw [h2, h4]; exact e)
  · obtain ⟨y, h1, h2⟩ := key k q hk
    rw [← h2]
    exact h.2 k y h1
theorem JC_fill {X : kc_C} {cc : ByteArray} {own : String} {nL : Nat} {ret : Option FieldType} {d : Nat} {ws : va_W} {tys : kc_Y} {cells slots mX sX : Nat} {pc : Nat} {lv : List (Nat × Value)} {rest : List Value} {index a N : Nat} {cA : ClassId} {f : Nat → Int32} {v : Int32} (hx : OkC X cc own nL ret d mX sX) (hlk : k_lkS own index yJ7_fill_53178 cJ7_fill_53178 4 none 2) (j t0 : Nat) (hj : ws[j]? = some (a, .inl (cA, N, .inl f))) (ht : tys[t0]? = some (cA, .int)) (hN : N < 1000) (hdc : 2 ≤ d) (hcat : (rest.map fun v => v.category).sum ≤ 8) (hc : cells ≤ mX) (hs : slots ≤ sX) (hd : decode cc pc = .ok (.invokestatic index, 3))
    (kk : ∀ g : Nat → Int32, (∀ j, j < N → g j = v) → JC X nL (ws.set j (a, .inl (cA, N, .inl g))) tys cells slots (pc + 3) lv rest) : JC X nL ws tys cells slots pc lv (.int v :: .ref a :: rest) := by
  obtain ⟨p, l, e, R, s, m, args, below, meth, c, Q, D, A⟩ := X
  obtain ⟨hexec, hb, hml, hown, hts, hlo', hr, hA, hT, hcl, hsl, hfr, hlo⟩ := hx
  intro H locs ls hP hD hS hK hl
  obtain ⟨⟨h1, h2, h3, h4, h5⟩, h6⟩ := hlk
  have cw : CallB R s args own index yJ7_fill_53178 cJ7_fill_53178 4 none (.code yJ7_fill_53178 cJ7_fill_53178 4 none :: k_tbl) (kc_rm 1 0 0) 0 0 2 := by
    refine callB_of 2 hts (k_goodIn h3) rfl rfl rfl (hts _ h2) (hts _ h1) h4 ⟨?_, ?_⟩
    · show 1 + 1 ≤ R.frames
      omega
    · show 8 + (4 + 11) + 40 * 1 ≤ R.locals
      omega
  have hPa : va_P D vwCl [(a, .inl (cA, N, .inl f))] H := fun k x hx => by
    have h1 : k < 1 := (List.getElem?_eq_some_iff.mp hx).1
    rw [show k = 0 by omega] at hx
    cases hx
    exact hP j _ hj
  have hr := va_runS (p := p) (l := l) (e := e) (R := R) (s := s) (m := m) (args := args) (below := below) (meth := meth) (c := c) (H := H) (locs := locs) (cells := cells) (slots := slots) (g := F0 m pc ls (.int v :: .ref a :: rest)) (As := [.ref a, .int v]) (rest := rest) (Ts := k_tbl) (cc := cc) (nL := nL) (own := own) (index := index) ⟨hexec, hb, hml, hown, hts⟩ (kf_Met l (a := a) (N := N) (cA := cA) (f := f) (v := v) hN D H.size) ⟨cw, hts _ h6⟩ ⟨kf_blind, fun U hU hw => ⟨rfl, by rw [hU], kc_T.warm hw hT, va_K.moved hw.alike ⟨hK.1, fun k q h => ?_⟩, by rw [hU]; exact hPa, ⟨fun i j x y hi hj _ => ?_, fun _ _ _ => trivial⟩⟩⟩ rfl rfl hl.1 rfl (by simpa [JFrame.monitorRoom] using hcat) hd ⟨Nat.le_trans hc hcl, Nat.le_trans hs hsl⟩
  · intro T hT2 XX
    obtain ⟨vv, st₀, t, T', L', h0, X', hL, e1, e2, ⟨⟨w1, t1, hv, ⟨g, rfl, rfl, hg⟩, hK1, hP1, hD1⟩, hz, hk⟩, stp⟩ := hr T hT2 XX
    cases hv
    rw [h0] at hz hk
    have haA : A a := hD.2 j _ hj
    have hF : ∀ x, va_A [(a, .inl (cA, N, .inl f))] H.size x → A x := by
      rintro x (⟨i, e, h⟩ | h)
      · match i, h with
        | 0, h => cases h; exact haA
        | i + 1, h => simp at h
      · exact hA x (Nat.le_trans hS.1 h)
    have hnot : ∀ (i : Nat) (x : Nat × va_E), i ≠ j → ws[i]? = some x → ¬ va_A [(a, .inl (cA, N, .inl f))] H.size x.1 := by
      rintro i x hij hi (⟨k, e, h⟩ | h)
      · match k, h with
        | 0, h =>
          have : a = x.1 := congrArg Prod.fst (Option.some.inj h)
          exact hij (hD.1 i j x _ hi hj this.symm)
        | k + 1, h => simp at h
      · have := (hP i x hi).lt
        omega
    have hS' : va_S A s.heap T'.heap (locs ++ L') := ⟨Nat.le_trans hS.1 (by rw [e1]; exact hz), fun x h1 h2 => by rw [e1, hk x (Nat.lt_of_lt_of_le h1 hS.1) (fun z => h2 (hF x z))]; exact hS.2.1 x h1 h2, fun x hx => by
        rcases List.mem_append.mp hx with h | h
        · exact hS.2.2 x h
        · exact hF _ (hL x h)⟩
    have hPn : va_P D vwCl (ws.set j (a, .inl (cA, N, .inl g))) T'.heap := by
      intro i x hi
      by_cases hij : j = i
      · subst hij
        rw [List.getElem?_set_self (List.getElem?_eq_some_iff.mp hj).1] at hi
        cases hi
        rw [e1]
        exact hP1 0 _ rfl
      · rw [List.getElem?_set_ne hij] at hi
        exact (hP i x hi).kept (by rw [e1]; exact hk x.1 ((hP i x hi).lt) (hnot i x (Ne.symm hij) hi))
    obtain ⟨t2, a1, b1⟩ := kk g hg T'.heap (locs ++ L') ls hPn (va_D_set hD hj) hS' hK hl T' rfl X'
    exact ⟨t2, stp t2 a1, b1⟩
  · have h1 : k < 1 := (List.getElem?_eq_some_iff.mp h).1
    rw [show k = 0 by omega] at h
    cases h
    exact hK.2 t0 _ ht
  · have h1 : i < 1 := (List.getElem?_eq_some_iff.mp hi).1
    have h2 : j < 1 := (List.getElem?_eq_some_iff.mp hj).1
    omega
