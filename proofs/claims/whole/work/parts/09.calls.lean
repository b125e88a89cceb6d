/-! entry, calls, and the words of the printed functions -/
theorem k_goodIn {y : MethodName} {cc : ByteArray} {maxL : Nat} {ret : Option FieldType} (h : Cond.code y cc maxL ret ∈ k_tbl) : GoodIn k_tbl (.code y cc maxL ret :: k_tbl) := by
  intro w hw
  have hm : w ∈ k_tbl := by
    rcases List.mem_cons.mp hw with rfl | hw
    · exact h
    · exact hw
  exact ⟨hm, good_of_word (List.mem_filter.mp hm).2⟩
theorem k_ofW {l : Launch} {y : MethodName} {ws ws' : List Cond} {rm : Room} {Pc : Array Value → State → Prop} {Qc : Array Value → State → Outcome → State → Prop} {mc ms : Nat} {free : Addr → Prop} {cc : ByteArray} {maxL : Nat} {ret : Option FieldType} (hy : plainFor y = true) (hw : ws = Cond.code y cc maxL ret :: ws')
    (body : ∀ p e s m args below meth c s₁, BodyLoose p l y (headSpec ws rm) cc maxL ret e s m args below meth c s₁ → c.maxLocals = maxL → Pc args s → W p l e (headSpec ws rm).room s m args below meth c s.heap [] 0 0 (MQ below Qc args s mc ms free) (entryFrame m args maxL)) : Met l y ws rm Pc Qc mc ms free := by
  refine MetFree.of_bodySF (code := cc) (maxLocals := maxL) (ret := ret) hy ?_ ?_
  · intro args s m h hn
    obtain ⟨meth, c, h1, h2, h3, h4, h5, h6, -, -⟩ := Cond.code_spec hn (atoms_spec (ws := ws) h _ (by rw [hw]; exact List.mem_cons_self))
    exact ⟨meth, c, h1, h2, h3, h4, h5, h6⟩
  · intro p e s m args below meth c s₁ B hml hP _
    have hh0 : s₁.heap = s.heap := by rw [B.state]; rfl
    obtain ⟨t, a1, o, b1, b2, b3⟩ := body p e s m args below meth c s₁ B hml hP s₁ hh0 (Stand.of_body B)
    exact ⟨t, o, a1, b1, b2, ⟨b3.1, b3.2⟩⟩
theorem k_enter {l : Launch} {ad : Nat → Nat} {d : Nat} {y : MethodName} {cc : ByteArray} {maxL : Nat} {ret : Option FieldType} {as : List Value} {I : StI} {L : StL} {P : Option Value → StI → StL → Prop} (hy : plainFor y = true) (hn : (lg_sl as).length ≤ maxL)
    (body : ∀ X : k_C, k_lau X = l → Ok X cc y.cls maxL ret d → OkQ X ad P → J X ad maxL I L 0 (lv_args 0 as) []) : k_Met l ad d y cc maxL ret as I L P := by
  intro D cA sz
  refine k_ofW (cc := cc) (maxL := maxL) (ret := ret) hy rfl ?_
  intro p e s m args below meth c s₁ B hml hv
  obtain ⟨rfl, hsz, hK, hP, hD0, hZ⟩ := hv
  subst hsz
  have hD := hD0.self (sz := s.heap.size)
  have hts := atoms_spec (ws := .code y cc maxL ret :: k_tbl) B.pre
  have hA0 : ∀ q : Nat, s.heap.size ≤ q → va_A (k_wl cA ad I L) s.heap.size q := fun q h => Or.inr h
  generalize va_A (k_wl cA ad I L) s.heap.size = A at hD hZ hA0 ⊢
  have h := body (p, l, e, (headSpec (.code y cc maxL ret :: k_tbl) (k_rm d)).room, s, m, as.toArray, below, meth, c, MQ below (k_Q D cA ad P A) as.toArray s 0 0 A, D, cA, A, 0, 0) rfl
    ⟨B.exec, B.bytes, hml, findClass_of_methodNamed B.named, fun w hw => hts w (List.mem_cons_of_mem _ hw), B.notSynchronized, B.returns, hA0, hZ, hK, Nat.zero_le _, Nat.zero_le _, Nat.le_refl _, Nat.le_refl _⟩ rfl
  have hl := lv_entry as (n := maxL) hn
  rw [lg_entry_eq]
  exact h s.heap [] _ ⟨hP, hD, va_S.rf⟩ hl
theorem k_blind {D : va_G} {cA : Nat → ClassId} {ad : Nat → Nat} {sz : Nat} {I : StI} {L : StL} {as : List Value} : FrameBlind (va_Pc as (k_Pre D cA ad sz I L)) := by
  intro a U g mk q
  obtain ⟨q0, q1, qK, qP, qD, qZ⟩ := q
  exact ⟨q0, q1, k_K.moved (u := U) (U := U.calling g mk a) (Vm.Alike.refl U.vm) qK, qP, qD, k_Z.moved (u := U) (U := U.calling g mk a) (Vm.Alike.refl U.vm) qZ⟩
theorem k_free {A : Nat → Prop} {cA : Nat → ClassId} {ad : Nat → Nat} {I : StI} {L : StL} {H0 H : Heap} {locs : List Loc} (hD : va_D A (k_wl cA ad I L)) (hS : va_S A H0 H locs) (hA : ∀ q, H0.size ≤ q → A q) : ∀ q, va_A (k_wl cA ad I L) H.size q → A q := by
  intro q h
  rcases h with ⟨k, e, h⟩ | h
  · exact hD.2 k (q, e) h
  · exact hA q (Nat.le_trans hS.1 h)
theorem k_pre {D : va_G} {A : Nat → Prop} {cA : Nat → ClassId} {ad : Nat → Nat} {I : StI} {L : StL} {s : State} {H : Heap} {locs : List Loc} (hP : va_P D vwCl (k_wl cA ad I L) H) (hD : va_D A (k_wl cA ad I L)) (hS : va_S A s.heap H locs) (hA : ∀ q, s.heap.size ≤ q → A q) (hZ : k_Z A s s.heap) (hK : k_K D cA s)
    (U : State) (hU : U.heap = H) (hw : s.WarmedH U.vm) : k_Pre D cA ad H.size I L U := by
  refine ⟨by rw [hU], hK.moved hw.alike, by rw [hU]; exact hP, hD.weaken (fun _ _ _ _ => trivial), ?_⟩
  rw [hU]
  exact ((hZ.kept hS.2.1).narrow (k_free hD hS hA)).moved hw.alike
section KB
variable {p : Program} {l : Launch} {e : Env} {R : Room} {s : State} {m : MethodId} {args : Array Value} {below : List Frame} {meth : Method} {c : Code} {H : Heap} {locs : List Loc} {Q : State → Prop} {D : va_G} {cA : Nat → ClassId} {A : Nat → Prop} {cells slots : Nat}
theorem k_back {ad : Nat → Nat} {I I1 : StI} {L L1 : StL} {nL pc : Nat} {lv : List (Nat × Value)} {ls : Array Slot} {st rest : List Value} {rv : Option Value} {a : Array Value} (hA : ∀ q, s.heap.size ≤ q → A q) (hD : va_D A (k_wl cA ad I L)) (hS : va_S A s.heap H locs) (hl : lv_has ls nL lv)
    (hr : va_Run p l e R s m args below meth c H locs cells slots 0 0 (F0 m pc ls st) rest (k_Q D cA ad (fun v I' L' => v = rv ∧ I' = I1 ∧ L' = L1) (va_A (k_wl cA ad I L) H.size) a) (va_A (k_wl cA ad I L) H.size))
    (k : J (p, l, e, R, s, m, args, below, meth, c, Q, D, cA, A, cells, slots) ad nL I1 L1 (pc + 3) lv (rv.toList ++ rest)) : W p l e R s m args below meth c H locs cells slots Q (F0 m pc ls st) := by
  intro T hT XX
  obtain ⟨v, st₀, t, T', L', h0, X', hL, e1, e2, ⟨⟨v', I', L2, hv, ⟨rfl, rfl, rfl⟩, hK1, hP1, hD1⟩, hz, hk⟩, stp⟩ := hr T hT XX
  cases hv
  rw [h0] at hz hk
  have hF := k_free hD hS hA
  have hS' : va_S A s.heap T'.heap (locs ++ L') := ⟨Nat.le_trans hS.1 (by rw [e1]; exact hz), fun q h1 h2 => by rw [e1, hk q (Nat.lt_of_lt_of_le h1 hS.1) (fun z => h2 (hF q z))]; exact hS.2.1 q h1 h2, fun q hq => by
      rcases List.mem_append.mp hq with h | h
      · exact hS.2.2 q h
      · exact hF _ (hL q h)⟩
  obtain ⟨t2, a1, b1⟩ := k T'.heap (locs ++ L') ls ⟨by rw [e1]; exact hP1, hD1.weaken (fun _ _ _ z => hF _ z), hS'⟩ hl T' rfl X'
  exact ⟨t2, stp t2 a1, b1⟩
end KB
/-- a call's words: by its link, the callee's code and name -/
def k_lk (own : String) (index : Nat) (y : MethodName) (bytes : ByteArray) (maxL : Nat) (ret : Option FieldType) (n : Nat) : Prop := Cond.methodLink own index y ∈ k_tbl ∧ Cond.initialized y.cls ∈ k_tbl ∧ Cond.code y bytes maxL ret ∈ k_tbl ∧ (y.cls ≠ "java/lang/invoke/MethodHandle" ∧ y.cls ≠ "java/lang/invoke/VarHandle" ∧ (parseMethodDescriptor y.desc).map (fun d => d.parameters.length) = some n) ∧ maxL ≤ 21
def k_lkV (own : String) (index ci : Nat) (y : MethodName) (bytes : ByteArray) (maxL : Nat) (ret : Option FieldType) (n : Nat) : Prop := k_lk own index y bytes maxL ret n ∧ Cond.instanceMethod y ∈ k_tbl ∧ Cond.selects y.cls y y ∈ k_tbl ∧ ∃ T N, vwCl[ci]? = some (y.cls, T, N)
def k_lkS (own : String) (index : Nat) (y : MethodName) (bytes : ByteArray) (maxL : Nat) (ret : Option FieldType) (n : Nat) : Prop := k_lk own index y bytes maxL ret n ∧ Cond.static y ∈ k_tbl
theorem k_callB {R : Room} {s : State} {args : Array Value} {own : String} {index : Nat} {y : MethodName} {bytes : ByteArray} {maxL : Nat} {ret : Option FieldType} {n d dc : Nat} (hts : ∀ w ∈ k_tbl, w.before args s = true) (h : k_lk own index y bytes maxL ret n) (hfr : d ≤ R.frames) (hlo : 40 * d ≤ R.locals) (hdc : dc + 1 ≤ d) : CallB R s args own index y bytes maxL ret (.code y bytes maxL ret :: k_tbl) (k_rm dc) 0 0 n := by
  obtain ⟨h1, h2, h3, h4, h5⟩ := h
  refine callB_of n hts (k_goodIn h3) rfl rfl rfl (hts _ h2) (hts _ h1) h4 ⟨?_, ?_⟩
  · show dc + 1 ≤ R.frames
    omega
  · show 8 + (maxL + 11) + 40 * dc ≤ R.locals
    omega
theorem J_callV0 {X : k_C} {ad : Nat → Nat} {cc : ByteArray} {own : String} {nL : Nat} {ret : Option FieldType} {d : Nat} {I I1 : StI} {L L1 : StL} {pc : Nat} {lv : List (Nat × Value)} {st : List Value} {index ci b : Nat} {y : MethodName} {bytes : ByteArray} {maxL : Nat} {retc : Option FieldType} {n dc : Nat} {rv : Option Value}
    (hx : Ok X cc own nL ret d) (hlk : k_lkV own index ci y bytes maxL retc n) (hs : k_sh b = (ci, k_N ci)) (As rest : List Value) (hst : st = As.reverse ++ .ref (ad b) :: rest) (hn : As.length = n) (hcat : (rest.map fun v => v.category).sum ≤ 8) (hdc : dc + 1 ≤ d)
    (hM : k_Met (k_lau X) ad dc y bytes maxL retc (.ref (ad b) :: As) I L (fun v I' L' => v = rv ∧ I' = I1 ∧ L' = L1)) (hd : decode cc pc = .ok (.invokevirtual index, 3)) (k : J X ad nL I1 L1 (pc + 3) lv (rv.toList ++ rest)) : J X ad nL I L pc lv st := by
  obtain ⟨p, l, e, R, s, m, args, below, meth, c, Q, D, cA, A, cells, slots⟩ := X
  obtain ⟨hexec, hb, hml, hown, hts, hlo', hr, hA, hZ, hK, hcl, hsl, hfr, hlo⟩ := hx
  intro H locs ls hW hl
  obtain ⟨hP, hD, hS⟩ := hW
  obtain ⟨h1, h2, h3, T, N, h4⟩ := hlk
  obtain ⟨rfl, hc⟩ := k_N_ok h4
  have hPre := k_pre hP hD hS hA hZ hK
  refine k_back hA hD hS hl (va_runV (As := As) (rest := rest) (Ts := k_tbl) ⟨hexec, hb, hml, hown, hts⟩ (hM D cA H.size) ⟨k_callB hts h1 hfr hlo hdc, hts _ h2, hts _ h3⟩ ⟨k_blind, va_recv hK.1 hP h4 ((k_wl_at (k_sh_n hs hc)).trans (by rw [k_cell_o hs hc])), fun U hU hw => ⟨rfl, hPre U hU hw⟩⟩ rfl hn hl.1 hst (by simpa [JFrame.monitorRoom] using hcat) hd ⟨hcl, hsl⟩) k
theorem J_callS0 {X : k_C} {ad : Nat → Nat} {cc : ByteArray} {own : String} {nL : Nat} {ret : Option FieldType} {d : Nat} {I I1 : StI} {L L1 : StL} {pc : Nat} {lv : List (Nat × Value)} {st : List Value} {index : Nat} {y : MethodName} {bytes : ByteArray} {maxL : Nat} {retc : Option FieldType} {n dc : Nat} {rv : Option Value}
    (hx : Ok X cc own nL ret d) (hlk : k_lkS own index y bytes maxL retc n) (As rest : List Value) (hst : st = As.reverse ++ rest) (hn : As.length = n) (hcat : (rest.map fun v => v.category).sum ≤ 8) (hdc : dc + 1 ≤ d)
    (hM : k_Met (k_lau X) ad dc y bytes maxL retc As I L (fun v I' L' => v = rv ∧ I' = I1 ∧ L' = L1)) (hd : decode cc pc = .ok (.invokestatic index, 3)) (k : J X ad nL I1 L1 (pc + 3) lv (rv.toList ++ rest)) : J X ad nL I L pc lv st := by
  obtain ⟨p, l, e, R, s, m, args, below, meth, c, Q, D, cA, A, cells, slots⟩ := X
  obtain ⟨hexec, hb, hml, hown, hts, hlo', hr, hA, hZ, hK, hcl, hsl, hfr, hlo⟩ := hx
  intro H locs ls hW hl
  obtain ⟨hP, hD, hS⟩ := hW
  obtain ⟨h1, h2⟩ := hlk
  have hPre := k_pre hP hD hS hA hZ hK
  refine k_back hA hD hS hl (va_runS (As := As) (rest := rest) (Ts := k_tbl) ⟨hexec, hb, hml, hown, hts⟩ (hM D cA H.size) ⟨k_callB hts h1 hfr hlo hdc, hts _ h2⟩ ⟨k_blind, fun U hU hw => ⟨rfl, hPre U hU hw⟩⟩ rfl hn hl.1 hst (by simpa [JFrame.monitorRoom] using hcat) hd ⟨hcl, hsl⟩) k
theorem J_acopy {X : k_C} {ad : Nat → Nat} {cc : ByteArray} {own : String} {nL : Nat} {ret : Option FieldType} {d : Nat} {I I1 : StI} {L : StL} {pc : Nat} {lv : List (Nat × Value)} {index a b N0 N1 : Nat} {sp dp n : Int32}
    (hx : Ok X cc own nL ret d) (hlink : Cond.methodLink own index arraycopyName ∈ k_tbl ∧ Cond.native arraycopyName ∈ k_tbl ∧ Cond.static arraycopyName ∈ k_tbl ∧ Cond.initialized "java/lang/System" ∈ k_tbl) (ha : k_sh a = (10, N0)) (hb' : k_sh b = (10, N1)) (h1 : ¬ sp < 0) (h2 : ¬ dp < 0) (h3 : ¬ n < 0) (h4 : sp.toNatClampNeg + n.toNatClampNeg ≤ N0) (h5 : dp.toNatClampNeg + n.toNatClampNeg ≤ N1) (hdd : 1 ≤ d)
    (hd : decode cc pc = .ok (.invokestatic index, 3)) (hI : I1 = k_cpA I a b sp.toNatClampNeg dp.toNatClampNeg n.toNatClampNeg) (kk : J X ad nL I1 L (pc + 3) lv []) : J X ad nL I L pc lv [.int n, .int dp, .ref (ad b), .int sp, .ref (ad a)] := by
  obtain ⟨p, l, e, R, s, m, args, below, meth, c, Q, D, cA, A, cells, slots⟩ := X
  obtain ⟨hexec, hb, hml, hown, hts, hlo', hr, hA, hZ, hK, hcl, hsl, hfr, hlo⟩ := hx
  intro H locs ls hW hl
  obtain ⟨hP, hD, hS⟩ := hW
  subst hI
  have e0 := (k_wl_at (cA := cA) (ad := ad) (I := I) (L := L) (k_sh_lt (by rw [ha]; show 10 < 90; decide))).trans (by rw [k_cell_a ha (by decide) (by decide)])
  have e1 := (k_wl_at (cA := cA) (ad := ad) (I := I) (L := L) (k_sh_lt (by rw [hb']; show 10 < 90; decide))).trans (by rw [k_cell_a hb' (by decide) (by decide)])
  refine va_copyi (ty := .int) hexec hb (hml.trans hl.1.symm) hown (hts _ hlink.1) (hts _ hlink.2.1) (hts _ hlink.2.2.1) (hts _ hlink.2.2.2) ((hK.one ha (by decide) (by decide)).app (hK.one hb' (by decide) (by decide))) hP hD hS a b 0 1 e0 e1 rfl rfl rfl h1 h2 h3 h4 h5 (fun _ _ => rfl) (Nat.le_trans hdd hfr) (Nat.le_trans ?_ hlo) hd (fun H1 locs1 hP hD hS => ?_)
  · show 0 + _ ≤ 40 * d
    exact Nat.le_trans (show 0 + _ ≤ 40 * 1 by decide) (Nat.mul_le_mul_left 40 hdd)
  · rw [k_set_c hb' (by decide) (by decide)] at hP hD
    exact kk H1 locs1 ls ⟨hP, hD, hS⟩ hl
/-! the printed functions' own words -/
def Ho {T : Type} (o : Option T) (K : T → Prop) : Prop := ∃ t, o = some t ∧ K t
def k_let {α β : Type} (a : α) (f : α → β) : β := f a
def k_gd {T : Type} (i : Int32) (n : Nat) (o : Option T) : Option T := if 0 ≤ i.toInt ∧ i.toInt < n then o else none
def k_nz {T : Type} (y : Int32) (o : Option T) : Option T := if y = 0 then none else o
def k_nzL {T : Type} (y : Int64) (o : Option T) : Option T := if y = 0 then none else o
def k_fu : Nat := 10000
theorem Ho_some {T : Type} {t : T} {K : T → Prop} (h : Ho (some t) K) : K t := by
  obtain ⟨t', e, hk⟩ := h
  cases e
  exact hk
theorem Ho_none {T : Type} {K : T → Prop} (h : Ho none K) : False := by
  obtain ⟨t', e, hk⟩ := h
  cases e
theorem Ho_t {T : Type} {c : Prop} [Decidable c] {A B : Option T} {K : T → Prop} (hc : c) (h : Ho (if c then A else B) K) : Ho A K := by
  rw [if_pos hc] at h
  exact h
theorem Ho_f {T : Type} {c : Prop} [Decidable c] {A B : Option T} {K : T → Prop} (hc : ¬ c) (h : Ho (if c then A else B) K) : Ho B K := by
  rw [if_neg hc] at h
  exact h
theorem Ho_gd {T : Type} {i : Int32} {n : Nat} {A : Option T} {K : T → Prop} (h : Ho (k_gd i n A) K) : vp_in i n ∧ Ho A K := by
  unfold k_gd at h
  by_cases hc : 0 ≤ i.toInt ∧ i.toInt < n
  · rw [if_pos hc] at h
    exact ⟨vp_in_iff.mpr hc, h⟩
  · rw [if_neg hc] at h
    exact (Ho_none h).elim
theorem Ho_nz {T : Type} {y : Int32} {A : Option T} {K : T → Prop} (h : Ho (k_nz y A) K) : ¬ y = 0 ∧ Ho A K := by
  unfold k_nz at h
  by_cases hc : y = 0
  · rw [if_pos hc] at h
    exact (Ho_none h).elim
  · rw [if_neg hc] at h
    exact ⟨hc, h⟩
theorem Ho_nzL {T : Type} {y : Int64} {A : Option T} {K : T → Prop} (h : Ho (k_nzL y A) K) : ¬ y = 0 ∧ Ho A K := by
  unfold k_nzL at h
  by_cases hc : y = 0
  · rw [if_pos hc] at h
    exact (Ho_none h).elim
  · rw [if_neg hc] at h
    exact ⟨hc, h⟩
theorem Ho_let {α T : Type} {a : α} {f : α → Option T} {K : T → Prop} (h : Ho (k_let a f) K) : ∃ x, x = a ∧ Ho (f x) K := ⟨a, rfl, h⟩
theorem Ho_bind {α T : Type} {o : Option α} {f : α → Option T} {K : T → Prop} (h : Ho (o.bind f) K) : ∃ x, o = some x ∧ Ho (f x) K := by
  obtain ⟨t, e, hk⟩ := h
  cases o with
  | none => cases e
  | some x => exact ⟨x, rfl, t, e, hk⟩
theorem Ho_map {α T : Type} {o : Option α} {f : α → T} {K : T → Prop} (h : Ho (o.map f) K) : Ho o (fun a => K (f a)) := by
  obtain ⟨t, e, hk⟩ := h
  cases o with
  | none => cases e
  | some x =>
    cases e
    exact ⟨x, rfl, hk⟩
def k_acp {T : Type} (sp dp n : Int32) (N0 N1 : Nat) (o : Option T) : Option T := if ¬ sp < 0 ∧ ¬ dp < 0 ∧ ¬ n < 0 ∧ sp.toNatClampNeg + n.toNatClampNeg ≤ N0 ∧ dp.toNatClampNeg + n.toNatClampNeg ≤ N1 then o else none
theorem Ho_acp {T : Type} {sp dp n : Int32} {N0 N1 : Nat} {A : Option T} {K : T → Prop} (h : Ho (k_acp sp dp n N0 N1 A) K) : (¬ sp < 0 ∧ ¬ dp < 0 ∧ ¬ n < 0 ∧ sp.toNatClampNeg + n.toNatClampNeg ≤ N0 ∧ dp.toNatClampNeg + n.toNatClampNeg ≤ N1) ∧ Ho A K := by
  unfold k_acp at h
  by_cases hc : ¬ sp < 0 ∧ ¬ dp < 0 ∧ ¬ n < 0 ∧ sp.toNatClampNeg + n.toNatClampNeg ≤ N0 ∧ dp.toNatClampNeg + n.toNatClampNeg ≤ N1
  · rw [if_pos hc] at h
    exact ⟨hc, h⟩
  · rw [if_neg hc] at h
    exact (Ho_none h).elim
def k_loop {σ T : Type} (f : σ → Option (σ ⊕ T)) : Nat → σ → Option T
  | 0, _ => none
  | n + 1, x => (f x).bind (fun t => Sum.elim (k_loop f n) some t)
theorem k_loop_ho {σ T : Type} {f : σ → Option (σ ⊕ T)} {G : σ → Prop} {K : T → Prop} (h : ∀ s, Ho (f s) (Sum.elim G K) → G s) : ∀ (n : Nat) (s : σ), Ho (k_loop f n s) K → G s
  | 0, _, hh => (Ho_none hh).elim
  | n + 1, s, hh => by
    obtain ⟨t, e, hk⟩ := Ho_bind hh
    apply h s
    refine ⟨t, e, ?_⟩
    cases t with
    | inl s' => exact k_loop_ho h n s' hk
    | inr r => exact (Ho_some (t := r) (K := K) hk)
def k_bo {T : Type} (y : Int32) (o : Option T) : Option T := if y = 0 ∨ y = 1 then o else none
theorem Ho_bo {T : Type} {y : Int32} {A : Option T} {K : T → Prop} (h : Ho (k_bo y A) K) : narrow .boolean (.int y) = .int y ∧ Ho A K := by
  unfold k_bo at h
  by_cases hc : y = 0 ∨ y = 1
  · rw [if_pos hc] at h
    refine ⟨?_, h⟩
    rcases hc with rfl | rfl <;> rfl
  · rw [if_neg hc] at h
    exact (Ho_none h).elim
theorem J_callVi {X : k_C} {ad : Nat → Nat} {cc : ByteArray} {own : String} {nL : Nat} {ret : Option FieldType} {d : Nat} {I I1 : StI} {L L1 : StL} {pc : Nat} {lv : List (Nat × Value)} {st : List Value} {index ci b : Nat} {y : MethodName} {bytes : ByteArray} {maxL : Nat} {retc : Option FieldType} {n dc : Nat} {r : Int32} (hx : Ok X cc own nL ret d) (hlk : k_lkV own index ci y bytes maxL retc n) (hs : k_sh b = (ci, k_N ci)) (As rest : List Value) (hst : st = As.reverse ++ .ref (ad b) :: rest) (hn : As.length = n) (hcat : (rest.map fun v => v.category).sum ≤ 8) (hdc : dc + 1 ≤ d) (hM : k_Met (k_lau X) ad dc y bytes maxL retc (.ref (ad b) :: As) I L (fun v I' L' => v = some (.int r) ∧ I' = I1 ∧ L' = L1)) (hd : decode cc pc = .ok (.invokevirtual index, 3)) (k : J X ad nL I1 L1 (pc + 3) lv (.int r :: rest)) : J X ad nL I L pc lv st := J_callV0 hx hlk hs As rest hst hn hcat hdc hM hd k
theorem J_callSi {X : k_C} {ad : Nat → Nat} {cc : ByteArray} {own : String} {nL : Nat} {ret : Option FieldType} {d : Nat} {I I1 : StI} {L L1 : StL} {pc : Nat} {lv : List (Nat × Value)} {st : List Value} {index : Nat} {y : MethodName} {bytes : ByteArray} {maxL : Nat} {retc : Option FieldType} {n dc : Nat} {r : Int32} (hx : Ok X cc own nL ret d) (hlk : k_lkS own index y bytes maxL retc n) (As rest : List Value) (hst : st = As.reverse ++ rest) (hn : As.length = n) (hcat : (rest.map fun v => v.category).sum ≤ 8) (hdc : dc + 1 ≤ d) (hM : k_Met (k_lau X) ad dc y bytes maxL retc As I L (fun v I' L' => v = some (.int r) ∧ I' = I1 ∧ L' = L1)) (hd : decode cc pc = .ok (.invokestatic index, 3)) (k : J X ad nL I1 L1 (pc + 3) lv (.int r :: rest)) : J X ad nL I L pc lv st := J_callS0 hx hlk As rest hst hn hcat hdc hM hd k
theorem J_callVl {X : k_C} {ad : Nat → Nat} {cc : ByteArray} {own : String} {nL : Nat} {ret : Option FieldType} {d : Nat} {I I1 : StI} {L L1 : StL} {pc : Nat} {lv : List (Nat × Value)} {st : List Value} {index ci b : Nat} {y : MethodName} {bytes : ByteArray} {maxL : Nat} {retc : Option FieldType} {n dc : Nat} {r : Int64} (hx : Ok X cc own nL ret d) (hlk : k_lkV own index ci y bytes maxL retc n) (hs : k_sh b = (ci, k_N ci)) (As rest : List Value) (hst : st = As.reverse ++ .ref (ad b) :: rest) (hn : As.length = n) (hcat : (rest.map fun v => v.category).sum ≤ 8) (hdc : dc + 1 ≤ d) (hM : k_Met (k_lau X) ad dc y bytes maxL retc (.ref (ad b) :: As) I L (fun v I' L' => v = some (.long r) ∧ I' = I1 ∧ L' = L1)) (hd : decode cc pc = .ok (.invokevirtual index, 3)) (k : J X ad nL I1 L1 (pc + 3) lv (.long r :: rest)) : J X ad nL I L pc lv st := J_callV0 hx hlk hs As rest hst hn hcat hdc hM hd k
theorem J_callSl {X : k_C} {ad : Nat → Nat} {cc : ByteArray} {own : String} {nL : Nat} {ret : Option FieldType} {d : Nat} {I I1 : StI} {L L1 : StL} {pc : Nat} {lv : List (Nat × Value)} {st : List Value} {index : Nat} {y : MethodName} {bytes : ByteArray} {maxL : Nat} {retc : Option FieldType} {n dc : Nat} {r : Int64} (hx : Ok X cc own nL ret d) (hlk : k_lkS own index y bytes maxL retc n) (As rest : List Value) (hst : st = As.reverse ++ rest) (hn : As.length = n) (hcat : (rest.map fun v => v.category).sum ≤ 8) (hdc : dc + 1 ≤ d) (hM : k_Met (k_lau X) ad dc y bytes maxL retc As I L (fun v I' L' => v = some (.long r) ∧ I' = I1 ∧ L' = L1)) (hd : decode cc pc = .ok (.invokestatic index, 3)) (k : J X ad nL I1 L1 (pc + 3) lv (.long r :: rest)) : J X ad nL I L pc lv st := J_callS0 hx hlk As rest hst hn hcat hdc hM hd k
theorem J_callVv {X : k_C} {ad : Nat → Nat} {cc : ByteArray} {own : String} {nL : Nat} {ret : Option FieldType} {d : Nat} {I I1 : StI} {L L1 : StL} {pc : Nat} {lv : List (Nat × Value)} {st : List Value} {index ci b : Nat} {y : MethodName} {bytes : ByteArray} {maxL : Nat} {retc : Option FieldType} {n dc : Nat}  (hx : Ok X cc own nL ret d) (hlk : k_lkV own index ci y bytes maxL retc n) (hs : k_sh b = (ci, k_N ci)) (As rest : List Value) (hst : st = As.reverse ++ .ref (ad b) :: rest) (hn : As.length = n) (hcat : (rest.map fun v => v.category).sum ≤ 8) (hdc : dc + 1 ≤ d) (hM : k_Met (k_lau X) ad dc y bytes maxL retc (.ref (ad b) :: As) I L (fun v I' L' => v = none ∧ I' = I1 ∧ L' = L1)) (hd : decode cc pc = .ok (.invokevirtual index, 3)) (k : J X ad nL I1 L1 (pc + 3) lv rest) : J X ad nL I L pc lv st := J_callV0 hx hlk hs As rest hst hn hcat hdc hM hd k
theorem J_callSv {X : k_C} {ad : Nat → Nat} {cc : ByteArray} {own : String} {nL : Nat} {ret : Option FieldType} {d : Nat} {I I1 : StI} {L L1 : StL} {pc : Nat} {lv : List (Nat × Value)} {st : List Value} {index : Nat} {y : MethodName} {bytes : ByteArray} {maxL : Nat} {retc : Option FieldType} {n dc : Nat}  (hx : Ok X cc own nL ret d) (hlk : k_lkS own index y bytes maxL retc n) (As rest : List Value) (hst : st = As.reverse ++ rest) (hn : As.length = n) (hcat : (rest.map fun v => v.category).sum ≤ 8) (hdc : dc + 1 ≤ d) (hM : k_Met (k_lau X) ad dc y bytes maxL retc As I L (fun v I' L' => v = none ∧ I' = I1 ∧ L' = L1)) (hd : decode cc pc = .ok (.invokestatic index, 3)) (k : J X ad nL I1 L1 (pc + 3) lv rest) : J X ad nL I L pc lv st := J_callS0 hx hlk As rest hst hn hcat hdc hM hd k
theorem k_eqI {x : Int32} {z : Int} (h : x.toInt = z) : x = Int32.ofInt z := by
  rw [← h, Int32.ofInt_toInt]
theorem J_tDef {X : k_C} {ad : Nat → Nat} {cc : ByteArray} {own : String} {nL : Nat} {ret : Option FieldType} {d : Nat} {I : StI} {L : StL} {pc : Nat} {lv : List (Nat × Value)} {st : List Value} {dflt lo hi : Int} {offs : Array Int} {len : Nat} {x : Int32} (hx : Ok X cc own nL ret d) (hd : decode cc pc = .ok (.tableswitch dflt lo hi offs, len)) (ex : List Int32) (hne : ∀ v ∈ ex, ¬ x = v) (hsz : hi - lo + 1 = (offs.size : Int)) (hg : ∀ k : Nat, k < offs.size → (offs[k]? = some dflt ∨ Int32.ofInt (lo + k) ∈ ex)) (tgt : Nat) (ht : (pc : Int) + dflt = (tgt : Int)) (k : J X ad nL I L tgt lv st) : J X ad nL I L pc lv (.int x :: st) := by
  by_cases h1 : x.toInt < lo ∨ hi < x.toInt
  · exact J_tOut hx hd h1 tgt ht k
  · have h2 : ¬ x.toInt < lo := fun z => h1 (Or.inl z)
    have h3 : ¬ hi < x.toInt := fun z => h1 (Or.inr z)
    rcases hg (x.toInt - lo).toNat (by omega) with h4 | h4
    · exact J_tIn hx hd rfl h2 h3 h4 tgt ht k
    · exact absurd (k_eqI (by omega)) (hne _ h4)
