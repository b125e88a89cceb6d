theorem arrOfT_kind {U : State} {cA comp : ClassId} {kA : Class} {ty : FieldType} (h1 : U.vm.classes[cA]? = some kA) (h2 : kA.kind = .array comp ty) : ArrOfT U cA ty := fun n z => ⟨fun x => by simp [arrV], kA, h1, comp, h2⟩
theorem kc_D {A : Nat → Prop} {h : Nat} {w : va_W} (ha : ∀ k (x : Nat × va_E), w[k]? = some x → x.1 = h + k) (hA : ∀ q, h ≤ q → A q) : va_D A w := by
  refine ⟨fun i j p q hi hj e => ?_, fun k q hk => ?_⟩
  · have h1 := ha i p hi
    have h2 := ha j q hj
    omega
  · rw [ha k q hk]
    exact hA _ (by omega)
theorem JC_multi {X : kc_C} {cc : ByteArray} {own : String} {nL : Nat} {ret : Option FieldType} {d : Nat} {ws : va_W} {tys : kc_Y} {cells slots mc ms : Nat} {pc : Nat} {lv : List (Nat × Value)} {st : List Value} {index N M : Nat} {ty : FieldType} {n k : Int32} {z : vp_A} (hx : OkC X cc own nL ret d mc ms) (hty : ty = .int ∨ ty = .byte) (hcl0 : Cond.classLink own index ("[" ++ (FieldType.array ty).toString) ∈ k_tbl) (harr : Cond.arrayClass ty ∈ k_tbl) (hN : n.toNatClampNeg = N) (hM : k.toNatClampNeg = M) (hn : ¬ n < 0) (hk : ¬ k < 0) (hb1 : N * 4 ≤ 536870912) (hb2 : M * componentBytes ty ≤ 536870912) (hb3 : M ≤ 536870912) (hz : ∀ c : ClassId, mi c M (defaultValue ty) = vp_cell c z) (hc : cells + (1 + N) ≤ mc) (hs : slots + (N + N * M) ≤ ms) (hd : decode cc pc = .ok (.multianewarray index 2, 4))
    (kk : ∀ (h : Nat) (cA comp : ClassId), JC X nL (ws ++ ((h, .inl (cA, N, .inr (.inr (.inr (.inr (fun i => if i < N then some (h + 1 + i) else none)))))) :: (List.range N).map (fun i => (h + 1 + i, .inl (comp, z))))) (tys ++ [(cA, .array ty), (comp, ty)]) (cells + 1 + N) (slots + N + N * M) (pc + 4) lv (.ref h :: st)) : JC X nL ws tys cells slots pc lv (.int k :: .int n :: st) := by
  obtain ⟨p, l, e, R, s, m, args, below, meth, c, Q, D, A⟩ := X
  obtain ⟨hexec, hb, hml, hown, hts, hlk, hr, hA, hT, hcl, hsl, hfr, hlo⟩ := hx
  intro H locs ls hP hD hS hK hl
  have hAA : kc_AA ty s := by
    rcases hty with rfl | rfl
    · exact hT.1
    · exact hT.2.1
  refine W_multi (ty := ty) hexec hb hown (hts _ hcl0) hAA (hts _ harr) rfl hd hN hM rfl hn hk hb1 hb2 hb3 (by rcases hty with rfl | rfl <;> rfl) (Nat.le_trans hc hcl) (Nat.le_trans hs hsl) (fun cA comp kA kC c2 H1 locs1 f1 f2 f3 f4 f5 f6 hsz hout hold hinn hlocs => ?_)
  have hAq : ∀ q, H.size ≤ q → A q := fun q hq => hA q (Nat.le_trans hS.1 hq)
  refine kk H.size cA comp H1 locs1 ls ?_ ?_ ?_ ?_ hl
  · refine (hP.kept (fun k x hx => hold x.1 ((hP k x hx).lt))).app (fun k x hx => ?_)
    match k, hx with
    | 0, hx =>
      cases hx
      exact hout
    | k + 1, hx =>
      rw [List.getElem?_cons_succ, List.getElem?_map] at hx
      by_cases hkN : k < N
      · rw [List.getElem?_range hkN] at hx
        cases hx
        show H1[H.size + 1 + k]? = _
        rw [hinn k hkN, hz]
      · rw [List.getElem?_eq_none (by rw [List.length_range]; omega)] at hx
        cases hx
  · have key : ∀ k (x : Nat × va_E), (((H.size, .inl (cA, N, .inr (.inr (.inr (.inr (fun i => if i < N then some (H.size + 1 + i) else none)))))) :: (List.range N).map (fun i => (H.size + 1 + i, .inl (comp, z)))) : va_W)[k]? = some x → x.1 = H.size + k := by
      intro k x hx
      match k, hx with
      | 0, hx =>
        cases hx
        rfl
      | k + 1, hx =>
        rw [List.getElem?_cons_succ, List.getElem?_map] at hx
        by_cases hkN : k < N
        · rw [List.getElem?_range hkN] at hx
          cases hx
          show H.size + 1 + k = H.size + (k + 1)
          omega
        · rw [List.getElem?_eq_none (by rw [List.length_range]; omega)] at hx
          cases hx
    refine hD.app (kc_D key hAq) (fun i j p q hi hj => ?_)
    have h1 := (hP i p hi).lt
    have h2 := key j q hj
    omega
  · refine ⟨Nat.le_trans hS.1 (by omega), fun q h1 h2 => (hold q (Nat.lt_of_lt_of_le h1 hS.1)).trans (hS.2.1 q h1 h2), fun q hq => ?_⟩
    rcases hlocs q hq with h | h
    · exact hS.2.2 q h
    · rw [h]
      exact hAq _ (Nat.le_refl _)
  · refine hK.app ⟨hK.1, fun k q hk => ?_⟩
    match k, hk with
    | 0, hk =>
      cases hk
      exact ⟨arrOfT_kind f3 f4, f1⟩
    | 1, hk =>
      cases hk
      refine ⟨arrOfT_kind f5 f6, ?_⟩
      rcases hty with rfl | rfl
      · exact f2
      · exact f2
    | n + 2, hk => simp at hk
/-! contracts of constructors -/
def kc_Pre (D : va_G) (h0 ci : Nat) (fs0 : List Value) (sz : Nat) (U : State) : Prop := U.heap.size = sz ∧ kc_T U ∧ va_K D vwCl [] U ∧ va_P D vwCl [(h0, .inr (ci, fs0))] U.heap ∧ va_D (fun _ => True) [(h0, .inr (ci, fs0))]
def kc_Q (D : va_G) (post : va_W → kc_Y → Prop) (A : Nat → Prop) : Array Value → State → Outcome → State → Prop := fun _ st oc t =>
  (∃ (ws : va_W) (tys : kc_Y), oc = .returned none ∧ post ws tys ∧ va_K D vwCl tys t ∧ va_P D vwCl ws t.heap ∧ va_D A ws) ∧ va_F A st t
def kc_rm (d mc ms : Nat) : Room := { frames := d, cells := mc, slots := ms, locals := 40 * d }
def kc_Met (l : Launch) (d mc ms : Nat) (y : MethodName) (cc : ByteArray) (maxL h0 ci : Nat) (fs0 : List Value) (post : va_W → kc_Y → Prop) : Prop :=
  ∀ (D : va_G) (sz : Nat), Met l y (.code y cc maxL none :: k_tbl) (kc_rm d mc ms) (va_Pc [.ref h0] (kc_Pre D h0 ci fs0 sz)) (kc_Q D post (va_A [(h0, .inr (ci, fs0))] sz)) mc ms (va_A [(h0, .inr (ci, fs0))] sz)
def kc_OkQ (X : kc_C) (post : va_W → kc_Y → Prop) (mc ms : Nat) : Prop := match X with
  | (_, _, _, _, s, _, args, below, _, _, Q, D, A) => Q = MQ below (kc_Q D post A) args s mc ms A
theorem kc_enter {l : Launch} {d mc ms : Nat} {y : MethodName} {cc : ByteArray} {maxL h0 ci : Nat} {fs0 : List Value} {post : va_W → kc_Y → Prop} (hy : plainFor y = true) (hy2 : y.name = "<init>") (hn : 1 ≤ maxL) (body : ∀ X : kc_C, kc_lau X = l → OkC X cc y.cls maxL none d mc ms → kc_ini X → kc_OkQ X post mc ms → JC X maxL [(h0, .inr (ci, fs0))] [] 0 0 0 [(0, .ref h0)] []) : kc_Met l d mc ms y cc maxL h0 ci fs0 post := by
  intro D sz
  refine k_ofW (cc := cc) (maxL := maxL) (ret := none) hy rfl ?_
  intro p e s m args below meth c s₁ B hml hv
  obtain ⟨rfl, hsz, hT, hK, hP, hD0⟩ := hv
  subst hsz
  have hD := hD0.self (sz := s.heap.size)
  have hts := atoms_spec (ws := .code y cc maxL none :: k_tbl) B.pre
  have hA0 : ∀ q : Nat, s.heap.size ≤ q → va_A [(h0, .inr (ci, fs0))] s.heap.size q := fun q h => Or.inr h
  generalize va_A [(h0, .inr (ci, fs0))] s.heap.size = A at hD hA0 ⊢
  have h := body (p, l, e, (headSpec (.code y cc maxL none :: k_tbl) (kc_rm d mc ms)).room, s, m, ([.ref h0] : List Value).toArray, below, meth, c, MQ below (kc_Q D post A) ([.ref h0] : List Value).toArray s mc ms A, D, A) rfl
    ⟨B.exec, B.bytes, hml, findClass_of_methodNamed B.named, fun w hw => hts w (List.mem_cons_of_mem _ hw), B.notSynchronized, B.returns, hA0, hT, Nat.le_refl _, Nat.le_refl _, Nat.le_refl _, Nat.le_refl _⟩ ((name_of_methodNamed B.named B.method).1.trans hy2) rfl
  have hl := lv_entry ([.ref h0] : List Value) (n := maxL) hn
  rw [lg_entry_eq]
  exact h s.heap [] _ hP hD va_S.rf hK hl
theorem JC_vret {X : kc_C} {cc : ByteArray} {own : String} {nL : Nat} {d : Nat} {ws : va_W} {tys : kc_Y} {mc ms mX sX : Nat} {pc : Nat} {lv : List (Nat × Value)} {post : va_W → kc_Y → Prop} (hx : OkC X cc own nL none d mX sX) (hQ : kc_OkQ X post mc ms) (hd : decode cc pc = .ok (.return_, 1)) (h : post ws tys) : JC X nL ws tys mc ms pc lv [] := by
  obtain ⟨p, l, e, R, s, m, args, below, meth, c, Q, D, A⟩ := X
  obtain ⟨hexec, hb, hml, hown, hts, hlk, hr, hA, hT, hcl, hsl, hfr, hlo⟩ := hx
  intro H locs ls hP hD hS hK hl
  unfold kc_OkQ at hQ
  subst hQ
  exact W.vret hexec hb hr (fun t ht hw => ⟨⟨ws, tys, rfl, h, va_K.moved hw.alike hK, by rw [ht]; exact hP, hD⟩, hS.F ht⟩) hS.2.2 hd
theorem va_P_l {D : va_G} {cl : List vw_C} {w1 w2 : va_W} {H : Heap} (h : va_P D cl (w1 ++ w2) H) : va_P D cl w1 H := fun k q hk => by
  obtain ⟨i, hi⟩ := List.getElem?_of_mem (List.mem_append_left w2 (List.mem_of_getElem? hk))
  exact h i q hi
theorem va_P_r {D : va_G} {cl : List vw_C} {w1 w2 : va_W} {H : Heap} (h : va_P D cl (w1 ++ w2) H) : va_P D cl w2 H := fun k q hk => by
  obtain ⟨i, hi⟩ := List.getElem?_of_mem (List.mem_append_right w1 (List.mem_of_getElem? hk))
  exact h i q hi
theorem va_D_l {A : Nat → Prop} {w1 w2 : va_W} (h : va_D A (w1 ++ w2)) : va_D A w1 := by
  have key : ∀ k (x : Nat × va_E), w1[k]? = some x → (w1 ++ w2)[k]? = some x := fun k x hx => by
    rw [List.getElem?_append_left (List.getElem?_eq_some_iff.mp hx).1]
    exact hx
  exact ⟨fun i j p q hi hj e => h.1 i j p q (key i p hi) (key j q hj) e, fun k q hk => h.2 k q (key k q hk)⟩
section KCB
variable {p : Program} {l : Launch} {e : Env} {R : Room} {s : State} {m : MethodId} {args : Array Value} {below : List Frame} {meth : Method} {c : Code} {H : Heap} {locs : List Loc} {Q : State → Prop} {D : va_G} {A : Nat → Prop} {cells slots : Nat}
theorem kc_back {ws : va_W} {tys : kc_Y} {nL pc q ci mc ms : Nat} {fs0 : List Value} {lv : List (Nat × Value)} {ls : Array Slot} {st rest : List Value} {a : Array Value} {post : va_W → kc_Y → Prop} (hA : ∀ q, s.heap.size ≤ q → A q) (hP : va_P D vwCl (ws ++ [(q, .inr (ci, fs0))]) H) (hD : va_D A (ws ++ [(q, .inr (ci, fs0))])) (hS : va_S A s.heap H locs) (hK : va_K D vwCl tys s) (hl : lv_has ls nL lv)
    (hr : va_Run p l e R s m args below meth c H locs cells slots mc ms (F0 m pc ls st) rest (kc_Q D post (va_A [(q, .inr (ci, fs0))] H.size) a) (va_A [(q, .inr (ci, fs0))] H.size))
    (k : ∀ w1 t1, post w1 t1 → JC (p, l, e, R, s, m, args, below, meth, c, Q, D, A) nL (ws ++ w1) (tys ++ t1) (cells + mc) (slots + ms) (pc + 3) lv rest) : W p l e R s m args below meth c H locs cells slots Q (F0 m pc ls st) := by
  intro T hT XX
  obtain ⟨v, st₀, t, T', L', h0, X', hL, e1, e2, ⟨⟨w1, t1, hv, hpost, hK1, hP1, hD1⟩, hz, hk⟩, stp⟩ := hr T hT XX
  cases hv
  rw [h0] at hz hk
  have hqA : A q := hD.2 ws.length (q, .inr (ci, fs0)) (by rw [List.getElem?_append_right (Nat.le_refl _), Nat.sub_self]; rfl)
  have hF : ∀ x, va_A [(q, .inr (ci, fs0))] H.size x → A x := by
    rintro x (⟨i, e, h⟩ | h)
    · match i, h with
      | 0, h => cases h; exact hqA
      | i + 1, h => simp at h
    · exact hA x (Nat.le_trans hS.1 h)
  have hne : ∀ (i : Nat) (x : Nat × va_E), ws[i]? = some x → x.1 ≠ q := by
    intro i x hi he
    have hlt := (List.getElem?_eq_some_iff.mp hi).1
    have := hD.1 i ws.length x (q, .inr (ci, fs0)) (by rw [List.getElem?_append_left hlt]; exact hi) (by rw [List.getElem?_append_right (Nat.le_refl _), Nat.sub_self]; rfl) he
    omega
  have hlt : ∀ (i : Nat) (x : Nat × va_E), ws[i]? = some x → x.1 < H.size := fun i x hi => (va_P_l hP i x hi).lt
  have hnot : ∀ (i : Nat) (x : Nat × va_E), ws[i]? = some x → ¬ va_A [(q, .inr (ci, fs0))] H.size x.1 := by
    rintro i x hi (⟨j, e, h⟩ | h)
    · match j, h with
      | 0, h => exact hne i x hi (congrArg Prod.fst (Option.some.inj h)).symm
      | j + 1, h => simp at h
    · have := hlt i x hi
      omega
  have hS' : va_S A s.heap T'.heap (locs ++ L') := ⟨Nat.le_trans hS.1 (by rw [e1]; exact hz), fun x h1 h2 => by rw [e1, hk x (Nat.lt_of_lt_of_le h1 hS.1) (fun z => h2 (hF x z))]; exact hS.2.1 x h1 h2, fun x hx => by
      rcases List.mem_append.mp hx with h | h
      · exact hS.2.2 x h
      · exact hF _ (hL x h)⟩
  have hPn : va_P D vwCl (ws ++ w1) T'.heap := ((va_P_l hP).kept (fun i x hi => by rw [e1]; exact hk x.1 (hlt i x hi) (hnot i x hi))).app (by rw [e1]; exact hP1)
  have hDn : va_D A (ws ++ w1) := (va_D_l hD).app (hD1.weaken (fun _ _ _ z => hF _ z)) (fun i j x y hi hj he => hnot i x hi (by rw [he]; exact hD1.2 j y hj))
  have hKn : va_K D vwCl (tys ++ t1) s := hK.app (va_K.moved (by rw [← e2]; exact X'.warmed.alike.symm) hK1)
  obtain ⟨t2, a1, b1⟩ := k w1 t1 hpost T'.heap (locs ++ L') ls hPn hDn hS' hKn hl T' rfl X'
  exact ⟨t2, stp t2 a1, b1⟩
end KCB
theorem kc_blind {D : va_G} {h0 ci sz : Nat} {fs0 : List Value} : FrameBlind (va_Pc [.ref h0] (kc_Pre D h0 ci fs0 sz)) := by
  intro a U g mk q
  obtain ⟨q0, q1, qT, qK, qP, qD⟩ := q
  exact ⟨q0, q1, kc_T.same rfl qT, va_K.moved (u := U) (U := U.calling g mk a) (Vm.Alike.refl U.vm) qK, qP, qD⟩
def kc_lk (index : Nat) (own : String) (y : MethodName) (bytes : ByteArray) (maxL : Nat) : Prop := Cond.methodLink own index y ∈ k_tbl ∧ Cond.initialized y.cls ∈ k_tbl ∧ Cond.code y bytes maxL none ∈ k_tbl ∧ Cond.instanceMethod y ∈ k_tbl ∧ (y.cls ≠ "java/lang/invoke/MethodHandle" ∧ y.cls ≠ "java/lang/invoke/VarHandle" ∧ (parseMethodDescriptor y.desc).map (fun d => d.parameters.length) = some 0) ∧ maxL ≤ 21 ∧ y.name = "<init>"
def kc_lkN (y : MethodName) (bytes : ByteArray) (maxL : Nat) : Prop := Cond.initialized y.cls ∈ k_tbl ∧ Cond.code y bytes maxL none ∈ k_tbl ∧ Cond.instanceMethod y ∈ k_tbl ∧ (y.cls ≠ "java/lang/invoke/MethodHandle" ∧ y.cls ≠ "java/lang/invoke/VarHandle" ∧ (parseMethodDescriptor y.desc).map (fun d => d.parameters.length) = some 0) ∧ maxL ≤ 21 ∧ y.name = "<init>"
theorem JC_init {X : kc_C} {cc : ByteArray} {own : String} {nL : Nat} {ret : Option FieldType} {d : Nat} {ws : va_W} {tys : kc_Y} {cells slots mc ms mX sX : Nat} {pc : Nat} {lv : List (Nat × Value)} {rest : List Value} {index q ci dc maxL : Nat} {y : MethodName} {bytes : ByteArray} {fs0 : List Value} {post : va_W → kc_Y → Prop} (hx : OkC X cc own nL ret d mX sX) (hlk : kc_lk index own y bytes maxL) (hM : kc_Met (kc_lau X) dc mc ms y bytes maxL q ci fs0 post) (hdc : dc + 1 ≤ d) (hcat : (rest.map fun v => v.category).sum ≤ 8) (hc : cells + mc ≤ mX) (hs : slots + ms ≤ sX) (hmc : mc ≤ mX) (hms : ms ≤ sX) (hd : decode cc pc = .ok (.invokespecial index, 3))
    (kk : ∀ w1 t1, post w1 t1 → JC X nL (ws ++ w1) (tys ++ t1) (cells + mc) (slots + ms) (pc + 3) lv rest) : JC X nL (ws ++ [(q, .inr (ci, fs0))]) tys cells slots pc lv (.ref q :: rest) := by
  obtain ⟨p, l, e, R, s, m, args, below, meth, c, Q, D, A⟩ := X
  obtain ⟨hexec, hb, hml, hown, hts, hlo', hr, hA, hT, hcl, hsl, hfr, hlo⟩ := hx
  intro H locs ls hP hD hS hK hl
  obtain ⟨k1, k2, k3, k4, k5, k6, k7⟩ := hlk
  have cw : CallB R s args own index y bytes maxL none (.code y bytes maxL none :: k_tbl) (kc_rm dc mc ms) mc ms 0 := by
    refine callB_of 0 hts (k_goodIn k3) rfl rfl rfl (hts _ k2) (hts _ k1) k5 ⟨?_, ?_⟩
    · show dc + 1 ≤ R.frames
      omega
    · show 8 + (maxL + 11) + 40 * dc ≤ R.locals
      omega
  refine kc_back hA hP hD hS hK hl (va_runI (As := []) (rest := rest) (Ts := k_tbl) ⟨hexec, hb, hml, hown, hts⟩ (hM D H.size) ⟨cw, k7, hts _ k4⟩ ⟨kc_blind, fun U hU hw => ⟨rfl, by rw [hU], kc_T.warm hw hT, va_K.moved hw.alike ⟨hK.1, fun k q h => by simp at h⟩, by rw [hU]; exact va_P_r hP, ⟨fun i j x y hi hj _ => ?_, fun _ _ _ => trivial⟩⟩⟩ rfl rfl hl.1 rfl (by simpa [JFrame.monitorRoom] using hcat) hd ⟨Nat.le_trans hc hcl, Nat.le_trans hs hsl⟩) kk
  have h1 : i < 1 := (List.getElem?_eq_some_iff.mp hi).1
  have h2 : j < 1 := (List.getElem?_eq_some_iff.mp hj).1
  omega
theorem JC_initN {X : kc_C} {cc : ByteArray} {own host : String} {nL : Nat} {ret : Option FieldType} {d : Nat} {ws : va_W} {tys : kc_Y} {cells slots mc ms mX sX : Nat} {pc : Nat} {lv : List (Nat × Value)} {rest : List Value} {index q ci dc maxL : Nat} {y : MethodName} {bytes : ByteArray} {fs0 : List Value} {post : va_W → kc_Y → Prop} (hx : OkC X cc own nL ret d mX sX) (hn : ∀ U, kc_T U → va_Nw (.methodLinkNest own index y host) U) (hlk : kc_lkN y bytes maxL) (hM : kc_Met (kc_lau X) dc mc ms y bytes maxL q ci fs0 post) (hdc : dc + 1 ≤ d) (hcat : (rest.map fun v => v.category).sum ≤ 8) (hc : cells + mc ≤ mX) (hs : slots + ms ≤ sX) (hd : decode cc pc = .ok (.invokespecial index, 3))
    (kk : ∀ w1 t1, post w1 t1 → JC X nL (ws ++ w1) (tys ++ t1) (cells + mc) (slots + ms) (pc + 3) lv rest) : JC X nL (ws ++ [(q, .inr (ci, fs0))]) tys cells slots pc lv (.ref q :: rest) := by
  obtain ⟨p, l, e, R, s, m, args, below, meth, c, Q, D, A⟩ := X
  obtain ⟨hexec, hb, hml, hown, hts, hlo', hr, hA, hT, hcl, hsl, hfr, hlo⟩ := hx
  intro H locs ls hP hD hS hK hl
  obtain ⟨k2, k3, k4, k5, k6, k7⟩ := hlk
  have cw : va_CN R s args own index y host bytes maxL none (.code y bytes maxL none :: k_tbl) (kc_rm dc mc ms) mc ms 0 := by
    refine va_cnB 0 hts (k_goodIn k3) rfl rfl rfl (hn s hT) (hts _ k2) k5 ⟨?_, ?_⟩
    · show dc + 1 ≤ R.frames
      omega
    · show 8 + (maxL + 11) + 40 * dc ≤ R.locals
      omega
  refine kc_back hA hP hD hS hK hl (va_runIN (As := []) (rest := rest) (Ts := k_tbl) ⟨hexec, hb, hml, hown, hts⟩ (hM D H.size) ⟨cw, k7, hts _ k4⟩ ⟨kc_blind, fun U hU hw => ⟨rfl, by rw [hU], kc_T.warm hw hT, va_K.moved hw.alike ⟨hK.1, fun k q h => by simp at h⟩, by rw [hU]; exact va_P_r hP, ⟨fun i j x y hi hj _ => ?_, fun _ _ _ => trivial⟩⟩⟩ rfl rfl hl.1 rfl (by simpa [JFrame.monitorRoom] using hcat) hd ⟨Nat.le_trans hc hcl, Nat.le_trans hs hsl⟩) kk
  have h1 : i < 1 := (List.getElem?_eq_some_iff.mp hi).1
  have h2 : j < 1 := (List.getElem?_eq_some_iff.mp hj).1
  omega
