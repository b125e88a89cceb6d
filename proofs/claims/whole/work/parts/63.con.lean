/-! constructors: worlds that grow -/
def kc_T (U : State) : Prop := kc_AA .int U ∧ kc_AA .byte U ∧ va_AO "TripCalls$Caller" U ∧ va_AO "TripCalls$Deeds" U ∧ va_Nw (.methodLinkNest RX3 17 yX0_init RX4) U ∧ va_Nw (.methodLinkNest RX4 41 yX2_init RX4) U ∧ va_Nw (.methodLinkNest RX4 69 yX1_init RX4) U
theorem kc_T.warm {s U : State} (hW : s.WarmedH U.vm) (h : kc_T s) : kc_T U := ⟨h.1.moved hW.alike, h.2.1.moved hW.alike, h.2.2.1.moved hW.alike, h.2.2.2.1.moved hW.alike, va_Nw.warmM hW h.2.2.2.2.1, va_Nw.warmM hW h.2.2.2.2.2.1, va_Nw.warmM hW h.2.2.2.2.2.2⟩
theorem kc_T.same {u U : State} (hW : u.vm = U.vm) (h : kc_T u) : kc_T U := by
  have ha : u.vm.Alike U.vm := by rw [hW]; exact Vm.Alike.refl _
  exact ⟨h.1.moved ha, h.2.1.moved ha, h.2.2.1.moved ha, h.2.2.2.1.moved ha, va_Nw.same rfl hW h.2.2.2.2.1, va_Nw.same rfl hW h.2.2.2.2.2.1, va_Nw.same rfl hW h.2.2.2.2.2.2⟩
abbrev kc_C : Type := Program × Launch × Env × Room × State × MethodId × Array Value × List Frame × Method × Code × (State → Prop) × va_G × (Nat → Prop)
abbrev kc_Y : Type := List (ClassId × FieldType)
def JC (X : kc_C) (nL : Nat) (ws : va_W) (tys : kc_Y) (cells slots pc : Nat) (lv : List (Nat × Value)) (st : List Value) : Prop := match X with
  | (p, l, e, R, s, m, args, below, meth, c, Q, D, A) => ∀ (H : Heap) (locs : List Loc) (ls : Array Slot), va_P D vwCl ws H → va_D A ws → va_S A s.heap H locs → va_K D vwCl tys s → lv_has ls nL lv → W p l e R s m args below meth c H locs cells slots Q (F0 m pc ls st)
def OkC (X : kc_C) (cc : ByteArray) (own : String) (nL : Nat) (ret : Option FieldType) (d mc ms : Nat) : Prop := match X with
  | (p, _, _, R, s, m, args, _, meth, c, _, _, A) => p.tables.exec = Jvm.exec ∧ c.code = cc ∧ c.maxLocals = nL ∧ s.vm.findClass own = some m.cls ∧ (∀ w ∈ k_tbl, w.before args s = true) ∧ meth.locks = false ∧ meth.sig.returnType = ret ∧ (∀ q, s.heap.size ≤ q → A q) ∧ kc_T s ∧ mc ≤ R.cells ∧ ms ≤ R.slots ∧ d ≤ R.frames ∧ 40 * d ≤ R.locals
def kc_ini (X : kc_C) : Prop := match X with
  | (_, _, _, _, _, _, _, _, meth, _, _, _, _) => meth.name = "<init>"
def kc_lau (X : kc_C) : Launch := X.2.1
theorem JC_iconst {X : kc_C} {cc : ByteArray} {own : String} {nL : Nat} {ret : Option FieldType} {d : Nat} {ws : va_W} {tys : kc_Y} {cells slots mc ms : Nat} {pc : Nat} {lv : List (Nat × Value)} {st : List Value} {n : Int} {v : Int32} (hx : OkC X cc own nL ret d mc ms) (hd : decode cc pc = .ok (.iconst n, 1)) (hv : Int32.ofInt n = v) (k : JC X nL ws tys cells slots (pc + 1) lv (.int v :: st)) : JC X nL ws tys cells slots pc lv st := by
  obtain ⟨p, l, e, R, s, m, args, below, meth, c, Q, D, A⟩ := X
  obtain ⟨hexec, hb, hml, hown, hts, hlk, hr, hA, hZ, hcl, hsl, hfr, hlo⟩ := hx
  intro H locs ls hP hD hS hK hl
  exact lv_iconst hexec hb hd hv (k H locs ls hP hD hS hK hl)
theorem JC_bipush {X : kc_C} {cc : ByteArray} {own : String} {nL : Nat} {ret : Option FieldType} {d : Nat} {ws : va_W} {tys : kc_Y} {cells slots mc ms : Nat} {pc : Nat} {lv : List (Nat × Value)} {st : List Value} {n : Int} {v : Int32} (hx : OkC X cc own nL ret d mc ms) (hd : decode cc pc = .ok (.bipush n, 2)) (hv : (Int8.ofInt n).toInt32 = v) (k : JC X nL ws tys cells slots (pc + 2) lv (.int v :: st)) : JC X nL ws tys cells slots pc lv st := by
  obtain ⟨p, l, e, R, s, m, args, below, meth, c, Q, D, A⟩ := X
  obtain ⟨hexec, hb, hml, hown, hts, hlk, hr, hA, hZ, hcl, hsl, hfr, hlo⟩ := hx
  intro H locs ls hP hD hS hK hl
  exact lv_bipush hexec hb hd hv (k H locs ls hP hD hS hK hl)
theorem JC_sipush {X : kc_C} {cc : ByteArray} {own : String} {nL : Nat} {ret : Option FieldType} {d : Nat} {ws : va_W} {tys : kc_Y} {cells slots mc ms : Nat} {pc : Nat} {lv : List (Nat × Value)} {st : List Value} {n : Int} {v : Int32} (hx : OkC X cc own nL ret d mc ms) (hd : decode cc pc = .ok (.sipush n, 3)) (hv : (Int16.ofInt n).toInt32 = v) (k : JC X nL ws tys cells slots (pc + 3) lv (.int v :: st)) : JC X nL ws tys cells slots pc lv st := by
  obtain ⟨p, l, e, R, s, m, args, below, meth, c, Q, D, A⟩ := X
  obtain ⟨hexec, hb, hml, hown, hts, hlk, hr, hA, hZ, hcl, hsl, hfr, hlo⟩ := hx
  intro H locs ls hP hD hS hK hl
  exact lv_sipush hexec hb hd hv (k H locs ls hP hD hS hK hl)
theorem JC_lconst {X : kc_C} {cc : ByteArray} {own : String} {nL : Nat} {ret : Option FieldType} {d : Nat} {ws : va_W} {tys : kc_Y} {cells slots mc ms : Nat} {pc : Nat} {lv : List (Nat × Value)} {st : List Value} {n : Fin 2} {v : Int64} (hx : OkC X cc own nL ret d mc ms) (hd : decode cc pc = .ok (.lconst n, 1)) (hv : Int64.ofNat (n : Nat) = v) (k : JC X nL ws tys cells slots (pc + 1) lv (.long v :: st)) : JC X nL ws tys cells slots pc lv st := by
  obtain ⟨p, l, e, R, s, m, args, below, meth, c, Q, D, A⟩ := X
  obtain ⟨hexec, hb, hml, hown, hts, hlk, hr, hA, hZ, hcl, hsl, hfr, hlo⟩ := hx
  intro H locs ls hP hD hS hK hl
  exact lv_lconst hexec hb hd hv (k H locs ls hP hD hS hK hl)
theorem JC_iload_n {X : kc_C} {cc : ByteArray} {own : String} {nL : Nat} {ret : Option FieldType} {d : Nat} {ws : va_W} {tys : kc_Y} {cells slots mc ms : Nat} {pc : Nat} {lv : List (Nat × Value)} {st : List Value} {kf : Fin 4} {x : Int32} (hx : OkC X cc own nL ret d mc ms) (hd : decode cc pc = .ok (.iload_n kf, 1)) (q : Nat) (hq : lv[q]? = some ((kf : Nat), .int x)) (k : JC X nL ws tys cells slots (pc + 1) lv (.int x :: st)) : JC X nL ws tys cells slots pc lv st := by
  obtain ⟨p, l, e, R, s, m, args, below, meth, c, Q, D, A⟩ := X
  obtain ⟨hexec, hb, hml, hown, hts, hlk, hr, hA, hZ, hcl, hsl, hfr, hlo⟩ := hx
  intro H locs ls hP hD hS hK hl
  exact lv_iload_n hexec hb hd rfl (lv_at hl q hq) (k H locs ls hP hD hS hK hl)
theorem JC_aload_n {X : kc_C} {cc : ByteArray} {own : String} {nL : Nat} {ret : Option FieldType} {d : Nat} {ws : va_W} {tys : kc_Y} {cells slots mc ms : Nat} {pc : Nat} {lv : List (Nat × Value)} {st : List Value} {kf : Fin 4} {x : Nat} (hx : OkC X cc own nL ret d mc ms) (hd : decode cc pc = .ok (.aload_n kf, 1)) (q : Nat) (hq : lv[q]? = some ((kf : Nat), .ref x)) (k : JC X nL ws tys cells slots (pc + 1) lv (.ref x :: st)) : JC X nL ws tys cells slots pc lv st := by
  obtain ⟨p, l, e, R, s, m, args, below, meth, c, Q, D, A⟩ := X
  obtain ⟨hexec, hb, hml, hown, hts, hlk, hr, hA, hZ, hcl, hsl, hfr, hlo⟩ := hx
  intro H locs ls hP hD hS hK hl
  exact lv_aload_n hexec hb hd rfl (lv_at hl q hq) (k H locs ls hP hD hS hK hl)
theorem JC_istore_n {X : kc_C} {cc : ByteArray} {own : String} {nL : Nat} {ret : Option FieldType} {d : Nat} {ws : va_W} {tys : kc_Y} {cells slots mc ms : Nat} {pc : Nat} {lv : List (Nat × Value)} {st : List Value} {kf : Fin 4} {x x' : Int32} {lv' : List (Nat × Value)} (hx : OkC X cc own nL ret d mc ms) (hd : decode cc pc = .ok (.istore_n kf, 1)) (hxx : x = x') (hn : (kf : Nat) < nL) (hl2 : ((kf : Nat), Value.int x) :: lv.filter (fun q => !(q.1 == (kf : Nat)) && !(q.1 + 1 == (kf : Nat) && q.2.category == 2)) = lv') (k : JC X nL ws tys cells slots (pc + 1) lv' st) : JC X nL ws tys cells slots pc lv (.int x' :: st) := by
  obtain ⟨p, l, e, R, s, m, args, below, meth, c, Q, D, A⟩ := X
  obtain ⟨hexec, hb, hml, hown, hts, hlk, hr, hA, hZ, hcl, hsl, hfr, hlo⟩ := hx
  intro H locs ls hP hD hS hK hl
  subst hxx
  exact lv_istore_n hexec hb hd rfl hl hn hl2 (fun ls' hl' => k H locs ls' hP hD hS hK hl')
theorem JC_astore_n {X : kc_C} {cc : ByteArray} {own : String} {nL : Nat} {ret : Option FieldType} {d : Nat} {ws : va_W} {tys : kc_Y} {cells slots mc ms : Nat} {pc : Nat} {lv : List (Nat × Value)} {st : List Value} {kf : Fin 4} {x x' : Nat} {lv' : List (Nat × Value)} (hx : OkC X cc own nL ret d mc ms) (hd : decode cc pc = .ok (.astore_n kf, 1)) (hxx : x = x') (hn : (kf : Nat) < nL) (hl2 : ((kf : Nat), Value.ref x) :: lv.filter (fun q => !(q.1 == (kf : Nat)) && !(q.1 + 1 == (kf : Nat) && q.2.category == 2)) = lv') (k : JC X nL ws tys cells slots (pc + 1) lv' st) : JC X nL ws tys cells slots pc lv (.ref x' :: st) := by
  obtain ⟨p, l, e, R, s, m, args, below, meth, c, Q, D, A⟩ := X
  obtain ⟨hexec, hb, hml, hown, hts, hlk, hr, hA, hZ, hcl, hsl, hfr, hlo⟩ := hx
  intro H locs ls hP hD hS hK hl
  subst hxx
  exact lv_astore_n hexec hb hd rfl hl hn hl2 (fun ls' hl' => k H locs ls' hP hD hS hK hl')
theorem JC_iinc {X : kc_C} {cc : ByteArray} {own : String} {nL : Nat} {ret : Option FieldType} {d : Nat} {ws : va_W} {tys : kc_Y} {cells slots mc ms : Nat} {pc : Nat} {lv : List (Nat × Value)} {st : List Value} {i : Nat} {n : Int} {x x' : Int32} {lv' : List (Nat × Value)} (hx : OkC X cc own nL ret d mc ms) (hd : decode cc pc = .ok (.iinc i n, 3)) (q : Nat) (hq : lv[q]? = some (i, .int x')) (hv : x' + Int32.ofInt n = x) (hn : i < nL) (hl2 : (i, Value.int x) :: lv.filter (fun q => !(q.1 == i) && !(q.1 + 1 == i && q.2.category == 2)) = lv') (k : JC X nL ws tys cells slots (pc + 3) lv' st) : JC X nL ws tys cells slots pc lv st := by
  obtain ⟨p, l, e, R, s, m, args, below, meth, c, Q, D, A⟩ := X
  obtain ⟨hexec, hb, hml, hown, hts, hlk, hr, hA, hZ, hcl, hsl, hfr, hlo⟩ := hx
  intro H locs ls hP hD hS hK hl
  exact lv_iinc hexec hb hd hl hq hv hn hl2 (fun ls' hl' => k H locs ls' hP hD hS hK hl')
theorem JC_dup {X : kc_C} {cc : ByteArray} {own : String} {nL : Nat} {ret : Option FieldType} {d : Nat} {ws : va_W} {tys : kc_Y} {cells slots mc ms : Nat} {pc : Nat} {lv : List (Nat × Value)} {st : List Value} {v : Value} (hx : OkC X cc own nL ret d mc ms) (hd : decode cc pc = .ok (.dup, 1)) (hc : v.category = 1) (k : JC X nL ws tys cells slots (pc + 1) lv (v :: v :: st)) : JC X nL ws tys cells slots pc lv (v :: st) := by
  obtain ⟨p, l, e, R, s, m, args, below, meth, c, Q, D, A⟩ := X
  obtain ⟨hexec, hb, hml, hown, hts, hlk, hr, hA, hZ, hcl, hsl, hfr, hlo⟩ := hx
  intro H locs ls hP hD hS hK hl
  exact lv_dup hexec hb hd hc (k H locs ls hP hD hS hK hl)
theorem JC_goto {X : kc_C} {cc : ByteArray} {own : String} {nL : Nat} {ret : Option FieldType} {d : Nat} {ws : va_W} {tys : kc_Y} {cells slots mc ms : Nat} {pc : Nat} {lv : List (Nat × Value)} {st : List Value} {off : Int} (hx : OkC X cc own nL ret d mc ms) (hd : decode cc pc = .ok (.goto off, 3)) (tgt : Nat) (ht : (pc : Int) + off = (tgt : Int)) (k : JC X nL ws tys cells slots tgt lv st) : JC X nL ws tys cells slots pc lv st := by
  obtain ⟨p, l, e, R, s, m, args, below, meth, c, Q, D, A⟩ := X
  obtain ⟨hexec, hb, hml, hown, hts, hlk, hr, hA, hZ, hcl, hsl, hfr, hlo⟩ := hx
  intro H locs ls hP hD hS hK hl
  exact lv_goto hexec hb hd ht (k H locs ls hP hD hS hK hl)
theorem JC_ic_ge {X : kc_C} {cc : ByteArray} {own : String} {nL : Nat} {ret : Option FieldType} {d : Nat} {ws : va_W} {tys : kc_Y} {cells slots mc ms : Nat} {pc : Nat} {lv : List (Nat × Value)} {st : List Value} {x y : Int32} {off : Int} (hx : OkC X cc own nL ret d mc ms) (hd : decode cc pc = .ok (.if_icmp .ge off, 3)) (tgt : Nat) (ht : (pc : Int) + off = (tgt : Int)) (kt : y ≤ x → JC X nL ws tys cells slots tgt lv st) (kf : ¬ y ≤ x → JC X nL ws tys cells slots (pc + 3) lv st) : JC X nL ws tys cells slots pc lv (.int y :: .int x :: st) := by
  obtain ⟨p, l, e, R, s, m, args, below, meth, c, Q, D, A⟩ := X
  obtain ⟨hexec, hb, hml, hown, hts, hlk, hr, hA, hZ, hcl, hsl, hfr, hlo⟩ := hx
  intro H locs ls hP hD hS hK hl
  exact lv_icmp_ge hexec hb hd ht (fun z => kt z H locs ls hP hD hS hK hl) (fun z => kf z H locs ls hP hD hS hK hl)
theorem JC_obj {X : kc_C} {cc : ByteArray} {own : String} {nL : Nat} {ret : Option FieldType} {d : Nat} {ws : va_W} {tys : kc_Y} {cells slots mc ms : Nat} {pc : Nat} {lv : List (Nat × Value)} {st : List Value} {index a : Nat} (hx : OkC X cc own nL ret d mc ms) (hlink : Cond.methodLink own index Lib.objectInit ∈ k_tbl) (hin : Cond.instanceMethod Lib.objectInit ∈ k_tbl) (hcode : Cond.code Lib.objectInit ⟨#[0xb1]⟩ 1 none ∈ k_tbl) (hcat : (st.map fun v => v.category).sum ≤ 8) (hdd : 1 ≤ d) (hd : decode cc pc = .ok (.invokespecial index, 3)) (k : JC X nL ws tys cells slots (pc + 3) lv st) : JC X nL ws tys cells slots pc lv (.ref a :: st) := by
  obtain ⟨p, l, e, R, s, m, args, below, meth, c, Q, D, A⟩ := X
  obtain ⟨hexec, hb, hml, hown, hts, hlk, hr, hA, hT, hcl, hsl, hfr, hlo⟩ := hx
  intro H locs ls hP hD hS hK hl
  refine W.objInit hexec hb hown (hts _ hlink) (hts _ hin) (hts _ hcode) rfl (hl.1.trans hml.symm) rfl hd (Nat.le_trans hdd hfr) (Nat.le_trans ?_ hlo) (k H locs ls hP hD hS hK hl)
  show 2 * 0 + _ + 12 ≤ 40 * d
  omega
theorem JC_newa {X : kc_C} {cc : ByteArray} {own : String} {nL : Nat} {ret : Option FieldType} {d : Nat} {ws : va_W} {tys : kc_Y} {cells slots mc ms : Nat} {pc : Nat} {lv : List (Nat × Value)} {st : List Value} {atype : ArrayType} {ty : FieldType} {N : Nat} {a0 : vp_A} {n : Int32} (hx : OkC X cc own nL ret d mc ms) (harr : Cond.arrayClass (newarray.typeOf atype) ∈ k_tbl) (hty : newarray.typeOf atype = ty) (ha : ∀ cA : ClassId, vp_cell cA a0 = arrV cA N (fun _ => defaultValue ty)) (hn : ¬ n < 0) (hN : n.toNatClampNeg = N) (hby : N * componentBytes ty ≤ 536870912) (hc : cells + 1 ≤ mc) (hs : slots + N ≤ ms) (hd : decode cc pc = .ok (.newarray atype, 2)) (kk : ∀ (q : Nat) (cA : ClassId), JC X nL (ws ++ [(q, .inl (cA, a0))]) (tys ++ [(cA, ty)]) (cells + 1) (slots + N) (pc + 2) lv (.ref q :: st)) : JC X nL ws tys cells slots pc lv (.int n :: st) := by
  obtain ⟨p, l, e, R, s, m, args, below, meth, c, Q, D, A⟩ := X
  obtain ⟨hexec, hb, hml, hown, hts, hlk, hr, hA, hT, hcl, hsl, hfr, hlo⟩ := hx
  intro H locs ls hP hD hS hK hl
  exact va_newa hexec hb (hts _ harr) hty hK hP hD hS hA ha hn hN hby (Nat.le_trans hc hcl) (Nat.le_trans hs hsl) hd (fun q cA H1 hK1 hP1 hD1 hS1 => kk q cA H1 locs ls hP1 hD1 hS1 hK1 hl)
theorem JC_newq {X : kc_C} {cc : ByteArray} {own : String} {nL : Nat} {ret : Option FieldType} {d : Nat} {ws : va_W} {tys : kc_Y} {cells slots mc ms : Nat} {pc : Nat} {lv : List (Nat × Value)} {st : List Value} {index : Nat} {C : String} {N : Nat} {n : Int32} (hx : OkC X cc own nL ret d mc ms) (hcl0 : Cond.classLink own index C ∈ k_tbl) (hover : C = "TripCalls$Caller" ∨ C = "TripCalls$Deeds") (hn : ¬ n < 0) (hN : n.toNatClampNeg = N) (hby : N * 4 ≤ 536870912) (hc : cells + 1 ≤ mc) (hs : slots + N ≤ ms) (hd : decode cc pc = .ok (.anewarray index, 3)) (kk : ∀ (q : Nat) (cA : ClassId), JC X nL (ws ++ [(q, .inl (cA, N, .inr (.inr (.inr (.inr (fun _ => none))))))]) (tys ++ [(cA, .object C)]) (cells + 1) (slots + N) (pc + 3) lv (.ref q :: st)) : JC X nL ws tys cells slots pc lv (.int n :: st) := by
  obtain ⟨p, l, e, R, s, m, args, below, meth, c, Q, D, A⟩ := X
  obtain ⟨hexec, hb, hml, hown, hts, hlk, hr, hA, hT, hcl, hsl, hfr, hlo⟩ := hx
  intro H locs ls hP hD hS hK hl
  have ho : va_AO C s := by
    rcases hover with rfl | rfl
    · exact hT.2.2.1
    · exact hT.2.2.2.1
  exact va_newq hexec hb hown (hts _ hcl0) ho hK hP hD hS hA hn hN hby (Nat.le_trans hc hcl) (Nat.le_trans hs hsl) hd (fun q cA H1 hK1 hP1 hD1 hS1 => kk q cA H1 locs ls hP1 hD1 hS1 hK1 hl)
theorem JC_new {X : kc_C} {cc : ByteArray} {own : String} {nL : Nat} {ret : Option FieldType} {d : Nat} {ws : va_W} {tys : kc_Y} {cells slots mc ms : Nat} {pc : Nat} {lv : List (Nat × Value)} {st : List Value} {index ci : Nat} {C : String} {T : u_T} {N : Nat} {fs : List Value} {ty : Nat → FieldType} (hx : OkC X cc own nL ret d mc ms) (hci : vwCl[ci]? = some (C, T, N)) (hws : ∀ w ∈ u_ws C T N, w ∈ k_tbl) (hty : ∀ k, k < N → parseFieldDescriptor (T k).2.2.1 = some (ty k)) (h1 : Cond.classLink own index C ∈ k_tbl) (h2 : Cond.instantiable C N ∈ k_tbl) (h3 : Cond.initialized C ∈ k_tbl) (hfs : ∀ j, j < N → defaultValue (ty j) = vp_V fs j) (hc : cells + 1 ≤ mc) (hs : slots + N ≤ ms) (hd : decode cc pc = .ok (.new index, 3)) (kk : ∀ q : Nat, JC X nL (ws ++ [(q, .inr (ci, fs))]) tys (cells + 1) (slots + N) (pc + 3) lv (.ref q :: st)) : JC X nL ws tys cells slots pc lv st := by
  obtain ⟨p, l, e, R, s, m, args, below, meth, c, Q, D, A⟩ := X
  obtain ⟨hexec, hb, hml, hown, hts, hlk, hr, hA, hT, hcl, hsl, hfr, hlo⟩ := hx
  intro H locs ls hP hD hS hK hl
  exact va_new (C := C) (T := T) (N := N) (ci := ci) (fs := fs) hexec hb hts hws ty hty hown (hts _ h1) (hts _ h2) (hts _ h3) hK hP hD hS hA hci hfs (Nat.le_trans hc hcl) (Nat.le_trans hs hsl) hd (fun q H1 hP1 hD1 hS1 => kk q H1 locs ls hP1 hD1 hS1 hK hl)
theorem JC_putF {X : kc_C} {cc : ByteArray} {own : String} {nL : Nat} {ret : Option FieldType} {d : Nat} {ws : va_W} {tys : kc_Y} {cells slots mc ms : Nat} {pc : Nat} {lv : List (Nat × Value)} {st : List Value} {index ci k a : Nat} {C : String} {T : u_T} {N : Nat} {fs : List Value} {ty0 : Nat → FieldType} {ty : FieldType} {v : Value} (hx : OkC X cc own nL ret d mc ms) (hini : kc_ini X) (q0 : Nat) (he : ws[q0]? = some (a, .inr (ci, fs))) (hci : vwCl[ci]? = some (C, T, N)) (hws : ∀ w ∈ u_ws C T N, w ∈ k_tbl) (hty : ∀ k, k < N → parseFieldDescriptor (T k).2.2.1 = some (ty0 k)) (hnm : ∀ a, a < N → ∀ b, b < N → a ≠ b → (T a).2.1 ≠ (T b).2.1) (hk : k < N) (hlink : Cond.fieldLink own index (T k).1 (T k).2.1 (T k).2.2.1 ∈ k_tbl) (hfin : (T k).2.2.2 = true) (hdecl : (T k).1 = own) (hdd : parseFieldDescriptor (T k).2.2.1 = some ty) (hn : narrow ty v = v) (hfit : fits ty v = true) (hlen : k < fs.length) (hd : decode cc pc = .ok (.putfield index, 3)) (kk : JC X nL (ws.set q0 (a, .inr (ci, fs.set k v))) tys cells slots (pc + 3) lv st) : JC X nL ws tys cells slots pc lv (v :: .ref a :: st) := by
  obtain ⟨p, l, e, R, s, m, args, below, meth, c, Q, D, A⟩ := X
  obtain ⟨hexec, hb, hml, hown, hts, hlk, hr, hA, hT, hcl, hsl, hfr, hlo⟩ := hx
  intro H locs ls hP hD hS hK hl
  exact va_putF (C := C) (T := T) (N := N) hexec hb hts hws ty0 hty hnm hown hK hP hD hS q0 he hci k hk (hts _ hlink) (fun _ h9 => h9) hfin hini hdecl hdd hn hfit hlen hd (fun H1 locs1 hP1 hD1 hS1 => kk H1 locs1 ls hP1 hD1 hS1 hK hl)
theorem JC_put {X : kc_C} {cc : ByteArray} {own : String} {nL : Nat} {ret : Option FieldType} {d : Nat} {ws : va_W} {tys : kc_Y} {cells slots mc ms : Nat} {pc : Nat} {lv : List (Nat × Value)} {st : List Value} {index ci k a : Nat} {C : String} {T : u_T} {N : Nat} {fs : List Value} {ty0 : Nat → FieldType} {ty : FieldType} {v : Value} (hx : OkC X cc own nL ret d mc ms) (q0 : Nat) (he : ws[q0]? = some (a, .inr (ci, fs))) (hci : vwCl[ci]? = some (C, T, N)) (hws : ∀ w ∈ u_ws C T N, w ∈ k_tbl) (hty : ∀ k, k < N → parseFieldDescriptor (T k).2.2.1 = some (ty0 k)) (hnm : ∀ a, a < N → ∀ b, b < N → a ≠ b → (T a).2.1 ≠ (T b).2.1) (hk : k < N) (hlink : Cond.fieldLink own index (T k).1 (T k).2.1 (T k).2.2.1 ∈ k_tbl) (hfin : (T k).2.2.2 = false) (hdd : parseFieldDescriptor (T k).2.2.1 = some ty) (hn : narrow ty v = v) (hfit : fits ty v = true) (hlen : k < fs.length) (hd : decode cc pc = .ok (.putfield index, 3)) (kk : JC X nL (ws.set q0 (a, .inr (ci, fs.set k v))) tys cells slots (pc + 3) lv st) : JC X nL ws tys cells slots pc lv (v :: .ref a :: st) := by
  obtain ⟨p, l, e, R, s, m, args, below, meth, c, Q, D, A⟩ := X
  obtain ⟨hexec, hb, hml, hown, hts, hlk, hr, hA, hT, hcl, hsl, hfr, hlo⟩ := hx
  intro H locs ls hP hD hS hK hl
  exact va_put (C := C) (T := T) (N := N) hexec hb hts hws ty0 hty hnm hown hK hP hD hS q0 he hci k hk (hts _ hlink) (fun _ h9 => h9) hfin hdd hn hfit hlen hd (fun H1 locs1 hP1 hD1 hS1 => kk H1 locs1 ls hP1 hD1 hS1 hK hl)
theorem JC_get {X : kc_C} {cc : ByteArray} {own : String} {nL : Nat} {ret : Option FieldType} {d : Nat} {ws : va_W} {tys : kc_Y} {cells slots mc ms : Nat} {pc : Nat} {lv : List (Nat × Value)} {st : List Value} {index ci k a : Nat} {C : String} {T : u_T} {N : Nat} {fs : List Value} {v : Value} (hx : OkC X cc own nL ret d mc ms) (q0 : Nat) (he : ws[q0]? = some (a, .inr (ci, fs))) (hci : vwCl[ci]? = some (C, T, N)) (hws : ∀ w ∈ u_ws C T N, w ∈ k_tbl) (hk : k < N) (hlink : Cond.fieldLink own index (T k).1 (T k).2.1 (T k).2.2.1 ∈ k_tbl) (hv : fs[k]? = some v) (hd : decode cc pc = .ok (.getfield index, 3)) (kk : JC X nL ws tys cells slots (pc + 3) lv (v :: st)) : JC X nL ws tys cells slots pc lv (.ref a :: st) := by
  obtain ⟨p, l, e, R, s, m, args, below, meth, c, Q, D, A⟩ := X
  obtain ⟨hexec, hb, hml, hown, hts, hlk, hr, hA, hT, hcl, hsl, hfr, hlo⟩ := hx
  intro H locs ls hP hD hS hK hl
  exact va_get (C := C) (T := T) (N := N) hexec hb hts hws hown hK hP q0 he hci k hk (hts _ hlink) (fun _ h9 => h9) hv hd (kk H locs ls hP hD hS hK hl)
theorem JC_astq {X : kc_C} {cc : ByteArray} {own : String} {nL : Nat} {ret : Option FieldType} {d : Nat} {ws : va_W} {tys : kc_Y} {cells slots mc ms : Nat} {pc : Nat} {lv : List (Nat × Value)} {st : List Value} {ci a n v : Nat} {cA : ClassId} {r : vw_C} {vs : List Value} {f : Nat → Option Nat} {i : Int32} (hx : OkC X cc own nL ret d mc ms) (q0 t0 qk : Nat) (ha : ws[q0]? = some (a, .inl (cA, n, .inr (.inr (.inr (.inr f)))))) (ht : tys[t0]? = some (cA, .object r.1)) (hv : ws[qk]? = some (v, .inr (ci, vs))) (hc : vwCl[ci]? = some r) (hin : vp_in i n) (hd : decode cc pc = .ok (.aastore, 1)) (kk : JC X nL (ws.set q0 (a, .inl (cA, n, .inr (.inr (.inr (.inr (va_up f i.toNatClampNeg (some v)))))))) tys cells slots (pc + 1) lv st) : JC X nL ws tys cells slots pc lv (.ref v :: .int i :: .ref a :: st) := by
  obtain ⟨p, l, e, R, s, m, args, below, meth, c, Q, D, A⟩ := X
  obtain ⟨hexec, hb, hml, hown, hts, hlk, hr, hA, hT, hcl, hsl, hfr, hlo⟩ := hx
  intro H locs ls hP hD hS hK hl
  exact va_astq hexec hb hK hP hD hS q0 t0 qk ci ha ht hv hc hin hd (fun H1 locs1 hP1 hD1 hS1 => kk H1 locs1 ls hP1 hD1 hS1 hK hl)
theorem JC_aldq {X : kc_C} {cc : ByteArray} {own : String} {nL : Nat} {ret : Option FieldType} {d : Nat} {ws : va_W} {tys : kc_Y} {cells slots mc ms : Nat} {pc : Nat} {lv : List (Nat × Value)} {st : List Value} {a n : Nat} {cA : ClassId} {C : String} {f : Nat → Option Nat} {i : Int32} (hx : OkC X cc own nL ret d mc ms) (q0 t0 : Nat) (ha : ws[q0]? = some (a, .inl (cA, n, .inr (.inr (.inr (.inr f)))))) (ht : tys[t0]? = some (cA, .object C)) (hin : vp_in i n) (hd : decode cc pc = .ok (.aaload, 1)) (kk : JC X nL ws tys cells slots (pc + 1) lv (va_rf (f i.toNatClampNeg) :: st)) : JC X nL ws tys cells slots pc lv (.int i :: .ref a :: st) := by
  obtain ⟨p, l, e, R, s, m, args, below, meth, c, Q, D, A⟩ := X
  obtain ⟨hexec, hb, hml, hown, hts, hlk, hr, hA, hT, hcl, hsl, hfr, hlo⟩ := hx
  intro H locs ls hP hD hS hK hl
  exact va_aldq hexec hb hK hP q0 t0 ha ht hin hd (kk H locs ls hP hD hS hK hl)
theorem JC_iast {X : kc_C} {cc : ByteArray} {own : String} {nL : Nat} {ret : Option FieldType} {d : Nat} {ws : va_W} {tys : kc_Y} {cells slots mc ms : Nat} {pc : Nat} {lv : List (Nat × Value)} {st : List Value} {a n : Nat} {cA : ClassId} {f : Nat → Int32} {i x : Int32} (hx : OkC X cc own nL ret d mc ms) (q0 t0 : Nat) (ha : ws[q0]? = some (a, .inl (cA, n, .inl f))) (ht : tys[t0]? = some (cA, .int)) (hin : vp_in i n) (hd : decode cc pc = .ok (.iastore, 1)) (kk : JC X nL (ws.set q0 (a, .inl (cA, n, .inl (upd f i.toNatClampNeg x)))) tys cells slots (pc + 1) lv st) : JC X nL ws tys cells slots pc lv (.int x :: .int i :: .ref a :: st) := by
  obtain ⟨p, l, e, R, s, m, args, below, meth, c, Q, D, A⟩ := X
  obtain ⟨hexec, hb, hml, hown, hts, hlk, hr, hA, hT, hcl, hsl, hfr, hlo⟩ := hx
  intro H locs ls hP hD hS hK hl
  exact va_iast hexec hb hK hP hD hS q0 t0 ha ht hin hd (fun H1 locs1 hP1 hD1 hS1 => kk H1 locs1 ls hP1 hD1 hS1 hK hl)
