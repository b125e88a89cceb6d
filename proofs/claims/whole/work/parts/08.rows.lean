theorem J_iconst {X : k_C} {ad : Nat → Nat} {cc : ByteArray} {own : String} {nL : Nat} {ret : Option FieldType} {d : Nat} {I : StI} {L : StL} {pc : Nat} {lv : List (Nat × Value)} {st : List Value} {n : Int} {v : Int32} (hx : Ok X cc own nL ret d) (hd : decode cc pc = .ok (.iconst n, 1)) (hv : Int32.ofInt n = v) (k : J X ad nL I L (pc + 1) lv (.int v :: st)) : J X ad nL I L pc lv st := by
  obtain ⟨p, l, e, R, s, m, args, below, meth, c, Q, D, cA, A, cells, slots⟩ := X
  obtain ⟨hexec, hb, hml, hown, hts, hlk, hr, hA, hZ, hK, hcl, hsl, hfr, hlo⟩ := hx
  intro H locs ls hW hl
  exact lv_iconst hexec hb hd hv (k H locs ls hW hl)

theorem J_bipush {X : k_C} {ad : Nat → Nat} {cc : ByteArray} {own : String} {nL : Nat} {ret : Option FieldType} {d : Nat} {I : StI} {L : StL} {pc : Nat} {lv : List (Nat × Value)} {st : List Value} {n : Int} {v : Int32} (hx : Ok X cc own nL ret d) (hd : decode cc pc = .ok (.bipush n, 2)) (hv : (Int8.ofInt n).toInt32 = v) (k : J X ad nL I L (pc + 2) lv (.int v :: st)) : J X ad nL I L pc lv st := by
  obtain ⟨p, l, e, R, s, m, args, below, meth, c, Q, D, cA, A, cells, slots⟩ := X
  obtain ⟨hexec, hb, hml, hown, hts, hlk, hr, hA, hZ, hK, hcl, hsl, hfr, hlo⟩ := hx
  intro H locs ls hW hl
  exact lv_bipush hexec hb hd hv (k H locs ls hW hl)

theorem J_sipush {X : k_C} {ad : Nat → Nat} {cc : ByteArray} {own : String} {nL : Nat} {ret : Option FieldType} {d : Nat} {I : StI} {L : StL} {pc : Nat} {lv : List (Nat × Value)} {st : List Value} {n : Int} {v : Int32} (hx : Ok X cc own nL ret d) (hd : decode cc pc = .ok (.sipush n, 3)) (hv : (Int16.ofInt n).toInt32 = v) (k : J X ad nL I L (pc + 3) lv (.int v :: st)) : J X ad nL I L pc lv st := by
  obtain ⟨p, l, e, R, s, m, args, below, meth, c, Q, D, cA, A, cells, slots⟩ := X
  obtain ⟨hexec, hb, hml, hown, hts, hlk, hr, hA, hZ, hK, hcl, hsl, hfr, hlo⟩ := hx
  intro H locs ls hW hl
  exact lv_sipush hexec hb hd hv (k H locs ls hW hl)

theorem J_lconst {X : k_C} {ad : Nat → Nat} {cc : ByteArray} {own : String} {nL : Nat} {ret : Option FieldType} {d : Nat} {I : StI} {L : StL} {pc : Nat} {lv : List (Nat × Value)} {st : List Value} {n : Fin 2} {v : Int64} (hx : Ok X cc own nL ret d) (hd : decode cc pc = .ok (.lconst n, 1)) (hv : Int64.ofNat (n : Nat) = v) (k : J X ad nL I L (pc + 1) lv (.long v :: st)) : J X ad nL I L pc lv st := by
  obtain ⟨p, l, e, R, s, m, args, below, meth, c, Q, D, cA, A, cells, slots⟩ := X
  obtain ⟨hexec, hb, hml, hown, hts, hlk, hr, hA, hZ, hK, hcl, hsl, hfr, hlo⟩ := hx
  intro H locs ls hW hl
  exact lv_lconst hexec hb hd hv (k H locs ls hW hl)

theorem J_ldcw {X : k_C} {ad : Nat → Nat} {cc : ByteArray} {own : String} {nL : Nat} {ret : Option FieldType} {d : Nat} {I : StI} {L : StL} {pc : Nat} {lv : List (Nat × Value)} {st : List Value} {index : Nat} {v : Int32} (hx : Ok X cc own nL ret d) (hc : Cond.constant own index v ∈ k_tbl) (hd : decode cc pc = .ok (.ldc_w index, 3)) (k : J X ad nL I L (pc + 3) lv (.int v :: st)) : J X ad nL I L pc lv st := by
  obtain ⟨p, l, e, R, s, m, args, below, meth, c, Q, D, cA, A, cells, slots⟩ := X
  obtain ⟨hexec, hb, hml, hown, hts, hlk, hr, hA, hZ, hK, hcl, hsl, hfr, hlo⟩ := hx
  intro H locs ls hW hl
  exact lv_ldcw hexec hb hown (hts _ hc) hd (k H locs ls hW hl)

theorem J_ldc {X : k_C} {ad : Nat → Nat} {cc : ByteArray} {own : String} {nL : Nat} {ret : Option FieldType} {d : Nat} {I : StI} {L : StL} {pc : Nat} {lv : List (Nat × Value)} {st : List Value} {index : Nat} {v : Int32} (hx : Ok X cc own nL ret d) (hc : Cond.constant own index v ∈ k_tbl) (hd : decode cc pc = .ok (.ldc index, 2)) (k : J X ad nL I L (pc + 2) lv (.int v :: st)) : J X ad nL I L pc lv st := by
  obtain ⟨p, l, e, R, s, m, args, below, meth, c, Q, D, cA, A, cells, slots⟩ := X
  obtain ⟨hexec, hb, hml, hown, hts, hlk, hr, hA, hZ, hK, hcl, hsl, hfr, hlo⟩ := hx
  intro H locs ls hW hl
  exact lv_ldc hexec hb hown (hts _ hc) hd (k H locs ls hW hl)

theorem J_ldc2 {X : k_C} {ad : Nat → Nat} {cc : ByteArray} {own : String} {nL : Nat} {ret : Option FieldType} {d : Nat} {I : StI} {L : StL} {pc : Nat} {lv : List (Nat × Value)} {st : List Value} {index : Nat} {v : Int64} (hx : Ok X cc own nL ret d) (hc : Cond.constantLong own index v ∈ k_tbl) (hd : decode cc pc = .ok (.ldc2_w index, 3)) (k : J X ad nL I L (pc + 3) lv (.long v :: st)) : J X ad nL I L pc lv st := by
  obtain ⟨p, l, e, R, s, m, args, below, meth, c, Q, D, cA, A, cells, slots⟩ := X
  obtain ⟨hexec, hb, hml, hown, hts, hlk, hr, hA, hZ, hK, hcl, hsl, hfr, hlo⟩ := hx
  intro H locs ls hW hl
  exact lv_ldc2 hexec hb hown (hts _ hc) hd (k H locs ls hW hl)

theorem J_iload_n {X : k_C} {ad : Nat → Nat} {cc : ByteArray} {own : String} {nL : Nat} {ret : Option FieldType} {d : Nat} {I : StI} {L : StL} {pc : Nat} {lv : List (Nat × Value)} {st : List Value} {kf : Fin 4} {x : Int32} (hx : Ok X cc own nL ret d) (hd : decode cc pc = .ok (.iload_n kf, 1)) (q : Nat) (hq : lv[q]? = some ((kf : Nat), .int x)) (k : J X ad nL I L (pc + 1) lv (.int x :: st)) : J X ad nL I L pc lv st := by
  obtain ⟨p, l, e, R, s, m, args, below, meth, c, Q, D, cA, A, cells, slots⟩ := X
  obtain ⟨hexec, hb, hml, hown, hts, hlk, hr, hA, hZ, hK, hcl, hsl, hfr, hlo⟩ := hx
  intro H locs ls hW hl
  exact lv_iload_n hexec hb hd rfl (lv_at hl q hq) (k H locs ls hW hl)

theorem J_iload {X : k_C} {ad : Nat → Nat} {cc : ByteArray} {own : String} {nL : Nat} {ret : Option FieldType} {d : Nat} {I : StI} {L : StL} {pc : Nat} {lv : List (Nat × Value)} {st : List Value} {i : Nat} {x : Int32} (hx : Ok X cc own nL ret d) (hd : decode cc pc = .ok (.iload i, 2)) (q : Nat) (hq : lv[q]? = some (i, .int x)) (k : J X ad nL I L (pc + 2) lv (.int x :: st)) : J X ad nL I L pc lv st := by
  obtain ⟨p, l, e, R, s, m, args, below, meth, c, Q, D, cA, A, cells, slots⟩ := X
  obtain ⟨hexec, hb, hml, hown, hts, hlk, hr, hA, hZ, hK, hcl, hsl, hfr, hlo⟩ := hx
  intro H locs ls hW hl
  exact lv_iload hexec hb hd (lv_at hl q hq) (k H locs ls hW hl)

theorem J_lload_n {X : k_C} {ad : Nat → Nat} {cc : ByteArray} {own : String} {nL : Nat} {ret : Option FieldType} {d : Nat} {I : StI} {L : StL} {pc : Nat} {lv : List (Nat × Value)} {st : List Value} {kf : Fin 4} {x : Int64} (hx : Ok X cc own nL ret d) (hd : decode cc pc = .ok (.lload_n kf, 1)) (q : Nat) (hq : lv[q]? = some ((kf : Nat), .long x)) (k : J X ad nL I L (pc + 1) lv (.long x :: st)) : J X ad nL I L pc lv st := by
  obtain ⟨p, l, e, R, s, m, args, below, meth, c, Q, D, cA, A, cells, slots⟩ := X
  obtain ⟨hexec, hb, hml, hown, hts, hlk, hr, hA, hZ, hK, hcl, hsl, hfr, hlo⟩ := hx
  intro H locs ls hW hl
  exact lv_lload_n hexec hb hd rfl (lv_at hl q hq) (k H locs ls hW hl)

theorem J_lload {X : k_C} {ad : Nat → Nat} {cc : ByteArray} {own : String} {nL : Nat} {ret : Option FieldType} {d : Nat} {I : StI} {L : StL} {pc : Nat} {lv : List (Nat × Value)} {st : List Value} {i : Nat} {x : Int64} (hx : Ok X cc own nL ret d) (hd : decode cc pc = .ok (.lload i, 2)) (q : Nat) (hq : lv[q]? = some (i, .long x)) (k : J X ad nL I L (pc + 2) lv (.long x :: st)) : J X ad nL I L pc lv st := by
  obtain ⟨p, l, e, R, s, m, args, below, meth, c, Q, D, cA, A, cells, slots⟩ := X
  obtain ⟨hexec, hb, hml, hown, hts, hlk, hr, hA, hZ, hK, hcl, hsl, hfr, hlo⟩ := hx
  intro H locs ls hW hl
  exact lv_lload hexec hb hd (lv_at hl q hq) (k H locs ls hW hl)

theorem J_aload_n {X : k_C} {ad : Nat → Nat} {cc : ByteArray} {own : String} {nL : Nat} {ret : Option FieldType} {d : Nat} {I : StI} {L : StL} {pc : Nat} {lv : List (Nat × Value)} {st : List Value} {kf : Fin 4} {x : Nat} (hx : Ok X cc own nL ret d) (hd : decode cc pc = .ok (.aload_n kf, 1)) (q : Nat) (hq : lv[q]? = some ((kf : Nat), .ref x)) (k : J X ad nL I L (pc + 1) lv (.ref x :: st)) : J X ad nL I L pc lv st := by
  obtain ⟨p, l, e, R, s, m, args, below, meth, c, Q, D, cA, A, cells, slots⟩ := X
  obtain ⟨hexec, hb, hml, hown, hts, hlk, hr, hA, hZ, hK, hcl, hsl, hfr, hlo⟩ := hx
  intro H locs ls hW hl
  exact lv_aload_n hexec hb hd rfl (lv_at hl q hq) (k H locs ls hW hl)

theorem J_aload {X : k_C} {ad : Nat → Nat} {cc : ByteArray} {own : String} {nL : Nat} {ret : Option FieldType} {d : Nat} {I : StI} {L : StL} {pc : Nat} {lv : List (Nat × Value)} {st : List Value} {i : Nat} {x : Nat} (hx : Ok X cc own nL ret d) (hd : decode cc pc = .ok (.aload i, 2)) (q : Nat) (hq : lv[q]? = some (i, .ref x)) (k : J X ad nL I L (pc + 2) lv (.ref x :: st)) : J X ad nL I L pc lv st := by
  obtain ⟨p, l, e, R, s, m, args, below, meth, c, Q, D, cA, A, cells, slots⟩ := X
  obtain ⟨hexec, hb, hml, hown, hts, hlk, hr, hA, hZ, hK, hcl, hsl, hfr, hlo⟩ := hx
  intro H locs ls hW hl
  exact lv_aload hexec hb hd (lv_at hl q hq) (k H locs ls hW hl)

theorem J_istore_n {X : k_C} {ad : Nat → Nat} {cc : ByteArray} {own : String} {nL : Nat} {ret : Option FieldType} {d : Nat} {I : StI} {L : StL} {pc : Nat} {lv : List (Nat × Value)} {st : List Value} {kf : Fin 4} {x x' : Int32} {lv' : List (Nat × Value)} (hx : Ok X cc own nL ret d) (hd : decode cc pc = .ok (.istore_n kf, 1)) (hxx : x = x') (hn : (kf : Nat) < nL) (hl2 : ((kf : Nat), Value.int x) :: lv.filter (fun q => !(q.1 == (kf : Nat)) && !(q.1 + 1 == (kf : Nat) && q.2.category == 2)) = lv') (k : J X ad nL I L (pc + 1) lv' st) : J X ad nL I L pc lv (.int x' :: st) := by
  obtain ⟨p, l, e, R, s, m, args, below, meth, c, Q, D, cA, A, cells, slots⟩ := X
  obtain ⟨hexec, hb, hml, hown, hts, hlk, hr, hA, hZ, hK, hcl, hsl, hfr, hlo⟩ := hx
  intro H locs ls hW hl
  subst hxx
  exact lv_istore_n hexec hb hd rfl hl hn hl2 (fun ls' hl' => k H locs ls' hW hl')

theorem J_istore {X : k_C} {ad : Nat → Nat} {cc : ByteArray} {own : String} {nL : Nat} {ret : Option FieldType} {d : Nat} {I : StI} {L : StL} {pc : Nat} {lv : List (Nat × Value)} {st : List Value} {i : Nat} {x x' : Int32} {lv' : List (Nat × Value)} (hx : Ok X cc own nL ret d) (hd : decode cc pc = .ok (.istore i, 2)) (hxx : x = x') (hn : i < nL) (hl2 : (i, Value.int x) :: lv.filter (fun q => !(q.1 == i) && !(q.1 + 1 == i && q.2.category == 2)) = lv') (k : J X ad nL I L (pc + 2) lv' st) : J X ad nL I L pc lv (.int x' :: st) := by
  obtain ⟨p, l, e, R, s, m, args, below, meth, c, Q, D, cA, A, cells, slots⟩ := X
  obtain ⟨hexec, hb, hml, hown, hts, hlk, hr, hA, hZ, hK, hcl, hsl, hfr, hlo⟩ := hx
  intro H locs ls hW hl
  subst hxx
  exact lv_istore hexec hb hd hl hn hl2 (fun ls' hl' => k H locs ls' hW hl')

theorem J_astore_n {X : k_C} {ad : Nat → Nat} {cc : ByteArray} {own : String} {nL : Nat} {ret : Option FieldType} {d : Nat} {I : StI} {L : StL} {pc : Nat} {lv : List (Nat × Value)} {st : List Value} {kf : Fin 4} {x x' : Nat} {lv' : List (Nat × Value)} (hx : Ok X cc own nL ret d) (hd : decode cc pc = .ok (.astore_n kf, 1)) (hxx : x = x') (hn : (kf : Nat) < nL) (hl2 : ((kf : Nat), Value.ref x) :: lv.filter (fun q => !(q.1 == (kf : Nat)) && !(q.1 + 1 == (kf : Nat) && q.2.category == 2)) = lv') (k : J X ad nL I L (pc + 1) lv' st) : J X ad nL I L pc lv (.ref x' :: st) := by
  obtain ⟨p, l, e, R, s, m, args, below, meth, c, Q, D, cA, A, cells, slots⟩ := X
  obtain ⟨hexec, hb, hml, hown, hts, hlk, hr, hA, hZ, hK, hcl, hsl, hfr, hlo⟩ := hx
  intro H locs ls hW hl
  subst hxx
  exact lv_astore_n hexec hb hd rfl hl hn hl2 (fun ls' hl' => k H locs ls' hW hl')

theorem J_astore {X : k_C} {ad : Nat → Nat} {cc : ByteArray} {own : String} {nL : Nat} {ret : Option FieldType} {d : Nat} {I : StI} {L : StL} {pc : Nat} {lv : List (Nat × Value)} {st : List Value} {i : Nat} {x x' : Nat} {lv' : List (Nat × Value)} (hx : Ok X cc own nL ret d) (hd : decode cc pc = .ok (.astore i, 2)) (hxx : x = x') (hn : i < nL) (hl2 : (i, Value.ref x) :: lv.filter (fun q => !(q.1 == i) && !(q.1 + 1 == i && q.2.category == 2)) = lv') (k : J X ad nL I L (pc + 2) lv' st) : J X ad nL I L pc lv (.ref x' :: st) := by
  obtain ⟨p, l, e, R, s, m, args, below, meth, c, Q, D, cA, A, cells, slots⟩ := X
  obtain ⟨hexec, hb, hml, hown, hts, hlk, hr, hA, hZ, hK, hcl, hsl, hfr, hlo⟩ := hx
  intro H locs ls hW hl
  subst hxx
  exact lv_astore hexec hb hd hl hn hl2 (fun ls' hl' => k H locs ls' hW hl')

theorem J_lstore_n {X : k_C} {ad : Nat → Nat} {cc : ByteArray} {own : String} {nL : Nat} {ret : Option FieldType} {d : Nat} {I : StI} {L : StL} {pc : Nat} {lv : List (Nat × Value)} {st : List Value} {kf : Fin 4} {x x' : Int64} {lv' : List (Nat × Value)} (hx : Ok X cc own nL ret d) (hd : decode cc pc = .ok (.lstore_n kf, 1)) (hxx : x = x') (hn : (kf : Nat) + 1 < nL) (hl2 : ((kf : Nat), Value.long x) :: lv.filter (fun q => !(q.1 == (kf : Nat)) && (!(q.1 == (kf : Nat) + 1) && !(q.1 + 1 == (kf : Nat) && q.2.category == 2))) = lv') (k : J X ad nL I L (pc + 1) lv' st) : J X ad nL I L pc lv (.long x' :: st) := by
  obtain ⟨p, l, e, R, s, m, args, below, meth, c, Q, D, cA, A, cells, slots⟩ := X
  obtain ⟨hexec, hb, hml, hown, hts, hlk, hr, hA, hZ, hK, hcl, hsl, hfr, hlo⟩ := hx
  intro H locs ls hW hl
  subst hxx
  exact lv_lstore_n hexec hb hd rfl hl hn hl2 (fun ls' hl' => k H locs ls' hW hl')

theorem J_lstore {X : k_C} {ad : Nat → Nat} {cc : ByteArray} {own : String} {nL : Nat} {ret : Option FieldType} {d : Nat} {I : StI} {L : StL} {pc : Nat} {lv : List (Nat × Value)} {st : List Value} {i : Nat} {x x' : Int64} {lv' : List (Nat × Value)} (hx : Ok X cc own nL ret d) (hd : decode cc pc = .ok (.lstore i, 2)) (hxx : x = x') (hn : i + 1 < nL) (hl2 : (i, Value.long x) :: lv.filter (fun q => !(q.1 == i) && (!(q.1 == i + 1) && !(q.1 + 1 == i && q.2.category == 2))) = lv') (k : J X ad nL I L (pc + 2) lv' st) : J X ad nL I L pc lv (.long x' :: st) := by
  obtain ⟨p, l, e, R, s, m, args, below, meth, c, Q, D, cA, A, cells, slots⟩ := X
  obtain ⟨hexec, hb, hml, hown, hts, hlk, hr, hA, hZ, hK, hcl, hsl, hfr, hlo⟩ := hx
  intro H locs ls hW hl
  subst hxx
  exact lv_lstore hexec hb hd hl hn hl2 (fun ls' hl' => k H locs ls' hW hl')

theorem J_iinc {X : k_C} {ad : Nat → Nat} {cc : ByteArray} {own : String} {nL : Nat} {ret : Option FieldType} {d : Nat} {I : StI} {L : StL} {pc : Nat} {lv : List (Nat × Value)} {st : List Value} {i : Nat} {n : Int} {x x' : Int32} {lv' : List (Nat × Value)} (hx : Ok X cc own nL ret d) (hd : decode cc pc = .ok (.iinc i n, 3)) (q : Nat) (hq : lv[q]? = some (i, .int x')) (hv : x' + Int32.ofInt n = x) (hn : i < nL) (hl2 : (i, Value.int x) :: lv.filter (fun q => !(q.1 == i) && !(q.1 + 1 == i && q.2.category == 2)) = lv') (k : J X ad nL I L (pc + 3) lv' st) : J X ad nL I L pc lv st := by
  obtain ⟨p, l, e, R, s, m, args, below, meth, c, Q, D, cA, A, cells, slots⟩ := X
  obtain ⟨hexec, hb, hml, hown, hts, hlk, hr, hA, hZ, hK, hcl, hsl, hfr, hlo⟩ := hx
  intro H locs ls hW hl
  exact lv_iinc hexec hb hd hl hq hv hn hl2 (fun ls' hl' => k H locs ls' hW hl')

theorem J_iadd {X : k_C} {ad : Nat → Nat} {cc : ByteArray} {own : String} {nL : Nat} {ret : Option FieldType} {d : Nat} {I : StI} {L : StL} {pc : Nat} {lv : List (Nat × Value)} {st : List Value} {x y : Int32} (hx : Ok X cc own nL ret d) (hd : decode cc pc = .ok (.iadd, 1)) (k : J X ad nL I L (pc + 1) lv (.int (x + y) :: st)) : J X ad nL I L pc lv (.int y :: .int x :: st) := by
  obtain ⟨p, l, e, R, s, m, args, below, meth, c, Q, D, cA, A, cells, slots⟩ := X
  obtain ⟨hexec, hb, hml, hown, hts, hlk, hr, hA, hZ, hK, hcl, hsl, hfr, hlo⟩ := hx
  intro H locs ls hW hl
  exact lv_iadd hexec hb hd (k H locs ls hW hl)

theorem J_isub {X : k_C} {ad : Nat → Nat} {cc : ByteArray} {own : String} {nL : Nat} {ret : Option FieldType} {d : Nat} {I : StI} {L : StL} {pc : Nat} {lv : List (Nat × Value)} {st : List Value} {x y : Int32} (hx : Ok X cc own nL ret d) (hd : decode cc pc = .ok (.isub, 1)) (k : J X ad nL I L (pc + 1) lv (.int (x - y) :: st)) : J X ad nL I L pc lv (.int y :: .int x :: st) := by
  obtain ⟨p, l, e, R, s, m, args, below, meth, c, Q, D, cA, A, cells, slots⟩ := X
  obtain ⟨hexec, hb, hml, hown, hts, hlk, hr, hA, hZ, hK, hcl, hsl, hfr, hlo⟩ := hx
  intro H locs ls hW hl
  exact lv_isub hexec hb hd (k H locs ls hW hl)

theorem J_imul {X : k_C} {ad : Nat → Nat} {cc : ByteArray} {own : String} {nL : Nat} {ret : Option FieldType} {d : Nat} {I : StI} {L : StL} {pc : Nat} {lv : List (Nat × Value)} {st : List Value} {x y : Int32} (hx : Ok X cc own nL ret d) (hd : decode cc pc = .ok (.imul, 1)) (k : J X ad nL I L (pc + 1) lv (.int (x * y) :: st)) : J X ad nL I L pc lv (.int y :: .int x :: st) := by
  obtain ⟨p, l, e, R, s, m, args, below, meth, c, Q, D, cA, A, cells, slots⟩ := X
  obtain ⟨hexec, hb, hml, hown, hts, hlk, hr, hA, hZ, hK, hcl, hsl, hfr, hlo⟩ := hx
  intro H locs ls hW hl
  exact lv_imul hexec hb hd (k H locs ls hW hl)

theorem J_iand {X : k_C} {ad : Nat → Nat} {cc : ByteArray} {own : String} {nL : Nat} {ret : Option FieldType} {d : Nat} {I : StI} {L : StL} {pc : Nat} {lv : List (Nat × Value)} {st : List Value} {x y : Int32} (hx : Ok X cc own nL ret d) (hd : decode cc pc = .ok (.iand, 1)) (k : J X ad nL I L (pc + 1) lv (.int (x &&& y) :: st)) : J X ad nL I L pc lv (.int y :: .int x :: st) := by
  obtain ⟨p, l, e, R, s, m, args, below, meth, c, Q, D, cA, A, cells, slots⟩ := X
  obtain ⟨hexec, hb, hml, hown, hts, hlk, hr, hA, hZ, hK, hcl, hsl, hfr, hlo⟩ := hx
  intro H locs ls hW hl
  exact lv_iand hexec hb hd (k H locs ls hW hl)

theorem J_ior {X : k_C} {ad : Nat → Nat} {cc : ByteArray} {own : String} {nL : Nat} {ret : Option FieldType} {d : Nat} {I : StI} {L : StL} {pc : Nat} {lv : List (Nat × Value)} {st : List Value} {x y : Int32} (hx : Ok X cc own nL ret d) (hd : decode cc pc = .ok (.ior, 1)) (k : J X ad nL I L (pc + 1) lv (.int (x ||| y) :: st)) : J X ad nL I L pc lv (.int y :: .int x :: st) := by
  obtain ⟨p, l, e, R, s, m, args, below, meth, c, Q, D, cA, A, cells, slots⟩ := X
  obtain ⟨hexec, hb, hml, hown, hts, hlk, hr, hA, hZ, hK, hcl, hsl, hfr, hlo⟩ := hx
  intro H locs ls hW hl
  exact lv_ior hexec hb hd (k H locs ls hW hl)

theorem J_ixor {X : k_C} {ad : Nat → Nat} {cc : ByteArray} {own : String} {nL : Nat} {ret : Option FieldType} {d : Nat} {I : StI} {L : StL} {pc : Nat} {lv : List (Nat × Value)} {st : List Value} {x y : Int32} (hx : Ok X cc own nL ret d) (hd : decode cc pc = .ok (.ixor, 1)) (k : J X ad nL I L (pc + 1) lv (.int (x ^^^ y) :: st)) : J X ad nL I L pc lv (.int y :: .int x :: st) := by
  obtain ⟨p, l, e, R, s, m, args, below, meth, c, Q, D, cA, A, cells, slots⟩ := X
  obtain ⟨hexec, hb, hml, hown, hts, hlk, hr, hA, hZ, hK, hcl, hsl, hfr, hlo⟩ := hx
  intro H locs ls hW hl
  exact lv_ixor hexec hb hd (k H locs ls hW hl)

theorem J_ishl {X : k_C} {ad : Nat → Nat} {cc : ByteArray} {own : String} {nL : Nat} {ret : Option FieldType} {d : Nat} {I : StI} {L : StL} {pc : Nat} {lv : List (Nat × Value)} {st : List Value} {x y : Int32} (hx : Ok X cc own nL ret d) (hd : decode cc pc = .ok (.ishl, 1)) (k : J X ad nL I L (pc + 1) lv (.int (x <<< (y &&& 31)) :: st)) : J X ad nL I L pc lv (.int y :: .int x :: st) := by
  obtain ⟨p, l, e, R, s, m, args, below, meth, c, Q, D, cA, A, cells, slots⟩ := X
  obtain ⟨hexec, hb, hml, hown, hts, hlk, hr, hA, hZ, hK, hcl, hsl, hfr, hlo⟩ := hx
  intro H locs ls hW hl
  exact lv_ishl hexec hb hd (k H locs ls hW hl)

theorem J_ishr {X : k_C} {ad : Nat → Nat} {cc : ByteArray} {own : String} {nL : Nat} {ret : Option FieldType} {d : Nat} {I : StI} {L : StL} {pc : Nat} {lv : List (Nat × Value)} {st : List Value} {x y : Int32} (hx : Ok X cc own nL ret d) (hd : decode cc pc = .ok (.ishr, 1)) (k : J X ad nL I L (pc + 1) lv (.int (x >>> (y &&& 31)) :: st)) : J X ad nL I L pc lv (.int y :: .int x :: st) := by
  obtain ⟨p, l, e, R, s, m, args, below, meth, c, Q, D, cA, A, cells, slots⟩ := X
  obtain ⟨hexec, hb, hml, hown, hts, hlk, hr, hA, hZ, hK, hcl, hsl, hfr, hlo⟩ := hx
  intro H locs ls hW hl
  exact lv_ishr hexec hb hd (k H locs ls hW hl)

theorem J_iushr {X : k_C} {ad : Nat → Nat} {cc : ByteArray} {own : String} {nL : Nat} {ret : Option FieldType} {d : Nat} {I : StI} {L : StL} {pc : Nat} {lv : List (Nat × Value)} {st : List Value} {x y : Int32} (hx : Ok X cc own nL ret d) (hd : decode cc pc = .ok (.iushr, 1)) (k : J X ad nL I L (pc + 1) lv (.int ((x.toUInt32 >>> (y.toUInt32 &&& Int32.toUInt32 31)).toInt32) :: st)) : J X ad nL I L pc lv (.int y :: .int x :: st) := by
  obtain ⟨p, l, e, R, s, m, args, below, meth, c, Q, D, cA, A, cells, slots⟩ := X
  obtain ⟨hexec, hb, hml, hown, hts, hlk, hr, hA, hZ, hK, hcl, hsl, hfr, hlo⟩ := hx
  intro H locs ls hW hl
  exact lv_iushr hexec hb hd rfl (k H locs ls hW hl)

theorem J_idiv {X : k_C} {ad : Nat → Nat} {cc : ByteArray} {own : String} {nL : Nat} {ret : Option FieldType} {d : Nat} {I : StI} {L : StL} {pc : Nat} {lv : List (Nat × Value)} {st : List Value} {x y : Int32} (hx : Ok X cc own nL ret d) (hne : ¬ y = 0) (hd : decode cc pc = .ok (.idiv, 1)) (k : J X ad nL I L (pc + 1) lv (.int (x / y) :: st)) : J X ad nL I L pc lv (.int y :: .int x :: st) := by
  obtain ⟨p, l, e, R, s, m, args, below, meth, c, Q, D, cA, A, cells, slots⟩ := X
  obtain ⟨hexec, hb, hml, hown, hts, hlk, hr, hA, hZ, hK, hcl, hsl, hfr, hlo⟩ := hx
  intro H locs ls hW hl
  exact lv_idiv hexec hb hd hne (k H locs ls hW hl)

theorem J_irem {X : k_C} {ad : Nat → Nat} {cc : ByteArray} {own : String} {nL : Nat} {ret : Option FieldType} {d : Nat} {I : StI} {L : StL} {pc : Nat} {lv : List (Nat × Value)} {st : List Value} {x y : Int32} (hx : Ok X cc own nL ret d) (hne : ¬ y = 0) (hd : decode cc pc = .ok (.irem, 1)) (k : J X ad nL I L (pc + 1) lv (.int (x - x / y * y) :: st)) : J X ad nL I L pc lv (.int y :: .int x :: st) := by
  obtain ⟨p, l, e, R, s, m, args, below, meth, c, Q, D, cA, A, cells, slots⟩ := X
  obtain ⟨hexec, hb, hml, hown, hts, hlk, hr, hA, hZ, hK, hcl, hsl, hfr, hlo⟩ := hx
  intro H locs ls hW hl
  exact lv_irem hexec hb hd hne (k H locs ls hW hl)

theorem J_ineg {X : k_C} {ad : Nat → Nat} {cc : ByteArray} {own : String} {nL : Nat} {ret : Option FieldType} {d : Nat} {I : StI} {L : StL} {pc : Nat} {lv : List (Nat × Value)} {st : List Value} {x : Int32} (hx : Ok X cc own nL ret d) (hd : decode cc pc = .ok (.ineg, 1)) (k : J X ad nL I L (pc + 1) lv (.int (-x) :: st)) : J X ad nL I L pc lv (.int x :: st) := by
  obtain ⟨p, l, e, R, s, m, args, below, meth, c, Q, D, cA, A, cells, slots⟩ := X
  obtain ⟨hexec, hb, hml, hown, hts, hlk, hr, hA, hZ, hK, hcl, hsl, hfr, hlo⟩ := hx
  intro H locs ls hW hl
  exact lv_ineg hexec hb hd (k H locs ls hW hl)

theorem J_ladd {X : k_C} {ad : Nat → Nat} {cc : ByteArray} {own : String} {nL : Nat} {ret : Option FieldType} {d : Nat} {I : StI} {L : StL} {pc : Nat} {lv : List (Nat × Value)} {st : List Value} {x y : Int64} (hx : Ok X cc own nL ret d) (hd : decode cc pc = .ok (.ladd, 1)) (k : J X ad nL I L (pc + 1) lv (.long (x + y) :: st)) : J X ad nL I L pc lv (.long y :: .long x :: st) := by
  obtain ⟨p, l, e, R, s, m, args, below, meth, c, Q, D, cA, A, cells, slots⟩ := X
  obtain ⟨hexec, hb, hml, hown, hts, hlk, hr, hA, hZ, hK, hcl, hsl, hfr, hlo⟩ := hx
  intro H locs ls hW hl
  exact lv_ladd hexec hb hd (k H locs ls hW hl)

theorem J_lsub {X : k_C} {ad : Nat → Nat} {cc : ByteArray} {own : String} {nL : Nat} {ret : Option FieldType} {d : Nat} {I : StI} {L : StL} {pc : Nat} {lv : List (Nat × Value)} {st : List Value} {x y : Int64} (hx : Ok X cc own nL ret d) (hd : decode cc pc = .ok (.lsub, 1)) (k : J X ad nL I L (pc + 1) lv (.long (x - y) :: st)) : J X ad nL I L pc lv (.long y :: .long x :: st) := by
  obtain ⟨p, l, e, R, s, m, args, below, meth, c, Q, D, cA, A, cells, slots⟩ := X
  obtain ⟨hexec, hb, hml, hown, hts, hlk, hr, hA, hZ, hK, hcl, hsl, hfr, hlo⟩ := hx
  intro H locs ls hW hl
  exact lv_lsub hexec hb hd (k H locs ls hW hl)

theorem J_lmul {X : k_C} {ad : Nat → Nat} {cc : ByteArray} {own : String} {nL : Nat} {ret : Option FieldType} {d : Nat} {I : StI} {L : StL} {pc : Nat} {lv : List (Nat × Value)} {st : List Value} {x y : Int64} (hx : Ok X cc own nL ret d) (hd : decode cc pc = .ok (.lmul, 1)) (k : J X ad nL I L (pc + 1) lv (.long (x * y) :: st)) : J X ad nL I L pc lv (.long y :: .long x :: st) := by
  obtain ⟨p, l, e, R, s, m, args, below, meth, c, Q, D, cA, A, cells, slots⟩ := X
  obtain ⟨hexec, hb, hml, hown, hts, hlk, hr, hA, hZ, hK, hcl, hsl, hfr, hlo⟩ := hx
  intro H locs ls hW hl
  exact lv_lmul hexec hb hd (k H locs ls hW hl)

theorem J_ldiv {X : k_C} {ad : Nat → Nat} {cc : ByteArray} {own : String} {nL : Nat} {ret : Option FieldType} {d : Nat} {I : StI} {L : StL} {pc : Nat} {lv : List (Nat × Value)} {st : List Value} {x y : Int64} (hx : Ok X cc own nL ret d) (hne : ¬ y = 0) (hd : decode cc pc = .ok (.ldiv, 1)) (k : J X ad nL I L (pc + 1) lv (.long (x / y) :: st)) : J X ad nL I L pc lv (.long y :: .long x :: st) := by
  obtain ⟨p, l, e, R, s, m, args, below, meth, c, Q, D, cA, A, cells, slots⟩ := X
  obtain ⟨hexec, hb, hml, hown, hts, hlk, hr, hA, hZ, hK, hcl, hsl, hfr, hlo⟩ := hx
  intro H locs ls hW hl
  exact lv_ldiv hexec hb hd hne (k H locs ls hW hl)

theorem J_lrem {X : k_C} {ad : Nat → Nat} {cc : ByteArray} {own : String} {nL : Nat} {ret : Option FieldType} {d : Nat} {I : StI} {L : StL} {pc : Nat} {lv : List (Nat × Value)} {st : List Value} {x y : Int64} (hx : Ok X cc own nL ret d) (hne : ¬ y = 0) (hd : decode cc pc = .ok (.lrem, 1)) (k : J X ad nL I L (pc + 1) lv (.long (x - x / y * y) :: st)) : J X ad nL I L pc lv (.long y :: .long x :: st) := by
  obtain ⟨p, l, e, R, s, m, args, below, meth, c, Q, D, cA, A, cells, slots⟩ := X
  obtain ⟨hexec, hb, hml, hown, hts, hlk, hr, hA, hZ, hK, hcl, hsl, hfr, hlo⟩ := hx
  intro H locs ls hW hl
  exact lv_lrem hexec hb hd hne (k H locs ls hW hl)

theorem J_lcmp {X : k_C} {ad : Nat → Nat} {cc : ByteArray} {own : String} {nL : Nat} {ret : Option FieldType} {d : Nat} {I : StI} {L : StL} {pc : Nat} {lv : List (Nat × Value)} {st : List Value} {x y : Int64} (hx : Ok X cc own nL ret d) (hd : decode cc pc = .ok (.lcmp, 1)) (k : J X ad nL I L (pc + 1) lv (.int (lg_cmp x y) :: st)) : J X ad nL I L pc lv (.long y :: .long x :: st) := by
  obtain ⟨p, l, e, R, s, m, args, below, meth, c, Q, D, cA, A, cells, slots⟩ := X
  obtain ⟨hexec, hb, hml, hown, hts, hlk, hr, hA, hZ, hK, hcl, hsl, hfr, hlo⟩ := hx
  intro H locs ls hW hl
  exact W.lcmp hexec hb hd (k H locs ls hW hl)

theorem J_i2l {X : k_C} {ad : Nat → Nat} {cc : ByteArray} {own : String} {nL : Nat} {ret : Option FieldType} {d : Nat} {I : StI} {L : StL} {pc : Nat} {lv : List (Nat × Value)} {st : List Value} {x : Int32} (hx : Ok X cc own nL ret d) (hd : decode cc pc = .ok (.i2l, 1)) (k : J X ad nL I L (pc + 1) lv (.long x.toInt64 :: st)) : J X ad nL I L pc lv (.int x :: st) := by
  obtain ⟨p, l, e, R, s, m, args, below, meth, c, Q, D, cA, A, cells, slots⟩ := X
  obtain ⟨hexec, hb, hml, hown, hts, hlk, hr, hA, hZ, hK, hcl, hsl, hfr, hlo⟩ := hx
  intro H locs ls hW hl
  exact lv_i2l hexec hb hd rfl (k H locs ls hW hl)

theorem J_l2i {X : k_C} {ad : Nat → Nat} {cc : ByteArray} {own : String} {nL : Nat} {ret : Option FieldType} {d : Nat} {I : StI} {L : StL} {pc : Nat} {lv : List (Nat × Value)} {st : List Value} {x : Int64} (hx : Ok X cc own nL ret d) (hd : decode cc pc = .ok (.l2i, 1)) (k : J X ad nL I L (pc + 1) lv (.int x.toInt32 :: st)) : J X ad nL I L pc lv (.long x :: st) := by
  obtain ⟨p, l, e, R, s, m, args, below, meth, c, Q, D, cA, A, cells, slots⟩ := X
  obtain ⟨hexec, hb, hml, hown, hts, hlk, hr, hA, hZ, hK, hcl, hsl, hfr, hlo⟩ := hx
  intro H locs ls hW hl
  exact lv_l2i hexec hb hd rfl (k H locs ls hW hl)

theorem J_i2b {X : k_C} {ad : Nat → Nat} {cc : ByteArray} {own : String} {nL : Nat} {ret : Option FieldType} {d : Nat} {I : StI} {L : StL} {pc : Nat} {lv : List (Nat × Value)} {st : List Value} {x : Int32} (hx : Ok X cc own nL ret d) (hd : decode cc pc = .ok (.i2b, 1)) (k : J X ad nL I L (pc + 1) lv (.int x.toInt8.toInt32 :: st)) : J X ad nL I L pc lv (.int x :: st) := by
  obtain ⟨p, l, e, R, s, m, args, below, meth, c, Q, D, cA, A, cells, slots⟩ := X
  obtain ⟨hexec, hb, hml, hown, hts, hlk, hr, hA, hZ, hK, hcl, hsl, hfr, hlo⟩ := hx
  intro H locs ls hW hl
  exact lv_i2b hexec hb hd rfl (k H locs ls hW hl)

theorem J_dup {X : k_C} {ad : Nat → Nat} {cc : ByteArray} {own : String} {nL : Nat} {ret : Option FieldType} {d : Nat} {I : StI} {L : StL} {pc : Nat} {lv : List (Nat × Value)} {st : List Value} {v : Value} (hx : Ok X cc own nL ret d) (hd : decode cc pc = .ok (.dup, 1)) (hc : v.category = 1) (k : J X ad nL I L (pc + 1) lv (v :: v :: st)) : J X ad nL I L pc lv (v :: st) := by
  obtain ⟨p, l, e, R, s, m, args, below, meth, c, Q, D, cA, A, cells, slots⟩ := X
  obtain ⟨hexec, hb, hml, hown, hts, hlk, hr, hA, hZ, hK, hcl, hsl, hfr, hlo⟩ := hx
  intro H locs ls hW hl
  exact lv_dup hexec hb hd hc (k H locs ls hW hl)

theorem J_pop {X : k_C} {ad : Nat → Nat} {cc : ByteArray} {own : String} {nL : Nat} {ret : Option FieldType} {d : Nat} {I : StI} {L : StL} {pc : Nat} {lv : List (Nat × Value)} {st : List Value} {v : Value} (hx : Ok X cc own nL ret d) (hd : decode cc pc = .ok (.pop, 1)) (hc : v.category = 1) (k : J X ad nL I L (pc + 1) lv st) : J X ad nL I L pc lv (v :: st) := by
  obtain ⟨p, l, e, R, s, m, args, below, meth, c, Q, D, cA, A, cells, slots⟩ := X
  obtain ⟨hexec, hb, hml, hown, hts, hlk, hr, hA, hZ, hK, hcl, hsl, hfr, hlo⟩ := hx
  intro H locs ls hW hl
  exact lv_pop hexec hb hd hc (k H locs ls hW hl)

theorem J_dup2 {X : k_C} {ad : Nat → Nat} {cc : ByteArray} {own : String} {nL : Nat} {ret : Option FieldType} {d : Nat} {I : StI} {L : StL} {pc : Nat} {lv : List (Nat × Value)} {st : List Value} {v v2 : Value} (hx : Ok X cc own nL ret d) (hd : decode cc pc = .ok (.dup2, 1)) (hc : v.category = 1) (hc2 : v2.category = 1) (k : J X ad nL I L (pc + 1) lv (v :: v2 :: v :: v2 :: st)) : J X ad nL I L pc lv (v :: v2 :: st) := by
  obtain ⟨p, l, e, R, s, m, args, below, meth, c, Q, D, cA, A, cells, slots⟩ := X
  obtain ⟨hexec, hb, hml, hown, hts, hlk, hr, hA, hZ, hK, hcl, hsl, hfr, hlo⟩ := hx
  intro H locs ls hW hl
  exact lv_dup2_11 hexec hb hd hc hc2 (k H locs ls hW hl)

theorem J_if_eq {X : k_C} {ad : Nat → Nat} {cc : ByteArray} {own : String} {nL : Nat} {ret : Option FieldType} {d : Nat} {I : StI} {L : StL} {pc : Nat} {lv : List (Nat × Value)} {st : List Value} {x : Int32} {off : Int} (hx : Ok X cc own nL ret d) (hd : decode cc pc = .ok (.ifCond .eq off, 3)) (tgt : Nat) (ht : (pc : Int) + off = (tgt : Int)) (kt : x = 0 → J X ad nL I L tgt lv st) (kf : ¬ x = 0 → J X ad nL I L (pc + 3) lv st) : J X ad nL I L pc lv (.int x :: st) := by
  obtain ⟨p, l, e, R, s, m, args, below, meth, c, Q, D, cA, A, cells, slots⟩ := X
  obtain ⟨hexec, hb, hml, hown, hts, hlk, hr, hA, hZ, hK, hcl, hsl, hfr, hlo⟩ := hx
  intro H locs ls hW hl
  exact lv_if_eq hexec hb hd ht (fun z => kt z H locs ls hW hl) (fun z => kf z H locs ls hW hl)

theorem J_ic_eq {X : k_C} {ad : Nat → Nat} {cc : ByteArray} {own : String} {nL : Nat} {ret : Option FieldType} {d : Nat} {I : StI} {L : StL} {pc : Nat} {lv : List (Nat × Value)} {st : List Value} {x y : Int32} {off : Int} (hx : Ok X cc own nL ret d) (hd : decode cc pc = .ok (.if_icmp .eq off, 3)) (tgt : Nat) (ht : (pc : Int) + off = (tgt : Int)) (kt : x = y → J X ad nL I L tgt lv st) (kf : ¬ x = y → J X ad nL I L (pc + 3) lv st) : J X ad nL I L pc lv (.int y :: .int x :: st) := by
  obtain ⟨p, l, e, R, s, m, args, below, meth, c, Q, D, cA, A, cells, slots⟩ := X
  obtain ⟨hexec, hb, hml, hown, hts, hlk, hr, hA, hZ, hK, hcl, hsl, hfr, hlo⟩ := hx
  intro H locs ls hW hl
  exact lv_icmp_eq hexec hb hd ht (fun z => kt z H locs ls hW hl) (fun z => kf z H locs ls hW hl)

theorem J_if_ne {X : k_C} {ad : Nat → Nat} {cc : ByteArray} {own : String} {nL : Nat} {ret : Option FieldType} {d : Nat} {I : StI} {L : StL} {pc : Nat} {lv : List (Nat × Value)} {st : List Value} {x : Int32} {off : Int} (hx : Ok X cc own nL ret d) (hd : decode cc pc = .ok (.ifCond .ne off, 3)) (tgt : Nat) (ht : (pc : Int) + off = (tgt : Int)) (kt : ¬ x = 0 → J X ad nL I L tgt lv st) (kf : x = 0 → J X ad nL I L (pc + 3) lv st) : J X ad nL I L pc lv (.int x :: st) := by
  obtain ⟨p, l, e, R, s, m, args, below, meth, c, Q, D, cA, A, cells, slots⟩ := X
  obtain ⟨hexec, hb, hml, hown, hts, hlk, hr, hA, hZ, hK, hcl, hsl, hfr, hlo⟩ := hx
  intro H locs ls hW hl
  exact lv_if_ne hexec hb hd ht (fun z => kt z H locs ls hW hl) (fun z => kf z H locs ls hW hl)

theorem J_ic_ne {X : k_C} {ad : Nat → Nat} {cc : ByteArray} {own : String} {nL : Nat} {ret : Option FieldType} {d : Nat} {I : StI} {L : StL} {pc : Nat} {lv : List (Nat × Value)} {st : List Value} {x y : Int32} {off : Int} (hx : Ok X cc own nL ret d) (hd : decode cc pc = .ok (.if_icmp .ne off, 3)) (tgt : Nat) (ht : (pc : Int) + off = (tgt : Int)) (kt : ¬ x = y → J X ad nL I L tgt lv st) (kf : x = y → J X ad nL I L (pc + 3) lv st) : J X ad nL I L pc lv (.int y :: .int x :: st) := by
  obtain ⟨p, l, e, R, s, m, args, below, meth, c, Q, D, cA, A, cells, slots⟩ := X
  obtain ⟨hexec, hb, hml, hown, hts, hlk, hr, hA, hZ, hK, hcl, hsl, hfr, hlo⟩ := hx
  intro H locs ls hW hl
  exact lv_icmp_ne hexec hb hd ht (fun z => kt z H locs ls hW hl) (fun z => kf z H locs ls hW hl)

theorem J_if_lt {X : k_C} {ad : Nat → Nat} {cc : ByteArray} {own : String} {nL : Nat} {ret : Option FieldType} {d : Nat} {I : StI} {L : StL} {pc : Nat} {lv : List (Nat × Value)} {st : List Value} {x : Int32} {off : Int} (hx : Ok X cc own nL ret d) (hd : decode cc pc = .ok (.ifCond .lt off, 3)) (tgt : Nat) (ht : (pc : Int) + off = (tgt : Int)) (kt : x < 0 → J X ad nL I L tgt lv st) (kf : ¬ x < 0 → J X ad nL I L (pc + 3) lv st) : J X ad nL I L pc lv (.int x :: st) := by
  obtain ⟨p, l, e, R, s, m, args, below, meth, c, Q, D, cA, A, cells, slots⟩ := X
  obtain ⟨hexec, hb, hml, hown, hts, hlk, hr, hA, hZ, hK, hcl, hsl, hfr, hlo⟩ := hx
  intro H locs ls hW hl
  exact lv_if_lt hexec hb hd ht (fun z => kt z H locs ls hW hl) (fun z => kf z H locs ls hW hl)

theorem J_ic_lt {X : k_C} {ad : Nat → Nat} {cc : ByteArray} {own : String} {nL : Nat} {ret : Option FieldType} {d : Nat} {I : StI} {L : StL} {pc : Nat} {lv : List (Nat × Value)} {st : List Value} {x y : Int32} {off : Int} (hx : Ok X cc own nL ret d) (hd : decode cc pc = .ok (.if_icmp .lt off, 3)) (tgt : Nat) (ht : (pc : Int) + off = (tgt : Int)) (kt : x < y → J X ad nL I L tgt lv st) (kf : ¬ x < y → J X ad nL I L (pc + 3) lv st) : J X ad nL I L pc lv (.int y :: .int x :: st) := by
  obtain ⟨p, l, e, R, s, m, args, below, meth, c, Q, D, cA, A, cells, slots⟩ := X
  obtain ⟨hexec, hb, hml, hown, hts, hlk, hr, hA, hZ, hK, hcl, hsl, hfr, hlo⟩ := hx
  intro H locs ls hW hl
  exact lv_icmp_lt hexec hb hd ht (fun z => kt z H locs ls hW hl) (fun z => kf z H locs ls hW hl)

theorem J_if_ge {X : k_C} {ad : Nat → Nat} {cc : ByteArray} {own : String} {nL : Nat} {ret : Option FieldType} {d : Nat} {I : StI} {L : StL} {pc : Nat} {lv : List (Nat × Value)} {st : List Value} {x : Int32} {off : Int} (hx : Ok X cc own nL ret d) (hd : decode cc pc = .ok (.ifCond .ge off, 3)) (tgt : Nat) (ht : (pc : Int) + off = (tgt : Int)) (kt : 0 ≤ x → J X ad nL I L tgt lv st) (kf : ¬ 0 ≤ x → J X ad nL I L (pc + 3) lv st) : J X ad nL I L pc lv (.int x :: st) := by
  obtain ⟨p, l, e, R, s, m, args, below, meth, c, Q, D, cA, A, cells, slots⟩ := X
  obtain ⟨hexec, hb, hml, hown, hts, hlk, hr, hA, hZ, hK, hcl, hsl, hfr, hlo⟩ := hx
  intro H locs ls hW hl
  exact lv_if_ge hexec hb hd ht (fun z => kt z H locs ls hW hl) (fun z => kf z H locs ls hW hl)

theorem J_ic_ge {X : k_C} {ad : Nat → Nat} {cc : ByteArray} {own : String} {nL : Nat} {ret : Option FieldType} {d : Nat} {I : StI} {L : StL} {pc : Nat} {lv : List (Nat × Value)} {st : List Value} {x y : Int32} {off : Int} (hx : Ok X cc own nL ret d) (hd : decode cc pc = .ok (.if_icmp .ge off, 3)) (tgt : Nat) (ht : (pc : Int) + off = (tgt : Int)) (kt : y ≤ x → J X ad nL I L tgt lv st) (kf : ¬ y ≤ x → J X ad nL I L (pc + 3) lv st) : J X ad nL I L pc lv (.int y :: .int x :: st) := by
  obtain ⟨p, l, e, R, s, m, args, below, meth, c, Q, D, cA, A, cells, slots⟩ := X
  obtain ⟨hexec, hb, hml, hown, hts, hlk, hr, hA, hZ, hK, hcl, hsl, hfr, hlo⟩ := hx
  intro H locs ls hW hl
  exact lv_icmp_ge hexec hb hd ht (fun z => kt z H locs ls hW hl) (fun z => kf z H locs ls hW hl)

theorem J_if_gt {X : k_C} {ad : Nat → Nat} {cc : ByteArray} {own : String} {nL : Nat} {ret : Option FieldType} {d : Nat} {I : StI} {L : StL} {pc : Nat} {lv : List (Nat × Value)} {st : List Value} {x : Int32} {off : Int} (hx : Ok X cc own nL ret d) (hd : decode cc pc = .ok (.ifCond .gt off, 3)) (tgt : Nat) (ht : (pc : Int) + off = (tgt : Int)) (kt : 0 < x → J X ad nL I L tgt lv st) (kf : ¬ 0 < x → J X ad nL I L (pc + 3) lv st) : J X ad nL I L pc lv (.int x :: st) := by
  obtain ⟨p, l, e, R, s, m, args, below, meth, c, Q, D, cA, A, cells, slots⟩ := X
  obtain ⟨hexec, hb, hml, hown, hts, hlk, hr, hA, hZ, hK, hcl, hsl, hfr, hlo⟩ := hx
  intro H locs ls hW hl
  exact lv_if_gt hexec hb hd ht (fun z => kt z H locs ls hW hl) (fun z => kf z H locs ls hW hl)

theorem J_ic_gt {X : k_C} {ad : Nat → Nat} {cc : ByteArray} {own : String} {nL : Nat} {ret : Option FieldType} {d : Nat} {I : StI} {L : StL} {pc : Nat} {lv : List (Nat × Value)} {st : List Value} {x y : Int32} {off : Int} (hx : Ok X cc own nL ret d) (hd : decode cc pc = .ok (.if_icmp .gt off, 3)) (tgt : Nat) (ht : (pc : Int) + off = (tgt : Int)) (kt : y < x → J X ad nL I L tgt lv st) (kf : ¬ y < x → J X ad nL I L (pc + 3) lv st) : J X ad nL I L pc lv (.int y :: .int x :: st) := by
  obtain ⟨p, l, e, R, s, m, args, below, meth, c, Q, D, cA, A, cells, slots⟩ := X
  obtain ⟨hexec, hb, hml, hown, hts, hlk, hr, hA, hZ, hK, hcl, hsl, hfr, hlo⟩ := hx
  intro H locs ls hW hl
  exact lv_icmp_gt hexec hb hd ht (fun z => kt z H locs ls hW hl) (fun z => kf z H locs ls hW hl)

theorem J_if_le {X : k_C} {ad : Nat → Nat} {cc : ByteArray} {own : String} {nL : Nat} {ret : Option FieldType} {d : Nat} {I : StI} {L : StL} {pc : Nat} {lv : List (Nat × Value)} {st : List Value} {x : Int32} {off : Int} (hx : Ok X cc own nL ret d) (hd : decode cc pc = .ok (.ifCond .le off, 3)) (tgt : Nat) (ht : (pc : Int) + off = (tgt : Int)) (kt : x ≤ 0 → J X ad nL I L tgt lv st) (kf : ¬ x ≤ 0 → J X ad nL I L (pc + 3) lv st) : J X ad nL I L pc lv (.int x :: st) := by
  obtain ⟨p, l, e, R, s, m, args, below, meth, c, Q, D, cA, A, cells, slots⟩ := X
  obtain ⟨hexec, hb, hml, hown, hts, hlk, hr, hA, hZ, hK, hcl, hsl, hfr, hlo⟩ := hx
  intro H locs ls hW hl
  exact lv_if_le hexec hb hd ht (fun z => kt z H locs ls hW hl) (fun z => kf z H locs ls hW hl)

theorem J_ic_le {X : k_C} {ad : Nat → Nat} {cc : ByteArray} {own : String} {nL : Nat} {ret : Option FieldType} {d : Nat} {I : StI} {L : StL} {pc : Nat} {lv : List (Nat × Value)} {st : List Value} {x y : Int32} {off : Int} (hx : Ok X cc own nL ret d) (hd : decode cc pc = .ok (.if_icmp .le off, 3)) (tgt : Nat) (ht : (pc : Int) + off = (tgt : Int)) (kt : x ≤ y → J X ad nL I L tgt lv st) (kf : ¬ x ≤ y → J X ad nL I L (pc + 3) lv st) : J X ad nL I L pc lv (.int y :: .int x :: st) := by
  obtain ⟨p, l, e, R, s, m, args, below, meth, c, Q, D, cA, A, cells, slots⟩ := X
  obtain ⟨hexec, hb, hml, hown, hts, hlk, hr, hA, hZ, hK, hcl, hsl, hfr, hlo⟩ := hx
  intro H locs ls hW hl
  exact lv_icmp_le hexec hb hd ht (fun z => kt z H locs ls hW hl) (fun z => kf z H locs ls hW hl)

theorem J_goto {X : k_C} {ad : Nat → Nat} {cc : ByteArray} {own : String} {nL : Nat} {ret : Option FieldType} {d : Nat} {I : StI} {L : StL} {pc : Nat} {lv : List (Nat × Value)} {st : List Value} {off : Int} (hx : Ok X cc own nL ret d) (hd : decode cc pc = .ok (.goto off, 3)) (tgt : Nat) (ht : (pc : Int) + off = (tgt : Int)) (k : J X ad nL I L tgt lv st) : J X ad nL I L pc lv st := by
  obtain ⟨p, l, e, R, s, m, args, below, meth, c, Q, D, cA, A, cells, slots⟩ := X
  obtain ⟨hexec, hb, hml, hown, hts, hlk, hr, hA, hZ, hK, hcl, hsl, hfr, hlo⟩ := hx
  intro H locs ls hW hl
  exact lv_goto hexec hb hd ht (k H locs ls hW hl)

theorem J_tIn {X : k_C} {ad : Nat → Nat} {cc : ByteArray} {own : String} {nL : Nat} {ret : Option FieldType} {d : Nat} {I : StI} {L : StL} {pc : Nat} {lv : List (Nat × Value)} {st : List Value} {dflt lo hi : Int} {offs : Array Int} {len : Nat} {x x' : Int32} {off : Int} (hx : Ok X cc own nL ret d) (hd : decode cc pc = .ok (.tableswitch dflt lo hi offs, len)) (hxe : x = x') (h1 : ¬ x'.toInt < lo) (h2 : ¬ hi < x'.toInt) (ho : offs[(x'.toInt - lo).toNat]? = some off) (tgt : Nat) (ht : (pc : Int) + off = (tgt : Int)) (k : J X ad nL I L tgt lv st) : J X ad nL I L pc lv (.int x :: st) := by
  obtain ⟨p, l, e, R, s, m, args, below, meth, c, Q, D, cA, A, cells, slots⟩ := X
  obtain ⟨hexec, hb, hml, hown, hts, hlk, hr, hA, hZ, hK, hcl, hsl, hfr, hlo⟩ := hx
  intro H locs ls hW hl
  subst hxe
  exact lv_tableIn hexec hb hd h1 h2 ho ht (k H locs ls hW hl)

theorem J_tOut {X : k_C} {ad : Nat → Nat} {cc : ByteArray} {own : String} {nL : Nat} {ret : Option FieldType} {d : Nat} {I : StI} {L : StL} {pc : Nat} {lv : List (Nat × Value)} {st : List Value} {dflt lo hi : Int} {offs : Array Int} {len : Nat} {x : Int32} (hx : Ok X cc own nL ret d) (hd : decode cc pc = .ok (.tableswitch dflt lo hi offs, len)) (h1 : x.toInt < lo ∨ hi < x.toInt) (tgt : Nat) (ht : (pc : Int) + dflt = (tgt : Int)) (k : J X ad nL I L tgt lv st) : J X ad nL I L pc lv (.int x :: st) := by
  obtain ⟨p, l, e, R, s, m, args, below, meth, c, Q, D, cA, A, cells, slots⟩ := X
  obtain ⟨hexec, hb, hml, hown, hts, hlk, hr, hA, hZ, hK, hcl, hsl, hfr, hlo⟩ := hx
  intro H locs ls hW hl
  exact lv_tableOut hexec hb hd h1 ht (k H locs ls hW hl)

theorem J_sub {X : k_C} {ad : Nat → Nat} {cc : ByteArray} {own : String} {nL : Nat} {ret : Option FieldType} {d : Nat} {I : StI} {L : StL} {pc : Nat} {lv : List (Nat × Value)} {st : List Value} {lv' : List (Nat × Value)} (hx : Ok X cc own nL ret d) (is : List Nat) (hs : lv_pick lv is = lv') (k : J X ad nL I L pc lv' st) : J X ad nL I L pc lv st := by
  obtain ⟨p, l, e, R, s, m, args, below, meth, c, Q, D, cA, A, cells, slots⟩ := X
  obtain ⟨hexec, hb, hml, hown, hts, hlk, hr, hA, hZ, hK, hcl, hsl, hfr, hlo⟩ := hx
  intro H locs ls hW hl
  exact k H locs ls hW (lv_sub hl is hs)

/-- a field's link: own's pool has at index the field k of class ci -/
def k_fl (own : String) (index ci k : Nat) : Prop := ∃ (C : String) (T : u_T) (N : Nat), vwCl[ci]? = some (C, T, N) ∧ (∀ w ∈ u_ws C T N, w ∈ k_tbl) ∧ k < N ∧ Cond.fieldLink own index (T k).1 (T k).2.1 (T k).2.2.1 ∈ k_tbl
/-- and it may be written: its type -/
def k_flW (own : String) (index ci k : Nat) (ty : FieldType) : Prop := ∃ (C : String) (T : u_T) (N : Nat) (t0 : Nat → FieldType), vwCl[ci]? = some (C, T, N) ∧ (∀ w ∈ u_ws C T N, w ∈ k_tbl) ∧ (∀ k, k < N → parseFieldDescriptor (T k).2.2.1 = some (t0 k)) ∧ (∀ a, a < N → ∀ b, b < N → a ≠ b → (T a).2.1 ≠ (T b).2.1) ∧ k < N ∧ Cond.fieldLink own index (T k).1 (T k).2.1 (T k).2.2.1 ∈ k_tbl ∧ (T k).2.2.2 = false ∧ parseFieldDescriptor (T k).2.2.1 = some ty
def k_N (ci : Nat) : Nat := match ci with | 0 => 7 | 1 => 2 | 2 => 4 | 3 => 8 | 4 => 17 | _ => 27
theorem k_N_ok {ci N : Nat} {C : String} {T : u_T} (h : vwCl[ci]? = some (C, T, N)) : N = k_N ci ∧ ci < 6 := by
  match ci, h with
  | 0, h => cases h; exact ⟨rfl, by decide⟩
  | 1, h => cases h; exact ⟨rfl, by decide⟩
  | 2, h => cases h; exact ⟨rfl, by decide⟩
  | 3, h => cases h; exact ⟨rfl, by decide⟩
  | 4, h => cases h; exact ⟨rfl, by decide⟩
  | 5, h => cases h; exact ⟨rfl, by decide⟩
  | n + 6, h => simp [vwCl] at h
theorem k_sh_n {b ci : Nat} (h : k_sh b = (ci, k_N ci)) (hc : ci < 6) : b < 81 := k_sh_lt (by rw [h]; show ci < 90; omega)

theorem J_getI {X : k_C} {ad : Nat → Nat} {cc : ByteArray} {own : String} {nL : Nat} {ret : Option FieldType} {d : Nat} {I : StI} {L : StL} {pc : Nat} {lv : List (Nat × Value)} {st : List Value} {index ci k b : Nat} (hx : Ok X cc own nL ret d) (hf : k_fl own index ci k) (hs : k_sh b = (ci, k_N ci)) (hk : k_fk ci k = 0) (hd : decode cc pc = .ok (.getfield index, 3)) (kk : J X ad nL I L (pc + 3) lv (.int (I b k) :: st)) : J X ad nL I L pc lv (.ref (ad b) :: st) := by
  obtain ⟨p, l, e, R, s, m, args, below, meth, c, Q, D, cA, A, cells, slots⟩ := X
  obtain ⟨hexec, hb, hml, hown, hts, hlk, hr, hA, hZ, hK, hcl, hsl, hfr, hlo⟩ := hx
  intro H locs ls hW hl
  obtain ⟨C, T, N, h1, h2, h3, h4⟩ := hf
  obtain ⟨rfl, hc⟩ := k_N_ok h1
  obtain ⟨hP, hD, hS⟩ := hW
  refine va_get hexec hb hts h2 hown hK.1 hP b (fs := (List.range (k_N ci)).map (fun k => k_val ad I L b k)) ((k_wl_at (k_sh_n hs hc)).trans (by rw [k_cell_o hs hc])) h1 k h3 (hts _ h4) (fun _ h9 => h9) (v := .int (I b k)) ?_ hd (kk H locs ls ⟨hP, hD, hS⟩ hl)
  simp [h3, k_val, hs, hk]

theorem J_getL {X : k_C} {ad : Nat → Nat} {cc : ByteArray} {own : String} {nL : Nat} {ret : Option FieldType} {d : Nat} {I : StI} {L : StL} {pc : Nat} {lv : List (Nat × Value)} {st : List Value} {index ci k b : Nat} (hx : Ok X cc own nL ret d) (hf : k_fl own index ci k) (hs : k_sh b = (ci, k_N ci)) (hk : k_fk ci k = 1) (hd : decode cc pc = .ok (.getfield index, 3)) (kk : J X ad nL I L (pc + 3) lv (.long (L b k) :: st)) : J X ad nL I L pc lv (.ref (ad b) :: st) := by
  obtain ⟨p, l, e, R, s, m, args, below, meth, c, Q, D, cA, A, cells, slots⟩ := X
  obtain ⟨hexec, hb, hml, hown, hts, hlk, hr, hA, hZ, hK, hcl, hsl, hfr, hlo⟩ := hx
  intro H locs ls hW hl
  obtain ⟨C, T, N, h1, h2, h3, h4⟩ := hf
  obtain ⟨rfl, hc⟩ := k_N_ok h1
  obtain ⟨hP, hD, hS⟩ := hW
  refine va_get hexec hb hts h2 hown hK.1 hP b (fs := (List.range (k_N ci)).map (fun k => k_val ad I L b k)) ((k_wl_at (k_sh_n hs hc)).trans (by rw [k_cell_o hs hc])) h1 k h3 (hts _ h4) (fun _ h9 => h9) (v := .long (L b k)) ?_ hd (kk H locs ls ⟨hP, hD, hS⟩ hl)
  simp [h3, k_val, hs, hk]

theorem J_getR {X : k_C} {ad : Nat → Nat} {cc : ByteArray} {own : String} {nL : Nat} {ret : Option FieldType} {d : Nat} {I : StI} {L : StL} {pc : Nat} {lv : List (Nat × Value)} {st : List Value} {index ci k b q : Nat} (hx : Ok X cc own nL ret d) (hf : k_fl own index ci k) (hs : k_sh b = (ci, k_N ci)) (hk : k_fk ci k = 2) (hq : k_rf b k = q) (hd : decode cc pc = .ok (.getfield index, 3)) (kk : J X ad nL I L (pc + 3) lv (.ref (ad q) :: st)) : J X ad nL I L pc lv (.ref (ad b) :: st) := by
  obtain ⟨p, l, e, R, s, m, args, below, meth, c, Q, D, cA, A, cells, slots⟩ := X
  obtain ⟨hexec, hb, hml, hown, hts, hlk, hr, hA, hZ, hK, hcl, hsl, hfr, hlo⟩ := hx
  intro H locs ls hW hl
  obtain ⟨C, T, N, h1, h2, h3, h4⟩ := hf
  obtain ⟨rfl, hc⟩ := k_N_ok h1
  obtain ⟨hP, hD, hS⟩ := hW
  refine va_get hexec hb hts h2 hown hK.1 hP b (fs := (List.range (k_N ci)).map (fun k => k_val ad I L b k)) ((k_wl_at (k_sh_n hs hc)).trans (by rw [k_cell_o hs hc])) h1 k h3 (hts _ h4) (fun _ h9 => h9) (v := .ref (ad q)) ?_ hd (kk H locs ls ⟨hP, hD, hS⟩ hl)
  simp [h3, k_val, hs, hk, hq]

theorem J_putI {X : k_C} {ad : Nat → Nat} {cc : ByteArray} {own : String} {nL : Nat} {ret : Option FieldType} {d : Nat} {I : StI} {L : StL} {pc : Nat} {lv : List (Nat × Value)} {st : List Value} {index ci k b : Nat} {v : Int32} {I1 : StI} (hx : Ok X cc own nL ret d) (hf : k_flW own index ci k .int) (hs : k_sh b = (ci, k_N ci)) (hk : k_fk ci k = 0) (hd : decode cc pc = .ok (.putfield index, 3)) (hI : I1 = k_up I b k v) (kk : J X ad nL I1 L (pc + 3) lv st) : J X ad nL I L pc lv (.int v :: .ref (ad b) :: st) := by
  obtain ⟨p, l, e, R, s, m, args, below, meth, c, Q, D, cA, A, cells, slots⟩ := X
  obtain ⟨hexec, hb, hml, hown, hts, hlk, hr, hA, hZ, hK, hcl, hsl, hfr, hlo⟩ := hx
  intro H locs ls hW hl
  obtain ⟨C, T, N, t0, h1, h2, h5, h6, h3, h4, h7, h8⟩ := hf
  obtain ⟨rfl, hc⟩ := k_N_ok h1
  obtain ⟨hP, hD, hS⟩ := hW
  subst hI
  refine va_put hexec hb hts h2 t0 h5 h6 hown hK.1 hP hD hS b (fs := (List.range (k_N ci)).map (fun k => k_val ad I L b k)) ((k_wl_at (k_sh_n hs hc)).trans (by rw [k_cell_o hs hc])) h1 k h3 (hts _ h4) (fun _ h9 => h9) h7 (ty := .int) (v := .int v) h8 rfl rfl (by simpa using h3) hd (fun H1 locs1 hP hD hS => ?_)
  rw [k_set_f hs hc hk] at hP hD
  exact kk H1 locs1 ls ⟨hP, hD, hS⟩ hl

theorem J_putL {X : k_C} {ad : Nat → Nat} {cc : ByteArray} {own : String} {nL : Nat} {ret : Option FieldType} {d : Nat} {I : StI} {L : StL} {pc : Nat} {lv : List (Nat × Value)} {st : List Value} {index ci k b : Nat} {v : Int64} {L1 : StL} (hx : Ok X cc own nL ret d) (hf : k_flW own index ci k .long) (hs : k_sh b = (ci, k_N ci)) (hk : k_fk ci k = 1) (hd : decode cc pc = .ok (.putfield index, 3)) (hI : L1 = k_upL L b k v) (kk : J X ad nL I L1 (pc + 3) lv st) : J X ad nL I L pc lv (.long v :: .ref (ad b) :: st) := by
  obtain ⟨p, l, e, R, s, m, args, below, meth, c, Q, D, cA, A, cells, slots⟩ := X
  obtain ⟨hexec, hb, hml, hown, hts, hlk, hr, hA, hZ, hK, hcl, hsl, hfr, hlo⟩ := hx
  intro H locs ls hW hl
  obtain ⟨C, T, N, t0, h1, h2, h5, h6, h3, h4, h7, h8⟩ := hf
  obtain ⟨rfl, hc⟩ := k_N_ok h1
  obtain ⟨hP, hD, hS⟩ := hW
  subst hI
  refine va_put hexec hb hts h2 t0 h5 h6 hown hK.1 hP hD hS b (fs := (List.range (k_N ci)).map (fun k => k_val ad I L b k)) ((k_wl_at (k_sh_n hs hc)).trans (by rw [k_cell_o hs hc])) h1 k h3 (hts _ h4) (fun _ h9 => h9) h7 (ty := .long) (v := .long v) h8 rfl rfl (by simpa using h3) hd (fun H1 locs1 hP hD hS => ?_)
  rw [k_set_L hs hc hk] at hP hD
  exact kk H1 locs1 ls ⟨hP, hD, hS⟩ hl

theorem J_iald {X : k_C} {ad : Nat → Nat} {cc : ByteArray} {own : String} {nL : Nat} {ret : Option FieldType} {d : Nat} {I : StI} {L : StL} {pc : Nat} {lv : List (Nat × Value)} {st : List Value} {b N : Nat} {i : Int32} (hx : Ok X cc own nL ret d) (hs : k_sh b = (10, N)) (hin : vp_in i N) (hd : decode cc pc = .ok (.iaload, 1)) (kk : J X ad nL I L (pc + 1) lv (.int (I b i.toNatClampNeg) :: st)) : J X ad nL I L pc lv (.int i :: .ref (ad b) :: st) := by
  obtain ⟨p, l, e, R, s, m, args, below, meth, c, Q, D, cA, A, cells, slots⟩ := X
  obtain ⟨hexec, hb, hml, hown, hts, hlk, hr, hA, hZ, hK, hcl, hsl, hfr, hlo⟩ := hx
  intro H locs ls hW hl
  obtain ⟨hP, hD, hS⟩ := hW
  exact va_iald hexec hb (hK.one hs (by decide) (by decide)) hP b 0 ((k_wl_at (k_sh_lt (by rw [hs]; show 10 < 90; decide))).trans (by rw [k_cell_a hs (by decide) (by decide)])) rfl hin hd (kk H locs ls ⟨hP, hD, hS⟩ hl)

theorem J_bald {X : k_C} {ad : Nat → Nat} {cc : ByteArray} {own : String} {nL : Nat} {ret : Option FieldType} {d : Nat} {I : StI} {L : StL} {pc : Nat} {lv : List (Nat × Value)} {st : List Value} {b N : Nat} {i : Int32} (hx : Ok X cc own nL ret d) (hs : k_sh b = (11, N)) (hin : vp_in i N) (hd : decode cc pc = .ok (.baload, 1)) (kk : J X ad nL I L (pc + 1) lv (.int (I b i.toNatClampNeg) :: st)) : J X ad nL I L pc lv (.int i :: .ref (ad b) :: st) := by
  obtain ⟨p, l, e, R, s, m, args, below, meth, c, Q, D, cA, A, cells, slots⟩ := X
  obtain ⟨hexec, hb, hml, hown, hts, hlk, hr, hA, hZ, hK, hcl, hsl, hfr, hlo⟩ := hx
  intro H locs ls hW hl
  obtain ⟨hP, hD, hS⟩ := hW
  exact va_bald hexec hb (hK.one hs (by decide) (by decide)) hP b 0 ((k_wl_at (k_sh_lt (by rw [hs]; show 11 < 90; decide))).trans (by rw [k_cell_a hs (by decide) (by decide)])) rfl hin hd (kk H locs ls ⟨hP, hD, hS⟩ hl)

theorem J_zald {X : k_C} {ad : Nat → Nat} {cc : ByteArray} {own : String} {nL : Nat} {ret : Option FieldType} {d : Nat} {I : StI} {L : StL} {pc : Nat} {lv : List (Nat × Value)} {st : List Value} {b N : Nat} {i : Int32} (hx : Ok X cc own nL ret d) (hs : k_sh b = (12, N)) (hin : vp_in i N) (hd : decode cc pc = .ok (.baload, 1)) (kk : J X ad nL I L (pc + 1) lv (.int (I b i.toNatClampNeg) :: st)) : J X ad nL I L pc lv (.int i :: .ref (ad b) :: st) := by
  obtain ⟨p, l, e, R, s, m, args, below, meth, c, Q, D, cA, A, cells, slots⟩ := X
  obtain ⟨hexec, hb, hml, hown, hts, hlk, hr, hA, hZ, hK, hcl, hsl, hfr, hlo⟩ := hx
  intro H locs ls hW hl
  obtain ⟨hP, hD, hS⟩ := hW
  exact va_zald hexec hb (hK.one hs (by decide) (by decide)) hP b 0 ((k_wl_at (k_sh_lt (by rw [hs]; show 12 < 90; decide))).trans (by rw [k_cell_a hs (by decide) (by decide)])) rfl hin hd (kk H locs ls ⟨hP, hD, hS⟩ hl)

theorem J_iast {X : k_C} {ad : Nat → Nat} {cc : ByteArray} {own : String} {nL : Nat} {ret : Option FieldType} {d : Nat} {I : StI} {L : StL} {pc : Nat} {lv : List (Nat × Value)} {st : List Value} {b N : Nat} {i x : Int32} {I1 : StI} (hx : Ok X cc own nL ret d) (hs : k_sh b = (10, N)) (hin : vp_in i N) (hd : decode cc pc = .ok (.iastore, 1)) (hI : I1 = k_up I b i.toNatClampNeg x) (kk : J X ad nL I1 L (pc + 1) lv st) : J X ad nL I L pc lv (.int x :: .int i :: .ref (ad b) :: st) := by
  obtain ⟨p, l, e, R, s, m, args, below, meth, c, Q, D, cA, A, cells, slots⟩ := X
  obtain ⟨hexec, hb, hml, hown, hts, hlk, hr, hA, hZ, hK, hcl, hsl, hfr, hlo⟩ := hx
  intro H locs ls hW hl
  obtain ⟨hP, hD, hS⟩ := hW
  subst hI
  refine va_iast hexec hb (hK.one hs (by decide) (by decide)) hP hD hS b 0 ((k_wl_at (k_sh_lt (by rw [hs]; show 10 < 90; decide))).trans (by rw [k_cell_a hs (by decide) (by decide)])) rfl hin hd (fun H1 locs1 hP hD hS => ?_)
  rw [k_set_a hs (by decide) (by decide)] at hP hD
  exact kk H1 locs1 ls ⟨hP, hD, hS⟩ hl

theorem J_bast {X : k_C} {ad : Nat → Nat} {cc : ByteArray} {own : String} {nL : Nat} {ret : Option FieldType} {d : Nat} {I : StI} {L : StL} {pc : Nat} {lv : List (Nat × Value)} {st : List Value} {b N : Nat} {i x : Int32} {I1 : StI} (hx : Ok X cc own nL ret d) (hs : k_sh b = (11, N)) (hin : vp_in i N) (hd : decode cc pc = .ok (.bastore, 1)) (hI : I1 = k_up I b i.toNatClampNeg (vp_nar .byte x)) (kk : J X ad nL I1 L (pc + 1) lv st) : J X ad nL I L pc lv (.int x :: .int i :: .ref (ad b) :: st) := by
  obtain ⟨p, l, e, R, s, m, args, below, meth, c, Q, D, cA, A, cells, slots⟩ := X
  obtain ⟨hexec, hb, hml, hown, hts, hlk, hr, hA, hZ, hK, hcl, hsl, hfr, hlo⟩ := hx
  intro H locs ls hW hl
  obtain ⟨hP, hD, hS⟩ := hW
  subst hI
  refine va_bast hexec hb (hK.one hs (by decide) (by decide)) hP hD hS b 0 ((k_wl_at (k_sh_lt (by rw [hs]; show 11 < 90; decide))).trans (by rw [k_cell_a hs (by decide) (by decide)])) rfl hin hd (fun H1 locs1 hP hD hS => ?_)
  rw [k_set_a hs (by decide) (by decide)] at hP hD
  exact kk H1 locs1 ls ⟨hP, hD, hS⟩ hl

theorem J_zast {X : k_C} {ad : Nat → Nat} {cc : ByteArray} {own : String} {nL : Nat} {ret : Option FieldType} {d : Nat} {I : StI} {L : StL} {pc : Nat} {lv : List (Nat × Value)} {st : List Value} {b N : Nat} {i x : Int32} {I1 : StI} (hx : Ok X cc own nL ret d) (hs : k_sh b = (12, N)) (hin : vp_in i N) (hd : decode cc pc = .ok (.bastore, 1)) (hI : I1 = k_up I b i.toNatClampNeg (vp_nar .boolean x)) (kk : J X ad nL I1 L (pc + 1) lv st) : J X ad nL I L pc lv (.int x :: .int i :: .ref (ad b) :: st) := by
  obtain ⟨p, l, e, R, s, m, args, below, meth, c, Q, D, cA, A, cells, slots⟩ := X
  obtain ⟨hexec, hb, hml, hown, hts, hlk, hr, hA, hZ, hK, hcl, hsl, hfr, hlo⟩ := hx
  intro H locs ls hW hl
  obtain ⟨hP, hD, hS⟩ := hW
  subst hI
  refine va_zast hexec hb (hK.one hs (by decide) (by decide)) hP hD hS b 0 ((k_wl_at (k_sh_lt (by rw [hs]; show 12 < 90; decide))).trans (by rw [k_cell_a hs (by decide) (by decide)])) rfl hin hd (fun H1 locs1 hP hD hS => ?_)
  rw [k_set_a hs (by decide) (by decide)] at hP hD
  exact kk H1 locs1 ls ⟨hP, hD, hS⟩ hl

theorem J_aald {X : k_C} {ad : Nat → Nat} {cc : ByteArray} {own : String} {nL : Nat} {ret : Option FieldType} {d : Nat} {I : StI} {L : StL} {pc : Nat} {lv : List (Nat × Value)} {st : List Value} {b N t q : Nat} {i : Int32} (hx : Ok X cc own nL ret d) (hs : k_sh b = (t, N)) (ht : 13 ≤ t) (ht2 : t < 20) (hin : vp_in i N) (hq : k_rf b i.toNatClampNeg = q) (hd : decode cc pc = .ok (.aaload, 1)) (kk : J X ad nL I L (pc + 1) lv (.ref (ad q) :: st)) : J X ad nL I L pc lv (.int i :: .ref (ad b) :: st) := by
  obtain ⟨p, l, e, R, s, m, args, below, meth, c, Q, D, cA, A, cells, slots⟩ := X
  obtain ⟨hexec, hb, hml, hown, hts, hlk, hr, hA, hZ, hK, hcl, hsl, hfr, hlo⟩ := hx
  intro H locs ls hW hl
  obtain ⟨hP, hD, hS⟩ := hW
  have hlt : i.toNatClampNeg < N := Nat.not_le.mp fun q => hin (Or.inr q)
  have hbl : b < 81 := k_sh_lt (by rw [hs]; show t < 90; omega)
  have ha := hP b _ ((k_wl_at hbl).trans (by rw [k_cell_r hs ht]))
  have hk := (hK.2 b (by rw [hs]; show 6 ≤ t; omega) hbl).1
  rw [hs] at hk
  refine W.aald (v := .ref (ad q)) (ty := k_ty t) hexec hb ha (hk N (fun j => va_rf (some (ad (k_rf b j))))) ?_ (fun q => by cases q) (by show ¬ (i < 0 ∨ (arrV _ _ _).slots.size ≤ _); rw [arrV_size]; exact hin) (by show (arrV _ _ _).slots[_]? = _; rw [arrV_read _ _ hlt]; exact congrArg (fun z => some (Value.ref (ad z))) hq) rfl rfl hd (kk H locs ls ⟨hP, hD, hS⟩ hl)
  rcases (show t = 13 ∨ t = 14 ∨ t = 15 ∨ 16 ≤ t by omega) with rfl | rfl | rfl | h
  · rfl
  · rfl
  · rfl
  · match t, h with
    | n + 16, _ => rfl

theorem J_alen {X : k_C} {ad : Nat → Nat} {cc : ByteArray} {own : String} {nL : Nat} {ret : Option FieldType} {d : Nat} {I : StI} {L : StL} {pc : Nat} {lv : List (Nat × Value)} {st : List Value} {b N : Nat} {v : Int32} (hx : Ok X cc own nL ret d) (hs : k_sh b = (10, N)) (hv : Int32.ofNat N = v) (hd : decode cc pc = .ok (.arraylength, 1)) (kk : J X ad nL I L (pc + 1) lv (.int v :: st)) : J X ad nL I L pc lv (.ref (ad b) :: st) := by
  obtain ⟨p, l, e, R, s, m, args, below, meth, c, Q, D, cA, A, cells, slots⟩ := X
  obtain ⟨hexec, hb, hml, hown, hts, hlk, hr, hA, hZ, hK, hcl, hsl, hfr, hlo⟩ := hx
  intro H locs ls hW hl
  obtain ⟨hP, hD, hS⟩ := hW
  exact va_alen hexec hb (hK.one hs (by decide) (by decide)) hP b 0 ((k_wl_at (k_sh_lt (by rw [hs]; show 10 < 90; decide))).trans (by rw [k_cell_a hs (by decide) (by decide)])) rfl hv hd (kk H locs ls ⟨hP, hD, hS⟩ hl)

theorem J_alenB {X : k_C} {ad : Nat → Nat} {cc : ByteArray} {own : String} {nL : Nat} {ret : Option FieldType} {d : Nat} {I : StI} {L : StL} {pc : Nat} {lv : List (Nat × Value)} {st : List Value} {b N : Nat} {v : Int32} (hx : Ok X cc own nL ret d) (hs : k_sh b = (11, N)) (hv : Int32.ofNat N = v) (hd : decode cc pc = .ok (.arraylength, 1)) (kk : J X ad nL I L (pc + 1) lv (.int v :: st)) : J X ad nL I L pc lv (.ref (ad b) :: st) := by
  obtain ⟨p, l, e, R, s, m, args, below, meth, c, Q, D, cA, A, cells, slots⟩ := X
  obtain ⟨hexec, hb, hml, hown, hts, hlk, hr, hA, hZ, hK, hcl, hsl, hfr, hlo⟩ := hx
  intro H locs ls hW hl
  obtain ⟨hP, hD, hS⟩ := hW
  exact va_alen hexec hb (hK.one hs (by decide) (by decide)) hP b 0 ((k_wl_at (k_sh_lt (by rw [hs]; show 11 < 90; decide))).trans (by rw [k_cell_a hs (by decide) (by decide)])) rfl hv hd (kk H locs ls ⟨hP, hD, hS⟩ hl)

theorem J_letters {X : k_C} {ad : Nat → Nat} {cc : ByteArray} {own : String} {nL : Nat} {ret : Option FieldType} {d : Nat} {I : StI} {L : StL} {pc : Nat} {lv : List (Nat × Value)} {st : List Value} {index kf : Nat} {i : Int32} (hx : Ok X cc own nL ret d) (hf : Cond.fieldLink own index "TripCalls" "LETTERS" "[I" ∈ k_tbl) (hd : decode cc pc = .ok (.getstatic index, 3)) {k3 : Fin 4} (hd2 : decode cc (pc + 3) = .ok (.iload_n k3, 1)) (q : Nat) (hq : lv[q]? = some ((k3 : Nat), .int i)) (hin : vp_in i 6) (hd3 : decode cc (pc + 4) = .ok (.iaload, 1)) (kk : J X ad nL I L (pc + 5) lv (.int (k_letters i.toNatClampNeg) :: st)) : J X ad nL I L pc lv st := by
  obtain ⟨p, l, e, R, s, m, args, below, meth, c, Q, D, cA, A, cells, slots⟩ := X
  obtain ⟨hexec, hb, hml, hown, hts, hlk, hr, hA, hZ, hK, hcl, hsl, hfr, hlo⟩ := hx
  intro H locs ls hW hl
  obtain ⟨t, hZ1, hT⟩ := hZ
  refine va_gets hexec hb hZ1 hW.2.2 hown (hts _ hf) (fun _ h9 => h9) hd ?_
  refine lv_iload_n hexec hb hd2 rfl (lv_at hl q hq) ?_
  exact va_ti hexec hb hT hW.2.2 hin rfl hd3 (kk H locs ls hW hl)

theorem J_iret {X : k_C} {ad : Nat → Nat} {cc : ByteArray} {own : String} {nL : Nat} {d : Nat} {P : Option Value → StI → StL → Prop} {I : StI} {L : StL} {pc : Nat} {lv : List (Nat × Value)} {v : Int32} (hx : Ok X cc own nL (some .int) d) (hQ : OkQ X ad P) (hd : decode cc pc = .ok (.ireturn, 1)) (h : P (some (.int v)) I L) : J X ad nL I L pc lv [.int v] := by
  obtain ⟨p, l, e, R, s, m, args, below, meth, c, Q, D, cA, A, cells, slots⟩ := X
  obtain ⟨hexec, hb, hml, hown, hts, hlk, hr, hA, hZ, hK, hcl, hsl, hfr, hlo⟩ := hx
  intro H locs ls hW hl
  obtain ⟨hP, hD, hS⟩ := hW
  unfold OkQ at hQ
  subst hQ
  exact W.iret (v := v) hexec hb hr (fun t ht hw => ⟨⟨_, I, L, rfl, h, hK.moved hw.alike, by rw [ht]; exact hP, hD⟩, hS.F ht⟩) hS.2.2 hd

theorem J_lret {X : k_C} {ad : Nat → Nat} {cc : ByteArray} {own : String} {nL : Nat} {d : Nat} {P : Option Value → StI → StL → Prop} {I : StI} {L : StL} {pc : Nat} {lv : List (Nat × Value)} {v : Int64} (hx : Ok X cc own nL (some .long) d) (hQ : OkQ X ad P) (hd : decode cc pc = .ok (.lreturn, 1)) (h : P (some (.long v)) I L) : J X ad nL I L pc lv [.long v] := by
  obtain ⟨p, l, e, R, s, m, args, below, meth, c, Q, D, cA, A, cells, slots⟩ := X
  obtain ⟨hexec, hb, hml, hown, hts, hlk, hr, hA, hZ, hK, hcl, hsl, hfr, hlo⟩ := hx
  intro H locs ls hW hl
  obtain ⟨hP, hD, hS⟩ := hW
  unfold OkQ at hQ
  subst hQ
  exact W.lret (v := v) hexec hb hr (fun t ht hw => ⟨⟨_, I, L, rfl, h, hK.moved hw.alike, by rw [ht]; exact hP, hD⟩, hS.F ht⟩) hS.2.2 hd

theorem J_zret {X : k_C} {ad : Nat → Nat} {cc : ByteArray} {own : String} {nL : Nat} {d : Nat} {P : Option Value → StI → StL → Prop} {I : StI} {L : StL} {pc : Nat} {lv : List (Nat × Value)} {v : Int32} (hx : Ok X cc own nL (some .boolean) d) (hQ : OkQ X ad P) (hd : decode cc pc = .ok (.ireturn, 1)) (hn : narrow .boolean (.int v) = .int v) (h : P (some (.int v)) I L) : J X ad nL I L pc lv [.int v] := by
  obtain ⟨p, l, e, R, s, m, args, below, meth, c, Q, D, cA, A, cells, slots⟩ := X
  obtain ⟨hexec, hb, hml, hown, hts, hlk, hr, hA, hZ, hK, hcl, hsl, hfr, hlo⟩ := hx
  intro H locs ls hW hl
  obtain ⟨hP, hD, hS⟩ := hW
  unfold OkQ at hQ
  subst hQ
  exact W.zret (v := v) hexec hb hr hn (fun t ht hw => ⟨⟨_, I, L, rfl, h, hK.moved hw.alike, by rw [ht]; exact hP, hD⟩, hS.F ht⟩) hS.2.2 hd
theorem J_vret {X : k_C} {ad : Nat → Nat} {cc : ByteArray} {own : String} {nL : Nat} {d : Nat} {P : Option Value → StI → StL → Prop} {I : StI} {L : StL} {pc : Nat} {lv : List (Nat × Value)} (hx : Ok X cc own nL none d) (hQ : OkQ X ad P) (hd : decode cc pc = .ok (.return_, 1)) (h : P none I L) : J X ad nL I L pc lv [] := by
  obtain ⟨p, l, e, R, s, m, args, below, meth, c, Q, D, cA, A, cells, slots⟩ := X
  obtain ⟨hexec, hb, hml, hown, hts, hlk, hr, hA, hZ, hK, hcl, hsl, hfr, hlo⟩ := hx
  intro H locs ls hW hl
  obtain ⟨hP, hD, hS⟩ := hW
  unfold OkQ at hQ
  subst hQ
  exact W.vret hexec hb hr (fun t ht hw => ⟨⟨_, I, L, rfl, h, hK.moved hw.alike, by rw [ht]; exact hP, hD⟩, hS.F ht⟩) hS.2.2 hd
