def k_tbl : List Cond := lw_tbl.filter goodWord
theorem k_in {w : Cond} (h : w ∈ lw_tbl) (hg : goodWord w = true) : w ∈ k_tbl := List.mem_filter.mpr ⟨h, hg⟩
theorem kinX0 : ∀ w ∈ wsX00, w ∈ k_tbl := fun w h => k_in (inX0 w h) (List.all_eq_true.mp (show wsX00.all goodWord = true by decide +kernel) w h)
theorem kinX1 : ∀ w ∈ wsX10, w ∈ k_tbl := fun w h => k_in (inX1 w h) (List.all_eq_true.mp (show wsX10.all goodWord = true by decide +kernel) w h)
theorem kinX2 : ∀ w ∈ wsX20, w ∈ k_tbl := fun w h => k_in (inX2 w h) (List.all_eq_true.mp (show wsX20.all goodWord = true by decide +kernel) w h)
theorem kinX3 : ∀ w ∈ wsX30, w ∈ k_tbl := fun w h => k_in (inX3 w h) (List.all_eq_true.mp (show wsX30.all goodWord = true by decide +kernel) w h)
theorem kinX4 : ∀ w ∈ wsX40, w ∈ k_tbl := fun w h => k_in (inX4 w h) (List.all_eq_true.mp (show wsX40.all goodWord = true by decide +kernel) w h)
theorem kinX5 : ∀ w ∈ wsX50, w ∈ k_tbl := fun w h => k_in (inX5 w h) (List.all_eq_true.mp (show wsX50.all goodWord = true by decide +kernel) w h)
/-! the worlds of this system: 81 cells of fixed shape; a store says what numbers they hold -/
abbrev StI : Type := Nat → Nat → Int32
abbrev StL : Type := Nat → Nat → Int64
def k_up (I : StI) (b k : Nat) (v : Int32) : StI := fun i j => if i = b ∧ j = k then v else I i j
def k_upL (L : StL) (b k : Nat) (v : Int64) : StL := fun i j => if i = b ∧ j = k then v else L i j
def k_cpA (I : StI) (a b sp dp n : Nat) : StI := fun i j => if i = b then va_cpy (I a) (I b) sp dp n j else I i j
def k_shL : List (Nat × Nat) := [(4, 17), (15, 6), (10, 40), (10, 40), (10, 40), (10, 40), (10, 40), (10, 40), (10, 6), (16, 4), (11, 60), (11, 60), (11, 60), (11, 60), (10, 4),
  (3, 8), (13, 7), (0, 7), (0, 7), (0, 7), (0, 7), (0, 7), (0, 7), (0, 7), (3, 8), (13, 7), (0, 7), (0, 7), (0, 7), (0, 7), (0, 7), (0, 7), (0, 7), (3, 8), (13, 7), (0, 7), (0, 7), (0, 7), (0, 7), (0, 7), (0, 7), (0, 7),
  (2, 4), (10, 40), (10, 40), (10, 40), (14, 3), (10, 6), (1, 2), (10, 256), (10, 60), (2, 4), (10, 40), (10, 40), (10, 40), (2, 4), (10, 40), (10, 40), (10, 40), (2, 4), (10, 40), (10, 40), (10, 40),
  (5, 27), (10, 6), (10, 240), (10, 4), (10, 240), (10, 7), (10, 7), (10, 40), (10, 40), (10, 7), (10, 1600), (10, 4923), (12, 3), (10, 6), (10, 7), (10, 14), (10, 126), (10, 6561)]
def k_sh (i : Nat) : Nat × Nat := (k_shL[i]?).getD (99, 0)
def k_rf (i j : Nat) : Nat :=
  if i = 0 then (([1, 8, 9, 14, 15, 24, 33, 42, 46, 0, 0, 0, 0, 47, 48, 49, 50] : List Nat)[j]?).getD 0
  else if i = 1 then 2 + j else if i = 9 then 10 + j else if i = 46 then 51 + 4 * j
  else if i = 63 then (([64, 65, 66, 67, 0, 68, 69, 70, 71, 72, 73, 0, 74, 75, 0, 0, 0, 0, 76, 0, 0, 77, 78, 0, 0, 79, 80] : List Nat)[j]?).getD 0
  else i + 1 + j
def k_fk (ci k : Nat) : Nat := match ci with
  | 2 => if k < 3 then 2 else 0
  | 3 => if k = 0 then 2 else 0
  | 4 => (([2, 2, 2, 2, 2, 2, 2, 2, 2, 0, 1, 1, 0, 2, 2, 2, 2] : List Nat)[k]?).getD 0
  | 5 => (([2, 2, 2, 2, 0, 2, 2, 2, 2, 2, 2, 0, 2, 2, 0, 1, 1, 0, 2, 0, 0, 2, 2, 0, 0, 2, 2] : List Nat)[k]?).getD 0
  | _ => 0
def k_ty (t : Nat) : FieldType := match t with
  | 10 => .int
  | 11 => .byte
  | 12 => .boolean
  | 13 => .object "TripCalls$Caller"
  | 14 => .object "TripCalls$Deeds"
  | 15 => .array .int
  | _ => .array .byte
def k_val (ad : Nat → Nat) (I : StI) (L : StL) (i k : Nat) : Value := match k_fk (k_sh i).1 k with
  | 0 => .int (I i k)
  | 1 => .long (L i k)
  | _ => .ref (ad (k_rf i k))
def k_cell (cA : Nat → ClassId) (ad : Nat → Nat) (I : StI) (L : StL) (i : Nat) : va_E :=
  if (k_sh i).1 < 6 then .inr ((k_sh i).1, (List.range (k_sh i).2).map (fun k => k_val ad I L i k))
  else if (k_sh i).1 < 13 then .inl (cA i, (k_sh i).2, .inl (I i))
  else .inl (cA i, (k_sh i).2, .inr (.inr (.inr (.inr (fun j => some (ad (k_rf i j)))))))
def k_wl (cA : Nat → ClassId) (ad : Nat → Nat) (I : StI) (L : StL) : va_W := (List.range 81).map (fun i => (ad i, k_cell cA ad I L i))
theorem k_wl_at {cA : Nat → ClassId} {ad : Nat → Nat} {I : StI} {L : StL} {i : Nat} (h : i < 81) : (k_wl cA ad I L)[i]? = some (ad i, k_cell cA ad I L i) := by
  simp [k_wl, h]
theorem k_sh_lt {i : Nat} (h : (k_sh i).1 < 90) : i < 81 := by
  rcases Nat.lt_or_ge i 81 with h1 | h1
  · exact h1
  · have : k_shL[i]? = none := List.getElem?_eq_none (by show 81 ≤ i; exact h1)
    unfold k_sh at h
    rw [this] at h
    simp at h
theorem k_wl_set {cA : Nat → ClassId} {ad : Nat → Nat} {I I' : StI} {L L' : StL} {b : Nat} {e : va_E} (hb : k_cell cA ad I' L' b = e) (ho : ∀ i, i ≠ b → k_cell cA ad I' L' i = k_cell cA ad I L i) : (k_wl cA ad I L).set b (ad b, e) = k_wl cA ad I' L' := by
  apply List.ext_getElem?
  intro i
  rw [List.getElem?_set]
  by_cases h : i < 81
  · rw [k_wl_at h, k_wl_at h]
    by_cases hi : b = i
    · subst hi
      simp [k_wl, h, hb]
    · simp [hi, ho i (Ne.symm hi)]
  · have e1 : ∀ J K, (k_wl cA ad J K)[i]? = none := fun J K => List.getElem?_eq_none (by simp [k_wl]; omega)
    rw [e1, e1]
    by_cases hi : b = i
    · subst hi
      simp [k_wl, h]
    · simp [hi]
theorem k_up_ne {I : StI} {b k i : Nat} {v : Int32} (h : i ≠ b) : k_up I b k v i = I i := by
  funext j
  simp [k_up, h]
theorem k_upL_ne {L : StL} {b k i : Nat} {v : Int64} (h : i ≠ b) : k_upL L b k v i = L i := by
  funext j
  simp [k_upL, h]
theorem k_up_eq {I : StI} {b k : Nat} {v : Int32} : k_up I b k v b = upd (I b) k v := by
  funext j
  simp [k_up, upd]
theorem k_cell_I {cA : Nat → ClassId} {ad : Nat → Nat} {I I' : StI} {L L' : StL} {i : Nat} (h : I' i = I i) (h2 : L' i = L i) : k_cell cA ad I' L' i = k_cell cA ad I L i := by
  unfold k_cell k_val
  rw [h, h2]
theorem k_cell_o {cA : Nat → ClassId} {ad : Nat → Nat} {I : StI} {L : StL} {i ci N : Nat} (h : k_sh i = (ci, N)) (hc : ci < 6) : k_cell cA ad I L i = .inr (ci, (List.range N).map (fun k => k_val ad I L i k)) := by
  unfold k_cell
  rw [h]
  simp [hc]
theorem k_cell_a {cA : Nat → ClassId} {ad : Nat → Nat} {I : StI} {L : StL} {i t N : Nat} (h : k_sh i = (t, N)) (h1 : 6 ≤ t) (h2 : t < 13) : k_cell cA ad I L i = .inl (cA i, N, .inl (I i)) := by
  unfold k_cell
  rw [h]
  simp [h2, Nat.not_lt.mpr h1]
theorem k_cell_r {cA : Nat → ClassId} {ad : Nat → Nat} {I : StI} {L : StL} {i t N : Nat} (h : k_sh i = (t, N)) (h1 : 13 ≤ t) : k_cell cA ad I L i = .inl (cA i, N, .inr (.inr (.inr (.inr (fun j => some (ad (k_rf i j))))))) := by
  unfold k_cell
  rw [h]
  simp [Nat.not_lt.mpr h1, show ¬ t < 6 by omega]
theorem k_set_f {cA : Nat → ClassId} {ad : Nat → Nat} {I : StI} {L : StL} {b ci N k : Nat} {v : Int32} (h : k_sh b = (ci, N)) (hc : ci < 6) (hf : k_fk ci k = 0) : (k_wl cA ad I L).set b (ad b, .inr (ci, ((List.range N).map (fun k => k_val ad I L b k)).set k (.int v))) = k_wl cA ad (k_up I b k v) L := by
  refine k_wl_set ?_ (fun i hi => k_cell_I (k_up_ne hi) rfl)
  rw [k_cell_o h hc]
  congr 2
  apply List.ext_getElem?
  intro j
  rw [List.getElem?_set]
  by_cases hj : k = j
  · subst hj
    by_cases hN : k < N
    · simp [hN, k_val, h, hf, k_up]
    · simp [hN]
  · have : k_val ad (k_up I b k v) L b j = k_val ad I L b j := by
      unfold k_val
      simp [k_up, Ne.symm hj]
    by_cases hN : j < N
    · simp [hj, hN, this]
    · simp [hj, hN]
theorem k_set_L {cA : Nat → ClassId} {ad : Nat → Nat} {I : StI} {L : StL} {b ci N k : Nat} {v : Int64} (h : k_sh b = (ci, N)) (hc : ci < 6) (hf : k_fk ci k = 1) : (k_wl cA ad I L).set b (ad b, .inr (ci, ((List.range N).map (fun k => k_val ad I L b k)).set k (.long v))) = k_wl cA ad I (k_upL L b k v) := by
  refine k_wl_set ?_ (fun i hi => k_cell_I rfl (k_upL_ne hi))
  rw [k_cell_o h hc]
  congr 2
  apply List.ext_getElem?
  intro j
  rw [List.getElem?_set]
  by_cases hj : k = j
  · subst hj
    by_cases hN : k < N
    · simp [hN, k_val, h, hf, k_upL]
    · simp [hN]
  · have : k_val ad I (k_upL L b k v) b j = k_val ad I L b j := by
      unfold k_val
      simp [k_upL, Ne.symm hj]
    by_cases hN : j < N
    · simp [hj, hN, this]
    · simp [hj, hN]
theorem k_set_a {cA : Nat → ClassId} {ad : Nat → Nat} {I : StI} {L : StL} {b t N k : Nat} {v : Int32} (h : k_sh b = (t, N)) (h1 : 6 ≤ t) (h2 : t < 13) : (k_wl cA ad I L).set b (ad b, .inl (cA b, N, .inl (upd (I b) k v))) = k_wl cA ad (k_up I b k v) L := by
  refine k_wl_set ?_ (fun i hi => k_cell_I (k_up_ne hi) rfl)
  rw [k_cell_a h h1 h2, k_up_eq]
theorem k_set_c {cA : Nat → ClassId} {ad : Nat → Nat} {I : StI} {L : StL} {a b t N sp dp n : Nat} (h : k_sh b = (t, N)) (h1 : 6 ≤ t) (h2 : t < 13) : (k_wl cA ad I L).set b (ad b, .inl (cA b, N, .inl (va_cpy (I a) (I b) sp dp n))) = k_wl cA ad (k_cpA I a b sp dp n) L := by
  refine k_wl_set ?_ (fun i hi => k_cell_I (by funext j; simp [k_cpA, hi]) rfl)
  rw [k_cell_a h h1 h2]
  congr 4
  funext j
  simp [k_cpA]
/-- the tables, of the classes and of each array -/
def k_K (D : va_G) (cA : Nat → ClassId) (s : State) : Prop := va_K D vwCl [] s ∧ ∀ i, 6 ≤ (k_sh i).1 → i < 81 → ArrOfT s (cA i) (k_ty (k_sh i).1) ∧ va_RA s (cA i) (k_ty (k_sh i).1)
theorem k_K.moved {D : va_G} {cA : Nat → ClassId} {u U : State} (hvm : u.vm.Alike U.vm) (h : k_K D cA u) : k_K D cA U := ⟨va_K.moved hvm h.1, fun i h1 h2 => ⟨arrOfT_moved hvm (h.2 i h1 h2).1, (h.2 i h1 h2).2.moved hvm⟩⟩
theorem k_K.one {D : va_G} {cA : Nat → ClassId} {s : State} (h : k_K D cA s) {i t N : Nat} (hs : k_sh i = (t, N)) (h1 : 6 ≤ t) (h2 : t < 90) : va_K D vwCl [(cA i, k_ty t)] s := by
  refine ⟨h.1.1, fun k q hk => ?_⟩
  have hi : i < 81 := k_sh_lt (by rw [hs]; exact h2)
  have := h.2 i (by rw [hs]; exact h1) hi
  rw [hs] at this
  match k, hk with
  | 0, hk => cases hk; exact this
  | k + 1, hk => simp at hk
def k_letters (j : Nat) : Int32 := (([112, 108, 116, 101, 115, 98] : List Int32)[j]?).getD 0
/-- the constant array LETTERS -/
def k_Z (A : Nat → Prop) (s : State) (H : Heap) : Prop := ∃ t : Nat, va_Z "TripCalls" "LETTERS" "[I" (.ref t) A s H ∧ va_T .int t 6 (fun j => .int (k_letters j)) A s H
theorem k_Z.moved {A : Nat → Prop} {u U : State} {H : Heap} (hvm : u.vm.Alike U.vm) (h : k_Z A u H) : k_Z A U H := by
  obtain ⟨t, h1, h2⟩ := h
  exact ⟨t, h1.moved hvm, h2.moved hvm⟩
theorem k_Z.kept {A : Nat → Prop} {U : State} {H H1 : Heap} (h : k_Z A U H) (hq : ∀ a : Nat, a < H.size → ¬ A a → H1[a]? = H[a]?) : k_Z A U H1 := by
  obtain ⟨t, h1, h2⟩ := h
  exact ⟨t, h1.kept hq, h2.kept hq⟩
theorem k_Z.narrow {A B : Nat → Prop} {U : State} {H : Heap} (h : k_Z A U H) (hAB : ∀ q, B q → A q) : k_Z B U H := by
  obtain ⟨t, h1, h2⟩ := h
  exact ⟨t, h1.narrow hAB, h2.narrow hAB⟩
abbrev k_C : Type := Program × Launch × Env × Room × State × MethodId × Array Value × List Frame × Method × Code × (State → Prop) × va_G × (Nat → ClassId) × (Nat → Prop) × Nat × Nat
def k_rm (d : Nat) : Room := { frames := d, cells := 0, slots := 0, locals := 40 * d }
def k_Wd (X : k_C) (ad : Nat → Nat) (I : StI) (L : StL) (H : Heap) (locs : List Loc) : Prop := match X with
  | (_, _, _, _, s, _, _, _, _, _, _, D, cA, A, _, _) => va_P D vwCl (k_wl cA ad I L) H ∧ va_D A (k_wl cA ad I L) ∧ va_S A s.heap H locs
/-- the machine at pc, with these locals, this stack, this store, comes to the method's end as it should -/
def J (X : k_C) (ad : Nat → Nat) (nL : Nat) (I : StI) (L : StL) (pc : Nat) (lv : List (Nat × Value)) (st : List Value) : Prop := match X with
  | (p, l, e, R, s, m, args, below, meth, c, Q, _, _, _, cells, slots) => ∀ (H : Heap) (locs : List Loc) (ls : Array Slot), k_Wd X ad I L H locs → lv_has ls nL lv → W p l e R s m args below meth c H locs cells slots Q (F0 m pc ls st)
/-- what a method's end must be: P of its answer and of the store -/
def k_Q (D : va_G) (cA : Nat → ClassId) (ad : Nat → Nat) (P : Option Value → StI → StL → Prop) (A : Nat → Prop) : Array Value → State → Outcome → State → Prop := fun _ st oc t =>
  (∃ (v : Option Value) (I : StI) (L : StL), oc = .returned v ∧ P v I L ∧ k_K D cA t ∧ va_P D vwCl (k_wl cA ad I L) t.heap ∧ va_D A (k_wl cA ad I L)) ∧ va_F A st t
/-- the frame of a walk: code, tables, room, the method's end -/
def Ok (X : k_C) (cc : ByteArray) (own : String) (nL : Nat) (ret : Option FieldType) (d : Nat) : Prop := match X with
  | (p, _, _, R, s, m, args, _, meth, c, _, D, cA, A, cells, slots) => p.tables.exec = Jvm.exec ∧ c.code = cc ∧ c.maxLocals = nL ∧ s.vm.findClass own = some m.cls ∧ (∀ w ∈ k_tbl, w.before args s = true) ∧ meth.locks = false ∧ meth.sig.returnType = ret ∧ (∀ q, s.heap.size ≤ q → A q) ∧ k_Z A s s.heap ∧ k_K D cA s ∧ cells ≤ R.cells ∧ slots ≤ R.slots ∧ d ≤ R.frames ∧ 40 * d ≤ R.locals
def OkQ (X : k_C) (ad : Nat → Nat) (P : Option Value → StI → StL → Prop) : Prop := match X with
  | (_, _, _, _, s, _, args, below, _, _, Q, D, cA, A, cells, slots) => Q = MQ below (k_Q D cA ad P A) args s cells slots A
def k_lau (X : k_C) : Launch := X.2.1
def k_Pre (D : va_G) (cA : Nat → ClassId) (ad : Nat → Nat) (sz : Nat) (I : StI) (L : StL) (U : State) : Prop := U.heap.size = sz ∧ k_K D cA U ∧ va_P D vwCl (k_wl cA ad I L) U.heap ∧ va_D (fun _ => True) (k_wl cA ad I L) ∧ k_Z (va_A (k_wl cA ad I L) sz) U U.heap
/-- a method's contract: from this store, these arguments, it comes to an end with P -/
def k_Met (l : Launch) (ad : Nat → Nat) (d : Nat) (y : MethodName) (cc : ByteArray) (maxL : Nat) (ret : Option FieldType) (as : List Value) (I : StI) (L : StL) (P : Option Value → StI → StL → Prop) : Prop :=
  ∀ (D : va_G) (cA : Nat → ClassId) (sz : Nat), Met l y (.code y cc maxL ret :: k_tbl) (k_rm d) (va_Pc as (k_Pre D cA ad sz I L)) (k_Q D cA ad P (va_A (k_wl cA ad I L) sz)) 0 0 (va_A (k_wl cA ad I L) sz)
