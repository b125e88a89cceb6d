/-! rows of rows: the machine makes the outer row, then an inner one for each place -/
def mo (cA : ClassId) (N h i : Nat) : Cell := arrV cA N (fun j => va_rf (if j < i then some (h + 1 + j) else none))
def mi (comp : ClassId) (M : Nat) (dv : Value) : Cell := arrV comp M (fun _ => dv)
theorem mo_set {cA : ClassId} {N h i : Nat} : (mo cA N h i).setSlot i (.ref (h + 1 + i)) = mo cA N h (i + 1) := by
  unfold mo
  rw [arrV_store]
  refine congrArg (arrV cA N) (funext fun j => ?_)
  unfold updV
  by_cases e : j = i
  · subst e
    rw [if_pos rfl, if_pos (Nat.lt_succ_self j)]
    rfl
  · rw [if_neg e]
    dsimp only
    by_cases h : j < i
    · rw [if_pos h, if_pos (by omega)]
    · rw [if_neg h, if_neg (by omega)]
/-- the state behind i inner rows -/
def mst (T : State) (cA comp : ClassId) (N M : Nat) (dv : Value) : Nat → State
  | 0 => T.pushCell (mo cA N T.heap.size 0)
  | i + 1 => ((mst T cA comp N M dv i).pushCell (mi comp M dv)).setCell T.heap.size (mo cA N T.heap.size (i + 1))
theorem mst_top (T : State) (f : JFrame) (cA comp : ClassId) (N M : Nat) (dv : Value) : ∀ i, mst (T.setTop f) cA comp N M dv i = (mst T cA comp N M dv i).setTop f
  | 0 => rfl
  | i + 1 => by
    unfold mst
    rw [mst_top T f cA comp N M dv i, State.heap_setTop, State.pushCell_setTop, State.setCell_setTop]
theorem mst_f (T : State) (cA comp : ClassId) (N M : Nat) (dv : Value) : ∀ i, (mst T cA comp N M dv i).heap.size = T.heap.size + 1 + i ∧ (mst T cA comp N M dv i).heap[T.heap.size]? = some (mo cA N T.heap.size i) ∧ (mst T cA comp N M dv i).vm = T.vm ∧ (∀ q, q < T.heap.size → (mst T cA comp N M dv i).heap[q]? = T.heap[q]?) ∧ ∀ j, j < i → (mst T cA comp N M dv i).heap[T.heap.size + 1 + j]? = some (mi comp M dv)
  | 0 => by
    refine ⟨by simp [mst], by simp [mst], rfl, fun q hq => ?_, fun j hj => absurd hj (by omega)⟩
    exact State.heap_pushCell_of_lt _ _ hq
  | i + 1 => by
    obtain ⟨h1, h2, h3, h4, h5⟩ := mst_f T cA comp N M dv i
    have hlt : T.heap.size < ((mst T cA comp N M dv i).pushCell (mi comp M dv)).heap.size := by simp [h1]; omega
    have ho : ∀ q, q ≠ T.heap.size → (mst T cA comp N M dv (i + 1)).heap[q]? = ((mst T cA comp N M dv i).pushCell (mi comp M dv)).heap[q]? := fun q hq => by
      show (((mst T cA comp N M dv i).pushCell (mi comp M dv)).setCell T.heap.size _).heap[q]? = _
      exact heapAt_setCell_ne _ (Ne.symm hq)
    refine ⟨?_, ?_, ?_, fun q hq => ?_, fun j hj => ?_⟩
    · show (((mst T cA comp N M dv i).pushCell (mi comp M dv)).setCell T.heap.size _).heap.size = _
      rw [size_setCell]
      simp [h1]
      omega
    · exact heapAt_setCell_self _ hlt
    · exact h3
    · have hz : q < (mst T cA comp N M dv i).heap.size := by rw [h1]; omega
      rw [ho q (by omega), State.heap_pushCell_of_lt _ _ hz]
      exact h4 q hq
    · rw [ho _ (by omega)]
      by_cases e : j = i
      · subst e
        rw [← h1]
        exact State.heap_pushCell_size _ _
      · have hz : T.heap.size + 1 + j < (mst T cA comp N M dv i).heap.size := by rw [h1]; omega
        rw [State.heap_pushCell_of_lt _ _ hz]
        exact h5 j (by omega)
section MUL
variable {p : Program} {l : Launch} {e : Env} {R : Room} {s : State} {m : MethodId} {args : Array Value} {below : List Frame} {meth : Method} {c : Code} {T : State} {locs : List Loc} {cells slots : Nat}
theorem mst_stand (X : Stand p l e R s m args below meth c T locs cells slots) (cA comp : ClassId) (N M : Nat) (dv : Value) : ∀ i, ∃ L : List Loc, (∀ q ∈ L, q.base = T.heap.size) ∧ Stand p l e R s m args below meth c (mst T cA comp N M dv i) (locs ++ L) (cells + 1 + i) (slots + N + i * M)
  | 0 => by
    refine ⟨[], fun q hq => absurd hq (by simp), ?_⟩
    have h := X.pushed (mo cA N T.heap.size 0)
    rw [show (mo cA N T.heap.size 0).slots.size = N from arrV_size _ _ _] at h
    rw [List.append_nil, Nat.zero_mul]
    exact h
  | i + 1 => by
    obtain ⟨L, hL, Xi⟩ := mst_stand X cA comp N M dv i
    obtain ⟨h1, h2, h3, h4, h5⟩ := mst_f T cA comp N M dv i
    have hc : ((mst T cA comp N M dv i).pushCell (mi comp M dv)).heap[T.heap.size]? = some (mo cA N T.heap.size i) := by
      have hz : T.heap.size < (mst T cA comp N M dv i).heap.size := by rw [h1]; omega
      rw [State.heap_pushCell_of_lt _ _ hz]
      exact h2
    have h := (Xi.pushed (mi comp M dv)).stored hc i (.ref (T.heap.size + 1 + i))
    rw [show (mi comp M dv).slots.size = M from arrV_size _ _ _, mo_set, List.append_assoc] at h
    refine ⟨L ++ [⟨T.heap.size, i⟩], fun q hq => ?_, ?_⟩
    · rcases List.mem_append.mp hq with hq | hq
      · exact hL q hq
      · rw [List.mem_singleton.mp hq]
    · rw [show slots + N + (i + 1) * M = slots + N + i * M + M by rw [Nat.succ_mul]; omega]
      exact h
end MUL
section MUW
variable {E : CtlPost} {e : Env} {d : Bool} {acts : List Action} {s : State}
theorem mst_make {cA comp cc : ClassId} {kA kC : Class} {ty : FieldType} {n k : Int32} {N M : Nat} (hN : n.toNatClampNeg = N) (hM : k.toNatClampNeg = M) (hn : ¬ n < 0) (hk : ¬ k < 0) (h1 : s.vm.classes[cA]? = some kA) (h2 : kA.kind = .array comp (.array ty)) (h3 : s.vm.classes[comp]? = some kC) (h4 : kC.kind = .array cc ty)
    (hl1 : ¬ N > e.platform.arrayLengthLimit) (hh1 : ¬ N * componentBytes (.array ty) > e.platform.maxHeapBytes) (hl2 : ¬ M > e.platform.arrayLengthLimit) (hh2 : ¬ M * componentBytes ty > e.platform.maxHeapBytes) (hdf : fits ty (defaultValue ty) = true)
    (hr0 : s.heap.size < e.platform.maxCells ∧ s.slotsUsed + N ≤ e.platform.maxSlots) (hr : ∀ i, i < N → (mst s cA comp N M (defaultValue ty) i).heap.size < e.platform.maxCells ∧ (mst s cA comp N M (defaultValue ty) i).slotsUsed + M ≤ e.platform.maxSlots)
    {Q : Addr → Pre} (hq : ∀ d' acts', Q s.heap.size d' acts' (mst s cA comp N M (defaultValue ty) N)) : wp (multianewarray.make cA [n, k]) Q E e d acts s := by
  have hfi : ([k].find? (· < 0)) = none := by simp [hk]
  rw [multianewarray.make]
  simp only [wp_bind', W.ite, hn, if_false, wp_pure', W.theClass, h1, h2, Option.some.injEq, exists_eq_left', hN]
  refine W.newArray_of h1 h2 hl1 hh1 hr0.1 hr0.2 rfl (fun acts1 => ?_)
  simp only [hfi]
  rw [ite_self, wp_bind', Std.Legacy.Range.forIn_eq_forIn_range']
  rw [show ([:N] : Std.Legacy.Range).size = N by simp [Std.Legacy.Range.size]]
  show wp (forIn (List.range' 0 N 1) PUnit.unit _) _ E e d acts1 _
  have h00 : s.pushCell { cls := cA, slots := Array.replicate N .null } = mst s cA comp N M (defaultValue ty) 0 := by
    show s.pushCell _ = s.pushCell (mo cA N s.heap.size 0)
    congr 1
    rw [arrV_new]
    unfold mo
    refine congrArg (arrV cA N) (funext fun j => ?_)
    rw [if_neg (Nat.not_lt_zero j)]
    rfl
  rw [h00]
  refine wp_forIn_inv (fun rest s' => ∃ i, i + rest.length = N ∧ rest = List.range' i (N - i) ∧ s' = mst s cA comp N M (defaultValue ty) i) _ _ ⟨0, by simp, rfl, rfl⟩ ?_ ?_
  · rintro x rest s' d' acts' Q' ⟨i, hi, hl, rfl⟩ hnext
    have hlt : i < N := by
      rw [List.length_cons] at hi
      omega
    rw [show N - i = (N - (i + 1)) + 1 by omega, List.range'_succ] at hl
    obtain ⟨rfl, hrest⟩ := List.cons.inj hl
    obtain ⟨f1, f2, f3, f4, f5⟩ := mst_f s cA comp N M (defaultValue ty) x
    simp only [wp_bind']
    rw [multianewarray.make]
    simp only [wp_bind', W.ite, hk, if_false, wp_pure', W.theClass, f3, h3, h4, Option.some.injEq, exists_eq_left', hM]
    refine W.newArray_of (by rw [f3]; exact h3) h4 hl2 hh2 (hr x hlt).1 (hr x hlt).2 hdf (fun acts2 => ?_)
    rw [arrV_new]
    simp only [wp_bind', W.writeLoc, wp_pure']
    refine ⟨mo cA N s.heap.size x, ?_, ?_, ?_, ?_, hnext _ _ _ ⟨x + 1, ?_, hrest, ?_⟩⟩
    · have hz : s.heap.size < (mst s cA comp N M (defaultValue ty) x).heap.size := by rw [f1]; omega
      rw [State.heap_pushCell_of_lt _ _ hz]
      exact f2
    · intro z
      cases z
    · rw [show (mo cA N s.heap.size x).slots.size = N from arrV_size _ _ _]
      exact hlt
    · show State.fitsSlot _ cA .none x _ = true
      simp [State.fitsSlot, State.slotType?, f3, h1, h2]
      rfl
    · rw [List.length_cons] at hi
      omega
    · rw [f1, mo_set]
      rfl
  · rintro s' d' acts' ⟨i, hi, hl, rfl⟩
    rw [List.length_nil] at hi
    rw [show i = N by omega]
    simp only [wp_pure']
    exact hq _ _
end MUW
/-- what the tables say of rows of rows -/
def kc_AA (ty : FieldType) (U : State) : Prop := ∃ (comp cA : ClassId) (kA : Class), U.vm.findClass (FieldType.array ty).toString = some comp ∧ U.vm.classes[cA]? = some kA ∧ kA.kind = .array comp (.array ty) ∧ U.vm.findClass ("[" ++ (FieldType.array ty).toString) = some cA
theorem kc_AA.of {ty : FieldType} {A : Array Value} {U : State} (h : (Cond.arrayOver (.array ty)).before A U = true) : kc_AA ty U := by
  obtain ⟨comp, cA, kA, h1, -, h2, h3, h4⟩ := arrayOverA_spec h
  exact ⟨comp, cA, kA, h1, h2, h3, h4⟩
theorem kc_AA.moved {ty : FieldType} {u U : State} (hvm : u.vm.Alike U.vm) (h : kc_AA ty u) : kc_AA ty U := by
  obtain ⟨comp, cA, kA, h1, h2, h3, h4⟩ := h
  obtain ⟨k1, hk1, he⟩ := hvm.2.2 _ _ h2
  exact ⟨comp, cA, k1, by rw [hvm.findClass]; exact h1, hk1, by rw [he]; exact h3, by rw [hvm.findClass]; exact h4⟩
section MUX
variable {p : Program} {l : Launch} {e : Env} {R : Room} {s : State} {m : MethodId} {args : Array Value} {below : List Frame} {meth : Method} {c : Code} {H : Heap} {locs : List Loc} {cells slots : Nat} {Q : State → Prop}
theorem W_multi {cc : ByteArray} (hexec : p.tables.exec = Jvm.exec) (hb : c.code = cc) {own : String} {index : Nat} {ty : FieldType} (hown : s.vm.findClass own = some m.cls) (hclink : (Cond.classLink own index ("[" ++ (FieldType.array ty).toString)).before args s = true) (hover : kc_AA ty s) (harr : (Cond.arrayClass ty).before args s = true)
    {g : JFrame} (hg : g.method = m) (hdg : decode cc g.pc = .ok (.multianewarray index 2, 4)) {n k : Int32} {N M : Nat} (hN : n.toNatClampNeg = N) (hM : k.toNatClampNeg = M) {rest : List Value} (hstack : g.stack = .int k :: .int n :: rest) (hn : ¬ n < 0) (hk : ¬ k < 0) (hb1 : N * 4 ≤ 536870912) (hb2 : M * componentBytes ty ≤ 536870912) (hb3 : M ≤ 536870912)
    (hdf : fits ty (defaultValue ty) = true) (hcells : cells + (1 + N) ≤ R.cells) (hslots : slots + (N + N * M) ≤ R.slots)
    (kk : ∀ (cA comp : ClassId) (kA kC : Class) (cc : ClassId) (H1 : Heap) (locs1 : List Loc), s.vm.findClass ("[" ++ (FieldType.array ty).toString) = some cA → s.vm.findClass (FieldType.array ty).toString = some comp → s.vm.classes[cA]? = some kA → kA.kind = .array comp (.array ty) → s.vm.classes[comp]? = some kC → kC.kind = .array cc ty →
      H1.size = H.size + 1 + N → H1[H.size]? = some (mo cA N H.size N) → (∀ q, q < H.size → H1[q]? = H[q]?) → (∀ j, j < N → H1[H.size + 1 + j]? = some (mi comp M (defaultValue ty))) → (∀ q ∈ locs1, q ∈ locs ∨ q.base = H.size) →
      W p l e R s m args below meth c H1 locs1 (cells + 1 + N) (slots + N + N * M) Q { g with pc := g.pc + 4, stack := .ref H.size :: rest }) : W p l e R s m args below meth c H locs cells slots Q g := by
  intro T hT X
  subst hT; subst hb; subst hg
  have hpl : e.platform.magicAccessors = ({} : Platform).magicAccessors := by rw [X.admits.platform]
  obtain ⟨comp, cA, kA, hcomp, hkA, hkindA, hnameA⟩ := hover
  obtain ⟨comp2, kC, cc, hcomp2, hkC, hkindC⟩ := Cond.arrayClass_spec harr
  cases Option.some.inj (hcomp2.symm.trans hcomp)
  obtain ⟨c0, hfc0, hcl⟩ := Cond.classLink_spec hown hclink e.platform hpl
  cases Option.some.inj (hnameA.symm.trans hfc0)
  obtain ⟨hg1, hwarm, -⟩ := State.classEntry (e := e) X.warmed hcl
  generalize T.vm.noted g.method.cls index (.cls cA) = vm1 at hg1 hwarm
  have hal : s.vm.Alike vm1 := hwarm.alike
  obtain ⟨kA1, hkA1, heA⟩ := hal.2.2 _ _ hkA
  obtain ⟨kC1, hkC1, heC⟩ := hal.2.2 _ _ hkC
  have X1 := X.noted hwarm
  obtain ⟨L, hL, XF⟩ := mst_stand X1 cA comp N M (defaultValue ty) N
  obtain ⟨f1, f2, f3, f4, f5⟩ := mst_f (T.setVm vm1) cA comp N M (defaultValue ty) N
  obtain ⟨t, a1, b1⟩ := kk cA comp kA kC cc (mst (T.setVm vm1) cA comp N M (defaultValue ty) N).heap (locs ++ L) hnameA hcomp hkA hkindA hkC hkindC f1 f2 f4 f5 (fun q hq => by
    rcases List.mem_append.mp hq with h | h
    · exact Or.inl h
    · exact Or.inr (hL q h)) _ rfl XF
  refine ⟨t, ?_, b1⟩
  have hl1 : ¬ N > e.platform.arrayLengthLimit := by rw [Launch.admits_arrayLengthLimit X.admits]; omega
  have hh1 : ¬ N * componentBytes (.array ty) > e.platform.maxHeapBytes := by
    rw [Launch.admits_maxHeapBytes X.admits]; show ¬ N * 4 > 536870912; omega
  have hl2 : ¬ M > e.platform.arrayLengthLimit := by rw [Launch.admits_arrayLengthLimit X.admits]; omega
  have hh2 : ¬ M * componentBytes ty > e.platform.maxHeapBytes := by rw [Launch.admits_maxHeapBytes X.admits]; omega
  have room0 := X1.roomAbove (a := 1) (b := N) (by omega) (by omega)
  have hroom : T.heap.size < e.platform.maxCells := Nat.lt_of_lt_of_le (Nat.lt_succ_self _) room0.1
  have roomI : ∀ i, i < N → (mst (T.setVm vm1) cA comp N M (defaultValue ty) i).heap.size < e.platform.maxCells ∧ (mst (T.setVm vm1) cA comp N M (defaultValue ty) i).slotsUsed + M ≤ e.platform.maxSlots := by
    intro i hi
    obtain ⟨L2, -, Xi⟩ := mst_stand X1 cA comp N M (defaultValue ty) i
    have hmul : i * M + M ≤ N * M := by
      have := Nat.mul_le_mul_right M (show i + 1 ≤ N from hi)
      rwa [Nat.succ_mul] at this
    obtain ⟨r1, r2⟩ := Xi.roomAbove (a := 1) (b := M) (by omega) (by omega)
    exact ⟨by omega, r2⟩
  have eS : ((T.setTop g).setVm vm1).setTop { g with stack := rest } = (T.setVm vm1).setTop { g with stack := rest } := by
    show ((T.setVm vm1).setTop g).setTop _ = _
    rw [State.setTop_setTop]
  jvm_step X.here [hexec, hdg]
  simp only [multianewarray.sem, wp_bind', W.resolveClassAt_links (State.method?_setTop g X.here.top) hg1]
  rw [W.popN, if_neg (by decide)]
  refine ⟨g, State.topJava?_setTop' (s := T.setVm vm1) g X.here.top, [.int n, .int k], rest, rfl, hstack, ?_⟩
  simp only [List.mapM_cons, List.mapM_nil, wp_bind', wp_pure']
  rw [eS]
  refine mst_make (s := (T.setVm vm1).setTop { g with stack := rest }) (kA := kA1) (kC := kC1) (comp := comp) (cc := cc) (ty := ty) hN hM hn hk hkA1 (by rw [heA]; exact hkindA) hkC1 (by rw [heC]; exact hkindC) hl1 hh1 hl2 hh2 hdf ⟨hroom, room0.2⟩ (fun i hi => ?_) (fun d' acts' => ?_)
  · rw [mst_top]
    exact roomI i hi
  · rw [mst_top]
    simp only [wp_bind', W.mark, W.pushRef, State.topJava?_setTop' _ XF.here.top, Option.some.injEq, exists_eq_left', State.setTop_setTop, State.heap_setTop]
    intro acts
    simp [jvm, XF.here.top]
    exact a1
end MUX
