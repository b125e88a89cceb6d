/-! the relation of the class's cells and the reference's -/
def Rw (I : StI) : Prop := ∀ r, r < 6 → (-1 ≤ (I 8 r).toInt ∧ (I 8 r).toInt ≤ 40) ∧ I 64 r = I 8 r ∧ ∀ i, i < 40 → I 65 (40 * r + i) = I (k_rq r) i
def Tx (I : StI) : Prop := ∀ t, t < 4 → (-1 ≤ (I 14 t).toInt ∧ (I 14 t).toInt ≤ 60) ∧ I 66 t = I 14 t ∧ ∀ i, i < 60 → I 67 (60 * t + i) = I (k_tq t) i
def Td (I : StI) (L : StL) : Prop := I 63 14 = I 0 9 ∧ I 63 17 = I 0 12 ∧ (∀ f, 1 ≤ f → f ≤ 5 → I 76 f = I 47 f) ∧ L 63 15 = L 0 10 ∧ L 63 16 = L 0 11
/-- cells of the rows, the texts, what is told, the houses -/
def sRw (b _k : Nat) : Prop := (2 ≤ b ∧ b ≤ 8) ∨ b = 64 ∨ b = 65
def sTx (b _k : Nat) : Prop := (10 ≤ b ∧ b ≤ 14) ∨ b = 66 ∨ b = 67
def sTd (b k : Nat) : Prop := (b = 0 ∧ (k = 9 ∨ k = 12)) ∨ b = 47 ∨ (b = 63 ∧ (k = 14 ∨ k = 17)) ∨ b = 76
def sHs (b k : Nat) : Prop := (15 ≤ b ∧ b ≤ 32) ∨ (42 ≤ b ∧ b ≤ 46) ∨ (51 ≤ b ∧ b ≤ 62) ∨ (b = 63 ∧ (k = 4 ∨ k = 11)) ∨ (68 ≤ b ∧ b ≤ 70) ∨ (73 ≤ b ∧ b ≤ 75)
/-- nothing changed there -/
def Ag (S : Nat → Nat → Prop) (I I' : StI) : Prop := ∀ b k, S b k → I' b k = I b k
theorem Ag.refl {S : Nat → Nat → Prop} {I : StI} : Ag S I I := fun _ _ _ => rfl
theorem Ag.trans {S : Nat → Nat → Prop} {I I' I'' : StI} (h : Ag S I I') (h2 : Ag S I' I'') : Ag S I I'' := fun b k hs => (h2 b k hs).trans (h b k hs)
theorem Ag.up {S : Nat → Nat → Prop} {I I' : StI} {b k : Nat} {v : Int32} (h : Ag S I I') (hn : ¬ S b k) : Ag S I (k_up I' b k v) := by
  intro b' k' hs
  rw [k_up_oth (fun z => hn (by rw [← z.1, ← z.2]; exact hs))]
  exact h b' k' hs
theorem Rw.ag {I I' : StI} (h : Rw I) (ha : Ag sRw I I') : Rw I' := by
  intro r hr
  have := h r hr
  rw [ha 8 r (by unfold sRw; omega), ha 64 r (by unfold sRw; omega)]
  refine ⟨this.1, this.2.1, fun i hi => ?_⟩
  rw [ha 65 _ (by unfold sRw; omega), ha (k_rq r) _ (by unfold sRw k_rq; omega)]
  exact this.2.2 i hi
theorem Tx.ag {I I' : StI} (h : Tx I) (ha : Ag sTx I I') : Tx I' := by
  intro r hr
  have := h r hr
  rw [ha 14 r (by unfold sTx; omega), ha 66 r (by unfold sTx; omega)]
  refine ⟨this.1, this.2.1, fun i hi => ?_⟩
  rw [ha 67 _ (by unfold sTx; omega), ha (k_tq r) _ (by unfold sTx k_tq; omega)]
  exact this.2.2 i hi
theorem Td.ag {I I' : StI} {L : StL} (h : Td I L) (ha : Ag sTd I I') : Td I' L := by
  obtain ⟨h1, h2, h3, h4⟩ := h
  refine ⟨?_, ?_, fun f a b => ?_, h4⟩
  · rw [ha 63 14 (by unfold sTd; omega), ha 0 9 (by unfold sTd; omega)]; exact h1
  · rw [ha 63 17 (by unfold sTd; omega), ha 0 12 (by unfold sTd; omega)]; exact h2
  · rw [ha 76 f (by unfold sTd; omega), ha 47 f (by unfold sTd; omega)]; exact h3 f a b
/-! small functions, in numbers -/
theorem C_isRow (v : Int32) : f_X4_isRow v = some (if 0 ≤ v.toInt ∧ v.toInt < 6 then 1 else 0) := by
  unfold f_X4_isRow
  simp only [i_lt, i_le, Int32.reduceToInt]
  repeat' split
  all_goals first | rfl | omega
theorem M_isRow (v : Int32) : f_X5_isRow v = some (if 0 ≤ v.toInt ∧ v.toInt < 6 then 1 else 0) := by
  unfold f_X5_isRow
  rw [show (0 : Int64) = (0 : Int32).toInt64 from rfl, show (5 : Int64) = (5 : Int32).toInt64 from rfl, in_i]
  simp only [Option.bind_some, k_bo, Int32.reduceToInt]
  repeat' split
  all_goals first | rfl | omega | simp_all
theorem C_found (j : Nat) (hj : j < 6) (I : StI) : f_X4_found (nI j) I = some (-3, k_up (k_up I 0 12 (nI j)) 47 j (I 47 j + 1)) := by
  unfold f_X4_found
  simp only [k_let, cl_n (show j < 2147483648 by omega), gd_n hj (by decide)]
  simp [k_up]
theorem M_found (j : Nat) (hj : j < 6) (I : StI) : f_X5_found (nI j) I = some (-3, k_up (k_up I 63 17 (nI j)) 76 j (I 76 j + 1)) := by
  unfold f_X5_found
  simp only [k_let, cl_n (show j < 2147483648 by omega), gd_n hj (by decide)]
  simp [k_up]
