/-! the start: the store after both constructors -/
def st_ad (q q' : Nat → Nat) (i : Nat) : Nat := ([q 0, q 1, q 1 + 1 + 0, q 1 + 1 + 1, q 1 + 1 + 2, q 1 + 1 + 3, q 1 + 1 + 4, q 1 + 1 + 5, q 8, q 9, q 9 + 1 + 0, q 9 + 1 + 1, q 9 + 1 + 2, q 9 + 1 + 3, q 14, q 15, q 16, q 17, q 18, q 19, q 20, q 21, q 22, q 23, q 24, q 25, q 26, q 27, q 28, q 29, q 30, q 31, q 32, q 33, q 34, q 35, q 36, q 37, q 38, q 39, q 40, q 41, q 42, q 43, q 44, q 45, q 46, q 47, q 48, q 49, q 50, q 51, q 52, q 53, q 54, q 55, q 56, q 57, q 58, q 59, q 60, q 61, q 62, q' 0, q' 1, q' 2, q' 3, q' 4, q' 5, q' 6, q' 7, q' 8, q' 9, q' 10, q' 11, q' 12, q' 13, q' 14, q' 15, q' 16, q' 17] : List Nat).getD i 0
def st_cA (c c' : Nat → ClassId) (i : Nat) : ClassId := ([c 0, c 1, c 2, c 2, c 2, c 2, c 2, c 2, c 8, c 9, c 10, c 10, c 10, c 10, c 14, c 15, c 16, c 17, c 18, c 19, c 20, c 21, c 22, c 23, c 24, c 25, c 26, c 27, c 28, c 29, c 30, c 31, c 32, c 33, c 34, c 35, c 36, c 37, c 38, c 39, c 40, c 41, c 42, c 43, c 44, c 45, c 46, c 47, c 48, c 49, c 50, c 51, c 52, c 53, c 54, c 55, c 56, c 57, c 58, c 59, c 60, c 61, c 62, c' 0, c' 1, c' 2, c' 3, c' 4, c' 5, c' 6, c' 7, c' 8, c' 9, c' 10, c' 11, c' 12, c' 13, c' 14, c' 15, c' 16, c' 17] : List ClassId).getD i (c 1)
def st_d : Nat → Int32 := fun j => if j = 3 then -1 else 0
def st_I (g8 g14 g1 g3 : Nat → Int32) : StI := fun i => if i = 8 then g8 else if i = 14 then g14 else if i = 64 then g1 else if i = 66 then g3 else if i = 51 then st_d else if i = 55 then st_d else if i = 59 then st_d else fun _ => 0
def st_L : StL := fun i => if i = 0 then (fun j => if j = 11 then 1 else 0) else if i = 63 then (fun j => if j = 16 then 1 else 0) else fun _ => 0
theorem st_q {D : va_G} {cA : Nat → ClassId} {ad : Nat → Nat} {I : StI} {L : StL} {i t N : Nat} {H : Heap} {f : Nat → Option Nat} (h : k_sh i = (t, N)) (h1 : 13 ≤ t) (hP : va_at D vwCl (ad i, .inl (cA i, N, .inr (.inr (.inr (.inr f))))) H) (hf : ∀ j, j < N → va_rf (f j) = .ref (ad (k_rf i j))) : va_at D vwCl (ad i, k_cell cA ad I L i) H := by
  rw [k_cell_r h h1]
  have hP : H[ad i]? = some (vp_cell (cA i) (N, .inr (.inr (.inr (.inr f))))) := hP
  show H[ad i]? = some (vp_cell (cA i) (N, .inr (.inr (.inr (.inr (fun j => some (ad (k_rf i j))))))))
  rw [hP, vp_cell_q, vp_cell_q]
  congr 1
  unfold arrV
  congr 2
  funext j
  exact hf j.val j.isLt
theorem st_at {D : va_G} {q q' : Nat → Nat} {c c' : Nat → ClassId} {g8 g14 g1 g3 : Nat → Int32} {H : Heap} (hP : va_P D vwCl (w_4 q c g8 g14 ++ w_5 q' c' g1 g3) H) (i : Nat) (hi : i < 81) : va_at D vwCl (st_ad q q' i, k_cell (st_cA c c') (st_ad q q') (st_I g8 g14 g1 g3) st_L i) H := by
  match i, hi with
  | 0, _ => exact hP 0 _ rfl
  | 1, _ => exact st_q (t := 15) (N := 6) rfl (by decide) (hP 1 _ rfl) (fun j hj => by rcases (show j = 0 ∨ j = 1 ∨ j = 2 ∨ j = 3 ∨ j = 4 ∨ j = 5 by omega) with rfl | rfl | rfl | rfl | rfl | rfl <;> rfl)
  | 2, _ => exact hP 2 _ rfl
  | 3, _ => exact hP 3 _ rfl
  | 4, _ => exact hP 4 _ rfl
  | 5, _ => exact hP 5 _ rfl
  | 6, _ => exact hP 6 _ rfl
  | 7, _ => exact hP 7 _ rfl
  | 8, _ => exact hP 8 _ rfl
  | 9, _ => exact st_q (t := 16) (N := 4) rfl (by decide) (hP 9 _ rfl) (fun j hj => by rcases (show j = 0 ∨ j = 1 ∨ j = 2 ∨ j = 3 by omega) with rfl | rfl | rfl | rfl <;> rfl)
  | 10, _ => exact hP 10 _ rfl
  | 11, _ => exact hP 11 _ rfl
  | 12, _ => exact hP 12 _ rfl
  | 13, _ => exact hP 13 _ rfl
  | 14, _ => exact hP 14 _ rfl
  | 15, _ => exact hP 15 _ rfl
  | 16, _ => exact st_q (t := 13) (N := 7) rfl (by decide) (hP 16 _ rfl) (fun j hj => by rcases (show j = 0 ∨ j = 1 ∨ j = 2 ∨ j = 3 ∨ j = 4 ∨ j = 5 ∨ j = 6 by omega) with rfl | rfl | rfl | rfl | rfl | rfl | rfl <;> rfl)
  | 17, _ => exact hP 17 _ rfl
  | 18, _ => exact hP 18 _ rfl
  | 19, _ => exact hP 19 _ rfl
  | 20, _ => exact hP 20 _ rfl
  | 21, _ => exact hP 21 _ rfl
  | 22, _ => exact hP 22 _ rfl
  | 23, _ => exact hP 23 _ rfl
  | 24, _ => exact hP 24 _ rfl
  | 25, _ => exact st_q (t := 13) (N := 7) rfl (by decide) (hP 25 _ rfl) (fun j hj => by rcases (show j = 0 ∨ j = 1 ∨ j = 2 ∨ j = 3 ∨ j = 4 ∨ j = 5 ∨ j = 6 by omega) with rfl | rfl | rfl | rfl | rfl | rfl | rfl <;> rfl)
  | 26, _ => exact hP 26 _ rfl
  | 27, _ => exact hP 27 _ rfl
  | 28, _ => exact hP 28 _ rfl
  | 29, _ => exact hP 29 _ rfl
  | 30, _ => exact hP 30 _ rfl
  | 31, _ => exact hP 31 _ rfl
  | 32, _ => exact hP 32 _ rfl
  | 33, _ => exact hP 33 _ rfl
  | 34, _ => exact st_q (t := 13) (N := 7) rfl (by decide) (hP 34 _ rfl) (fun j hj => by rcases (show j = 0 ∨ j = 1 ∨ j = 2 ∨ j = 3 ∨ j = 4 ∨ j = 5 ∨ j = 6 by omega) with rfl | rfl | rfl | rfl | rfl | rfl | rfl <;> rfl)
  | 35, _ => exact hP 35 _ rfl
  | 36, _ => exact hP 36 _ rfl
  | 37, _ => exact hP 37 _ rfl
  | 38, _ => exact hP 38 _ rfl
  | 39, _ => exact hP 39 _ rfl
  | 40, _ => exact hP 40 _ rfl
  | 41, _ => exact hP 41 _ rfl
  | 42, _ => exact hP 42 _ rfl
  | 43, _ => exact hP 43 _ rfl
  | 44, _ => exact hP 44 _ rfl
  | 45, _ => exact hP 45 _ rfl
  | 46, _ => exact st_q (t := 14) (N := 3) rfl (by decide) (hP 46 _ rfl) (fun j hj => by rcases (show j = 0 ∨ j = 1 ∨ j = 2 by omega) with rfl | rfl | rfl <;> rfl)
  | 47, _ => exact hP 47 _ rfl
  | 48, _ => exact hP 48 _ rfl
  | 49, _ => exact hP 49 _ rfl
  | 50, _ => exact hP 50 _ rfl
  | 51, _ => exact hP 51 _ rfl
  | 52, _ => exact hP 52 _ rfl
  | 53, _ => exact hP 53 _ rfl
  | 54, _ => exact hP 54 _ rfl
  | 55, _ => exact hP 55 _ rfl
  | 56, _ => exact hP 56 _ rfl
  | 57, _ => exact hP 57 _ rfl
  | 58, _ => exact hP 58 _ rfl
  | 59, _ => exact hP 59 _ rfl
  | 60, _ => exact hP 60 _ rfl
  | 61, _ => exact hP 61 _ rfl
  | 62, _ => exact hP 62 _ rfl
  | 63, _ => exact hP 63 _ rfl
  | 64, _ => exact hP 64 _ rfl
  | 65, _ => exact hP 65 _ rfl
  | 66, _ => exact hP 66 _ rfl
  | 67, _ => exact hP 67 _ rfl
  | 68, _ => exact hP 68 _ rfl
  | 69, _ => exact hP 69 _ rfl
  | 70, _ => exact hP 70 _ rfl
  | 71, _ => exact hP 71 _ rfl
  | 72, _ => exact hP 72 _ rfl
  | 73, _ => exact hP 73 _ rfl
  | 74, _ => exact hP 74 _ rfl
  | 75, _ => exact hP 75 _ rfl
  | 76, _ => exact hP 76 _ rfl
  | 77, _ => exact hP 77 _ rfl
  | 78, _ => exact hP 78 _ rfl
  | 79, _ => exact hP 79 _ rfl
  | 80, _ => exact hP 80 _ rfl
  | i + 81, hi => exact absurd hi (by omega)
theorem st_P {D : va_G} {q q' : Nat → Nat} {c c' : Nat → ClassId} {g8 g14 g1 g3 : Nat → Int32} {H : Heap} (hP : va_P D vwCl (w_4 q c g8 g14 ++ w_5 q' c' g1 g3) H) : va_P D vwCl (k_wl (st_cA c c') (st_ad q q') (st_I g8 g14 g1 g3) st_L) H := by
  intro k x hk
  have hlt : k < 81 := by
    have := (List.getElem?_eq_some_iff.mp hk).1
    simpa [k_wl] using this
  rw [k_wl_at hlt] at hk
  cases hk
  exact st_at hP k hlt
theorem va_D_fst {A : Nat → Prop} {w w' : va_W} (h : w.map (fun x => x.1) = w'.map (fun x => x.1)) (hD : va_D A w) : va_D A w' := by
  have key : ∀ (k : Nat) (x : Nat × va_E), w'[k]? = some x → ∃ y, w[k]? = some y ∧ y.1 = x.1 := by
    intro k x hx
    have e : (w.map (fun x => x.1))[k]? = some x.1 := by
      rw [h, List.getElem?_map, hx]
      rfl
    rw [List.getElem?_map] at e
    cases hw : w[k]? with
    | none => rw [hw] at e; cases e
    | some y =>
      rw [hw] at e
      exact ⟨y, rfl, Option.some.inj e⟩
  refine ⟨fun i k p q hi hk e => ?_, fun k q hk => ?_⟩
  · obtain ⟨y, h1, h2⟩ := key i p hi
    obtain ⟨z, h3, h4⟩ := key k q hk
    exact hD.1 i k y z h1 h3 (by rw [h2, h4]; exact e)
  · obtain ⟨y, h1, h2⟩ := key k q hk
    rw [← h2]
    exact hD.2 k y h1
theorem st_D {A : Nat → Prop} {q q' : Nat → Nat} {c c' : Nat → ClassId} {g8 g14 g1 g3 : Nat → Int32} (hD : va_D A (w_4 q c g8 g14 ++ w_5 q' c' g1 g3)) : va_D A (k_wl (st_cA c c') (st_ad q q') (st_I g8 g14 g1 g3) st_L) := by
  refine va_D_fst ?_ hD
  rfl
theorem st_K {D : va_G} {c c' : Nat → ClassId} {s : State} (hK : va_K D vwCl (t_4 c ++ t_5 c') s) : k_K D (st_cA c c') s := by
  refine ⟨⟨hK.1, fun k q hk => by simp at hk⟩, fun i h1 hi => ?_⟩
  match i, hi, h1 with
  | 0, _, h1 => exact absurd h1 (by decide)
  | 1, _, _ => exact hK.2 0 _ rfl
  | 2, _, _ => exact hK.2 1 _ rfl
  | 3, _, _ => exact hK.2 1 _ rfl
  | 4, _, _ => exact hK.2 1 _ rfl
  | 5, _, _ => exact hK.2 1 _ rfl
  | 6, _, _ => exact hK.2 1 _ rfl
  | 7, _, _ => exact hK.2 1 _ rfl
  | 8, _, _ => exact hK.2 2 _ rfl
  | 9, _, _ => exact hK.2 3 _ rfl
  | 10, _, _ => exact hK.2 4 _ rfl
  | 11, _, _ => exact hK.2 4 _ rfl
  | 12, _, _ => exact hK.2 4 _ rfl
  | 13, _, _ => exact hK.2 4 _ rfl
  | 14, _, _ => exact hK.2 5 _ rfl
  | 15, _, h1 => exact absurd h1 (by decide)
  | 16, _, _ => exact hK.2 6 _ rfl
  | 17, _, h1 => exact absurd h1 (by decide)
  | 18, _, h1 => exact absurd h1 (by decide)
  | 19, _, h1 => exact absurd h1 (by decide)
  | 20, _, h1 => exact absurd h1 (by decide)
  | 21, _, h1 => exact absurd h1 (by decide)
  | 22, _, h1 => exact absurd h1 (by decide)
  | 23, _, h1 => exact absurd h1 (by decide)
  | 24, _, h1 => exact absurd h1 (by decide)
  | 25, _, _ => exact hK.2 7 _ rfl
  | 26, _, h1 => exact absurd h1 (by decide)
  | 27, _, h1 => exact absurd h1 (by decide)
  | 28, _, h1 => exact absurd h1 (by decide)
  | 29, _, h1 => exact absurd h1 (by decide)
  | 30, _, h1 => exact absurd h1 (by decide)
  | 31, _, h1 => exact absurd h1 (by decide)
  | 32, _, h1 => exact absurd h1 (by decide)
  | 33, _, h1 => exact absurd h1 (by decide)
  | 34, _, _ => exact hK.2 8 _ rfl
  | 35, _, h1 => exact absurd h1 (by decide)
  | 36, _, h1 => exact absurd h1 (by decide)
  | 37, _, h1 => exact absurd h1 (by decide)
  | 38, _, h1 => exact absurd h1 (by decide)
  | 39, _, h1 => exact absurd h1 (by decide)
  | 40, _, h1 => exact absurd h1 (by decide)
  | 41, _, h1 => exact absurd h1 (by decide)
  | 42, _, h1 => exact absurd h1 (by decide)
  | 43, _, _ => exact hK.2 9 _ rfl
  | 44, _, _ => exact hK.2 10 _ rfl
  | 45, _, _ => exact hK.2 11 _ rfl
  | 46, _, _ => exact hK.2 12 _ rfl
  | 47, _, _ => exact hK.2 13 _ rfl
  | 48, _, h1 => exact absurd h1 (by decide)
  | 49, _, _ => exact hK.2 14 _ rfl
  | 50, _, _ => exact hK.2 15 _ rfl
  | 51, _, h1 => exact absurd h1 (by decide)
  | 52, _, _ => exact hK.2 16 _ rfl
  | 53, _, _ => exact hK.2 17 _ rfl
  | 54, _, _ => exact hK.2 18 _ rfl
  | 55, _, h1 => exact absurd h1 (by decide)
  | 56, _, _ => exact hK.2 19 _ rfl
  | 57, _, _ => exact hK.2 20 _ rfl
  | 58, _, _ => exact hK.2 21 _ rfl
  | 59, _, h1 => exact absurd h1 (by decide)
  | 60, _, _ => exact hK.2 22 _ rfl
  | 61, _, _ => exact hK.2 23 _ rfl
  | 62, _, _ => exact hK.2 24 _ rfl
  | 63, _, h1 => exact absurd h1 (by decide)
  | 64, _, _ => exact hK.2 25 _ rfl
  | 65, _, _ => exact hK.2 26 _ rfl
  | 66, _, _ => exact hK.2 27 _ rfl
  | 67, _, _ => exact hK.2 28 _ rfl
  | 68, _, _ => exact hK.2 29 _ rfl
  | 69, _, _ => exact hK.2 30 _ rfl
  | 70, _, _ => exact hK.2 31 _ rfl
  | 71, _, _ => exact hK.2 32 _ rfl
  | 72, _, _ => exact hK.2 33 _ rfl
  | 73, _, _ => exact hK.2 34 _ rfl
  | 74, _, _ => exact hK.2 35 _ rfl
  | 75, _, _ => exact hK.2 36 _ rfl
  | 76, _, _ => exact hK.2 37 _ rfl
  | 77, _, _ => exact hK.2 38 _ rfl
  | 78, _, _ => exact hK.2 39 _ rfl
  | 79, _, _ => exact hK.2 40 _ rfl
  | 80, _, _ => exact hK.2 41 _ rfl
  | i + 81, hi, _ => exact absurd hi (by omega)
theorem st_R {g8 g14 g1 g3 : Nat → Int32} (h8 : ∀ j, j < 6 → g8 j = -1) (h14 : ∀ j, j < 4 → g14 j = -1) (h1 : ∀ j, j < 6 → g1 j = -1) (h3 : ∀ j, j < 4 → g3 j = -1) : Rel (st_I g8 g14 g1 g3) st_L := by
  refine ⟨fun r hr => ?_, fun r hr => ?_, ⟨rfl, rfl, fun f _ _ => rfl, rfl, rfl⟩, 0, fun _ => 0, [], ?_⟩
  · have e8 : st_I g8 g14 g1 g3 8 r = -1 := h8 r hr
    have e1 : st_I g8 g14 g1 g3 64 r = -1 := h1 r hr
    rw [e8, e1]
    refine ⟨by decide, rfl, fun i hi => ?_⟩
    show (0 : Int32) = _
    rcases (show r = 0 ∨ r = 1 ∨ r = 2 ∨ r = 3 ∨ r = 4 ∨ r = 5 by omega) with rfl | rfl | rfl | rfl | rfl | rfl <;> rfl
  · have e8 : st_I g8 g14 g1 g3 14 r = -1 := h14 r hr
    have e1 : st_I g8 g14 g1 g3 66 r = -1 := h3 r hr
    rw [e8, e1]
    refine ⟨by decide, rfl, fun i hi => ?_⟩
    show (0 : Int32) = _
    rcases (show r = 0 ∨ r = 1 ∨ r = 2 ∨ r = 3 by omega) with rfl | rfl | rfl | rfl <;> rfl
  · refine ⟨⟨⟨by decide, by decide, fun i hi => absurd hi (Nat.not_lt_zero _)⟩, ⟨0, by decide, rfl⟩, Or.inl rfl⟩, ⟨by decide, fun d hd => absurd hd List.not_mem_nil, fun _ => rfl⟩, rfl, fun i hi => absurd hi (Nat.not_lt_zero _), fun i hi => absurd hi (Nat.not_lt_zero _), ⟨⟨rfl, rfl, rfl, rfl, rfl, rfl, fun i hi => absurd hi (Nat.not_lt_zero _)⟩, rfl⟩, ⟨⟨rfl, rfl, rfl, rfl, rfl, rfl, fun i hi => absurd hi (Nat.not_lt_zero _)⟩, rfl⟩, fun j _ => rfl, ⟨rfl, fun j hj => absurd hj (Nat.not_lt_zero _)⟩, rfl, fun d hd => absurd hd (Nat.not_lt_zero _), fun p hp => Or.inl ?_, fun _ => rfl⟩
    rcases (show p = 0 ∨ p = 1 ∨ p = 2 by omega) with rfl | rfl | rfl <;> exact ⟨rfl, rfl⟩
