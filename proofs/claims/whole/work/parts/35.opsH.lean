/-! digest -/
def dg (f : Nat → Int32) : Nat → Int64 → Int64
  | 0, h => h
  | w + 1, h => 31 * dg f w h + (f w).toInt64
theorem dg_congr {f g : Nat → Int32} {h : Int64} : ∀ {n : Nat}, (∀ i, i < n → f i = g i) → dg f n h = dg g n h
  | 0, _ => rfl
  | n + 1, e => by
    show 31 * dg f n h + _ = 31 * dg g n h + _
    rw [dg_congr (n := n) (fun i hi => e i (by omega)), e n (by omega)]
theorem C_dRow {r : Nat} {I : StI} {h : Int64} (hr : r < 6) (hs : -1 ≤ (I 8 r).toInt ∧ (I 8 r).toInt ≤ 40) : f_X4_digestRows_L30 (nI r) I k_fu h 0 = some (.inl (dg (fun i => I (k_rq r) i) (I 8 r).toInt.toNat h, nI (r + 1))) := by
  apply Ho_at
  unfold f_X4_digestRows_L30
  refine Ho_loop0 (fun q s => s = (dg (fun i => I (k_rq r) i) q h, nI q)) (I 8 r).toInt.toNat (by omega) ?_ ?_ _ rfl
  · intro q s hq he
    subst he
    unfold f_X4_digestRows_L30_b
    simp only [gd_n hr (by decide), cl_n (show r < 2147483648 by omega)]
    rw [if_neg (by rw [i_le, i_n (by omega)]; omega), gd_n (show q < 40 by omega) (by decide), cl_n (by omega)]
    simp only [k_let, nI_1, Ho_some_i, Sum.elim_inl]
    rfl
  · intro s he
    subst he
    unfold f_X4_digestRows_L30_b
    simp only [gd_n hr (by decide), cl_n (show r < 2147483648 by omega)]
    rw [if_pos (by rw [i_le, i_n (by omega)]; omega)]
    simp only [k_let, nI_1, Ho_some_i, Sum.elim_inr]
theorem M_dRow {r : Nat} {I : StI} {h : Int64} (hr : r < 6) (hs : -1 ≤ (I 64 r).toInt ∧ (I 64 r).toInt ≤ 40) : f_X5_digest_L231 (nI r) I k_fu h 0 = some (.inl (dg (fun i => I 65 (40 * r + i)) (I 64 r).toInt.toNat h, nI (r + 1))) := by
  apply Ho_at
  unfold f_X5_digest_L231
  refine Ho_loop0 (fun q s => s = (dg (fun i => I 65 (40 * r + i)) q h, nI q)) (I 64 r).toInt.toNat (by omega) ?_ ?_ _ rfl
  · intro q s hq he
    subst he
    unfold f_X5_digest_L231_b
    simp only [gd_n hr (by decide), cl_n (show r < 2147483648 by omega), mul40]
    rw [if_neg (by rw [i_le, i_n (by omega)]; omega), gd_n (show 40 * r + q < 240 by omega) (by decide), cl_n (by omega)]
    simp only [k_let, nI_1, Ho_some_i, Sum.elim_inl]
    rfl
  · intro s he
    subst he
    unfold f_X5_digest_L231_b
    simp only [gd_n hr (by decide), cl_n (show r < 2147483648 by omega)]
    rw [if_pos (by rw [i_le, i_n (by omega)]; omega)]
    simp only [k_let, nI_1, Ho_some_i, Sum.elim_inr]
theorem C_dText {r : Nat} {I : StI} {h : Int64} (hr : r < 4) (hs : -1 ≤ (I 14 r).toInt ∧ (I 14 r).toInt ≤ 60) : f_X4_digestTexts_L29 (nI r) I k_fu h 0 = some (.inl (dg (fun i => I (k_tq r) i) (I 14 r).toInt.toNat h, nI (r + 1))) := by
  apply Ho_at
  unfold f_X4_digestTexts_L29
  refine Ho_loop0 (fun q s => s = (dg (fun i => I (k_tq r) i) q h, nI q)) (I 14 r).toInt.toNat (by omega) ?_ ?_ _ rfl
  · intro q s hq he
    subst he
    unfold f_X4_digestTexts_L29_b
    simp only [gd_n hr (by decide), cl_n (show r < 2147483648 by omega)]
    rw [if_neg (by rw [i_le, i_n (by omega)]; omega), gd_n (show q < 60 by omega) (by decide), cl_n (by omega)]
    simp only [k_let, nI_1, Ho_some_i, Sum.elim_inl]
    rfl
  · intro s he
    subst he
    unfold f_X4_digestTexts_L29_b
    simp only [gd_n hr (by decide), cl_n (show r < 2147483648 by omega)]
    rw [if_pos (by rw [i_le, i_n (by omega)]; omega)]
    simp only [k_let, nI_1, Ho_some_i, Sum.elim_inr]
theorem M_dText {r : Nat} {I : StI} {h : Int64} (hr : r < 4) (hs : -1 ≤ (I 66 r).toInt ∧ (I 66 r).toInt ≤ 60) : f_X5_digest_L298 (nI r) I k_fu h 0 = some (.inl (dg (fun i => I 67 (60 * r + i)) (I 66 r).toInt.toNat h, nI (r + 1))) := by
  apply Ho_at
  unfold f_X5_digest_L298
  refine Ho_loop0 (fun q s => s = (dg (fun i => I 67 (60 * r + i)) q h, nI q)) (I 66 r).toInt.toNat (by omega) ?_ ?_ _ rfl
  · intro q s hq he
    subst he
    unfold f_X5_digest_L298_b
    simp only [gd_n hr (by decide), cl_n (show r < 2147483648 by omega), mul60]
    rw [if_neg (by rw [i_le, i_n (by omega)]; omega), gd_n (show 60 * r + q < 240 by omega) (by decide), cl_n (by omega)]
    simp only [k_let, nI_1, Ho_some_i, Sum.elim_inl]
    rfl
  · intro s he
    subst he
    unfold f_X5_digest_L298_b
    simp only [gd_n hr (by decide), cl_n (show r < 2147483648 by omega)]
    rw [if_pos (by rw [i_le, i_n (by omega)]; omega)]
    simp only [k_let, nI_1, Ho_some_i, Sum.elim_inr]
/-- lockstep of the outer loops -/
theorem lock {f g : Int64 × Int32 → Option ((Int64 × Int32) ⊕ Int64)} (N : Nat) (hN : N < 10000) (hs : ∀ i h, i < N → ∃ h', f (h, nI i) = some (.inl (h', nI (i + 1))) ∧ g (h, nI i) = some (.inl (h', nI (i + 1)))) (he : ∀ h, ∃ h', f (h, nI N) = some (.inr h') ∧ g (h, nI N) = some (.inr h')) (h : Int64) : E2 (k_loop f k_fu (h, 0)) (k_loop g k_fu (h, 0)) := by
  have key : ∃ a b, k_loop f k_fu (h, 0) = some a ∧ k_loop g k_fu (h, 0) = some b ∧ a = b := by
    refine loop_rel0 (f := f) (g := g) (fun i s t => s = t ∧ s.2 = nI i) (fun a b => a = b) N hN ?_ ?_ (h, 0) (h, 0) ⟨rfl, rfl⟩
    · intro i s t hi hR
      obtain ⟨rfl, h2⟩ := hR
      obtain ⟨x, y⟩ := s
      dsimp only at h2
      subst h2
      obtain ⟨h', p1, p2⟩ := hs i x hi
      exact Or.inl ⟨_, _, p1, p2, rfl, rfl⟩
    · intro s t hR
      obtain ⟨rfl, h2⟩ := hR
      obtain ⟨x, y⟩ := s
      dsimp only at h2
      subst h2
      obtain ⟨h', p1, p2⟩ := he x
      exact ⟨h', h', p1, p2, rfl⟩
  obtain ⟨a, b, e1, e2, e3⟩ := key
  subst e3
  exact ⟨a, e1, e2⟩
theorem L_dTexts {I : StI} {L : StL} (hR : Rel I L) (h : Int64) : E2 (f_X4_digestTexts h I) (f_X5_digest_L276 I k_fu h 0) := by
  unfold f_X4_digestTexts f_X4_digestTexts_L5 f_X5_digest_L276
  refine lock 4 (by decide) (fun r h hr => ?_) (fun h => ⟨h, ?_, ?_⟩) h
  · obtain ⟨b1, b2, b3⟩ := hR.2.1 r hr
    refine ⟨dg (fun i => I (k_tq r) i) (I 14 r).toInt.toNat (31 * h + (I 14 r).toInt64), ?_, ?_⟩
    · show f_X4_digestTexts_L5_b h (nI r) I = _
      unfold f_X4_digestTexts_L5_b
      rw [if_neg (by rw [show (4 : Int32) = nI 4 from rfl, nI_leI (by omega) (by omega)]; omega), gd_n hr (by decide), cl_n (by omega)]
      exact C_dText hr b1
    · show f_X5_digest_L276_b h (nI r) I = _
      unfold f_X5_digest_L276_b
      rw [if_neg (by rw [show (4 : Int32) = nI 4 from rfl, nI_leI (by omega) (by omega)]; omega), gd_n hr (by decide), cl_n (by omega)]
      refine (M_dText hr (by rw [b2]; exact b1)).trans ?_
      rw [b2, dg_congr (n := (I 14 r).toInt.toNat) (fun i hi => b3 i (by omega))]
  · show f_X4_digestTexts_L5_b h (nI 4) I = _
    unfold f_X4_digestTexts_L5_b
    rw [if_pos (by decide)]
  · show f_X5_digest_L276_b h (nI 4) I = _
    unfold f_X5_digest_L276_b
    rw [if_pos (by decide)]
set_option maxRecDepth 100000 in
theorem L_dRows {I : StI} {L : StL} (hR : Rel I L) (h : Int64) : E2 ((f_X4_digestRows h I).bind (fun t4 => f_X4_digestTexts t4 I)) (f_X5_digest_L208 I k_fu h 0) := by
  have key : ∃ a b, k_loop (fun s => f_X4_digestRows_L5_b s.1 s.2 I) k_fu (h, 0) = some a ∧ k_loop (fun s => f_X5_digest_L208_b s.1 s.2 I) k_fu (h, 0) = some b ∧ f_X4_digestTexts a I = some b := by
    refine loop_rel0 (fun i s t => s = t ∧ s.2 = nI i) (fun a b => f_X4_digestTexts a I = some b) 6 (by decide) (fun r s t hr hst => ?_) (fun s t hst => ?_) (h, 0) (h, 0) ⟨rfl, rfl⟩
    · obtain ⟨rfl, h2⟩ := hst
      obtain ⟨x, y⟩ := s
      dsimp only at h2
      subst h2
      obtain ⟨b1, b2, b3⟩ := hR.1 r hr
      refine Or.inl ⟨(dg (fun i => I (k_rq r) i) (I 8 r).toInt.toNat (31 * x + (I 8 r).toInt64), nI (r + 1)), _, ?_, ?_, rfl, rfl⟩
      · unfold f_X4_digestRows_L5_b
        rw [if_neg (by rw [show (6 : Int32) = nI 6 from rfl, nI_leI (by omega) (by omega)]; omega), gd_n hr (by decide), cl_n (by omega)]
        exact C_dRow hr b1
      · unfold f_X5_digest_L208_b
        rw [if_neg (by rw [show (6 : Int32) = nI 6 from rfl, nI_leI (by omega) (by omega)]; omega), gd_n hr (by decide), cl_n (by omega)]
        refine (M_dRow hr (by rw [b2]; exact b1)).trans ?_
        rw [b2, dg_congr (n := (I 8 r).toInt.toNat) (fun i hi => b3 i (by omega))]
    · obtain ⟨rfl, h2⟩ := hst
      obtain ⟨x, y⟩ := s
      dsimp only at h2
      subst h2
      obtain ⟨z, e1, e2⟩ := L_dTexts hR x
      refine ⟨x, z, ?_, ?_, e1⟩
      · unfold f_X4_digestRows_L5_b
        rw [if_pos (show (6 : Int32) ≤ nI 6 by decide)]
      · unfold f_X5_digest_L208_b
        rw [if_pos (show (6 : Int32) ≤ nI 6 by decide), e2]
        rfl
  obtain ⟨a, b, e1, e2, e3⟩ := key
  unfold f_X4_digestRows f_X4_digestRows_L5 f_X5_digest_L208
  rw [e1, e2, Option.bind_some, e3]
  exact ⟨b, rfl, rfl⟩
theorem L_dKept {I : StI} {L : StL} (hR : Rel I L) (h : Int64) : E2 (f_X4_digest_L90 I k_fu h 0) (f_X5_digest_L161 I k_fu h 0) := by
  obtain ⟨n, fa, ds, hx⟩ := hR.2.2.2
  have hkp := hx.2.2.2.2.2.2.2.2.2.2.2.1
  unfold f_X4_digest_L90 f_X5_digest_L161
  refine lock 3 (by decide) (fun p h hp => ?_) (fun h => ?_) h
  · refine ⟨31 * h + (I (k_dq p) 3).toInt64, ?_, ?_⟩
    · show f_X4_digest_L90_b h (nI p) I = _
      unfold f_X4_digest_L90_b
      rw [if_neg (by rw [show (3 : Int32) = nI 3 from rfl, nI_leI (by omega) (by omega)]; omega), gd_n hp (by decide), cl_n (by omega)]
      simp only [k_let, nI_1]
    · show f_X5_digest_L161_b h (nI p) I = _
      unfold f_X5_digest_L161_b f_X5_digest_j197
      have e : (1641 : Int32) * nI p + 40 = nI (1641 * p + 40) := by
        rw [show (1641 : Int32) = nI 1641 from rfl, show (40 : Int32) = nI 40 from rfl, pk_mul, nI_add]
      rw [if_neg (by rw [show (3 : Int32) = nI 3 from rfl, nI_leI (by omega) (by omega)]; omega), gd_n hp (by decide), cl_n (by omega), e, gd_n (by omega) (by decide), cl_n (by omega)]
      simp only [k_let, nI_1]
      obtain ⟨k1, k2⟩ := (hkp p hp).iff
      rcases k2 with k2 | ⟨k2, k3⟩
      · rw [if_pos k2, k1.mpr k2]
      · rw [if_neg (by rw [k2]; decide), k3]
  · obtain ⟨z, e1, e2⟩ := L_dRows hR h
    refine ⟨z, ?_, ?_⟩
    · show f_X4_digest_L90_b h (nI 3) I = _
      unfold f_X4_digest_L90_b
      rw [if_pos (show (3 : Int32) ≤ nI 3 by decide)]
      cases q : f_X4_digestRows h I with
      | none => rw [q] at e1; cases e1
      | some y =>
        rw [q] at e1
        show (f_X4_digestTexts y I).bind _ = _
        rw [show f_X4_digestTexts y I = some z from e1]
        rfl
    · show f_X5_digest_L161_b h (nI 3) I = _
      unfold f_X5_digest_L161_b
      rw [if_pos (show (3 : Int32) ≤ nI 3 by decide), e2]
      rfl
theorem L_dCallers {I : StI} {L : StL} (hR : Rel I L) (h : Int64) : E2 (f_X4_digest_L33 I k_fu h 0) (f_X5_digest_L33 I k_fu h 0) := by
  obtain ⟨n, fa, ds, hx⟩ := id hR.2.2.2
  obtain ⟨hg, hc, -, hm, h4, hk, hrm, h0⟩ := hx.vw
  have hn := hg.1.1
  have hmj : ∀ j, j < 40 → I 70 j = rep n ds fa j := fun j hj => by have := hm j hj; rwa [Nat.zero_add] at this
  unfold f_X4_digest_L33 f_X5_digest_L33
  refine lock n (by omega) (fun i h hi => ?_) (fun h => ?_) h
  · obtain ⟨d0, d1, d2, d3, d4, d5, d6⟩ := hc.2.2.2.2.2.2 i hi
    have hi7 : i < 7 := by omega
    refine ⟨dg (fun w => I (k_cq 24 i) w) 7 h, ?_, ?_⟩
    · show f_X4_digest_L33_b h (nI i) I = _
      unfold f_X4_digest_L33_b
      rw [if_neg (by rw [hc.1, nI_leI (by omega) (by omega)]; omega)]
      apply Ho_at
      unfold f_X4_digest_L47
      refine Ho_loop0 (fun q s => s = (dg (fun w => I (k_cq 24 i) w) q h, nI q)) 7 (by decide) ?_ ?_ _ rfl
      · intro q s hq he
        subst he
        unfold f_X4_digest_L47_b
        have et : f_X0_tell (k_cq 24 i) (nI q) I = some (I (k_cq 24 i) q) := by
          rcases (show q = 0 ∨ q = 1 ∨ q = 2 ∨ q = 3 ∨ q = 4 ∨ q = 5 ∨ q = 6 by omega) with rfl | rfl | rfl | rfl | rfl | rfl | rfl <;> rfl
        rw [if_neg (by rw [show (7 : Int32) = nI 7 from rfl, nI_leI (by omega) (by omega)]; omega), g_i hi7, m_i hi7, et]
        simp only [Option.bind_some, k_let, nI_1, Ho_some_i, Sum.elim_inl]
        rfl
      · intro s he
        subst he
        unfold f_X4_digest_L47_b
        rw [if_pos (show (7 : Int32) ≤ nI 7 by decide)]
        simp only [k_let, nI_1, Ho_some_i, Sum.elim_inr]
    · show f_X5_digest_L33_b h (nI i) I = _
      unfold f_X5_digest_L33_b
      rw [if_neg (by rw [h4, nI_leI (by omega) (by omega)]; omega)]
      simp only [g_i hi7, m_i hi7, g_5 hi7, m_5 hi7, g_12 hi7, m_12 hi7, g_19 hi7, m_19 hi7, g_26 hi7, m_26 hi7, g_33 hi7, m_33 hi7, k_let, nI_1, hmj (5 + i) (by omega), hmj (12 + i) (by omega), hmj (19 + i) (by omega), hmj (26 + i) (by omega), hmj (33 + i) (by omega), hk i hi, hrm i hi, ← d0, ← d1, ← d2, ← d3, ← d4, ← d5, ← d6]
      rfl
  · obtain ⟨z, e1, e2⟩ := L_dKept hR h
    refine ⟨z, ?_, ?_⟩
    · show f_X4_digest_L33_b h (nI n) I = _
      unfold f_X4_digest_L33_b
      rw [if_pos (by rw [hc.1, nI_leI (by omega) (by omega)]; omega), e1]
      rfl
    · show f_X5_digest_L33_b h (nI n) I = _
      unfold f_X5_digest_L33_b
      rw [if_pos (by rw [h4, nI_leI (by omega) (by omega)]; omega), e2]
      rfl
theorem L_digest {I : StI} {L : StL} (hR : Rel I L) : E2 (f_X4_digest I) (f_X5_digest I) := by
  unfold f_X4_digest f_X5_digest f_X4_digest_L6 f_X5_digest_L6
  refine lock 13 (by decide) (fun w h hw => ?_) (fun h => ?_) 17
  · obtain ⟨z, e1, e2⟩ := L_countOf hR hw
    refine ⟨31 * h + z.toInt64, ?_, ?_⟩
    · show f_X4_digest_L6_b h (nI w) I = _
      unfold f_X4_digest_L6_b
      rw [if_neg (by rw [show (13 : Int32) = nI 13 from rfl, nI_leI (by omega) (by omega)]; omega), e1]
      simp only [Option.bind_some, k_let, nI_1]
    · show f_X5_digest_L6_b h (nI w) I = _
      unfold f_X5_digest_L6_b
      rw [if_neg (by rw [show (13 : Int32) = nI 13 from rfl, nI_leI (by omega) (by omega)]; omega), e2]
      simp only [Option.bind_some, k_let, nI_1]
  · obtain ⟨z, e1, e2⟩ := L_dCallers hR h
    refine ⟨z, ?_, ?_⟩
    · show f_X4_digest_L6_b h (nI 13) I = _
      unfold f_X4_digest_L6_b
      rw [if_pos (show (13 : Int32) ≤ nI 13 by decide), e1]
      rfl
    · show f_X5_digest_L6_b h (nI 13) I = _
      unfold f_X5_digest_L6_b
      rw [if_pos (show (13 : Int32) ≤ nI 13 by decide), e2]
      rfl
