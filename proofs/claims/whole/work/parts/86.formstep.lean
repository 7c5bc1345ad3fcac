/-! the form step -/
theorem form_step {h : Hp} {nv nf m lv : Nat} (hP : ProbR h nv nf m lv) (a1 a2 a3 : Int32) : ∃ r : Int32, ∃ h1 h2 : Hp, s_X9_form 0 a1 a2 a3 h = some (r, h1) ∧ s_X10_form 66 a1 a2 a3 h1 = some (r, h2) ∧ (∃ nf', ProbR h2 nv nf' m lv) ∧ Fr [1, 2, 66, 67] h h2 ∧ FrK 1 [1] h h2 ∧ FrK 66 [1] h h2 ∧ ∀ g, g < nf → ∀ v, v < 3 → mK h2 66 g v = mK h 66 g v := by
  have hP0 := hP
  obtain ⟨⟨v1, v2, v3⟩, ⟨f1, f2, f3, f4⟩, g1, ⟨b1, b2, b3⟩, ⟨l1, l2, l3, b, l4, l5⟩⟩ := hP
  have A0 : s_X5_allowsCoefficient 1 0 a1 h = some (bI (okC nv 0 a1)) := allow_z v1 v3 (show 0 < 3 by omega) a1
  have A1 : s_X5_allowsCoefficient 1 1 a2 h = some (bI (okC nv 1 a2)) := allow_z v1 v3 (show 1 < 3 by omega) a2
  have A2 : s_X5_allowsCoefficient 1 2 a3 h = some (bI (okC nv 2 a3)) := allow_z v1 v3 (show 2 < 3 by omega) a3
  have B0 : ∀ H : Hp, H.1 66 0 = nI nv → s_X10_isCoefficient 66 0 a1 H = some (bI (okC nv 0 a1)) := fun H e => isco_z e v3 (show 0 < 3 by omega) a1
  have B1 : ∀ H : Hp, H.1 66 0 = nI nv → s_X10_isCoefficient 66 1 a2 H = some (bI (okC nv 1 a2)) := fun H e => isco_z e v3 (show 1 < 3 by omega) a2
  have B2 : ∀ H : Hp, H.1 66 0 = nI nv → s_X10_isCoefficient 66 2 a3 H = some (bI (okC nv 2 a3)) := fun H e => isco_z e v3 (show 2 < 3 by omega) a3
  have bad : s_X5_allowsForm 1 a1 a2 a3 h = some 0 → s_X10_form 66 a1 a2 a3 h = some (-1, h) → ∃ r : Int32, ∃ h1 h2 : Hp, s_X9_form 0 a1 a2 a3 h = some (r, h1) ∧ s_X10_form 66 a1 a2 a3 h1 = some (r, h2) ∧ (∃ nf', ProbR h2 nv nf' m lv) ∧ Fr [1, 2, 66, 67] h h2 ∧ FrK 1 [1] h h2 ∧ FrK 66 [1] h h2 ∧ ∀ g, g < nf → ∀ v, v < 3 → mK h2 66 g v = mK h 66 g v := fun q1 q2 =>
    ⟨-1, h, h, by unfold s_X9_form; simp only [Nat.zero_add]; rw [q1, bnd_s, if_pos rfl], q2, ⟨nf, hP0⟩, Fr.rf, FrK.rf, FrK.rf, fun _ _ _ _ => rfl⟩
  cases o0 : okC nv 0 a1
  · exact bad (by unfold s_X5_allowsForm; rw [A0, o0]; rfl) (by unfold s_X10_form; rw [B0 h v2, o0]; rfl)
  cases o1 : okC nv 1 a2
  · exact bad (by unfold s_X5_allowsForm; rw [A0, o0, bnd_s, if_neg (by decide), A1, o1]; rfl) (by unfold s_X10_form; rw [B0 h v2, o0, bnd_s, if_neg (by decide), B1 h v2, o1]; rfl)
  cases o2 : okC nv 2 a3
  · exact bad (by unfold s_X5_allowsForm; rw [A0, o0, bnd_s, if_neg (by decide), A1, o1, bnd_s, if_neg (by decide), A2, o2]; rfl) (by unfold s_X10_form; rw [B0 h v2, o0, bnd_s, if_neg (by decide), B1 h v2, o1, bnd_s, if_neg (by decide), B2 h v2, o2]; rfl)
  have three : ∀ {β : Type} (u w : β), (if a1 = 0 then (if a2 = 0 then (if a3 = 0 then u else w) else w) else w) = if (a1 = 0 ∧ a2 = 0 ∧ a3 = 0) then u else w := fun u w => by
    by_cases p : a1 = 0 <;> by_cases q : a2 = 0 <;> by_cases r : a3 = 0 <;> simp [p, q, r]
  have C0 : s_X5_allowsForm 1 a1 a2 a3 h = if (a1 = 0 ∧ a2 = 0 ∧ a3 = 0) then some 0 else some 1 := by
    unfold s_X5_allowsForm
    rw [A0, o0, bnd_s, if_neg (by decide), A1, o1, bnd_s, if_neg (by decide), A2, o2, bnd_s, if_neg (by decide), three]
  have C1 : ∀ H : Hp, H.1 66 0 = nI nv → s_X10_form 66 a1 a2 a3 H = if (a1 = 0 ∧ a2 = 0 ∧ a3 = 0) then some (-1, H) else s_X10_form_b41 66 a1 a2 a3 H := fun H e => by
    unfold s_X10_form
    rw [B0 H e, o0, bnd_s, if_neg (by decide), B1 H e, o1, bnd_s, if_neg (by decide), B2 H e, o2, bnd_s, if_neg (by decide), three]
  by_cases zz : a1 = 0 ∧ a2 = 0 ∧ a3 = 0
  · exact bad (by rw [C0, if_pos zz]) (by rw [C1 h v2, if_pos zz])
  have k0 : (-3 ≤ a1.toInt ∧ a1.toInt ≤ 3) ∧ (a1.toInt = 0 ∨ 0 < nv) := of_decide_eq_true o0
  have k1 : (-3 ≤ a2.toInt ∧ a2.toInt ≤ 3) ∧ (a2.toInt = 0 ∨ 1 < nv) := of_decide_eq_true o1
  have k2 : (-3 ≤ a3.toInt ∧ a3.toInt ≤ 3) ∧ (a3.toInt = 0 ∨ 2 < nv) := of_decide_eq_true o2
  by_cases c8 : nf < 8
  · have n8 : ¬ nI nf = (8 : Int32) := fun q => by
      have w : (8 : Int32).toInt = 8 := by decide
      have := eq_z.mp q
      rw [nI_z (by omega), w] at this
      omega
    have E1 := addForm_z (P := 1) f1 c8 a1 a2 a3
    generalize gH1 : sI (sI (sI (sI h (1 + 1) (3 * nf) a1) (1 + 1) (3 * nf + 1) a2) (1 + 1) (3 * nf + 2) a3) 1 1 (nI (nf + 1)) = H1 at E1
    have p0 : H1.1 66 = h.1 66 := by rw [← gH1, sI_cell (by omega), sI_cell (by omega), sI_cell (by omega), sI_cell (by omega)]
    have p67 : H1.1 67 = h.1 67 := by rw [← gH1, sI_cell (by omega), sI_cell (by omega), sI_cell (by omega), sI_cell (by omega)]
    have p2 : ∀ j, H1.1 2 j = if j = 3 * nf then a1 else if j = 3 * nf + 1 then a2 else if j = 3 * nf + 2 then a3 else h.1 2 j := fun j => by
      rw [← gH1, sI_cell (c' := 2) (by omega)]; exact sI3 j
    have p1 : H1.1 1 1 = nI (nf + 1) := by rw [← gH1, sI_same]
    have FF1 : Fr [1, 2, 66, 67] h H1 := by
      rw [← gH1]; exact ((Fr.sI (by simp)).tr (Fr.sI (by simp))).tr ((Fr.sI (by simp)).tr (Fr.sI (by simp)))
    have KK1 : FrK 1 [1] h H1 := fun k hk => by
      simp at hk
      rw [← gH1]
      exact ⟨by rw [sI_ne hk, sI_cell (by omega), sI_cell (by omega), sI_cell (by omega)], rfl⟩
    have KK6 : FrK 66 [1] h H1 := fun k hk => by
      rw [← gH1]
      exact ⟨by rw [sI_cell (by omega), sI_cell (by omega), sI_cell (by omega), sI_cell (by omega)], rfl⟩
    have E2 := comesForm_z (h := H1) (P := 66) (by rw [p0]; exact f2) c8 a1 a2 a3
    generalize gH2 : sI (sI (sI (sI H1 (66 + 1) (3 * nf) a1) (66 + 1) (3 * nf + 1) a2) (66 + 1) (3 * nf + 2) a3) 66 1 (nI (nf + 1)) = H2 at E2
    have q67 : ∀ j, H2.1 67 j = if j = 3 * nf then a1 else if j = 3 * nf + 1 then a2 else if j = 3 * nf + 2 then a3 else h.1 67 j := fun j => by
      rw [← gH2, sI_cell (c' := 67) (by omega), ← p67]; exact sI3 j
    have q1 : H2.1 66 1 = nI (nf + 1) := by rw [← gH2, sI_same]
    have F : Fr [1, 2, 66, 67] h H2 := FF1.tr (by
      rw [← gH2]; exact ((Fr.sI (by simp)).tr (Fr.sI (by simp))).tr ((Fr.sI (by simp)).tr (Fr.sI (by simp))))
    have K1 : FrK 1 [1] h H2 := KK1.tr (fun k hk => by
      rw [← gH2]
      exact ⟨by rw [sI_cell (by omega), sI_cell (by omega), sI_cell (by omega), sI_cell (by omega)], rfl⟩)
    have K6 : FrK 66 [1] h H2 := KK6.tr (fun k hk => by
      simp at hk
      rw [← gH2]
      exact ⟨by rw [sI_ne hk, sI_cell (by omega), sI_cell (by omega), sI_cell (by omega)], rfl⟩)
    have r1 : H2.1 1 1 = nI (nf + 1) := by rw [← gH2, sI_cell (by omega), sI_cell (by omega), sI_cell (by omega), sI_cell (by omega), p1]
    have r2 : H2.1 2 = H1.1 2 := by rw [← gH2, sI_cell (by omega), sI_cell (by omega), sI_cell (by omega), sI_cell (by omega)]
    have mold : ∀ g, g < nf → ∀ v, v < 3 → mK H2 66 g v = mK h 66 g v := fun g hg v hv => by
      unfold mK
      show (H2.1 67 (3 * g + v)).toInt = (h.1 67 (3 * g + v)).toInt
      rw [q67, if_neg (by omega), if_neg (by omega), if_neg (by omega)]
    have mn0 : mK H2 66 nf 0 = a1.toInt := by
      unfold mK
      show (H2.1 67 (3 * nf + 0)).toInt = _
      rw [q67, if_pos (by omega)]
    have mn1 : mK H2 66 nf 1 = a2.toInt := by
      unfold mK
      show (H2.1 67 (3 * nf + 1)).toInt = _
      rw [q67, if_neg (by omega), if_pos (by omega)]
    have mn2 : mK H2 66 nf 2 = a3.toInt := by
      unfold mK
      show (H2.1 67 (3 * nf + 2)).toInt = _
      rw [q67, if_neg (by omega), if_neg (by omega), if_pos (by omega)]
    have e68 : H2.1 68 = h.1 68 := (F 68 (by simp)).1
    have eG : mG H2 66 = mG h 66 := by funext k; unfold mG; show (H2.1 68 _).toInt.toNat = (h.1 68 _).toInt.toNat; rw [e68]
    have eS : mS H2 66 = mS h 66 := by funext k; unfold mS; show (H2.1 68 _).toInt.toNat = (h.1 68 _).toInt.toNat; rw [e68]
    have eD : mD H2 66 = mD h 66 := by funext k; unfold mD; show (H2.1 68 _).toInt = (h.1 68 _).toInt; rw [e68]
    refine ⟨nI (nf + 1) - 1, H1, H2, ?_, ?_, ⟨nf + 1, ⟨by rw [(K1 0 (by simp)).1, v1], by rw [(K6 0 (by simp)).1, v2], v3⟩, ⟨r1, q1, by omega, fun j hj => ?_⟩, fun g hg => ?_, ⟨by rw [(K1 2 (by simp)).1, b1], ⟨by rw [(K6 3 (by simp)).1]; exact b2.1, ⟨b2.2.1.1, by omega⟩, fun g v hg hv => ?_, fun k hk => ?_⟩, fun k hk => ?_⟩, ⟨by rw [(K1 3 (by simp)).1, l1], by rw [(K6 5 (by simp)).1, l2], l3, b, by rw [(F 6 (by simp)).1, (F 69 (by simp)).1]; exact l4, l5⟩⟩, F, K1, K6, mold⟩
    · unfold s_X9_form
      simp only [Nat.zero_add]
      rw [C0, if_neg zz, bnd_s, if_neg (by decide), E1, bnd_s]
      dsimp only
      rw [if_neg (by decide), p1]
    · rw [C1 H1 (by rw [p0]; exact v2), if_neg zz]
      unfold s_X10_form_b41
      rw [show H1.1 66 1 = nI nf from by rw [p0]; exact f2, if_neg n8, E2, bnd_s, q1]
    · rw [r2, p2, q67]
      by_cases z : j < 3 * nf
      · rw [f4 j z]
      · rcases (show j = 3 * nf ∨ j = 3 * nf + 1 ∨ j = 3 * nf + 2 by omega) with rfl | rfl | rfl <;> simp
    · rcases (show g < nf ∨ g = nf by omega) with z | rfl
      · obtain ⟨⟨v, w1, w2⟩, w3⟩ := g1 g z
        exact ⟨⟨v, w1, by rw [mold g z v w1]; exact w2⟩, fun v y1 y2 => by rw [mold g z v y2]; exact w3 v y1 y2⟩
      · constructor
        · have zz2 : ¬ (a1.toInt = 0 ∧ a2.toInt = 0 ∧ a3.toInt = 0) := fun y => zz ⟨eq_z.mpr y.1, eq_z.mpr y.2.1, eq_z.mpr y.2.2⟩
          by_cases y0 : a1.toInt = 0
          · by_cases y1 : a2.toInt = 0
            · exact ⟨2, by omega, by rw [mn2]; exact fun y2 => zz2 ⟨y0, y1, y2⟩⟩
            · exact ⟨1, by omega, by rw [mn1]; exact y1⟩
          · exact ⟨0, by omega, by rw [mn0]; exact y0⟩
        · intro v y1 y2
          rcases (show v = 0 ∨ v = 1 ∨ v = 2 by omega) with rfl | rfl | rfl
          · rw [mn0]; omega
          · rw [mn1]; omega
          · rw [mn2]; omega
    · rcases (show g < nf ∨ g = nf by omega) with z | rfl
      · rw [mold g z v hv]; exact b2.2.2.1 g v z hv
      · rcases (show v = 0 ∨ v = 1 ∨ v = 2 by omega) with rfl | rfl | rfl
        · rw [mn0]; exact k0.1
        · rw [mn1]; exact k1.1
        · rw [mn2]; exact k2.1
    · obtain ⟨⟨w1, w2⟩, w3, w4⟩ := b2.2.2.2 k hk
      rw [eG, eS, eD]
      show (H2.1 68 (3 * k) = _ ∧ _) ∧ (H2.1 68 (3 * k + 1) = _ ∧ _) ∧ _
      rw [e68]
      exact ⟨⟨w1, by omega⟩, w3, w4⟩
    · rw [(F 3 (by simp)).1, (F 4 (by simp)).1, (F 5 (by simp)).1, e68, eG]
      obtain ⟨w1, w2, w3, w4⟩ := b3 k hk
      exact ⟨w1, w2, w3, by omega⟩
  · have e8 : nf = 8 := by omega
    refine ⟨-3, h, h, ?_, ?_, ⟨nf, hP0⟩, Fr.rf, FrK.rf, FrK.rf, fun _ _ _ _ => rfl⟩
    · unfold s_X9_form s_X5_addForm
      simp only [Nat.zero_add]
      rw [C0, if_neg zz, bnd_s, if_neg (by decide), f1, e8, if_neg (by decide)]
      rfl
    · rw [C1 h v2, if_neg zz]
      unfold s_X10_form_b41
      rw [f2, e8, if_pos (by decide)]
