/-! the level step -/
theorem nI_lt4 {n : Nat} (h : n < 4) : nI n < (4 : Int32) := by rw [li4]; exact nI_lt h (by omega)
theorem level_step {h : Hp} {nv nf m lv : Nat} (hP : ProbR h nv nf m lv) : ∃ r : Int32, ∃ h1 h2 : Hp, s_X9_level 0 h = some (r, h1) ∧ s_X10_level 66 h1 = some (r, h2) ∧ (∃ lv', ProbR h2 nv nf m lv') ∧ Fr [1, 6, 66, 69] h h2 ∧ FrK 1 [3] h h2 ∧ FrK 66 [5] h h2 := by
  have hP0 := hP
  obtain ⟨⟨v1, v2, v3⟩, ⟨f1, f2, f3, f4⟩, g1, ⟨b1, b2, b3⟩, ⟨l1, l2, l3, b, l4, l5⟩⟩ := hP
  unfold s_X9_level s_X10_level
  simp only [Nat.zero_add]
  rw [l1]
  by_cases c : lv < 4
  · have n4 : ¬ nI lv = (4 : Int32) := fun q => by
      have w : (4 : Int32).toInt = 4 := by decide
      have := eq_z.mp q
      rw [nI_z (by omega), w] at this
      omega
    rw [if_pos (nI_lt4 c), stI_n (by omega) (by omega), lt_red, sI_same, sI_cell (c' := 1) (by omega), l1, b1, nI_1]
    have q1 : (sI (sI h 6 lv (nI m)) 1 3 (nI (lv + 1))).1 66 5 = nI lv := by rw [sI_cell (by omega), sI_cell (by omega), l2]
    have q2 : (sI (sI h 6 lv (nI m)) 1 3 (nI (lv + 1))).1 66 3 = nI m := by rw [sI_cell (by omega), sI_cell (by omega)]; exact b2.1
    have F : Fr [1, 6, 66, 69] h (sI (sI (sI (sI h 6 lv (nI m)) 1 3 (nI (lv + 1))) 69 lv (nI m)) 66 5 (nI (lv + 1))) := ((Fr.sI (by simp)).tr (Fr.sI (by simp))).tr ((Fr.sI (by simp)).tr (Fr.sI (by simp)))
    have K1 : FrK 1 [3] h (sI (sI (sI (sI h 6 lv (nI m)) 1 3 (nI (lv + 1))) 69 lv (nI m)) 66 5 (nI (lv + 1))) := fun k hk => by
      simp at hk
      exact ⟨by rw [sI_cell (by omega), sI_cell (by omega), sI_ne hk, sI_cell (by omega)], rfl⟩
    have K6 : FrK 66 [5] h (sI (sI (sI (sI h 6 lv (nI m)) 1 3 (nI (lv + 1))) 69 lv (nI m)) 66 5 (nI (lv + 1))) := fun k hk => by
      simp at hk
      exact ⟨by rw [sI_ne hk, sI_cell (by omega), sI_cell (by omega), sI_cell (by omega)], rfl⟩
    refine ⟨nI (lv + 1), _, sI (sI (sI (sI h 6 lv (nI m)) 1 3 (nI (lv + 1))) 69 lv (nI m)) 66 5 (nI (lv + 1)), rfl, ?_, ⟨lv + 1, ?_⟩, F, K1, K6⟩
    · rw [q1, if_neg n4, q2, stI_n (by omega) (by omega), lt_red, sI_same, sI_cell (c := 66 + 3) (c' := 66) (by omega), q1, nI_1]
    · obtain ⟨hB, e1, e2, e3, e4⟩ := b2.fr F K6 (by simp) (by simp) (by simp)
      have w6 : (sI (sI (sI (sI h 6 lv (nI m)) 1 3 (nI (lv + 1))) 69 lv (nI m)) 66 5 (nI (lv + 1))).1 6 = (sI h 6 lv (nI m)).1 6 := by rw [sI_cell (by omega), sI_cell (by omega), sI_cell (by omega)]
      have w69 : ∀ k, (sI (sI (sI (sI h 6 lv (nI m)) 1 3 (nI (lv + 1))) 69 lv (nI m)) 66 5 (nI (lv + 1))).1 69 k = if k = lv then nI m else h.1 69 k := fun k => by
        rw [sI_cell (c' := 69) (c := 66) (by omega)]
        by_cases z : k = lv
        · subst z; rw [sI_same, if_pos rfl]
        · rw [sI_ne z, if_neg z, sI_cell (by omega), sI_cell (by omega)]
      have w3 : (sI (sI (sI (sI h 6 lv (nI m)) 1 3 (nI (lv + 1))) 69 lv (nI m)) 66 5 (nI (lv + 1))).1 1 3 = nI (lv + 1) := by rw [sI_cell (by omega), sI_cell (by omega), sI_same]
      have w5 : (sI (sI (sI (sI h 6 lv (nI m)) 1 3 (nI (lv + 1))) 69 lv (nI m)) 66 5 (nI (lv + 1))).1 66 5 = nI (lv + 1) := by rw [sI_same]
      generalize sI (sI (sI (sI h 6 lv (nI m)) 1 3 (nI (lv + 1))) 69 lv (nI m)) 66 5 (nI (lv + 1)) = H at *
      refine ⟨⟨by rw [(K1 0 (by simp)).1, v1], by rw [(K6 0 (by simp)).1, v2], v3⟩, ⟨by rw [(K1 1 (by simp)).1, f1], by rw [(K6 1 (by simp)).1, f2], f3, ?_⟩, ?_, ⟨by rw [(K1 2 (by simp)).1, b1], hB, ?_⟩, ⟨w3, w5, by omega, fun k => if k = lv then m else b k, fun k hk => ?_, fun i j hij hj => ?_⟩⟩
      · rw [(F 2 (by simp)).1, (F 67 (by simp)).1]; exact f4
      · rw [e4]; exact g1
      · rw [(F 3 (by simp)).1, (F 4 (by simp)).1, (F 5 (by simp)).1, (F 68 (by simp)).1, e1]; exact b3
      · rw [w6, w69]
        dsimp only
        by_cases z : k = lv
        · subst z; rw [sI_same]; simp
        · rw [sI_ne z, if_neg z, if_neg z]; exact l4 k (by omega)
      · dsimp only
        by_cases z : j = lv
        · rw [if_pos z]
          by_cases y : i = lv
          · rw [if_pos y]; exact Nat.le_refl _
          · rw [if_neg y]; exact (l4 i (by omega)).2.2
        · rw [if_neg z, if_neg (show ¬ i = lv by omega)]; exact l5 i j hij (by omega)
  · have : lv = 4 := by omega
    subst this
    rw [if_neg (by decide)]
    exact ⟨_, _, _, rfl, by rw [l2, if_pos (by decide)], ⟨4, hP0⟩, Fr.rf, FrK.rf, FrK.rf⟩
