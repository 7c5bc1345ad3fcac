/-! the bound step -/
theorem bound_step {h : Hp} {nv nf m lv : Nat} (hP : ProbR h nv nf m lv) (a1 a2 : Int32) : ∃ r : Int32, s_X9_bound 0 a1 a2 h = some r ∧ s_X10_bound 66 a1 a2 h = some r := by
  obtain ⟨-, -, -, ⟨b1, b2, b3⟩, -⟩ := hP
  have hm := b2.2.1
  have z0 : (0 : Int32).toInt = 0 := by decide
  have z2 : (2 : Int32).toInt = 2 := by decide
  unfold s_X9_bound s_X10_bound s_X5_hasConstraint s_X10_isBound s_X10_bound_b40
  simp only [Nat.zero_add]
  rw [b1, b2.1, has_z (by omega), isn_z (by omega), in_z, z0, z2]
  simp only [bnd_s, ckB_b]
  by_cases c : 0 ≤ a1.toInt ∧ a1.toInt < m
  · rw [decide_eq_true c]
    obtain ⟨i, hi⟩ : ∃ i : Nat, a1.toInt = i := ⟨a1.toInt.toNat, by omega⟩
    have hi2 : i < m := by omega
    obtain ⟨g1, g2, g3, -⟩ := b3 i hi2
    rw [of_nat hi]
    simp only [if_neg (show ¬ bI true = 0 by decide)]
    by_cases d : 0 ≤ a2.toInt ∧ a2.toInt ≤ 2
    · rw [decide_eq_true d]
      simp only [if_neg (show ¬ bI true = 0 by decide)]
      rcases (show a2.toInt = (0 : Nat) ∨ a2.toInt = (1 : Nat) ∨ a2.toInt = (2 : Nat) by omega) with q | q | q
      · rw [of_nat q, if_neg (by decide), if_neg (by decide), if_pos (by decide), ldI_n (by omega) (by omega), li3, nI_mul, nI_add, ldI_n (by omega) (by omega), if_neg (by decide), g1]
        refine ⟨_, rfl, ?_⟩
        show some (h.1 68 (3 * i) + 0) = _
        rw [Int32.add_zero]
      · rw [of_nat q, if_neg (by decide), if_neg (by decide), if_neg (by decide), if_pos (by decide), ldI_n (by omega) (by omega), li3, nI_mul, nI_add, ldI_n (by omega) (by omega), if_neg (by decide), g2]
        refine ⟨_, rfl, ?_⟩
        show some (h.1 68 (3 * i + 1) + 0) = _
        rw [Int32.add_zero]
      · rw [of_nat q, if_neg (by decide), if_neg (by decide), if_neg (by decide), if_neg (by decide), ldI_n (by omega) (by omega), li3, nI_mul, nI_add, ldI_n (by omega) (by omega), if_pos (by decide), g3]
        exact ⟨_, rfl, rfl⟩
    · rw [decide_eq_false d]
      by_cases e : a2 < 0
      · rw [if_pos e]; exact ⟨-1, rfl, rfl⟩
      · have e1 : ¬ a2.toInt < 0 := fun q => e (lt_z.mpr (by rw [z0]; exact q))
        rw [if_neg e, if_pos (show (2 : Int32) < a2 from lt_z.mpr (by rw [z2]; omega))]; exact ⟨-1, rfl, rfl⟩
  · rw [decide_eq_false c]
    exact ⟨-1, rfl, rfl⟩
