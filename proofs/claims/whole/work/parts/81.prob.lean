/-! the problem (cell 1) against the model (cell 66) -/
def ProbR (h : Hp) (nv nf m lv : Nat) : Prop :=
  (h.1 1 0 = nI nv ∧ h.1 66 0 = nI nv ∧ nv ≤ 3) ∧
  (h.1 1 1 = nI nf ∧ h.1 66 1 = nI nf ∧ nf ≤ 8 ∧ ∀ j, j < 3 * nf → h.1 2 j = h.1 67 j) ∧
  (∀ g, g < nf → (∃ v, v < 3 ∧ mK h 66 g v ≠ 0) ∧ ∀ v, nv ≤ v → v < 3 → mK h 66 g v = 0) ∧
  (h.1 1 2 = nI m ∧ MB h 66 nf m ∧ ∀ k, k < m → h.1 3 k = h.1 68 (3 * k) ∧ h.1 4 k = h.1 68 (3 * k + 1) ∧ h.1 5 k = h.1 68 (3 * k + 2) ∧ mG h 66 k < nf) ∧
  (h.1 1 3 = nI lv ∧ h.1 66 5 = nI lv ∧ lv ≤ 4 ∧ ∃ b : Nat → Nat, (∀ k, k < lv → h.1 6 k = nI (b k) ∧ h.1 69 k = nI (b k) ∧ b k ≤ m) ∧ ∀ i j, i ≤ j → j < lv → b i ≤ b j)
theorem has_z {a : Int32} {n : Nat} (hn : n < 2147483648) : (if a < 0 then some (0 : Int32) else if a < nI n then some (1 : Int32) else some (0 : Int32)) = some (bI (decide (0 ≤ a.toInt ∧ a.toInt < n))) := by
  have z0 : (0 : Int32).toInt = 0 := by decide
  by_cases c : a < 0
  · rw [if_pos c]
    have := lt_z.mp c
    rw [z0] at this
    rw [decide_eq_false (by omega)]; rfl
  · rw [if_neg c]
    have c1 : ¬ a.toInt < 0 := fun q => c (lt_z.mpr (by rw [z0]; exact q))
    by_cases d : a < nI n
    · rw [if_pos d]
      have := lt_z.mp d
      rw [nI_z hn] at this
      rw [decide_eq_true (by omega)]; rfl
    · rw [if_neg d]
      have d1 : ¬ a.toInt < n := fun q => d (lt_z.mpr (by rw [nI_z hn]; exact q))
      rw [decide_eq_false (by omega)]; rfl
theorem isn_z {a : Int32} {n : Nat} (hn : n < 2147483648) (h : Hp) : s_X10_in a 0 (nI n - 1) h = some (bI (decide (0 ≤ a.toInt ∧ a.toInt < n))) := by
  have z0 : (0 : Int32).toInt = 0 := by decide
  have z1 : (1 : Int32).toInt = 1 := by decide
  rw [in_z, z0, sub_z (by rw [nI_z hn, z1]; omega) (by rw [nI_z hn, z1]; omega), nI_z hn, z1]
  congr 2
  apply decide_eq_decide.mpr
  omega
theorem coefficient_step {h : Hp} {nv nf m lv : Nat} (hP : ProbR h nv nf m lv) (a1 a2 : Int32) : ∃ r : Int32, s_X9_coefficient 0 a1 a2 h = some r ∧ s_X10_coefficient 66 a1 a2 h = some r := by
  obtain ⟨⟨v1, v2, v3⟩, ⟨f1, f2, f3, f4⟩, -⟩ := hP
  unfold s_X9_coefficient s_X10_coefficient s_X5_entry s_X5_hasForm s_X5_hasVariable s_X10_isForm s_X10_isVariable
  simp only [Nat.zero_add]
  rw [f1, f2, v1, v2, has_z (by omega), has_z (by omega), isn_z (by omega), isn_z (by omega)]
  simp only [bnd_s, ckB_b]
  by_cases c : 0 ≤ a1.toInt ∧ a1.toInt < nf
  · rw [decide_eq_true c]
    by_cases d : 0 ≤ a2.toInt ∧ a2.toInt < nv
    · rw [decide_eq_true d]
      obtain ⟨i, hi⟩ : ∃ i : Nat, a1.toInt = i := ⟨a1.toInt.toNat, by omega⟩
      obtain ⟨v, hv⟩ : ∃ i : Nat, a2.toInt = i := ⟨a2.toInt.toNat, by omega⟩
      have hi2 : i < nf := by omega
      have hv2 : v < nv := by omega
      rw [of_nat hi, of_nat hv]
      simp only [if_neg (show ¬ bI true = 0 by decide)]
      rw [ix3, ldI_n (by omega) (by omega), li3, nI_mul, nI_add, ldI_n (by omega) (by omega), f4 _ (by omega)]
      exact ⟨_, rfl, rfl⟩
    · rw [decide_eq_false d]
      exact ⟨-1, rfl, rfl⟩
  · rw [decide_eq_false c]
    exact ⟨-1, rfl, rfl⟩
