/-! the form step: the forms of class and model grow alike -/
theorem sI3 {h : Hp} {c n : Nat} {x y z : Int32} (j : Nat) : (sI (sI (sI h c (3 * n) x) c (3 * n + 1) y) c (3 * n + 2) z).1 c j = if j = 3 * n then x else if j = 3 * n + 1 then y else if j = 3 * n + 2 then z else h.1 c j := by
  by_cases a : j = 3 * n + 2
  · subst a; rw [sI_same, if_neg (by omega), if_neg (by omega), if_pos rfl]
  · rw [sI_ne a]
    by_cases b : j = 3 * n + 1
    · subst b; rw [sI_same, if_neg (by omega), if_pos rfl]
    · rw [sI_ne b]
      by_cases d : j = 3 * n
      · subst d; rw [sI_same, if_pos rfl]
      · rw [sI_ne d, if_neg d, if_neg b, if_neg a]
theorem addForm_z {h : Hp} {P nf : Nat} (hf : h.1 P 1 = nI nf) (h8 : nf < 8) (x y z : Int32) : s_X5_addForm P x y z h = some (1, sI (sI (sI (sI h (P + 1) (3 * nf) x) (P + 1) (3 * nf + 1) y) (P + 1) (3 * nf + 2) z) P 1 (nI (nf + 1))) := by
  unfold s_X5_addForm
  rw [hf, if_pos (show nI nf < (8 : Int32) from nI_lt (b := 8) h8 (by decide)), ix30, stI_n (by omega) (by omega), sI_cell (c' := P) (by omega), hf, show nI nf * 3 + 1 = nI (3 * nf + 1) from ix3 nf 1, stI_n (by omega) (by omega), sI_cell (c' := P) (by omega), sI_cell (c' := P) (by omega), hf, show nI nf * 3 + 2 = nI (3 * nf + 2) from ix3 nf 2, stI_n (by omega) (by omega), lt_red, sI_cell (c' := P) (by omega), sI_cell (c' := P) (by omega), sI_cell (c' := P) (by omega), hf, nI_1]
theorem comesForm_z {h : Hp} {P nf : Nat} (hf : h.1 P 1 = nI nf) (h8 : nf < 8) (x y z : Int32) : s_X10_comesForm P x y z h = some (sI (sI (sI (sI h (P + 1) (3 * nf) x) (P + 1) (3 * nf + 1) y) (P + 1) (3 * nf + 2) z) P 1 (nI (nf + 1))) := by
  have e0 : (3 : Int32) * nI nf = nI (3 * nf) := by rw [li3, nI_mul]
  unfold s_X10_comesForm
  rw [hf, e0, stI_n (by omega) (by omega), sI_cell (c' := P) (by omega), hf, e0, show nI (3 * nf) + 1 = nI (3 * nf + 1) from nI_1 _, stI_n (by omega) (by omega), sI_cell (c' := P) (by omega), sI_cell (c' := P) (by omega), hf, e0, show nI (3 * nf) + 2 = nI (3 * nf + 2) from by rw [li2, nI_add], stI_n (by omega) (by omega), lt_red, sI_cell (c' := P) (by omega), sI_cell (c' := P) (by omega), sI_cell (c' := P) (by omega), hf, nI_1]
