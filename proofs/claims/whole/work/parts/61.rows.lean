/-! Rows: what its methods answer -/
theorem li0 : (0 : Int32) = nI 0 := by decide
theorem li1 : (1 : Int32) = nI 1 := by decide
theorem li2 : (2 : Int32) = nI 2 := by decide
theorem li3 : (3 : Int32) = nI 3 := by decide
theorem li4 : (4 : Int32) = nI 4 := by decide
theorem nI_mul (a b : Nat) : nI a * nI b = nI (a * b) := pk_mul a b
theorem ix3 (i k : Nat) : nI i * 3 + nI k = nI (3 * i + k) := by
  rw [li3, nI_mul, nI_add, Nat.mul_comm]
theorem ix30 (i : Nat) : nI i * 3 = nI (3 * i) := by
  rw [li3, nI_mul, Nat.mul_comm]
theorem ldI_n {β : Type} {h : Hp} {c n j : Nat} {k : Int32 → Option β} (hn : j < n) (h31 : n < 2147483648) : ldI h c n (nI j) k = k (h.1 c j) := ldI_z (nI_z (by omega)) hn
theorem ldJ_n {β : Type} {h : Hp} {c n j : Nat} {k : Int64 → Option β} (hn : j < n) (h31 : n < 2147483648) : ldJ h c n (nI j) k = k (h.2 c j) := ldJ_z (nI_z (by omega)) hn
theorem stI_n {β : Type} {h : Hp} {c n j : Nat} {v : Int32} {k : Hp → Option β} (hn : j < n) (h31 : n < 2147483648) : stI h c n (nI j) v k = k (sI h c j v) := stI_z (nI_z (by omega)) hn
theorem stJ_n {β : Type} {h : Hp} {c n j : Nat} {v : Int64} {k : Hp → Option β} (hn : j < n) (h31 : n < 2147483648) : stJ h c n (nI j) v k = k (sJ h c j v) := stJ_z (nI_z (by omega)) hn
theorem lt_red {α β : Type} (e : α) (f : α → Option β) : lt e f = f e := rfl
/-- the rows as a system of whole numbers -/
def rF (h : Hp) (R : Nat) : Nat → Nat → Int := fun i v => (h.1 (R + 1) (3 * i + v)).toInt
def rY (h : Hp) (R : Nat) : Sys := (rF h R, fun i => (h.2 (R + 2) i).toInt, fun i => decide (h.1 (R + 3) i = 1), fun i => decide (h.1 (R + 4) i = 1))
theorem rF_of (h : Hp) (R i v : Nat) : h.1 (R + 1) (3 * i + v) = i32 (rF h R i v) := (i32_of _).symm
theorem entry_z {h : Hp} {R N i v : Nat} (hN : h.1 R 4 = nI N) (h12 : N ≤ 12) (hi : i < N) (hv : v < 3) : s_X7_entry R (nI i) (nI v) h = some (i32 (rF h R i v)) := by
  unfold s_X7_entry
  rw [if_neg (nI_pos (by omega)), hN, if_pos (nI_lt hi (by omega)), if_neg (nI_pos (by omega)), li3, if_pos (nI_lt hv (by omega)), ← li3, ix3, ldI_n (by omega) (by omega), rF_of]
theorem cross_z {h : Hp} {R N i j v : Nat} (hN : h.1 R 4 = nI N) (h12 : N ≤ 12) (hi : i < N) (hj : j < N) (hv : v < 3) : s_X7_cross R (nI i) (nI j) (nI v) h = some (i32 (cr (rF h R) i j v)) := by
  have key : ∀ a b : Nat, a < 3 → b < 3 → s_X7_cross_b60 R (nI i) (nI j) (nI a) (nI b) h = some (i32 (rF h R i a * rF h R j b - rF h R i b * rF h R j a)) := fun a b ha hb => by
    unfold s_X7_cross_b60
    simp only [lt_red]
    rw [ix3, ix3, ix3, ix3, ldI_n (by omega) (by omega), ldI_n (by omega) (by omega), ldI_n (by omega) (by omega), ldI_n (by omega) (by omega), rF_of, rF_of, rF_of, rF_of, i32_mul, i32_mul, i32_sub]
  unfold s_X7_cross
  rw [if_neg (nI_pos (by omega)), hN, if_pos (nI_lt hi (by omega)), if_neg (nI_pos (by omega)), if_pos (nI_lt hj (by omega)), if_neg (nI_pos (by omega)), li3, if_pos (nI_lt hv (by omega))]
  unfold s_X7_cross_b47
  rcases (show v = 0 ∨ v = 1 ∨ v = 2 by omega) with rfl | rfl | rfl
  · rw [if_neg (by decide), if_pos (by decide), show nI 0 + 1 = nI 1 from by decide, li2, key 1 2 (by omega) (by omega)]; rfl
  · rw [if_neg (by decide), if_neg (by decide), show nI 1 + 1 = nI 2 from by decide, show nI 1 - 1 = nI 0 from by decide, key 2 0 (by omega) (by omega)]; rfl
  · rw [if_pos (by decide), if_neg (by decide), show nI 2 - 1 = nI 1 from by decide, li0, key 0 1 (by omega) (by omega)]; rfl
theorem det_z {h : Hp} {R N i j k : Nat} (hN : h.1 R 4 = nI N) (h12 : N ≤ 12) (hi : i < N) (hj : j < N) (hk : k < N) : s_X7_determinant R (nI i) (nI j) (nI k) h = some (i32 (dt (rF h R) i j k)) := by
  unfold s_X7_determinant
  rw [if_neg (nI_pos (by omega)), hN, if_pos (nI_lt hi (by omega)), if_neg (nI_pos (by omega)), if_pos (nI_lt hj (by omega)), if_neg (nI_pos (by omega)), if_pos (nI_lt hk (by omega))]
  simp only [lt_red, li1, li2]
  have z : ∀ i : Nat, nI i * 3 = nI (3 * i + 0) := fun i => ix30 i
  rw [ix3, ix3, ix3, ix3, ix3, ix3, z, z, z]
  iterate 15 rw [ldI_n (by omega) (by omega)]
  simp only [rF_of, i32_mul, i32_sub, i32_add]
  rfl
theorem cut_z {h : Hp} {R N n : Nat} (hN : h.1 R 4 = nI N) (h12 : N ≤ 12) (hn : n ≤ N) : ∃ h', s_X7_cut R (nI n) h = some h' ∧ h'.1 R 4 = nI n ∧ (∀ k, k ≠ 4 → h'.1 R k = h.1 R k) ∧ (∀ c, c ≠ R → h'.1 c = h.1 c) ∧ h'.2 = h.2 := by
  unfold s_X7_cut
  rw [if_neg (nI_pos (by omega)), hN]
  by_cases e : n < N
  · rw [if_pos (nI_lt e (by omega))]
    exact ⟨_, rfl, sI_same _ _ _ _, fun k hk => sI_ne hk, fun c hc => sI_cell hc, rfl⟩
  · rw [if_neg (nI_nlt (by omega) (by omega))]
    have : n = N := by omega
    subst this
    exact ⟨h, rfl, hN, fun _ _ => rfl, fun _ _ => rfl, rfl⟩
theorem restart_z (h : Hp) (R : Nat) (a : Int32) : ∃ h', s_X7_restart R a h = some h' ∧ h'.1 R 4 = 0 ∧ h'.1 R 5 = a ∧ (∀ c, c ≠ R → h'.1 c = h.1 c) ∧ h'.2 = h.2 := by
  refine ⟨_, rfl, ?_, sI_same _ _ _ _, fun c hc => by rw [sI_cell hc, sI_cell hc], rfl⟩
  rw [sI_ne (by decide)]; exact sI_same _ _ _ _
