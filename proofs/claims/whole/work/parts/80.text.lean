/-! the typed text: type and clear -/
def TextI (h : Hp) : Prop := ∃ n : Nat, n ≤ 90 ∧ h.1 27 1 = nI n ∧ h.1 66 43 = nI n ∧ ∀ i, i < n → h.1 28 i = h.1 89 i ∧ 0 ≤ (h.1 28 i).toInt ∧ (h.1 28 i).toInt ≤ 255
theorem in_z (a lo hi : Int32) (h : Hp) : s_X10_in a lo hi h = some (bI (decide (lo.toInt ≤ a.toInt ∧ a.toInt ≤ hi.toInt))) := by
  unfold s_X10_in
  by_cases c : a < lo
  · rw [if_pos c]
    have := lt_z.mp c
    rw [decide_eq_false (by omega)]; rfl
  · rw [if_neg c]
    have c1 : ¬ a.toInt < lo.toInt := fun q => c (lt_z.mpr q)
    by_cases d : hi < a
    · rw [if_pos d]
      have := lt_z.mp d
      rw [decide_eq_false (by omega)]; rfl
    · rw [if_neg d]
      have d1 : ¬ hi.toInt < a.toInt := fun q => d (lt_z.mpr q)
      rw [decide_eq_true (by omega)]; rfl
theorem TextI.fr {h h' : Hp} {S ks : List Nat} (a : TextI h) (f : Fr S h h') (k : FrK 66 ks h h') (h1 : 27 ∉ S) (h2 : 28 ∉ S) (h3 : 89 ∉ S) (h4 : 43 ∉ ks) : TextI h' := by
  obtain ⟨n, hn, e1, e2, e3⟩ := a
  refine ⟨n, hn, by rw [(f _ h1).1]; exact e1, by rw [(k _ h4).1]; exact e2, ?_⟩
  rw [(f _ h2).1, (f _ h3).1]; exact e3
theorem clear_step {h : Hp} (hI : TextI h) : ∃ r : Int32, ∃ h1 h2 : Hp, s_X9_clear 0 h = some (r, h1) ∧ s_X10_clear 66 h1 = some (r, h2) ∧ TextI h2 ∧ Fr [27, 66] h h2 ∧ FrK 27 [1] h h2 ∧ FrK 66 [43] h h2 := by
  obtain ⟨n, hn, e1, e2, e3⟩ := hI
  unfold s_X9_clear s_X10_clear
  rw [lt_red, lt_red]
  simp only [Nat.zero_add]
  refine ⟨nI n, _, _, by rw [e1], by rw [lt_red, lt_red, sI_cell (by omega), e2], ⟨0, by omega, ?_, ?_, fun i hi => by omega⟩, (Fr.sI (by simp)).tr (Fr.sI (by simp)), fun k hk => ?_, fun k hk => ?_⟩
  · rw [sI_cell (by omega), sI_same]; rfl
  · rw [sI_same]; rfl
  · simp at hk
    exact ⟨by rw [sI_cell (by omega), sI_ne hk], rfl⟩
  · simp at hk
    exact ⟨by rw [sI_ne hk, sI_cell (by omega)], rfl⟩
theorem type_step {h : Hp} (hI : TextI h) (a : Int32) : ∃ r : Int32, ∃ h1 h2 : Hp, s_X9_type 0 a h = some (r, h1) ∧ s_X10_type 66 a h1 = some (r, h2) ∧ TextI h2 ∧ Fr [27, 28, 66, 89] h h2 ∧ FrK 27 [1] h h2 ∧ FrK 66 [43] h h2 := by
  have hI0 := hI
  obtain ⟨n, hn, e1, e2, e3⟩ := hI
  have z0 : (0 : Int32).toInt = 0 := by decide
  have z255 : (255 : Int32).toInt = 255 := by decide
  unfold s_X9_type s_X10_type s_X6_append
  simp only [Nat.zero_add, in_z, bnd_s, z0, z255]
  by_cases c : 0 ≤ a.toInt ∧ a.toInt ≤ 255
  · rw [if_neg (show ¬ a < 0 from fun q => by have := lt_z.mp q; rw [z0] at this; omega), if_neg (show ¬ (255 : Int32) < a from fun q => by have := lt_z.mp q; rw [z255] at this; omega), e1]
    simp only [decide_eq_true c]
    by_cases d : n < 90
    · rw [if_pos (show nI n < (90 : Int32) from nI_lt (b := 90) d (by decide)), stI_n (by omega) (by omega), lt_red, bnd_s]
      dsimp only
      rw [if_neg (by decide), sI_same, sI_cell (c' := 27) (by omega), e1, nI_1]
      · have n90 : ¬ nI n = (90 : Int32) := fun q => by
          have w : (90 : Int32).toInt = 90 := by decide
          have := eq_z.mp q
          rw [nI_z (by omega), w] at this
          omega
        have q1 : (sI (sI h 28 n a) 27 1 (nI (n + 1))).1 66 43 = nI n := by rw [sI_cell (by omega), sI_cell (by omega), e2]
        refine ⟨nI (n + 1), sI (sI h 28 n a) 27 1 (nI (n + 1)), sI (sI (sI (sI h 28 n a) 27 1 (nI (n + 1))) 89 n a) 66 43 (nI (n + 1)), rfl, ?_, ⟨n + 1, by omega, ?_, ?_, fun i hi => ?_⟩, ((Fr.sI (by simp)).tr (Fr.sI (by simp))).tr ((Fr.sI (by simp)).tr (Fr.sI (by simp))), fun k hk => ?_, fun k hk => ?_⟩
        · rw [if_neg (by decide), q1, if_neg n90, stI_n (by omega) (by omega), lt_red, sI_cell (c := 66 + 23) (c' := 66) (by omega), q1, nI_1, sI_same]
        · rw [sI_cell (by omega), sI_cell (by omega), sI_same]
        · rw [sI_same]
        · rw [sI_cell (c' := 28) (by omega), sI_cell (c' := 28) (by omega), sI_cell (c' := 28) (by omega), sI_cell (c' := 89) (c := 66) (by omega)]
          by_cases w : i = n
          · subst w; rw [sI_same, sI_same]; exact ⟨rfl, c⟩
          · rw [sI_ne w, sI_ne w, sI_cell (by omega), sI_cell (by omega)]; exact e3 i (by omega)
        · simp at hk
          exact ⟨by rw [sI_cell (by omega), sI_cell (by omega), sI_ne hk, sI_cell (by omega)], rfl⟩
        · simp at hk
          exact ⟨by rw [sI_ne hk, sI_cell (by omega), sI_cell (by omega), sI_cell (by omega)], rfl⟩
    · have : n = 90 := by omega
      subst this
      rw [if_neg (by decide), bnd_s]
      dsimp only
      rw [if_pos rfl]
      exact ⟨_, _, _, rfl, by rw [if_neg (by decide), e2, if_pos (by decide)], hI0, Fr.rf, FrK.rf, FrK.rf⟩
  · simp only [decide_eq_false c]
    by_cases p : a < 0
    · rw [if_pos p]
      exact ⟨_, _, _, rfl, by rw [if_pos (by decide)], hI0, Fr.rf, FrK.rf, FrK.rf⟩
    · have p2 : (255 : Int32) < a := by
        apply lt_z.mpr
        have : ¬ a.toInt < 0 := fun q => p (lt_z.mpr (by rw [z0]; exact q))
        rw [z255]; omega
      rw [if_neg p, if_pos p2]
      exact ⟨_, _, _, rfl, by rw [if_pos (by decide)], hI0, Fr.rf, FrK.rf, FrK.rf⟩
