/-! rows in some of the variables alone -/
theorem min_lenw {Y : Sys} {ub nv : Nat} {T : List Nat} (hn : T.Nodup) (hu : ub + nv ≤ 3) (hv : ∀ i ∈ T, ∀ v, v < 3 → (v < ub ∨ ub + nv ≤ v) → Y.1 i v = 0) (h1 : 1 ≤ nv) (hmin : ∀ n, Dep Y T n → (∃ i ∈ T, n i = 0) → ∀ i ∈ T, n i = 0) : T.length ≤ nv + 1 := by
  rcases (show nv = 1 ∨ nv = 2 ∨ 3 ≤ nv by omega) with rfl | rfl | h3
  · match T, hn, hv, hmin with
    | i :: j :: k :: R, hn, hv, hmin =>
      exfalso
      have hij : i ≠ j := by simp at hn; exact hn.1.1
      have zi : ∀ v, v < 3 → v ≠ ub → Y.1 i v = 0 := fun v h3 hne => hv i (by simp) v h3 (by omega)
      have zj : ∀ v, v < 3 → v ≠ ub → Y.1 j v = 0 := fun v h3 hne => hv j (by simp) v h3 (by omega)
      have z : ∀ v, v < 3 → cr Y.1 i j v = 0 := by
        rcases (show ub = 0 ∨ ub = 1 ∨ ub = 2 by omega) with rfl | rfl | rfl
        · exact lt3 (by rw [cr0, zi 1 (by omega) (by omega), zi 2 (by omega) (by omega)]; simp) (by rw [cr1, zi 2 (by omega) (by omega), zj 2 (by omega) (by omega)]; simp) (by rw [cr2, zi 1 (by omega) (by omega), zj 1 (by omega) (by omega)]; simp)
        · exact lt3 (by rw [cr0, zi 2 (by omega) (by omega), zj 2 (by omega) (by omega)]; simp) (by rw [cr1, zi 2 (by omega) (by omega), zi 0 (by omega) (by omega)]; simp) (by rw [cr2, zi 0 (by omega) (by omega), zj 0 (by omega) (by omega)]; simp)
        · exact lt3 (by rw [cr0, zi 1 (by omega) (by omega), zj 1 (by omega) (by omega)]; simp) (by rw [cr1, zi 0 (by omega) (by omega), zj 0 (by omega) (by omega)]; simp) (by rw [cr2, zi 0 (by omega) (by omega), zi 1 (by omega) (by omega)]; simp)
      obtain ⟨n, d, x, hx, hne⟩ := dep2 (Y := Y) hij z
      exact hne (front_indep (P := [i, j]) (Q := k :: R) hn (by simp) hmin d x hx)
    | [], _, _, _ => simp
    | [_], _, _, _ => simp
    | [_, _], _, _, _ => simp
  · match T, hn, hv, hmin with
    | i :: j :: k :: l :: R, hn, hv, hmin =>
      exfalso
      obtain ⟨hij, hik, hjk⟩ : i ≠ j ∧ i ≠ k ∧ j ≠ k := by simp at hn; exact ⟨hn.1.1, hn.1.2.1, hn.2.1.1⟩
      have z : dt Y.1 i j k = 0 := by
        rcases (show ub = 0 ∨ ub = 1 by omega) with rfl | rfl
        · unfold dt; rw [hv i (by simp) 2 (by omega) (by omega), hv j (by simp) 2 (by omega) (by omega), hv k (by simp) 2 (by omega) (by omega)]; grind
        · unfold dt; rw [hv i (by simp) 0 (by omega) (by omega), hv j (by simp) 0 (by omega) (by omega), hv k (by simp) 0 (by omega) (by omega)]; grind
      obtain ⟨n, d, x, hx, hne⟩ := dep3 (Y := Y) hij hik hjk z
      exact hne (front_indep (P := [i, j, k]) (Q := l :: R) hn (by simp) hmin d x hx)
    | [], _, _, _ => simp
    | [_], _, _, _ => simp
    | [_, _], _, _, _ => simp
    | [_, _, _], _, _, _ => simp
  · refine min_len hn (nv := nv) (fun i hi v hv1 hv2 => ?_) h1 hmin
    omega
theorem unsat_iffw {Y : Sys} {ub nv : Nat} {T : List Nat} (h1 : 1 ≤ nv) (h3 : ub + nv ≤ 3) (hn : T.Nodup) (hse : ∀ i ∈ T, Y.2.2.1 i = true → Y.2.2.2 i = false) (hv : ∀ i ∈ T, ∀ v, v < 3 → (v < ub ∨ ub + nv ≤ v) → Y.1 i v = 0) (hone : ∀ i ∈ T, Sat Y [i]) : ¬ Sat Y T ↔ ∃ T0, List.Sublist T0 T ∧ 2 ≤ T0.length ∧ T0.length ≤ nv + 1 ∧ Clash Y T0 := by
  constructor
  · intro h
    have hc : ∃ m, Cert Y T m := by
      by_cases q : ∃ m, Cert Y T m
      · exact q
      · exact absurd (farkas hn hse q) h
    obtain ⟨T0, m, hsub, c, hf, hmin⟩ := minimal T.length T (Nat.le_refl _) hc
    have hn0 := hn.sublist hsub
    have hlen := min_lenw hn0 h3 (fun i hi => hv i (hsub.subset hi)) h1 hmin
    have hge : 2 ≤ T0.length := by
      match T0, hsub, c with
      | [], _, c =>
        rcases c.2.2 with q | ⟨-, i, hi, -⟩
        · simp [sm] at q
        · simp at hi
      | [i], hsub, c => exact absurd (hone i (hsub.subset (by simp))) (cert_unsat c)
      | _ :: _ :: _, _, _ => simp
    obtain ⟨g, hg, a, b, ha, hb, hab⟩ := circ_complete hn0 c hf hmin (by omega)
    refine ⟨T0, hsub, hge, hlen, g, hg, ?_⟩
    have hsum : a * sm T0 (fun i => g i * Y.2.1 i) = b * sm T0 (fun i => m i * Y.2.1 i) := by
      rw [← sm_mul, ← sm_mul]
      exact sm_congr (fun i hi => by have := hab i hi; grind)
    rcases c.2.2 with q | ⟨q, i, hi, si, -⟩
    · left
      by_cases z : sm T0 (fun i => g i * Y.2.1 i) < 0
      · exact z
      · have := Int.mul_nonneg (Int.le_of_lt ha) (by omega : 0 ≤ sm T0 (fun i => g i * Y.2.1 i))
        have := Int.mul_pos hb (by omega : 0 < - sm T0 (fun i => m i * Y.2.1 i))
        grind
    · right
      refine ⟨?_, i, hi, si⟩
      rw [q] at hsum
      have : a * sm T0 (fun i => g i * Y.2.1 i) = 0 := by omega
      rcases Int.mul_eq_zero.mp this with z | z
      · omega
      · exact z
  · rintro ⟨T0, hsub, -, -, hcl⟩ hs
    exact clash_unsat (hn.sublist hsub) (fun i hi => hse i (hsub.subset hi)) hcl (Sat.mono (fun i hi => hsub.subset hi) hs)
