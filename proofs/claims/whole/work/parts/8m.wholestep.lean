theorem dec_enc : ∀ a, a < 9 → ∀ b, b < 9 → ∀ c, c < 9 → nI (81 * a + 9 * b + c) / (81 : Int32) = nI a ∧ nI (81 * a + 9 * b + c) / (9 : Int32) - nI (81 * a + 9 * b + c) / (9 : Int32) / (9 : Int32) * (9 : Int32) = nI b ∧ nI (81 * a + 9 * b + c) - nI (81 * a + 9 * b + c) / (9 : Int32) * (9 : Int32) = nI c := by decide +kernel
theorem hasV_z {h : Hp} {P nv : Nat} (e : h.1 P 0 = nI nv) (h3 : nv ≤ 3) (a : Int32) : s_X5_hasVariable P a h = some (bI (decide (0 ≤ a.toInt ∧ a.toInt < nv))) := by
  unfold s_X5_hasVariable
  rw [e, has_z (by omega)]
theorem isV_z {h : Hp} {P nv : Nat} (e : h.1 P 0 = nI nv) (h3 : nv ≤ 3) (a : Int32) : s_X10_isVariable P a h = some (bI (decide (0 ≤ a.toInt ∧ a.toInt < nv))) := by
  unfold s_X10_isVariable
  rw [e, isn_z (by omega), bnd_s, ckB_b]
def WholeP (h h2 : Hp) : Prop := Fr [0, 65, 66] h h2 ∧ FrK 0 [14] h h2 ∧ FrK 66 [36] h h2 ∧ (h.2 0 14 = h.2 66 36 → h2.2 0 14 = h2.2 66 36)
theorem WholeP.rf {h : Hp} : WholeP h h := ⟨Fr.rf, FrK.rf, FrK.rf, id⟩
theorem WholeP.of {h H : Hp} (f : Fr [65] h H) : WholeP h H := ⟨f.wid (by simp), FrK.of f (by simp), FrK.of f (by simp), fun e => by rw [(f 0 (by simp)).2, (f 66 (by simp)).2]; exact e⟩
theorem whole_step {h : Hp} {nv nf m lv : Nat} (hP : ProbR h nv nf m lv) (hc : CIM h nv m) (a1 a2 : Int32) : ∃ r : Int32, ∃ h1 h2 : Hp, s_X9_whole 0 a1 a2 h = some (r, h1) ∧ s_X10_whole 66 a1 a2 h1 = some (r, h2) ∧ WholeP h h2 := by
  have z0 : (0 : Int32).toInt = 0 := by decide
  have h3 := hP.1.2.2
  by_cases c1 : a1 < 0
  · refine ⟨-1, h, h, ?_, ?_, WholeP.rf⟩
    · unfold s_X9_whole; rw [if_pos c1]
    · unfold s_X10_whole; rw [if_pos c1]
  have c1' : 0 ≤ a1.toInt := by
    have : ¬ a1.toInt < 0 := fun q => c1 (lt_z.mpr (by rw [z0]; exact q))
    omega
  have A := hasV_z (P := 1) hP.1.1 h3 a2
  have B : ∀ H : Hp, H.1 66 0 = nI nv → s_X10_isVariable 66 a2 H = some (bI (decide (0 ≤ a2.toInt ∧ a2.toInt < nv))) := fun H e => isV_z e h3 a2
  by_cases c2 : 0 ≤ a2.toInt ∧ a2.toInt < nv
  · obtain ⟨k, hk⟩ : ∃ i : Nat, a1.toInt = i := ⟨a1.toInt.toNat, by omega⟩
    obtain ⟨v, hv⟩ : ∃ i : Nat, a2.toInt = i := ⟨a2.toInt.toNat, by omega⟩
    have k31 : k < 2147483648 := by have : a1.toInt < 2147483648 := a1.toInt_lt; omega
    have e1 := of_nat hk
    have e2 := of_nat hv
    subst e1 e2
    have hv3 : v < 3 := by omega
    obtain ⟨a, H, s1, J1, J2, J3⟩ := search_z hP hc k31
    have gl := gG_le h m (eB nv) (eC nv) (gN nv)
    have gl2 := gN_le nv
    have q66 : H.1 66 = h.1 66 := (J2 66 (by simp)).1
    have P1 : ProbR H nv nf m lv := hP.fr J2 (FrK.of J2 (by simp) (ks := [])) (FrK.of J2 (by simp) (ks := [])) (by simp) (by simp) (by simp)
    have gGe : gG H m (eB nv) (eC nv) (gN nv) = gG h m (eB nv) (eC nv) (gN nv) := by
      obtain ⟨-, g1, g2, g3, g4⟩ := hP.2.2.2.1.2.1.fr J2 (FrK.of J2 (by simp) (ks := [])) (by simp) (by simp) (by simp)
      unfold gG
      apply List.filter_congr
      intro x _
      unfold gM
      show hBl m (fun i => mK H 66 (mG H 66 i)) (mS H 66) (mD H 66) false _ _ _ 1 = hBl m (fun i => mK h 66 (mG h 66 i)) (mS h 66) (mD h 66) false _ _ _ 1
      rw [g1, g2, g3, g4]
    obtain ⟨t, t1, t2⟩ := wholeAt_z (K := some k) (w := nI k) P1 (Or.inl ⟨k, rfl, rfl, k31⟩)
    have cls : s_X9_whole 0 (nI k) (nI v) h = (if nI k < a then ldI H 65 3 (nI v) fun x3 => lt (sJ H 0 14 (x3).toInt64) fun h4 => some ((1 : Int32), h4) else (some ((-9 : Int32), H))) := by
      unfold s_X9_whole
      simp only [Nat.zero_add]
      rw [if_neg c1, A, decide_eq_true c2, bnd_s, if_neg (by decide), hP.1.1, s1, bnd_s]
    have mdl : ∀ H2 : Hp, H2 = H ∨ (∃ z, H2 = sJ H 0 14 z) → s_X10_whole 66 (nI k) (nI v) H2 = (if t < 0 then (some ((-9 : Int32), H2)) else (if nI v = 0 then (s_X10_whole_b58 66 (t / (81 : Int32)) H2) else (if nI v = (1 : Int32) then (s_X10_whole_b58 66 ((t / (9 : Int32)) - (t / (9 : Int32)) / (9 : Int32) * (9 : Int32)) H2) else (s_X10_whole_b58 66 (t - t / (9 : Int32) * (9 : Int32)) H2)))) := fun H2 h2 => by
      have e66 : H2.1 66 0 = nI nv := by
        rcases h2 with rfl | ⟨z, rfl⟩
        · rw [q66]; exact hP.1.2.1
        · rw [sJ_I, q66]; exact hP.1.2.1
      have et : s_X10_wholeAt 66 (nI k) H2 = some t := by
        rcases h2 with rfl | ⟨z, rfl⟩
        · exact t1
        · exact t1
      unfold s_X10_whole nzI
      have n81 : ∀ x : Option (Int32 × Hp), (if (81 : Int32) = 0 then none else x) = x := fun x => if_neg (by decide)
      have n9 : ∀ x : Option (Int32 × Hp), (if (9 : Int32) = 0 then none else x) = x := fun x => if_neg (by decide)
      rw [if_neg c1, B H2 e66, decide_eq_true c2, bnd_s, if_neg (by decide), et, bnd_s, n81, n9, n9, n9]
    by_cases kc : k < (gG h m (eB nv) (eC nv) (gN nv)).length
    · -- there is such a point
      have ea : a = nI (k + 1) := by rw [J1]; congr 1; omega
      have hq := List.getElem?_eq_getElem kc
      generalize (gG h m (eB nv) (eC nv) (gN nv))[k] = q at hq
      have hqN := gG_mem hq
      obtain ⟨b1, b2, b3⟩ := g_bd (okE_nv nv) hqN
      obtain ⟨p0, p1, p2⟩ := J3 q (by rw [show min (k + 1) (gG h m (eB nv) (eC nv) (gN nv)).length - 1 = k by omega]; exact hq)
      have et : t = i32 (enc (eB nv) (eC nv) q) := by
        rcases t2 with ⟨k', q', hk', hq', rfl⟩ | ⟨a', ⟨-, h2⟩, -⟩
        · cases hk'
          rw [gGe, hq] at hq'
          cases hq'
          rfl
        · have := h2 k rfl
          rw [gGe] at this
          omega
      obtain ⟨A', hA⟩ : ∃ i : Nat, ga (eB nv) (eC nv) q + 4 = i := ⟨(ga (eB nv) (eC nv) q + 4).toNat, by omega⟩
      obtain ⟨B', hB⟩ : ∃ i : Nat, gb (eB nv) (eC nv) q + 4 = i := ⟨(gb (eB nv) (eC nv) q + 4).toNat, by omega⟩
      obtain ⟨C', hC⟩ : ∃ i : Nat, gc (eB nv) (eC nv) q + 4 = i := ⟨(gc (eB nv) (eC nv) q + 4).toNat, by omega⟩
      obtain ⟨d1, d2, d3⟩ := dec_enc A' (by omega) B' (by omega) C' (by omega)
      have et2 : t = nI (81 * A' + 9 * B' + C') := by
        rw [et]; unfold enc; rw [hA, hB, hC, nI_i32]; congr 1
      have tn : ¬ t < 0 := by rw [et2]; exact nI_npos _ (by omega)
      have sub4 : ∀ (X : Nat) (y : Int), X < 9 → y + 4 = X → nI X - 4 = i32 y := fun X y hX hy => by
        rw [nI_i32, show (4 : Int32) = i32 4 from by decide, i32_sub]; congr 1; omega
      rw [cls, ea, if_pos (nI_lt (by omega) (by omega)), ldI_n hv3 (by omega), lt_red]
      have fin : ∀ z : Int32, H.1 65 v = z → s_X10_whole 66 (nI k) (nI v) (sJ H 0 14 z.toInt64) = some (1, sJ (sJ H 0 14 z.toInt64) 66 36 z.toInt64) := fun z hz => by
        rw [mdl _ (Or.inr ⟨_, rfl⟩), if_neg tn]
        unfold s_X10_whole_b58
        rcases (show v = 0 ∨ v = 1 ∨ v = 2 by omega) with rfl | rfl | rfl
        · rw [if_pos (by decide), et2, d1, lt_red, sub4 A' _ (by omega) hA, ← p0, hz]
        · rw [if_neg (by decide), if_pos (by decide), et2, d2, lt_red, sub4 B' _ (by omega) hB, ← p1, hz]
        · rw [if_neg (by decide), if_neg (by decide), et2, d3, lt_red, sub4 C' _ (by omega) hC, ← p2, hz]
      refine ⟨1, _, _, rfl, fin _ rfl, (J2.wid (by simp)).tr ((Fr.sJ (by simp)).tr (Fr.sJ (by simp))), fun j hj => ?_, fun j hj => ?_, fun _ => ?_⟩
      · simp at hj
        rw [sJ_I, sJ_I, sJ_cell (by omega), sJ_ne hj, (J2 0 (by simp)).1, (J2 0 (by simp)).2]
        exact ⟨rfl, rfl⟩
      · simp at hj
        rw [sJ_I, sJ_I, sJ_ne hj, sJ_cell (by omega), (J2 66 (by simp)).1, (J2 66 (by simp)).2]
        exact ⟨rfl, rfl⟩
      · rw [sJ_same, sJ_cell (by omega), sJ_same]
    · have ea : a = nI (gG h m (eB nv) (eC nv) (gN nv)).length := by rw [J1]; congr 1; omega
      have et : t = -(nI (gG h m (eB nv) (eC nv) (gN nv)).length) - 1 := by
        rcases t2 with ⟨k', q', hk', hq', rfl⟩ | ⟨a', ⟨h1, -⟩, rfl⟩
        · cases hk'
          rw [gGe] at hq'
          have := (List.getElem?_eq_some_iff.mp hq').1
          omega
        · rw [h1, gGe]
      have tn : t < 0 := by
        rw [et, nI_i32, i32_neg, show (1 : Int32) = i32 1 from by decide, i32_sub, lt_z, i32_z (by omega) (by omega), z0]; omega
      refine ⟨-9, H, H, by rw [cls, ea, if_neg (by rw [nI_le_iff (by omega) (by omega)]; omega)], by rw [mdl H (Or.inl rfl), if_pos tn], WholeP.of J2⟩
  · refine ⟨-1, h, h, ?_, ?_, WholeP.rf⟩
    · unfold s_X9_whole
      rw [if_neg c1]
      simp only [Nat.zero_add]
      rw [A, decide_eq_false c2, bnd_s, if_pos (by decide)]
    · unfold s_X10_whole
      rw [if_neg c1, B h hP.1.2.1, decide_eq_false c2, bnd_s, if_pos (by decide)]
/-- how many small integer points -/
theorem count5_z {h : Hp} {nv nf m lv : Nat} (hP : ProbR h nv nf m lv) (hc : CIM h nv m) : ∃ (r : Int32) (h1 : Hp), s_X3_search 64 32 (nI nv) (2147483647 : Int32) h = some (r, h1) ∧ Fr [65] h h1 ∧ ((s_X10_wholeAt 66 (-9 : Int32) h1).bind fun y2 => some (((-y2) - (1 : Int32)), h1)) = some (r, h1) := by
  obtain ⟨a, H, s1, J1, J2, J3⟩ := search_z (k := 2147483647) hP hc (by omega)
  have gl := gG_le h m (eB nv) (eC nv) (gN nv)
  have gl2 := gN_le nv
  have P1 : ProbR H nv nf m lv := hP.fr J2 (FrK.of J2 (by simp) (ks := [])) (FrK.of J2 (by simp) (ks := [])) (by simp) (by simp) (by simp)
  have gGe : gG H m (eB nv) (eC nv) (gN nv) = gG h m (eB nv) (eC nv) (gN nv) := by
    obtain ⟨-, g1, g2, g3, g4⟩ := hP.2.2.2.1.2.1.fr J2 (FrK.of J2 (by simp) (ks := [])) (by simp) (by simp) (by simp)
    unfold gG
    apply List.filter_congr
    intro x _
    unfold gM
    show hBl m (fun i => mK H 66 (mG H 66 i)) (mS H 66) (mD H 66) false _ _ _ 1 = hBl m (fun i => mK h 66 (mG h 66 i)) (mS h 66) (mD h 66) false _ _ _ 1
    rw [g1, g2, g3, g4]
  obtain ⟨t, t1, t2⟩ := wholeAt_z (K := none) (w := -9) P1 (Or.inr ⟨rfl, rfl⟩)
  refine ⟨a, H, s1, J2, ?_⟩
  rw [t1, bnd_s]
  rcases t2 with ⟨k', q', hk', -, -⟩ | ⟨a', ⟨h1, -⟩, rfl⟩
  · cases hk'
  · rw [h1, gGe, J1, show min (2147483647 + 1) (gG h m (eB nv) (eC nv) (gN nv)).length = (gG h m (eB nv) (eC nv) (gN nv)).length by omega, nI_i32, i32_neg, show (1 : Int32) = i32 1 from by decide, i32_sub, i32_neg, i32_sub]
    congr 3
    omega
