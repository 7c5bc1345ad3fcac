/-! the asserts step, the withdraws step -/
set_option maxHeartbeats 1000000 in
theorem asserts_step {h : Hp} {nv nf m lv : Nat} (hP : ProbR h nv nf m lv) (hn1 : 1 ≤ nv) (hc : CIM h nv m) (a1 a2 a3 : Int32) : ∃ r : Int32, ∃ h1 h2 : Hp, s_X9_asserts 0 a1 a2 a3 h = some (r, h1) ∧ s_X10_asserts 66 a1 a2 a3 h1 = some (r, h2) ∧ (∃ m', ProbR h2 nv nf m' lv ∧ CIM h2 nv m') ∧ Fr ([1, 3, 4, 5, 66, 68] ++ rowc) h h2 ∧ FrK 1 [2] h h2 ∧ FrK 66 [3] h h2 := by
  have hP0 := hP
  have hrw := hP.rw
  obtain ⟨⟨v1, v2, v3⟩, ⟨f1, f2, f3, f4⟩, g1, ⟨b1, b2, b3⟩, ⟨l1, l2, l3, b, l4, l5⟩⟩ := hP
  have hm := b2.2.1
  have A := allowsC_z (P := 1) f1 f3 a1 a2 a3
  have B : ∀ H : Hp, H.1 66 1 = nI nf → s_X10_isTold 66 a1 a2 a3 H = some (bI (okB nf a1 a2 a3)) := fun H e => isTold_z e f3 a1 a2 a3
  cases ok : okB nf a1 a2 a3
  · refine ⟨-1, h, h, ?_, ?_, ⟨m, hP0, hc⟩, Fr.rf, FrK.rf, FrK.rf⟩
    · unfold s_X9_asserts; simp only [Nat.zero_add]; rw [A, ok]; rfl
    · unfold s_X10_asserts; rw [B h f2, ok]; rfl
  have ok2 : (0 ≤ a1.toInt ∧ a1.toInt < nf) ∧ (0 ≤ a2.toInt ∧ a2.toInt ≤ 4) ∧ (-50 ≤ a3.toInt ∧ a3.toInt ≤ 50) := of_decide_eq_true ok
  obtain ⟨g, hg⟩ : ∃ i : Nat, a1.toInt = i := ⟨a1.toInt.toNat, by omega⟩
  obtain ⟨sg, hsg⟩ : ∃ i : Nat, a2.toInt = i := ⟨a2.toInt.toNat, by omega⟩
  have hgn : g < nf := by omega
  by_cases c10 : m < 10
  · have n10 : ¬ nI m = (10 : Int32) := fun q => by
      have w : (10 : Int32).toInt = 10 := by decide
      have := eq_z.mp q
      rw [nI_z (by omega), w] at this
      omega
    have E1 := addC_z (P := 1) b1 c10 a1 a2 a3
    generalize gH1 : sI (sI (sI (sI h (1 + 2) m a1) (1 + 3) m a2) (1 + 4) m a3) 1 2 (nI (m + 1)) = H1 at E1
    have F1 : Fr [1, 3, 4, 5] h H1 := by rw [← gH1]; exact ((Fr.sI (by simp)).tr (Fr.sI (by simp))).tr ((Fr.sI (by simp)).tr (Fr.sI (by simp)))
    have K1 : FrK 1 [2] h H1 := fun k hk => by
      simp at hk
      rw [← gH1]
      exact ⟨by rw [sI_ne hk, sI_cell (by omega), sI_cell (by omega), sI_cell (by omega)], rfl⟩
    have p12 : H1.1 1 2 = nI (m + 1) := by rw [← gH1, sI_same]
    have p3 : ∀ k, H1.1 3 k = if k = m then a1 else h.1 3 k := fun k => by
      rw [← gH1, sI_cell (c' := 3) (by omega), sI_cell (c' := 3) (by omega), sI_cell (c' := 3) (by omega)]
      by_cases z : k = m
      · subst z; rw [if_pos rfl]; exact sI_same _ _ _ _
      · rw [if_neg z]; exact sI_ne z
    have p4 : ∀ k, H1.1 4 k = if k = m then a2 else h.1 4 k := fun k => by
      rw [← gH1, sI_cell (c' := 4) (by omega), sI_cell (c' := 4) (by omega)]
      by_cases z : k = m
      · subst z; rw [if_pos rfl]; exact sI_same _ _ _ _
      · rw [if_neg z, show (1 + 3 : Nat) = 4 from rfl, sI_ne z, sI_cell (by omega)]
    have p5 : ∀ k, H1.1 5 k = if k = m then a3 else h.1 5 k := fun k => by
      rw [← gH1, sI_cell (c' := 5) (by omega)]
      by_cases z : k = m
      · subst z; rw [if_pos rfl]; exact sI_same _ _ _ _
      · rw [if_neg z, show (1 + 4 : Nat) = 5 from rfl, sI_ne z, sI_cell (by omega), sI_cell (by omega)]
    have hcH : CI H1 nv m (fF h) (mS h 66) (mD h 66) := CI.fr hc F1 (by simp) (by simp) (by simp) (by simp) (by simp) (by simp) (by simp)
    have gb := b2.2.2.1 g
    obtain ⟨H2, z1, zF, zC⟩ := pushRow_z (h := H1) (nf := nf) (g := g) (sg := sg) (K := mK h 66 g) (w := a3.toInt) hcH hrw hn1 v3 (by omega) (by rw [(K1 0 (by simp)).1]; exact v1) (by rw [(K1 1 (by simp)).1]; exact f1) f3 hgn (fun v hv => by
      rw [(F1 2 (by simp)).1, f4 _ (by omega)]
      exact (i32_of _).symm) (fun v hv => gb v hgn hv) (fun v hv hn => (g1 g hgn).2 v hn hv) (g1 g hgn).1 (by omega) ok2.2.2
    rw [i32_of, ← of_nat hg, ← of_nat hsg] at z1
    have F2 : Fr ([1, 3, 4, 5] ++ rowc) h H2 := (F1.wid (by simp)).tr (zF.wid (by simp [rowc]))
    have q66 : H2.1 66 = h.1 66 := (F2 66 (by simp [rowc])).1
    have E2 := comesBound_z (h := H2) (P := 66) (m := m) (by rw [q66]; exact b2.1) c10 a1 a2 a3
    generalize gH3 : sI (sI (sI (sI H2 (66 + 2) (3 * m) a1) (66 + 2) (3 * m + 1) a2) (66 + 2) (3 * m + 2) a3) 66 3 (nI (m + 1)) = H3 at E2
    have F3 : Fr [66, 68] H2 H3 := by rw [← gH3]; exact ((Fr.sI (by simp)).tr (Fr.sI (by simp))).tr ((Fr.sI (by simp)).tr (Fr.sI (by simp)))
    have FA : Fr ([1, 3, 4, 5, 66, 68] ++ rowc) h H3 := (F2.wid (by simp [rowc])).tr (F3.wid (by simp [rowc]))
    have q68 : ∀ j, H3.1 68 j = if j = 3 * m then a1 else if j = 3 * m + 1 then a2 else if j = 3 * m + 2 then a3 else h.1 68 j := fun j => by
      rw [← gH3, sI_cell (c' := 68) (by omega), ← (F2 68 (by simp [rowc])).1]; exact sI3 j
    have KA : FrK 66 [3] h H3 := fun k hk => by
      simp at hk
      rw [← gH3]
      exact ⟨by rw [sI_ne hk, sI_cell (by omega), sI_cell (by omega), sI_cell (by omega), q66], by
        show H2.2 66 k = _
        rw [(F2 66 (by simp [rowc])).2]⟩
    have K1A : FrK 1 [2] h H3 := fun k hk => by
      rw [(F3 1 (by simp)).1, (F3 1 (by simp)).2, (zF 1 (by simp [rowc])).1, (zF 1 (by simp [rowc])).2]
      exact K1 k hk
    have mKe : mK H3 66 = mK h 66 := by
      funext g v; unfold mK
      show (H3.1 67 _).toInt = (h.1 67 _).toInt
      rw [(FA 67 (by simp [rowc])).1]
    have mo : ∀ k, k < m → mG H3 66 k = mG h 66 k ∧ mS H3 66 k = mS h 66 k ∧ mD H3 66 k = mD h 66 k := fun k hk => by
      unfold mG mS mD
      refine ⟨?_, ?_, ?_⟩
      · show (H3.1 68 (3 * k)).toInt.toNat = (h.1 68 (3 * k)).toInt.toNat
        rw [q68, if_neg (by omega), if_neg (by omega), if_neg (by omega)]
      · show (H3.1 68 (3 * k + 1)).toInt.toNat = (h.1 68 (3 * k + 1)).toInt.toNat
        rw [q68, if_neg (by omega), if_neg (by omega), if_neg (by omega)]
      · show (H3.1 68 (3 * k + 2)).toInt = (h.1 68 (3 * k + 2)).toInt
        rw [q68, if_neg (by omega), if_neg (by omega), if_neg (by omega)]
    have mG3 : mG H3 66 m = g := by
      unfold mG
      show (H3.1 68 (3 * m)).toInt.toNat = g
      rw [q68, if_pos rfl, hg]; rfl
    have mS3 : mS H3 66 m = sg := by
      unfold mS
      show (H3.1 68 (3 * m + 1)).toInt.toNat = sg
      rw [q68, if_neg (by omega), if_pos rfl, hsg]; rfl
    have mD3 : mD H3 66 m = a3.toInt := by
      unfold mD
      show (H3.1 68 (3 * m + 2)).toInt = _
      rw [q68, if_neg (by omega), if_neg (by omega), if_pos rfl]
    have r12 : H3.1 1 2 = nI (m + 1) := by rw [(F3 1 (by simp)).1, (zF 1 (by simp [rowc])).1]; exact p12
    have r66 : H3.1 66 3 = nI (m + 1) := by rw [← gH3, sI_same]
    have rr : ∀ c, c = 3 ∨ c = 4 ∨ c = 5 → H3.1 c = H1.1 c := fun c hc => by
      rcases hc with rfl | rfl | rfl
      · rw [(F3 3 (by simp)).1, (zF 3 (by simp [rowc])).1]
      · rw [(F3 4 (by simp)).1, (zF 4 (by simp [rowc])).1]
      · rw [(F3 5 (by simp)).1, (zF 5 (by simp [rowc])).1]
    refine ⟨nI (m + 1) - 1, H2, H3, ?_, ?_, ⟨m + 1, ⟨⟨by rw [(K1A 0 (by simp)).1]; exact v1, by rw [(KA 0 (by simp)).1]; exact v2, v3⟩, ⟨by rw [(K1A 1 (by simp)).1]; exact f1, by rw [(KA 1 (by simp)).1]; exact f2, f3, by rw [(FA 2 (by simp [rowc])).1, (FA 67 (by simp [rowc])).1]; exact f4⟩, by rw [mKe]; exact g1, ⟨r12, ⟨r66, ⟨by omega, f3⟩, by rw [mKe]; exact b2.2.2.1, fun k hk => ?_⟩, fun k hk => ?_⟩, ⟨by rw [(K1A 3 (by simp)).1]; exact l1, by rw [(KA 5 (by simp)).1]; exact l2, l3, b, fun k hk => ?_, l5⟩⟩, ?_⟩, FA, K1A, KA⟩
    · unfold s_X9_asserts
      simp only [Nat.zero_add]
      rw [A, ok, bnd_s, if_neg (by decide), E1, bnd_s]
      dsimp only
      rw [if_neg (by decide), z1, bnd_s, (zF 1 (by simp [rowc])).1, p12]
    · unfold s_X10_asserts
      rw [B H2 (by rw [q66]; exact f2), ok, bnd_s, if_neg (by decide), show H2.1 66 3 = nI m from by rw [q66]; exact b2.1, if_neg n10, E2, bnd_s, r66]
    · show (H3.1 68 (3 * k) = _ ∧ _) ∧ (H3.1 68 (3 * k + 1) = _ ∧ _) ∧ _
      by_cases z : k = m
      · subst z
        rw [mG3, mS3, mD3, q68, if_pos rfl, q68, if_neg (by omega), if_pos rfl]
        exact ⟨⟨of_nat hg, hgn⟩, ⟨of_nat hsg, by omega⟩, ok2.2.2⟩
      · obtain ⟨u1, u2, u3⟩ := mo k (by omega)
        rw [u1, u2, u3, q68, if_neg (by omega), if_neg (by omega), if_neg (by omega), q68, if_neg (by omega), if_neg (by omega), if_neg (by omega)]
        exact b2.2.2.2 k (by omega)
    · rw [rr 3 (by omega), rr 4 (by omega), rr 5 (by omega), p3, p4, p5]
      by_cases z : k = m
      · have s0 : H3.1 68 (3 * k) = a1 := by rw [q68, if_pos (by omega)]
        have s1 : H3.1 68 (3 * k + 1) = a2 := by rw [q68, if_neg (by omega), if_pos (by omega)]
        have s2 : H3.1 68 (3 * k + 2) = a3 := by rw [q68, if_neg (by omega), if_neg (by omega), if_pos (by omega)]
        rw [if_pos z, if_pos z, if_pos z, s0, s1, s2, z, mG3]
        exact ⟨rfl, rfl, rfl, hgn⟩
      · obtain ⟨u1, u2, u3⟩ := mo k (by omega)
        have s0 : H3.1 68 (3 * k) = h.1 68 (3 * k) := by rw [q68, if_neg (by omega), if_neg (by omega), if_neg (by omega)]
        have s1 : H3.1 68 (3 * k + 1) = h.1 68 (3 * k + 1) := by rw [q68, if_neg (by omega), if_neg (by omega), if_neg (by omega)]
        have s2 : H3.1 68 (3 * k + 2) = h.1 68 (3 * k + 2) := by rw [q68, if_neg (by omega), if_neg (by omega), if_neg (by omega)]
        rw [if_neg z, if_neg z, if_neg z, s0, s1, s2, u1]
        exact b3 k (by omega)
    · rw [(FA 6 (by simp [rowc])).1, (FA 69 (by simp [rowc])).1]
      obtain ⟨u1, u2, u3⟩ := l4 k hk
      exact ⟨u1, u2, by omega⟩
    · refine CI.same (CI.fr zC F3 (by simp) (by simp) (by simp) (by simp) (by simp) (by simp) (by simp)) (fun i hi => ?_) (fun i hi => ?_) (fun i hi => ?_)
      · show mK H3 66 (mG H3 66 i) = _
        rw [mKe]
        by_cases z : i = m
        · subst z; rw [upn_same, mG3]
        · rw [upn_ne z, (mo i (by omega)).1]
      · by_cases z : i = m
        · subst z; rw [upn_same, mS3]
        · rw [upn_ne z, (mo i (by omega)).2.1]
      · by_cases z : i = m
        · subst z; rw [upn_same, mD3]
        · rw [upn_ne z, (mo i (by omega)).2.2]
  · have e10 : m = 10 := by omega
    refine ⟨-3, h, h, ?_, ?_, ⟨m, hP0, hc⟩, Fr.rf, FrK.rf, FrK.rf⟩
    · unfold s_X9_asserts s_X5_addConstraint
      simp only [Nat.zero_add]
      rw [A, ok, bnd_s, if_neg (by decide), b1, e10, if_neg (by decide)]
      rfl
    · unfold s_X10_asserts
      rw [B h f2, ok, bnd_s, if_neg (by decide), b2.1, e10, if_pos (by decide)]
theorem withdraws_step {h : Hp} {nv nf m lv : Nat} (hP : ProbR h nv nf m lv) (hc : CIM h nv m) (a1 : Int32) : ∃ r : Int32, ∃ h1 h2 : Hp, s_X9_withdraws 0 a1 h = some (r, h1) ∧ s_X10_withdraws 66 a1 h1 = some (r, h2) ∧ (∃ m' lv', ProbR h2 nv nf m' lv' ∧ CIM h2 nv m') ∧ Fr [1, 32, 66] h h2 ∧ FrK 1 [2, 3] h h2 ∧ FrK 66 [3, 5] h h2 := by
  have hP0 := hP
  obtain ⟨⟨v1, v2, v3⟩, ⟨f1, f2, f3, f4⟩, g1, ⟨b1, b2, b3⟩, ⟨l1, l2, l3, b, l4, l5⟩⟩ := hP
  have hm := b2.2.1
  have z1 : (1 : Int32).toInt = 1 := by decide
  have I : ∀ H : Hp, H.1 66 5 = nI lv → s_X10_in a1 1 (H.1 66 5) H = some (bI (decide (1 ≤ a1.toInt ∧ a1.toInt ≤ lv))) := fun H e => by
    rw [in_z, e, nI_z (by omega), z1]
  by_cases ok : 1 ≤ a1.toInt ∧ a1.toInt ≤ lv
  · obtain ⟨n, hn⟩ : ∃ i : Nat, a1.toInt = i := ⟨a1.toInt.toNat, by omega⟩
    have ea := of_nat hn
    have hsub : nI lv - a1 = nI (lv - n) := by
      apply eq_z.mpr
      rw [sub_z (by rw [nI_z (by omega), hn]; omega) (by rw [nI_z (by omega), hn]; omega), nI_z (by omega), nI_z (by omega), hn]; omega
    obtain ⟨w1, w2, w3⟩ := l4 (lv - n) (by omega)
    have c1 : ¬ a1 < (1 : Int32) := fun q => by have := lt_z.mp q; rw [z1] at this; omega
    have c2 : ¬ nI lv < a1 := fun q => by have := lt_z.mp q; rw [nI_z (by omega)] at this; omega
    generalize gH1 : sI (sI h 1 3 (nI (lv - n))) 1 2 (nI (b (lv - n))) = H1
    have F1 : Fr [1] h H1 := by rw [← gH1]; exact (Fr.sI (by simp)).tr (Fr.sI (by simp))
    have K1 : FrK 1 [2, 3] h H1 := fun k hk => by
      simp at hk
      rw [← gH1]
      exact ⟨by rw [sI_ne hk.1, sI_ne hk.2], rfl⟩
    have p2 : H1.1 1 2 = nI (b (lv - n)) := by rw [← gH1, sI_same]
    have p3 : H1.1 1 3 = nI (lv - n) := by rw [← gH1, sI_ne (by omega), sI_same]
    have hcH : CI H1 nv m (fF h) (mS h 66) (mD h 66) := CI.fr hc F1 (by simp) (by simp) (by simp) (by simp) (by simp) (by simp) (by simp)
    obtain ⟨H2, q1, q2, q3, q4, q5⟩ := cut_z (R := 32) hcH.1.1 hcH.1.2.2 (n := b (lv - n)) w3
    have F2 : Fr [32] H1 H2 := fun c hc => by
      simp at hc
      exact ⟨q4 c hc, by rw [q5]⟩
    have FB : Fr [1, 32] h H2 := (F1.wid (by simp)).tr (F2.wid (by simp))
    have hcH2 := hcH.cut w3 F2 q2 (q3 5 (by omega))
    generalize gH3 : sI (sI H2 66 5 (nI (lv - n))) 66 3 (nI (b (lv - n))) = H3
    have F3 : Fr [66] H2 H3 := by rw [← gH3]; exact (Fr.sI (by simp)).tr (Fr.sI (by simp))
    have FA : Fr [1, 32, 66] h H3 := (FB.wid (by simp; try omega)).tr (F3.wid (by simp))
    have KA : FrK 66 [3, 5] h H3 := fun k hk => by
      simp at hk
      rw [← gH3]
      exact ⟨by rw [sI_ne hk.1, sI_ne hk.2, (FB 66 (by simp)).1], by
        show H2.2 66 k = _
        rw [(FB 66 (by simp)).2]⟩
    have K1A : FrK 1 [2, 3] h H3 := fun k hk => by
      rw [(F3 1 (by simp)).1, (F3 1 (by simp)).2, (F2 1 (by simp)).1, (F2 1 (by simp)).2]
      exact K1 k hk
    have mKe : mK H3 66 = mK h 66 := by
      funext g v; unfold mK
      show (H3.1 67 _).toInt = (h.1 67 _).toInt
      rw [(FA 67 (by simp)).1]
    have mGe : mG H3 66 = mG h 66 := by
      funext k; unfold mG
      show (H3.1 68 _).toInt.toNat = (h.1 68 _).toInt.toNat
      rw [(FA 68 (by simp)).1]
    have mSe : mS H3 66 = mS h 66 := by
      funext k; unfold mS
      show (H3.1 68 _).toInt.toNat = (h.1 68 _).toInt.toNat
      rw [(FA 68 (by simp)).1]
    have mDe : mD H3 66 = mD h 66 := by
      funext k; unfold mD
      show (H3.1 68 _).toInt = (h.1 68 _).toInt
      rw [(FA 68 (by simp)).1]
    have r12 : H3.1 1 2 = nI (b (lv - n)) := by rw [(F3 1 (by simp)).1, (F2 1 (by simp)).1]; exact p2
    have r13 : H3.1 1 3 = nI (lv - n) := by rw [(F3 1 (by simp)).1, (F2 1 (by simp)).1]; exact p3
    have r63 : H3.1 66 3 = nI (b (lv - n)) := by rw [← gH3, sI_same]
    have r65 : H3.1 66 5 = nI (lv - n) := by rw [← gH3, sI_ne (by omega), sI_same]
    refine ⟨nI (b (lv - n)), H2, H3, ?_, ?_, ⟨b (lv - n), lv - n, ⟨⟨by rw [(K1A 0 (by simp)).1]; exact v1, by rw [(KA 0 (by simp)).1]; exact v2, v3⟩, ⟨by rw [(K1A 1 (by simp)).1]; exact f1, by rw [(KA 1 (by simp)).1]; exact f2, f3, by rw [(FA 2 (by simp)).1, (FA 67 (by simp)).1]; exact f4⟩, by rw [mKe]; exact g1, ⟨r12, ⟨r63, ⟨by omega, f3⟩, by rw [mKe]; exact b2.2.2.1, fun k hk => ?_⟩, fun k hk => ?_⟩, ⟨r13, r65, by omega, b, fun k hk => ?_, fun i j hi hj => l5 i j hi (by omega)⟩⟩, ?_⟩, FA, K1A, KA⟩
    · unfold s_X9_withdraws
      simp only [Nat.zero_add]
      rw [if_neg c1, l1, if_neg c2, lt_red, hsub, sI_same, ldI_n (by omega) (by omega), show (1 + 5 : Nat) = 6 from rfl, sI_cell (c' := 6) (by omega), w1, lt_red, gH1, p2, q1, bnd_s, (F2 1 (by simp)).1, p2]
    · unfold s_X10_withdraws
      have e5 : H2.1 66 5 = nI lv := by rw [(FB 66 (by simp)).1]; exact l2
      rw [I H2 e5, decide_eq_true ok, bnd_s, if_neg (by decide), lt_red, e5, hsub, sI_same, ldI_n (by omega) (by omega), show (66 + 3 : Nat) = 69 from rfl, sI_cell (c' := 69) (by omega), (FB 69 (by simp)).1, w2, lt_red, gH3, r63]
    · rw [mGe, mSe, mDe]
      show (H3.1 68 (3 * k) = _ ∧ _) ∧ (H3.1 68 (3 * k + 1) = _ ∧ _) ∧ _
      rw [(FA 68 (by simp)).1]
      exact b2.2.2.2 k (by omega)
    · rw [(FA 3 (by simp)).1, (FA 4 (by simp)).1, (FA 5 (by simp)).1, (FA 68 (by simp)).1, mGe]
      exact b3 k (by omega)
    · rw [(FA 6 (by simp)).1, (FA 69 (by simp)).1]
      obtain ⟨u1, u2, u3⟩ := l4 k (by omega)
      exact ⟨u1, u2, l5 k (lv - n) (by omega) (by omega)⟩
    · show CI H3 nv (b (lv - n)) (fun i => mK H3 66 (mG H3 66 i)) (mS H3 66) (mD H3 66)
      rw [mKe, mGe, mSe, mDe]
      exact CI.fr hcH2 F3 (by simp) (by simp) (by simp) (by simp) (by simp) (by simp) (by simp)
  · refine ⟨-1, h, h, ?_, ?_, ⟨m, lv, hP0, hc⟩, Fr.rf, FrK.rf, FrK.rf⟩
    · unfold s_X9_withdraws
      simp only [Nat.zero_add]
      by_cases c1 : a1 < (1 : Int32)
      · rw [if_pos c1]
      · rw [if_neg c1, l1]
        have c1 : ¬ a1.toInt < 1 := fun q => c1 (lt_z.mpr (by rw [z1]; exact q))
        rw [if_pos (lt_z.mpr (by rw [nI_z (by omega)]; omega))]
    · unfold s_X10_withdraws
      rw [I h l2, decide_eq_false ok, bnd_s, if_pos (by decide)]
