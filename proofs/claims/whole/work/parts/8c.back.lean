/-! back -/
theorem mback_z {h : Hp} {i : Nat} (hi : i < 2) (h70 : h.1 70 i = 1) : ∃ h', s_X10_back 66 (nI i) h = some (h.1 71 (64 * i + 2), h') ∧ Fr [66, 67, 68, 69] h h' ∧ FrK 66 [0, 1, 3, 5] h h' ∧ h'.1 66 0 = h.1 71 (64 * i) ∧ h'.1 66 1 = h.1 71 (64 * i + 1) ∧ h'.1 66 3 = h.1 71 (64 * i + 2) ∧ h'.1 66 5 = h.1 71 (64 * i + 3) ∧ (∀ k, k < 4 → h'.1 69 k = h.1 71 (64 * i + 4 + k)) ∧ (∀ k, k < 24 → h'.1 67 k = h.1 71 (64 * i + 8 + k)) ∧ (∀ k, k < 30 → h'.1 68 k = h.1 71 (64 * i + 32 + k)) := by
  have z0 : (0 : Int32).toInt = 0 := by decide
  have z1 : (1 : Int32).toInt = 1 := by decide
  unfold s_X10_back
  rw [in_z, z0, z1, nI_z (by omega), decide_eq_true (show (0 : Int) ≤ i ∧ (i : Int) ≤ 1 by omega), bnd_s, if_neg (by decide), ldI_n (by omega) (by omega)]
  show ∃ h', (if h.1 70 i = 0 then _ else _) = some (_, h') ∧ _
  rw [h70, if_neg (by decide), lt_red, show (64 : Int32) * nI i = nI (64 * i) from by rw [show (64 : Int32) = nI 64 from by decide, nI_mul], ldI_n (by omega) (by omega), lt_red, show nI (64 * i) + 1 = nI (64 * i + 1) from nI_1 _, show nI (64 * i) + 2 = nI (64 * i + 2) from by rw [li2, nI_add], show nI (64 * i) + 3 = nI (64 * i + 3) from by rw [li3, nI_add], show (66 + 5 : Nat) = 71 from rfl, ldI_n (by omega) (by omega), sI_cell (c' := 71) (by omega), lt_red, ldI_n (by omega) (by omega), sI_cell (c' := 71) (by omega), sI_cell (c' := 71) (by omega), lt_red, ldI_n (by omega) (by omega), sI_cell (c' := 71) (by omega), sI_cell (c' := 71) (by omega), sI_cell (c' := 71) (by omega), lt_red]
  generalize gH : sI (sI (sI (sI h 66 0 (h.1 71 (64 * i))) 66 1 (h.1 71 (64 * i + 1))) 66 3 (h.1 71 (64 * i + 2))) 66 5 (h.1 71 (64 * i + 3)) = H
  have hF : Fr [66] h H := by rw [← gH]; exact ((Fr.sI (by simp)).tr (Fr.sI (by simp))).tr ((Fr.sI (by simp)).tr (Fr.sI (by simp)))
  have p0 : H.1 66 0 = h.1 71 (64 * i) := by rw [← gH, sI_ne (by omega), sI_ne (by omega), sI_ne (by omega), sI_same]
  have p1 : H.1 66 1 = h.1 71 (64 * i + 1) := by rw [← gH, sI_ne (by omega), sI_ne (by omega), sI_same]
  have p2 : H.1 66 3 = h.1 71 (64 * i + 2) := by rw [← gH, sI_ne (by omega), sI_same]
  have p3 : H.1 66 5 = h.1 71 (64 * i + 3) := by rw [← gH, sI_same]
  have hK : FrK 66 [0, 1, 3, 5] h H := fun k hk => by
    simp at hk
    obtain ⟨k0, k1, k3, k5⟩ := hk
    rw [← gH]
    exact ⟨by rw [sI_ne k5, sI_ne k3, sI_ne k1, sI_ne k0], rfl⟩
  obtain ⟨H1, a1, a2, a3, a4⟩ := cploop (f := fun s : Int32 × Hp => s_X10_back_l76 66 (nI (64 * i)) s.1 s.2) (n := 4) (src := 71) (dst := 69) (so := 64 * i + 4) (to := 0) (by omega) (by omega) (fun k H hk => by
    dsimp only
    unfold s_X10_back_l76
    rw [if_pos (nI_ltn hk (by omega) (by decide)), show nI (64 * i) + 4 = nI (64 * i + 4) from by rw [li4, nI_add], nI_add, ldI_n (by omega) (by omega), stI_n (by omega) (by omega), lt_red, nI_1, Nat.zero_add]) (fun H => by
    dsimp only
    unfold s_X10_back_l76
    rw [if_neg (nI_nltn (by decide))]) H
  rw [li0, a1, bnd_s]
  obtain ⟨H2, b1, b2, b3, b4⟩ := cploop (f := fun s : Int32 × Hp => s_X10_back_l105 66 (nI (64 * i)) s.1 s.2) (n := 24) (src := 71) (dst := 67) (so := 64 * i + 8) (to := 0) (by omega) (by omega) (fun k H hk => by
    dsimp only
    unfold s_X10_back_l105
    rw [if_pos (nI_ltn hk (by omega) (by decide)), show nI (64 * i) + 8 = nI (64 * i + 8) from by rw [show (8 : Int32) = nI 8 from by decide, nI_add], nI_add, ldI_n (by omega) (by omega), stI_n (by omega) (by omega), lt_red, nI_1, Nat.zero_add]) (fun H => by
    dsimp only
    unfold s_X10_back_l105
    rw [if_neg (nI_nltn (by decide))]) H1
  rw [b1, bnd_s]
  obtain ⟨H3, c1, c2, c3, c4⟩ := cploop (f := fun s : Int32 × Hp => s_X10_back_l136 66 (nI (64 * i)) s.1 s.2) (n := 30) (src := 71) (dst := 68) (so := 64 * i + 32) (to := 0) (by omega) (by omega) (fun k H hk => by
    dsimp only
    unfold s_X10_back_l136
    rw [if_pos (nI_ltn hk (by omega) (by decide)), show nI (64 * i) + 32 = nI (64 * i + 32) from by rw [show (32 : Int32) = nI 32 from by decide, nI_add], nI_add, ldI_n (by omega) (by omega), stI_n (by omega) (by omega), lt_red, nI_1, Nat.zero_add]) (fun H => by
    dsimp only
    unfold s_X10_back_l136
    rw [if_neg (nI_nltn (by decide))]) H2
  rw [c1, bnd_s]
  have e66 : H3.1 66 = H.1 66 := by rw [(c4 66 (by simp)).1, (b4 66 (by simp)).1, (a4 66 (by simp)).1]
  have e66J : H3.2 66 = H.2 66 := by rw [(c4 66 (by simp)).2, (b4 66 (by simp)).2, (a4 66 (by simp)).2]
  refine ⟨H3, by rw [e66, p2], (hF.wid (by simp)).tr ((a4.wid (by simp)).tr ((b4.wid (by simp)).tr (c4.wid (by simp)))), fun k hk => by rw [e66, e66J]; exact hK k hk, by rw [e66, p0], by rw [e66, p1], by rw [e66, p2], by rw [e66, p3], fun k hk => ?_, fun k hk => ?_, fun k hk => ?_⟩
  · have := a2 k hk
    rw [Nat.zero_add] at this
    rw [(c4 69 (by simp)).1, (b4 69 (by simp)).1, this, (hF 71 (by simp)).1]
  · have := b2 k hk
    rw [Nat.zero_add] at this
    rw [(c4 67 (by simp)).1, this, (a4 71 (by simp)).1, (hF 71 (by simp)).1]
  · have := c2 k hk
    rw [Nat.zero_add] at this
    rw [this, (b4 71 (by simp)).1, (a4 71 (by simp)).1, (hF 71 (by simp)).1]
/-- the class's rows made anew from its problem, as a virtual problem says -/
theorem load_of {h V : Hp} {nv nf m lv : Nat} (hP : ProbR V nv nf m lv) (hn1 : 1 ≤ nv) (a : ∀ k, k < 4 → h.1 1 k = V.1 1 k) (b2 : ∀ k, k < 24 → h.1 2 k = V.1 2 k) (b3 : ∀ k, k < 10 → h.1 3 k = V.1 3 k) (b4 : ∀ k, k < 10 → h.1 4 k = V.1 4 k) (b5 : ∀ k, k < 10 → h.1 5 k = V.1 5 k) (hz : h.1 40 0 = nI 0 ∧ BJ h) : ∃ h', s_X9_loadRows 0 h = some h' ∧ Fr rowc h h' ∧ CI h' nv m (fF V) (mS V 66) (mD V 66) := by
  have hrw := hP.rw
  obtain ⟨⟨v1, v2, v3⟩, ⟨f1, f2, f3, f4⟩, g1, ⟨c1, c2, c3⟩, -⟩ := hP
  have hm := c2.2.1
  refine loadRows_z (G := mG V 66) hn1 v3 f3 hm.1 (by rw [a 0 (by omega)]; exact v1) (by rw [a 1 (by omega)]; exact f1) (by rw [a 2 (by omega)]; exact c1) (fun k hk => ?_) hrw hz
  obtain ⟨w1, w2, w3, w4⟩ := c3 k hk
  obtain ⟨⟨u1, u2⟩, ⟨u3, u4⟩, u5⟩ := c2.2.2.2 k hk
  refine ⟨by rw [b3 k (by omega), w1]; exact u1, by rw [b4 k (by omega), w2]; exact u3, ?_, u2, fun v hv => ?_⟩
  · rw [b5 k (by omega), w3]; exact (i32_of _).symm
  · rw [b2 _ (by omega), f4 _ (by omega)]; exact (i32_of _).symm
/-- pure functions of two heaps that have the same constraints -/
theorem CI.of_virt {h V : Hp} {nv nf m lv : Nat} (hP : ProbR V nv nf m lv) (hc : CI h nv m (fF V) (mS V 66) (mD V 66)) (e7 : ∀ k, k < 24 → h.1 67 k = V.1 67 k) (e8 : ∀ k, k < 30 → h.1 68 k = V.1 68 k) : CIM h nv m := by
  obtain ⟨-, ⟨-, -, f3, -⟩, -, ⟨-, c2, c3⟩, -⟩ := hP
  have hm := c2.2.1
  have eG : ∀ k, k < m → mG h 66 k = mG V 66 k := fun k hk => by
    unfold mG
    show (h.1 68 (3 * k)).toInt.toNat = (V.1 68 (3 * k)).toInt.toNat
    rw [e8 _ (by omega)]
  obtain ⟨d1, d4, d5⟩ := hc
  refine ⟨d1, fun i hi => ?_, d5⟩
  have eS : mS h 66 i = mS V 66 i := by
    unfold mS
    show (h.1 68 (3 * i + 1)).toInt.toNat = (V.1 68 (3 * i + 1)).toInt.toNat
    rw [e8 _ (by omega)]
  have eD : mD h 66 i = mD V 66 i := by
    unfold mD
    show (h.1 68 (3 * i + 2)).toInt = (V.1 68 (3 * i + 2)).toInt
    rw [e8 _ (by omega)]
  rw [eS, eD]
  obtain ⟨r1, r2⟩ := d4 i hi
  refine ⟨fun v hv => ?_, r2⟩
  rw [r1 v hv]
  have : fF h i v = fF V i v := by
    show mK h 66 (mG h 66 i) v = mK V 66 (mG V 66 i) v
    rw [eG i hi]
    unfold mK
    have := (c3 i hi).2.2.2
    show (h.1 67 (3 * mG V 66 i + v)).toInt = (V.1 67 (3 * mG V 66 i + v)).toInt
    rw [e7 _ (by omega)]
  rw [this]
abbrev probc : List Nat := [1, 2, 3, 4, 5, 6, 66, 67, 68, 69]
set_option maxHeartbeats 1000000 in
theorem back_step {h : Hp} {nv nf m lv : Nat} (hP : ProbR h nv nf m lv) (hn1 : 1 ≤ nv) (hc : CIM h nv m) (hS : SavI h) (a1 : Int32) : ∃ r : Int32, ∃ h1 h2 : Hp, s_X9_back 0 a1 h = some (r, h1) ∧ s_X10_back 66 a1 h1 = some (r, h2) ∧ (∃ nv' nf' m' lv', 1 ≤ nv' ∧ ProbR h2 nv' nf' m' lv' ∧ CIM h2 nv' m') ∧ Fr (probc ++ rowc) h h2 ∧ FrK 66 [0, 1, 3, 5] h h2 := by
  have z0 : (0 : Int32).toInt = 0 := by decide
  have z1 : (1 : Int32).toInt = 1 := by decide
  have z2 : (2 : Int32).toInt = 2 := by decide
  by_cases ok : 0 ≤ a1.toInt ∧ a1.toInt ≤ 1
  · obtain ⟨i, hi⟩ : ∃ i : Nat, a1.toInt = i := ⟨a1.toInt.toNat, by omega⟩
    have hi2 : i < 2 := by omega
    have ea := of_nat hi
    subst ea
    have c1 : ¬ nI i < (0 : Int32) := fun q => by have := lt_z.mp q; rw [z0] at this; omega
    have c2 : nI i < (2 : Int32) := lt_z.mpr (by rw [z2]; omega)
    rcases hS i hi2 with ⟨q1, q2⟩ | ⟨q1, q2, nv', nf', m', lv', q3, q4⟩
    · refine ⟨-2, h, h, ?_, ?_, ⟨nv, nf, m, lv, hn1, hP, hc⟩, Fr.rf, FrK.rf⟩
      · unfold s_X9_back
        simp only [Nat.zero_add]
        rw [if_neg c1, if_pos c2, ldI_n (by omega) (by omega), q1, if_pos rfl]
      · unfold s_X10_back
        rw [in_z, z0, z1, decide_eq_true ok, bnd_s, if_neg (by decide), ldI_n (by omega) (by omega)]
        show (if h.1 70 i = 0 then _ else _) = _
        rw [q2, if_pos rfl]
    · obtain ⟨H1, p1, pF, p2, p3, p4, p5, p6, p7⟩ := copy_z (h := h) (P := 1) (Q := 14 + 6 * i) (by omega)
      obtain ⟨H2, l1, lF, lC⟩ := load_of (h := H1) q4 q3 (fun k hk => by rw [vt1]; exact p2 k hk) (fun k hk => by rw [vt2, show 15 + 6 * i = 14 + 6 * i + 1 by omega]; exact p3 k hk) (fun k hk => by rw [vt3, show 16 + 6 * i = 14 + 6 * i + 2 by omega]; exact p4 k hk) (fun k hk => by rw [vt4, show 17 + 6 * i = 14 + 6 * i + 3 by omega]; exact p5 k hk) (fun k hk => by rw [vt5, show 18 + 6 * i = 14 + 6 * i + 4 by omega]; exact p6 k hk) ⟨by rw [(pF 40 (by simp)).1]; exact hc.zero.1, hc.zero.2.fr pF (by simp) (by simp)⟩
      have F2 : Fr (probc ++ rowc) h H2 := (pF.wid (by simp [probc, rowc])).tr (lF.wid (by simp [probc, rowc]))
      have e70 : H2.1 70 = h.1 70 := (F2 70 (by simp [probc, rowc])).1
      have e71 : H2.1 71 = h.1 71 := (F2 71 (by simp [probc, rowc])).1
      obtain ⟨H3, w1, wF, wK, w2, w3, w4, w5, w6, w7, w8⟩ := mback_z (h := H2) hi2 (by rw [e70]; exact q2)
      have FA : Fr (probc ++ rowc) h H3 := F2.tr (wF.wid (by simp [probc, rowc]))
      have ob : ∀ c, c ∉ rowc → c ∉ [66, 67, 68, 69] → H3.1 c = H1.1 c := fun c u1 u2 => by rw [(wF c u2).1, (lF c u1).1]
      have e8 : ∀ k, k < 30 → H3.1 68 k = (virt h i).1 68 k := fun k hk => by rw [w8 k hk, vt68, e71]
      have e7 : ∀ k, k < 24 → H3.1 67 k = (virt h i).1 67 k := fun k hk => by rw [w7 k hk, vt67, e71]
      have hP3 : ProbR H3 nv' nf' m' lv' := by
        refine q4.cg (fun k hk => ?_) (fun k hk => ?_) (fun k hk => ?_) (fun k hk => ?_) (fun k hk => ?_) (fun k hk => ?_) ?_ ?_ ?_ ?_ e7 e8 (fun k hk => ?_)
        · rw [vt1, ob 1 (by simp [rowc]) (by simp)]; exact p2 k hk
        · rw [vt2, ob 2 (by simp [rowc]) (by simp), show 15 + 6 * i = 14 + 6 * i + 1 by omega]; exact p3 k hk
        · rw [vt3, ob 3 (by simp [rowc]) (by simp), show 16 + 6 * i = 14 + 6 * i + 2 by omega]; exact p4 k hk
        · rw [vt4, ob 4 (by simp [rowc]) (by simp), show 17 + 6 * i = 14 + 6 * i + 3 by omega]; exact p5 k hk
        · rw [vt5, ob 5 (by simp [rowc]) (by simp), show 18 + 6 * i = 14 + 6 * i + 4 by omega]; exact p6 k hk
        · rw [vt6, ob 6 (by simp [rowc]) (by simp), show 19 + 6 * i = 14 + 6 * i + 5 by omega]; exact p7 k hk
        · rw [vt660, w2, e71]
        · rw [vt661, w3, e71]
        · rw [vt663, w4, e71]
        · rw [vt665, w5, e71]
        · rw [vt69, w6 k hk, e71]
      have em : H2.1 1 2 = nI m' := by
        have a1 := hP3.2.2.2.1.1
        rw [(wF 1 (by simp)).1] at a1
        exact a1
      have em2 : h.1 71 (64 * i + 2) = nI m' := by
        have a1 := hP3.2.2.2.1.2.1.1
        rw [w4, e71] at a1
        exact a1
      refine ⟨nI m', H2, H3, ?_, ?_, ⟨nv', nf', m', lv', q3, hP3, ?_⟩, FA, ?_⟩
      · unfold s_X9_back
        simp only [Nat.zero_add]
        rw [if_neg c1, if_pos c2, ldI_n (by omega) (by omega), q1, if_neg (by decide), ldR_n hi2, p1, bnd_s, l1, bnd_s, em]
      · rw [w1, e71, em2]
      · exact CI.of_virt q4 (CI.fr lC wF (by simp) (by simp) (by simp) (by simp) (by simp) (by simp) (by simp)) e7 e8
      · refine FrK.tr ?_ wK
        exact fun k _ => ⟨by rw [(lF 66 (by simp [rowc])).1, (pF 66 (by simp)).1], by rw [(lF 66 (by simp [rowc])).2, (pF 66 (by simp)).2]⟩
  · refine ⟨-1, h, h, ?_, ?_, ⟨nv, nf, m, lv, hn1, hP, hc⟩, Fr.rf, FrK.rf⟩
    · unfold s_X9_back
      by_cases c1 : a1 < 0
      · rw [if_pos c1]
      · rw [if_neg c1]
        have c1 : ¬ a1.toInt < 0 := fun q => c1 (lt_z.mpr (by rw [z0]; exact q))
        rw [if_neg (fun q => by have := lt_z.mp q; rw [z2] at this; omega)]
    · unfold s_X10_back
      rw [in_z, z0, z1, decide_eq_false ok, bnd_s, if_pos (by decide)]
