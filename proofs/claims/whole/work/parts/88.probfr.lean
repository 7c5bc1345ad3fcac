/-! the problem relation where nothing of it has changed -/
theorem ProbR.cg {h h' : Hp} {nv nf m lv : Nat} (hP : ProbR h nv nf m lv) (a : ∀ k, k < 4 → h'.1 1 k = h.1 1 k) (b2 : ∀ k, k < 24 → h'.1 2 k = h.1 2 k) (b3 : ∀ k, k < 10 → h'.1 3 k = h.1 3 k) (b4 : ∀ k, k < 10 → h'.1 4 k = h.1 4 k) (b5 : ∀ k, k < 10 → h'.1 5 k = h.1 5 k) (b6 : ∀ k, k < 4 → h'.1 6 k = h.1 6 k) (d0 : h'.1 66 0 = h.1 66 0) (d1 : h'.1 66 1 = h.1 66 1) (d3 : h'.1 66 3 = h.1 66 3) (d5 : h'.1 66 5 = h.1 66 5) (e7 : ∀ k, k < 24 → h'.1 67 k = h.1 67 k) (e8 : ∀ k, k < 30 → h'.1 68 k = h.1 68 k) (e9 : ∀ k, k < 4 → h'.1 69 k = h.1 69 k) : ProbR h' nv nf m lv := by
  obtain ⟨⟨v1, v2, v3⟩, ⟨f1, f2, f3, f4⟩, g1, ⟨c1, c2, c3⟩, ⟨l1, l2, l3, b, l4, l5⟩⟩ := hP
  have hm := c2.2.1
  have eK : ∀ g, g < nf → ∀ v, v < 3 → mK h' 66 g v = mK h 66 g v := fun g hg v hv => by
    unfold mK
    show (h'.1 67 (3 * g + v)).toInt = (h.1 67 (3 * g + v)).toInt
    rw [e7 _ (by omega)]
  have eG : ∀ k, k < m → mG h' 66 k = mG h 66 k := fun k hk => by
    unfold mG
    show (h'.1 68 (3 * k)).toInt.toNat = (h.1 68 (3 * k)).toInt.toNat
    rw [e8 _ (by omega)]
  have eS : ∀ k, k < m → mS h' 66 k = mS h 66 k := fun k hk => by
    unfold mS
    show (h'.1 68 (3 * k + 1)).toInt.toNat = (h.1 68 (3 * k + 1)).toInt.toNat
    rw [e8 _ (by omega)]
  have eD : ∀ k, k < m → mD h' 66 k = mD h 66 k := fun k hk => by
    unfold mD
    show (h'.1 68 (3 * k + 2)).toInt = (h.1 68 (3 * k + 2)).toInt
    rw [e8 _ (by omega)]
  refine ⟨⟨by rw [a 0 (by omega)]; exact v1, by rw [d0]; exact v2, v3⟩, ⟨by rw [a 1 (by omega)]; exact f1, by rw [d1]; exact f2, f3, fun j hj => by rw [b2 j (by omega), e7 j (by omega)]; exact f4 j hj⟩, fun g hg => ?_, ⟨by rw [a 2 (by omega)]; exact c1, ⟨by rw [d3]; exact c2.1, hm, fun g v hg hv => by rw [eK g hg v hv]; exact c2.2.2.1 g v hg hv, fun k hk => ?_⟩, fun k hk => ?_⟩, ⟨by rw [a 3 (by omega)]; exact l1, by rw [d5]; exact l2, l3, b, fun k hk => by rw [b6 k (by omega), e9 k (by omega)]; exact l4 k hk, l5⟩⟩
  · obtain ⟨⟨v, w1, w2⟩, w3⟩ := g1 g hg
    exact ⟨⟨v, w1, by rw [eK g hg v w1]; exact w2⟩, fun v y1 y2 => by rw [eK g hg v y2]; exact w3 v y1 y2⟩
  · rw [eG k hk, eS k hk, eD k hk]
    show (h'.1 68 (3 * k) = _ ∧ _) ∧ (h'.1 68 (3 * k + 1) = _ ∧ _) ∧ _
    rw [e8 _ (by omega), e8 _ (by omega)]
    exact c2.2.2.2 k hk
  · rw [b3 k (by omega), b4 k (by omega), b5 k (by omega), e8 _ (by omega), e8 _ (by omega), e8 _ (by omega), eG k hk]
    exact c3 k hk
theorem ProbR.fr {h h' : Hp} {nv nf m lv : Nat} {S k1 k6 : List Nat} (hP : ProbR h nv nf m lv) (f : Fr S h h') (K1 : FrK 1 k1 h h') (K6 : FrK 66 k6 h h') (hS : ∀ c ∈ S, c ∉ [2, 3, 4, 5, 6, 67, 68, 69]) (h1 : ∀ c ∈ k1, 4 ≤ c) (h6 : ∀ c ∈ k6, c ∉ [0, 1, 3, 5]) : ProbR h' nv nf m lv := by
  have z : ∀ c, c ∈ [2, 3, 4, 5, 6, 67, 68, 69] → c ∉ S := fun c hc q => hS c q hc
  have y : ∀ c, c ∈ [0, 1, 3, 5] → c ∉ k6 := fun c hc q => h6 c q hc
  exact hP.cg (fun k hk => (K1 k (fun q => by have := h1 k q; omega)).1) (fun k _ => by rw [(f 2 (z 2 (by simp))).1]) (fun k _ => by rw [(f 3 (z 3 (by simp))).1]) (fun k _ => by rw [(f 4 (z 4 (by simp))).1]) (fun k _ => by rw [(f 5 (z 5 (by simp))).1]) (fun k _ => by rw [(f 6 (z 6 (by simp))).1]) (K6 0 (y 0 (by simp))).1 (K6 1 (y 1 (by simp))).1 (K6 3 (y 3 (by simp))).1 (K6 5 (y 5 (by simp))).1 (fun k _ => by rw [(f 67 (z 67 (by simp))).1]) (fun k _ => by rw [(f 68 (z 68 (by simp))).1]) (fun k _ => by rw [(f 69 (z 69 (by simp))).1])
/-- the constraints, as pure functions -/
abbrev fF (h : Hp) : Nat → Nat → Int := fun i => mK h 66 (mG h 66 i)
abbrev CIM (h : Hp) (nv m : Nat) : Prop := CI h nv m (fF h) (mS h 66) (mD h 66)
theorem ProbR.rw {h : Hp} {nv nf m lv : Nat} (hP : ProbR h nv nf m lv) : RW nv m (fF h) (mS h 66) (mD h 66) := by
  obtain ⟨⟨v1, v2, v3⟩, ⟨f1, f2, f3, f4⟩, g1, ⟨c1, c2, c3⟩, -⟩ := hP
  intro i hi
  obtain ⟨⟨w1, w2⟩, ⟨w3, w4⟩, w5⟩ := c2.2.2.2 i hi
  obtain ⟨u1, u2⟩ := g1 _ w2
  exact ⟨w4, w5, fun v hv => c2.2.2.1 _ v w2 hv, fun v hv hn => u2 v hn hv, u1⟩
def okB (nf : Nat) (a1 a2 a3 : Int32) : Bool := decide ((0 ≤ a1.toInt ∧ a1.toInt < nf) ∧ (0 ≤ a2.toInt ∧ a2.toInt ≤ 4) ∧ (-50 ≤ a3.toInt ∧ a3.toInt ≤ 50))
theorem allowsC_z {h : Hp} {P nf : Nat} (e : h.1 P 1 = nI nf) (h8 : nf ≤ 8) (a1 a2 a3 : Int32) : s_X5_allowsConstraint P a1 a2 a3 h = some (bI (okB nf a1 a2 a3)) := by
  have z0 : (0 : Int32).toInt = 0 := by decide
  have z4 : (4 : Int32).toInt = 4 := by decide
  have zm : (-50 : Int32).toInt = -50 := by decide
  have z50 : (50 : Int32).toInt = 50 := by decide
  unfold s_X5_allowsConstraint s_X5_hasForm
  rw [e, has_z (by omega), bnd_s]
  unfold okB
  by_cases c : 0 ≤ a1.toInt ∧ a1.toInt < nf
  · rw [decide_eq_true c, if_neg (by decide)]
    by_cases c1 : a2 < 0
    · rw [if_pos c1]; have := lt_z.mp c1; rw [z0] at this; rw [decide_eq_false (by omega)]; rfl
    · rw [if_neg c1]
      have c1 : ¬ a2.toInt < 0 := fun q => c1 (lt_z.mpr (by rw [z0]; exact q))
      by_cases c2 : (4 : Int32) < a2
      · rw [if_pos c2]; have := lt_z.mp c2; rw [z4] at this; rw [decide_eq_false (by omega)]; rfl
      · rw [if_neg c2]
        have c2 : ¬ 4 < a2.toInt := fun q => c2 (lt_z.mpr (by rw [z4]; exact q))
        by_cases c3 : a3 < (-50 : Int32)
        · rw [if_pos c3]; have := lt_z.mp c3; rw [zm] at this; rw [decide_eq_false (by omega)]; rfl
        · rw [if_neg c3]
          have c3 : ¬ a3.toInt < -50 := fun q => c3 (lt_z.mpr (by rw [zm]; exact q))
          by_cases c4 : (50 : Int32) < a3
          · rw [if_pos c4]; have := lt_z.mp c4; rw [z50] at this; rw [decide_eq_false (by omega)]; rfl
          · rw [if_neg c4]
            have c4 : ¬ 50 < a3.toInt := fun q => c4 (lt_z.mpr (by rw [z50]; exact q))
            rw [decide_eq_true (by omega)]; rfl
  · rw [decide_eq_false c, decide_eq_false (fun q => c q.1)]; rfl
theorem isTold_z {h : Hp} {P nf : Nat} (e : h.1 P 1 = nI nf) (h8 : nf ≤ 8) (a1 a2 a3 : Int32) : s_X10_isTold P a1 a2 a3 h = some (bI (okB nf a1 a2 a3)) := by
  have z0 : (0 : Int32).toInt = 0 := by decide
  have z4 : (4 : Int32).toInt = 4 := by decide
  have zm : (-50 : Int32).toInt = -50 := by decide
  have z50 : (50 : Int32).toInt = 50 := by decide
  unfold s_X10_isTold s_X10_isForm
  rw [e, isn_z (by omega), in_z, in_z, z0, z4, zm, z50]
  simp only [bnd_s, ckB_b]
  unfold okB
  by_cases c : 0 ≤ a1.toInt ∧ a1.toInt < nf
  · rw [decide_eq_true c, if_neg (by decide)]
    by_cases c1 : 0 ≤ a2.toInt ∧ a2.toInt ≤ 4
    · rw [decide_eq_true c1, if_neg (by decide)]
      by_cases c2 : -50 ≤ a3.toInt ∧ a3.toInt ≤ 50
      · rw [decide_eq_true c2, if_neg (by decide), decide_eq_true ⟨c, c1, c2⟩]; rfl
      · rw [decide_eq_false c2, if_pos (by decide), decide_eq_false (fun q => c2 q.2.2)]; rfl
    · rw [decide_eq_false c1, if_pos (by decide), decide_eq_false (fun q => c1 q.2.1)]; rfl
  · rw [decide_eq_false c, if_pos (by decide), decide_eq_false (fun q => c q.1)]; rfl
theorem addC_z {h : Hp} {P m : Nat} (e : h.1 P 2 = nI m) (h10 : m < 10) (x y z : Int32) : s_X5_addConstraint P x y z h = some (1, sI (sI (sI (sI h (P + 2) m x) (P + 3) m y) (P + 4) m z) P 2 (nI (m + 1))) := by
  unfold s_X5_addConstraint
  rw [e, if_pos (show nI m < (10 : Int32) from nI_lt (b := 10) h10 (by decide)), stI_n (by omega) (by omega), sI_cell (c' := P) (by omega), e, stI_n (by omega) (by omega), sI_cell (c' := P) (by omega), sI_cell (c' := P) (by omega), e, stI_n (by omega) (by omega), lt_red, sI_cell (c' := P) (by omega), sI_cell (c' := P) (by omega), sI_cell (c' := P) (by omega), e, nI_1]
theorem comesBound_z {h : Hp} {P m : Nat} (e : h.1 P 3 = nI m) (h10 : m < 10) (x y z : Int32) : s_X10_comesBound P x y z h = some (sI (sI (sI (sI h (P + 2) (3 * m) x) (P + 2) (3 * m + 1) y) (P + 2) (3 * m + 2) z) P 3 (nI (m + 1))) := by
  have e0 : (3 : Int32) * nI m = nI (3 * m) := by rw [li3, nI_mul]
  unfold s_X10_comesBound
  rw [e, e0, stI_n (by omega) (by omega), sI_cell (c' := P) (by omega), e, e0, show nI (3 * m) + 1 = nI (3 * m + 1) from nI_1 _, stI_n (by omega) (by omega), sI_cell (c' := P) (by omega), sI_cell (c' := P) (by omega), e, e0, show nI (3 * m) + 2 = nI (3 * m + 2) from by rw [li2, nI_add], stI_n (by omega) (by omega), lt_red, sI_cell (c' := P) (by omega), sI_cell (c' := P) (by omega), sI_cell (c' := P) (by omega), e, nI_1]
