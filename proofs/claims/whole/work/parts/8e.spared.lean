/-! spared: both find the first of the smallest sets without which the rest can be satisfied -/
abbrev cn (b : Nat) : Nat := (bl b 12).length
theorem aI_n : ∀ m, m < 11 → aI m = nI (2 ^ m - 1) := by decide +kernel
theorem cn_of {b m : Nat} (hb : b < 2 ^ m) (hm : m ≤ 12) : cn b = (bl b m).length := by
  have := bl_big hb (12 - m)
  rw [show m + (12 - m) = 12 by omega] at this
  rw [show cn b = (bl b 12).length from rfl, this]
theorem bl_le (b m : Nat) : (bl b m).length ≤ m := by
  have := List.length_filter_le (fun i => b.testBit i) (List.range m)
  rw [List.length_range] at this
  exact this
theorem cn_full {m : Nat} (hm : m ≤ 12) : cn (2 ^ m - 1) = m := by
  have hp : 0 < 2 ^ m := Nat.pow_pos (by omega)
  rw [cn_of (by omega) hm]
  have : bl (2 ^ m - 1) m = List.range m := by
    unfold bl
    apply List.filter_eq_self.mpr
    intro a ha
    rw [Nat.testBit_two_pow_sub_one]
    exact decide_eq_true (List.mem_range.mp ha)
  rw [this, List.length_range]
theorem cn_lt {m o : Nat} (hm : m ≤ 12) (ho : o < 2 ^ m - 1) : cn o < m := by
  rw [cn_of (by omega) hm]
  have h1 := bl_le o m
  rcases Nat.lt_or_ge (bl o m).length m with q | q
  · exact q
  · exfalso
    have hs : List.Sublist (bl o m) (List.range m) := List.filter_sublist
    have he := hs.eq_of_length (by rw [List.length_range]; omega)
    have ha := List.filter_eq_self.mp he
    have : o = 2 ^ m - 1 := by
      apply Nat.eq_of_testBit_eq
      intro i
      rw [Nat.testBit_two_pow_sub_one]
      by_cases q : i < m
      · rw [decide_eq_true q]; exact ha i (List.mem_range.mpr q)
      · rw [decide_eq_false q]
        exact Nat.testBit_lt_two_pow (Nat.lt_of_lt_of_le (by omega : o < 2 ^ m) (Nat.pow_le_pow_right (by omega) (by omega)))
    omega
theorem ones_z {b : Nat} (hb : b < 1024) (h : Hp) : s_X10_ones (nI b) h = some (nI (cn b)) := by
  unfold s_X10_ones
  obtain ⟨e, he, hp⟩ := iter_fuel (f := fun s : Int32 × Int32 => s_X10_ones_l4 (nI b) s.1 s.2 h)
    (fun z => ∃ k : Nat, z = (nI (bl b k).length, nI k) ∧ k ≤ 10)
    (fun z => 10 - z.2.toNatClampNeg)
    (fun e => e = nI (bl b 10).length) (by
    rintro z ⟨k, rfl, hk⟩
    dsimp only
    unfold s_X10_ones_l4
    by_cases q : k < 10
    · rw [if_pos (nI_ltn q (by omega) (by decide)), lt_red, lt_red, sh1 _ (by omega), bt_nI _ _ (by omega), nI_1]
      refine Or.inl ⟨_, rfl, ⟨k + 1, ?_, by omega⟩, by rw [nI_clamp (by omega), nI_clamp (by omega)]; omega⟩
      rw [bl_succ]
      cases b.testBit k
      · simp only [Bool.false_eq_true, if_false, List.append_nil]
        rw [show bI false = nI 0 from by decide, nI_add, Nat.add_zero]
      · simp only [if_true, List.length_append, List.length_cons, List.length_nil, Nat.zero_add]
        rw [show bI true = nI 1 from by decide, nI_add]
    · have : k = 10 := by omega
      subst this
      rw [if_neg (nI_nltn (by decide))]
      exact Or.inr ⟨_, rfl, rfl⟩)
    (nI 0, nI 0) ⟨0, by simp [bl], by omega⟩ (by dsimp only; rw [nI_clamp (by omega)]; omega)
  rw [li0, he, bnd_s, hp, cn_of (m := 10) (by omega) (by omega)]
noncomputable def gd (h : Hp) (m b : Nat) : Bool := sB h m (aI m &&& (nI b ^^^ (-1 : Int32)))
def Best (h : Hp) (m w : Nat) : Prop := w ≤ 2 ^ m - 1 ∧ gd h m w = true ∧ ∀ s, s ≤ 2 ^ m - 1 → gd h m s = true → cn w < cn s ∨ (cn w = cn s ∧ w ≤ s)
theorem best_one {h : Hp} {m w w' : Nat} (a : Best h m w) (b : Best h m w') : w = w' := by
  have h1 := a.2.2 w' b.1 b.2.1
  have h2 := b.2.2 w a.1 a.2.1
  omega
theorem gd_all {h : Hp} {nq m : Nat} (hM : MB h 66 nq m) : gd h m (2 ^ m - 1) = true := by
  have hm := hM.2.1
  unfold gd
  rw [sB_iff, aI_n m (by omega)]
  refine ⟨fun _ => 0, (mHold_iff hM _ _).mpr (fun k hk q => ?_)⟩
  exfalso
  rw [b_and, b_xor, b_m1 k (by omega)] at q
  revert q
  cases bt (nI (2 ^ m - 1)) k <;> simp
theorem nI_le_iff {a b : Nat} (ha : a < 2147483648) (hb : b < 2147483648) : nI a < nI b ↔ a < b := by
  rw [lt_z, nI_z ha, nI_z hb]; omega
theorem spared_class {h : Hp} {nv nf m lv : Nat} (hP : ProbR h nv nf m lv) (hn1 : 1 ≤ nv) (hc : CIM h nv m) (a1 : Int32) : ∃ w, Best h m w ∧ iter (fun s : Int32 × Int32 => s_X9_spared_l21 0 a1 (aI m) s.1 s.2 h) FUEL (aI m, (0 : Int32)) = some (nI w) := by
  have hM := hP.2.2.2.1.2.1
  have hm := hM.2.1
  have hpow : 2 ^ m ≤ 1024 := Nat.pow_le_pow_right (by omega) (by omega : m ≤ 10)
  have hpos : 0 < 2 ^ m := Nat.pow_pos (by omega)
  have hga := gd_all hM
  have eA := aI_n m (by omega)
  have cl : ∀ b, b ≤ 2 ^ m - 1 → cn b ≤ m := fun b hb => by rw [cn_of (m := m) (by omega) (by omega)]; exact bl_le b m
  obtain ⟨e, he, hp⟩ := iter_fuel (f := fun s : Int32 × Int32 => s_X9_spared_l21 0 a1 (aI m) s.1 s.2 h)
    (fun z => ∃ w o : Nat, z = (nI w, nI o) ∧ o ≤ 2 ^ m - 1 ∧ w ≤ 2 ^ m - 1 ∧ gd h m w = true ∧ (w = 2 ^ m - 1 ∨ w < o) ∧ ∀ s, s < o → gd h m s = true → cn w < cn s ∨ (cn w = cn s ∧ w ≤ s))
    (fun z => 2000 - z.2.toNatClampNeg)
    (fun e => ∃ w, Best h m w ∧ e = nI w) (by
    rintro z ⟨w, o, rfl, ho, hw, hgw, hwo, hb⟩
    dsimp only
    unfold s_X9_spared_l21 s_X9_spared_b58
    simp only [Nat.zero_add]
    have mu : 2000 - (nI (o + 1)).toNatClampNeg < 2000 - (nI o).toNatClampNeg := by rw [nI_clamp (by omega), nI_clamp (by omega)]; omega
    by_cases q : o < 2 ^ m - 1
    · have hcw := cl w hw
      have hco := cl o ho
      rw [if_pos (by rw [eA]; exact nI_lt q (by omega)), bc_z (by omega), bnd_s, bc_z (by omega), bnd_s]
      show (∃ s', (if nI (cn o) < nI (cn w) then _ else _) = _ ∧ _) ∨ _
      have keep : ¬ (cn o < cn w ∧ gd h m o = true) → ∀ s, s < o + 1 → gd h m s = true → cn w < cn s ∨ (cn w = cn s ∧ w ≤ s) := fun hno s hs hg => by
        rcases Nat.lt_or_ge s o with y | y
        · exact hb s y hg
        · have : s = o := by omega
          subst this
          have h1 : ¬ cn s < cn w := fun z => hno ⟨z, hg⟩
          rcases hwo with z | z
          · have := cn_lt (m := m) (by omega) q
            rw [z, cn_full (by omega)] at h1
            omega
          · omega
      by_cases c : cn o < cn w
      · rw [if_pos (nI_lt c (by omega)), within_m hP hn1 hc, bnd_s]
        show (∃ s', (if bI (!gd h m o) = 0 then _ else _) = _ ∧ _) ∨ _
        cases hg : gd h m o
        · rw [if_neg (by decide), lt_red, nI_1]
          exact Or.inl ⟨_, rfl, ⟨w, o + 1, rfl, by omega, hw, hgw, by omega, keep (fun z => by rw [hg] at z; exact absurd z.2 (by decide))⟩, mu⟩
        · rw [if_pos (by decide), lt_red, nI_1]
          refine Or.inl ⟨_, rfl, ⟨o, o + 1, rfl, by omega, by omega, hg, by omega, fun s hs hgs => ?_⟩, mu⟩
          rcases Nat.lt_or_ge s o with y | y
          · have := hb s y hgs; omega
          · have : s = o := by omega
            subst this
            exact Or.inr ⟨rfl, Nat.le_refl _⟩
      · rw [if_neg (fun z => c ((nI_le_iff (by omega) (by omega)).mp z)), lt_red, nI_1]
        exact Or.inl ⟨_, rfl, ⟨w, o + 1, rfl, by omega, hw, hgw, by omega, keep (fun z => c z.1)⟩, mu⟩
    · have : o = 2 ^ m - 1 := by omega
      subst this
      rw [if_neg (by rw [eA]; exact nI_nlt (by omega) (by omega))]
      refine Or.inr ⟨_, rfl, w, ⟨hw, hgw, fun s hs hg => ?_⟩, rfl⟩
      rcases Nat.lt_or_ge s (2 ^ m - 1) with y | y
      · exact hb s y hg
      · have : s = 2 ^ m - 1 := by omega
        subst this
        rcases Nat.lt_or_ge w (2 ^ m - 1) with z | z
        · have := cn_lt (m := m) (by omega) z
          rw [cn_full (by omega)]; omega
        · right; exact ⟨by rw [show w = 2 ^ m - 1 by omega], by omega⟩)
    (aI m, 0) ⟨2 ^ m - 1, 0, by rw [eA]; rfl, by omega, by omega, hga, Or.inl rfl, fun s hs => by omega⟩ (by dsimp only; omega)
  obtain ⟨w, hw, rfl⟩ := hp
  exact ⟨w, hw, he⟩
theorem spared_model {h : Hp} {nq m : Nat} (hM : MB h 66 nq m) : ∃ w h2, Best h m w ∧ s_X10_sparedOf 66 h = some (nI w, h2) ∧ Fr (scr 66) h h2 ∧ FrK 66 scrK h h2 := by
  have hm := hM.2.1
  have hpow : 2 ^ m ≤ 1024 := Nat.pow_le_pow_right (by omega) (by omega : m ≤ 10)
  have hpos : 0 < 2 ^ m := Nat.pow_pos (by omega)
  have hga := gd_all hM
  have eA := aI_n m (by omega)
  have cl : ∀ b, b ≤ 2 ^ m - 1 → cn b ≤ m := fun b hb => by rw [cn_of (m := m) (by omega) (by omega)]; exact bl_le b m
  unfold s_X10_sparedOf
  rw [allB_z hM.1, bnd_s]
  have inner : ∀ (n : Nat) (H : Hp), n ≤ m → Fr (scr 66) h H → FrK 66 scrK h H → (∀ s, s ≤ 2 ^ m - 1 → cn s < n → gd h m s = false) → ∃ e, iter (fun s : Int32 × Hp => s_X10_sparedOf_l17 66 (aI m) (nI n) s.1 s.2) FUEL ((0 : Int32), H) = some e ∧ ((∃ H2, e = .inl H2 ∧ Fr (scr 66) h H2 ∧ FrK 66 scrK h H2 ∧ ∀ s, s ≤ 2 ^ m - 1 → cn s < n + 1 → gd h m s = false) ∨ (∃ w H2, e = .inr (nI w, H2) ∧ Best h m w ∧ Fr (scr 66) h H2 ∧ FrK 66 scrK h H2)) := by
    intro n H hn hF hK hno
    obtain ⟨e, he, hp⟩ := iter_fuel (f := fun s : Int32 × Hp => s_X10_sparedOf_l17 66 (aI m) (nI n) s.1 s.2)
      (fun z => ∃ (o : Nat) (H : Hp), z = (nI o, H) ∧ o ≤ 2 ^ m ∧ Fr (scr 66) h H ∧ FrK 66 scrK h H ∧ ∀ s, s < o → cn s = n → gd h m s = false)
      (fun z => 2000 - z.1.toNatClampNeg)
      (fun e => (∃ H2, e = .inl H2 ∧ Fr (scr 66) h H2 ∧ FrK 66 scrK h H2 ∧ ∀ s, s ≤ 2 ^ m - 1 → cn s < n + 1 → gd h m s = false) ∨ (∃ w H2, e = .inr (nI w, H2) ∧ Best h m w ∧ Fr (scr 66) h H2 ∧ FrK 66 scrK h H2)) (by
      rintro z ⟨o, H, rfl, ho, hF, hK, hb⟩
      dsimp only
      unfold s_X10_sparedOf_l17 s_X10_sparedOf_b44
      have mu : 2000 - (nI (o + 1)).toNatClampNeg < 2000 - (nI o).toNatClampNeg := by rw [nI_clamp (by omega), nI_clamp (by omega)]; omega
      by_cases q : o ≤ 2 ^ m - 1
      · have hco := cl o q
        rw [if_neg (by rw [eA, nI_le_iff (by omega) (by omega)]; omega), ones_z (by omega), bnd_s]
        by_cases c : cn o = n
        · rw [if_pos (by rw [c])]
          have hMH := (hM.fr hF hK (by simp [scrK, iks]) (by simp [scr]) (by simp [scr])).1
          obtain ⟨H2, e2, f2, k2⟩ := canBe_m hMH (aI m &&& (nI o ^^^ (-1 : Int32)))
          rw [hM.sB hF hK (by simp [scrK, iks]) (by simp [scr]) (by simp [scr])] at e2
          rw [e2, bnd_s]
          show (∃ s', (if bI (gd h m o) = 0 then _ else _) = _ ∧ _) ∨ (∃ r, (if bI (gd h m o) = 0 then _ else _) = _ ∧ _)
          cases hg : gd h m o
          · rw [if_pos (by decide), lt_red, nI_1]
            refine Or.inl ⟨_, rfl, ⟨o + 1, _, rfl, by omega, hF.tr f2, hK.tr k2, fun s hs hcs => ?_⟩, mu⟩
            rcases Nat.lt_or_ge s o with y | y
            · exact hb s y hcs
            · rw [show s = o by omega]; exact hg
          · rw [if_neg (by decide)]
            refine Or.inr ⟨_, rfl, Or.inr ⟨o, H2, rfl, ⟨q, hg, fun s hs hgs => ?_⟩, hF.tr f2, hK.tr k2⟩⟩
            have h1 : ¬ cn s < n := fun z => by rw [hno s hs z] at hgs; exact absurd hgs (by decide)
            rcases Nat.lt_or_ge n (cn s) with y | y
            · left; omega
            · right
              refine ⟨by omega, ?_⟩
              rcases Nat.lt_or_ge s o with z | z
              · have := hb s z (by omega)
                rw [this] at hgs; exact absurd hgs (by decide)
              · omega
        · rw [if_neg (by rw [nI_eq (by omega) (by omega)]; exact c), lt_red, nI_1]
          refine Or.inl ⟨_, rfl, ⟨o + 1, _, rfl, by omega, hF, hK, fun s hs hcs => ?_⟩, mu⟩
          rcases Nat.lt_or_ge s o with y | y
          · exact hb s y hcs
          · exact absurd (by rw [show o = s by omega]; exact hcs) c
      · rw [if_pos (by rw [eA, nI_le_iff (by omega) (by omega)]; omega)]
        refine Or.inr ⟨_, rfl, Or.inl ⟨H, rfl, hF, hK, fun s hs hcs => ?_⟩⟩
        rcases Nat.lt_or_ge (cn s) n with y | y
        · exact hno s hs y
        · exact hb s (by omega) (by omega))
      (nI 0, H) ⟨0, H, rfl, by omega, hF, hK, fun s hs => by omega⟩ (by dsimp only; rw [nI_clamp (by omega)]; omega)
    rw [li0, he]
    exact ⟨e, rfl, hp⟩
  obtain ⟨e, he, hp⟩ := iter_fuel (f := fun s : Int32 × Hp => s_X10_sparedOf_l7 66 (aI m) s.1 s.2)
    (fun z => ∃ (n : Nat) (H : Hp), z = (nI n, H) ∧ n ≤ m + 1 ∧ Fr (scr 66) h H ∧ FrK 66 scrK h H ∧ ∀ s, s ≤ 2 ^ m - 1 → cn s < n → gd h m s = false)
    (fun z => 20 - z.1.toNatClampNeg)
    (fun e => ∃ w H2, e = .inr (nI w, H2) ∧ Best h m w ∧ Fr (scr 66) h H2 ∧ FrK 66 scrK h H2) (by
    rintro z ⟨n, H, rfl, hn, hF, hK, hno⟩
    dsimp only
    unfold s_X10_sparedOf_l7
    rw [(hK 3 (by simp [scrK, iks])).1, hM.1]
    by_cases q : n ≤ m
    · rw [if_neg (by rw [nI_le_iff (by omega) (by omega)]; omega)]
      obtain ⟨e, he, hp⟩ := inner n H q hF hK hno
      rw [he, bnd_s]
      rcases hp with ⟨H2, rfl, f2, k2, hno2⟩ | ⟨w, H2, rfl, hB, f2, k2⟩
      · refine Or.inl ⟨(nI (n + 1), H2), by simp only [Sum.elim_inl, lt_red, nI_1], ⟨n + 1, H2, rfl, by omega, f2, k2, hno2⟩, by dsimp only; rw [nI_clamp (by omega), nI_clamp (by omega)]; omega⟩
      · exact Or.inr ⟨_, rfl, w, H2, rfl, hB, f2, k2⟩
    · exfalso
      have := hno (2 ^ m - 1) (Nat.le_refl _) (by rw [cn_full (by omega)]; omega)
      rw [hga] at this
      exact absurd this (by decide))
    (nI 0, h) ⟨0, h, rfl, by omega, Fr.rf, FrK.rf, fun s _ hs => by omega⟩ (by dsimp only; rw [nI_clamp (by omega)]; omega)
  obtain ⟨w, H2, rfl, hB, f2, k2⟩ := hp
  rw [li0, he, bnd_s]
  exact ⟨w, H2, hB, rfl, f2, k2⟩
theorem spared_step {h : Hp} {nv nf m lv : Nat} (hP : ProbR h nv nf m lv) (hn1 : 1 ≤ nv) (hc : CIM h nv m) (a1 : Int32) : ∃ r : Int32, ∃ h2 : Hp, s_X9_spared 0 a1 h = some r ∧ s_X10_spared 66 a1 h = some (r, h2) ∧ Fr (scr 66) h h2 ∧ FrK 66 scrK h h2 := by
  have z0 : (0 : Int32).toInt = 0 := by decide
  have z1 : (1 : Int32).toInt = 1 := by decide
  have hM := hP.2.2.2.1.2.1
  have hm := hM.2.1
  have hpow : 2 ^ m ≤ 1024 := Nat.pow_le_pow_right (by omega) (by omega : m ≤ 10)
  have hpos : 0 < 2 ^ m := Nat.pow_pos (by omega)
  by_cases ok : 0 ≤ a1.toInt ∧ a1.toInt ≤ 1
  · have c1 : ¬ a1 < (0 : Int32) := fun q => by have := lt_z.mp q; rw [z0] at this; omega
    have c2 : ¬ (1 : Int32) < a1 := fun q => by have := lt_z.mp q; rw [z1] at this; omega
    obtain ⟨w, hB, e1⟩ := spared_class hP hn1 hc a1
    obtain ⟨w', h2, hB', e2, f, k⟩ := spared_model hM
    have := best_one hB hB'
    subst this
    have hw := hB.1
    refine ⟨if a1 = 0 then nI (cn w) else nI w, h2, ?_, ?_, f, k⟩
    · unfold s_X9_spared
      rw [if_neg c1, if_neg c2, allC_z hP.2.2.2.1.1, bnd_s, e1, bnd_s, bc_z (by omega)]
      by_cases q : a1 = 0
      · rw [if_pos q, if_pos q]; rfl
      · rw [if_neg q, if_neg q]
    · unfold s_X10_spared
      rw [in_z, z0, z1, decide_eq_true ok, bnd_s, if_neg (by decide), e2, bnd_s]
      dsimp only
      rw [ones_z (by omega)]
      by_cases q : a1 = 0
      · rw [if_pos q, if_pos q]; rfl
      · rw [if_neg q, if_neg q]
  · refine ⟨-1, h, ?_, ?_, Fr.rf, FrK.rf⟩
    · unfold s_X9_spared
      by_cases c1 : a1 < 0
      · rw [if_pos c1]
      · rw [if_neg c1]
        have c1 : ¬ a1.toInt < 0 := fun q => c1 (lt_z.mpr (by rw [z0]; exact q))
        rw [if_pos (lt_z.mpr (by rw [z1]; omega))]
    · unfold s_X10_spared
      rw [in_z, z0, z1, decide_eq_false ok, bnd_s, if_pos (by decide)]
