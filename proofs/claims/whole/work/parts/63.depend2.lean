/-! the three dependences find the multipliers -/
theorem fac2_at {F : Nat → Nat → Int} {i j v : Nat} (h0 : cr F i j 0 = 0) (h1 : cr F i j 1 = 0) (h2 : cr F i j 2 = 0) (hv : v < 3) (hz : ∀ w, w < v → F i w = 0) (hne : F i v ≠ 0) : fac2 F i j = if F j v = 0 then none else some (v4 i j j j (F j v) (- F i v) 0 0) := by
  unfold fac2
  rw [if_neg (by rw [h0, h1, h2]; simp)]
  rcases (show v = 0 ∨ v = 1 ∨ v = 2 by omega) with rfl | rfl | rfl
  · rw [if_pos hne]
  · rw [if_neg (by rw [hz 0 (by omega)]; simp), if_pos hne]
  · rw [if_neg (by rw [hz 0 (by omega)]; simp), if_neg (by rw [hz 1 (by omega)]; simp), if_pos hne]
theorem fac2_no {F : Nat → Nat → Int} {i j : Nat} (hz : ∀ w, w < 3 → F i w = 0) : fac2 F i j = none := by
  unfold fac2
  split
  · rfl
  · rw [if_neg (by rw [hz 0 (by omega)]; simp), if_neg (by rw [hz 1 (by omega)]; simp), if_neg (by rw [hz 2 (by omega)]; simp)]
theorem fac2_cr {F : Nat → Nat → Int} {i j v : Nat} (hv : v < 3) (h : cr F i j v ≠ 0) : fac2 F i j = none := by
  unfold fac2
  rw [if_pos (by rcases (show v = 0 ∨ v = 1 ∨ v = 2 by omega) with rfl | rfl | rfl <;> simp [h])]
theorem neg_i32 (z : Int) : - i32 z = i32 (- z) := i32_neg z
theorem depTwo_z {h : Hp} {C N i j : Nat} (hN : h.1 (C + 1) 4 = nI N) (h12 : N ≤ 12) (hB : Bd (rF h (C + 1)) N) (hm : h.1 C 3 = nI 2) (hi : i < N) (hj : j < N) (hij : i ≠ j) : ∃ r h', s_X0_dependTwo C (nI i) (nI j) h = some (r, h') ∧ Fr [C + 7] h h' ∧ ((∃ f, fac2 (rF h (C + 1)) i j = some f ∧ r = 1 ∧ h'.1 (C + 7) 0 = i32 (f i) ∧ h'.1 (C + 7) 1 = i32 (f j)) ∨ (fac2 (rF h (C + 1)) i j = none ∧ r = 0)) := by
  have hji : ¬ j = i := fun e => hij e.symm
  have cz : ∀ v, v < 3 → (i32 (cr (rF h (C + 1)) i j v) = 0 ↔ cr (rF h (C + 1)) i j v = 0) := fun v hv => by
    have := cr_bd hB hi hj hv
    exact i32_0 (by omega) (by omega)
  have fz : ∀ k, k < N → ∀ v, v < 3 → (i32 (rF h (C + 1) k v) = 0 ↔ rF h (C + 1) k v = 0) := fun k hk v hv => by
    have := hB k hk v hv
    exact i32_0 (by omega) (by omega)
  unfold s_X0_dependTwo
  rw [li0, cross_z hN h12 hi hj (by omega : 0 < 3)]
  show ∃ r h', (if i32 (cr (rF h (C + 1)) i j 0) = nI 0 then _ else _) = some (r, h') ∧ _
  rw [← li0]
  by_cases c0 : cr (rF h (C + 1)) i j 0 = 0
  · rw [if_pos ((cz 0 (by omega)).mpr c0), li1, cross_z hN h12 hi hj (by omega : 1 < 3)]
    show ∃ r h', (if i32 (cr (rF h (C + 1)) i j 1) = 0 then _ else _) = some (r, h') ∧ _
    by_cases c1 : cr (rF h (C + 1)) i j 1 = 0
    · rw [if_pos ((cz 1 (by omega)).mpr c1), li2, cross_z hN h12 hi hj (by omega : 2 < 3)]
      show ∃ r h', (if i32 (cr (rF h (C + 1)) i j 2) = 0 then _ else _) = some (r, h') ∧ _
      by_cases c2 : cr (rF h (C + 1)) i j 2 = 0
      · rw [if_pos ((cz 2 (by omega)).mpr c2)]
        obtain ⟨e, he, hp⟩ := iter_fuel (f := fun s : Int32 × Hp => s_X0_dependTwo_l43 C (nI i) (nI j) s.1 s.2) (fun s => ∃ v, s = (nI v, h) ∧ v ≤ 3 ∧ ∀ w, w < v → rF h (C + 1) i w = 0) (fun s => 3 - s.1.toNatClampNeg) (fun e => (e = .inl h ∧ ∀ w, w < 3 → rF h (C + 1) i w = 0) ∨ (∃ r h', e = .inr (r, h') ∧ Fr [C + 7] h h' ∧ ((∃ f, fac2 (rF h (C + 1)) i j = some f ∧ r = 1 ∧ h'.1 (C + 7) 0 = i32 (f i) ∧ h'.1 (C + 7) 1 = i32 (f j)) ∨ (fac2 (rF h (C + 1)) i j = none ∧ r = 0)))) (by
          rintro s ⟨v, rfl, hv, hz⟩
          dsimp only
          unfold s_X0_dependTwo_l43
          by_cases q : v < 3
          · rw [li3, if_pos (nI_lt q (by omega)), entry_z hN h12 hi q]
            by_cases fi : rF h (C + 1) i v = 0
            · refine Or.inl ⟨(nI (v + 1), h), ?_, ⟨v + 1, rfl, by omega, fun w hw => ?_⟩, ?_⟩
              · show (if i32 (rF h (C + 1) i v) = 0 then _ else _) = _
                rw [if_pos ((fz i hi v q).mpr fi), lt_red, nI_1]
              · rcases Nat.lt_or_ge w v with z | z
                · exact hz w z
                · rw [show w = v by omega]; exact fi
              · dsimp only; rw [nI_clamp (by omega), nI_clamp (by omega)]; omega
            · obtain ⟨r, h', e1, g0, g1, -, -, gF, gr⟩ := setF_z hm (by omega : 2 ≤ 4) (i32 (rF h (C + 1) j v)) (- i32 (rF h (C + 1) i v)) (nI 0) (nI 0)
              have b1 := hB i hi v q
              have b2 := hB j hj v q
              refine Or.inr ⟨.inr (r, h'), ?_, Or.inr ⟨r, h', rfl, gF, ?_⟩⟩
              · show (if i32 (rF h (C + 1) i v) = 0 then _ else (s_X7_entry (C + 1) (nI j) (nI v) h).bind _) = _
                rw [if_neg (fun z => fi ((fz i hi v q).mp z)), entry_z hN h12 hj q]
                show ((s_X0_setFactors C (i32 (rF h (C + 1) j v)) (-(i32 (rF h (C + 1) i v))) 0 0 h).bind _) = _
                rw [li0, e1]
                show ckB r _ = _
                unfold ckB
                rw [if_pos (by rcases gr with ⟨z, -⟩ | ⟨z, -⟩ <;> rw [z] <;> simp)]
              · rw [fac2_at c0 c1 c2 q hz fi]
                rcases gr with ⟨z, gz⟩ | ⟨z, p, hp, gz⟩
                · have nz : ¬ rF h (C + 1) j v = 0 := fun w => gz 0 (by omega) (by rw [g0, w]; decide)
                  rw [if_neg nz]
                  exact Or.inl ⟨_, rfl, z, by simp [v4]; exact g0, by simp [v4, hji]; rw [g1, neg_i32]⟩
                · rcases (show p = 0 ∨ p = 1 by omega) with rfl | rfl
                  · have : rF h (C + 1) j v = 0 := (fz j hj v q).mp (by rw [← g0]; exact gz)
                    rw [if_pos this]; exact Or.inr ⟨rfl, z⟩
                  · exfalso
                    have : - rF h (C + 1) i v = 0 := (i32_0 (by omega) (by omega)).mp (by rw [← neg_i32, ← g1]; exact gz)
                    omega
          · rw [li3, if_neg (nI_nlt (by omega) (by omega))]
            exact Or.inr ⟨_, rfl, Or.inl ⟨rfl, fun w hw => hz w (by omega)⟩⟩) (nI 0, h) ⟨0, rfl, by omega, fun w hw => by omega⟩ (by dsimp only; rw [nI_clamp (by omega)]; omega)
        show ∃ r h', (Option.bind (iter _ FUEL (nI 0, h)) _) = some (r, h') ∧ _
        rw [he]
        rcases hp with ⟨rfl, q⟩ | ⟨r, h', rfl, q1, q2⟩
        · exact ⟨0, h, rfl, Fr.rf, Or.inr ⟨fac2_no q, rfl⟩⟩
        · exact ⟨r, h', rfl, q1, q2⟩
      · rw [if_neg (fun z => c2 ((cz 2 (by omega)).mp z))]
        exact ⟨0, h, rfl, Fr.rf, Or.inr ⟨fac2_cr (by omega) c2, rfl⟩⟩
    · rw [if_neg (fun z => c1 ((cz 1 (by omega)).mp z))]
      exact ⟨0, h, rfl, Fr.rf, Or.inr ⟨fac2_cr (by omega) c1, rfl⟩⟩
  · rw [if_neg (fun z => c0 ((cz 0 (by omega)).mp z))]
    exact ⟨0, h, rfl, Fr.rf, Or.inr ⟨fac2_cr (by omega) c0, rfl⟩⟩
theorem fac3_at {F : Nat → Nat → Int} {i j k v : Nat} (hd : dt F i j k = 0) (hv : v < 3) (hz : ∀ w, w < v → cr F i j w = 0) (hne : cr F i j v ≠ 0) : fac3 F i j k = if cr F j k v = 0 ∨ cr F k i v = 0 then none else some (v4 i j k k (cr F j k v) (cr F k i v) (cr F i j v) 0) := by
  unfold fac3
  rw [if_neg (by rw [hd]; simp)]
  rcases (show v = 0 ∨ v = 1 ∨ v = 2 by omega) with rfl | rfl | rfl
  · rw [if_pos hne]
  · rw [if_neg (by rw [hz 0 (by omega)]; simp), if_pos hne]
  · rw [if_neg (by rw [hz 0 (by omega)]; simp), if_neg (by rw [hz 1 (by omega)]; simp), if_pos hne]
theorem fac3_no {F : Nat → Nat → Int} {i j k : Nat} (hz : ∀ w, w < 3 → cr F i j w = 0) : fac3 F i j k = none := by
  unfold fac3
  split
  · rfl
  · rw [if_neg (by rw [hz 0 (by omega)]; simp), if_neg (by rw [hz 1 (by omega)]; simp), if_neg (by rw [hz 2 (by omega)]; simp)]
theorem depThree_z {h : Hp} {C N i j k : Nat} (hN : h.1 (C + 1) 4 = nI N) (h12 : N ≤ 12) (hB : Bd (rF h (C + 1)) N) (hm : h.1 C 3 = nI 3) (hi : i < N) (hj : j < N) (hk : k < N) (hij : i ≠ j) (hik : i ≠ k) (hjk : j ≠ k) : ∃ r h', s_X0_dependThree C (nI i) (nI j) (nI k) h = some (r, h') ∧ Fr [C + 7] h h' ∧ ((∃ f, fac3 (rF h (C + 1)) i j k = some f ∧ r = 1 ∧ h'.1 (C + 7) 0 = i32 (f i) ∧ h'.1 (C + 7) 1 = i32 (f j) ∧ h'.1 (C + 7) 2 = i32 (f k)) ∨ (fac3 (rF h (C + 1)) i j k = none ∧ r = 0)) := by
  have hji : ¬ j = i := fun e => hij e.symm
  have hki : ¬ k = i := fun e => hik e.symm
  have hkj : ¬ k = j := fun e => hjk e.symm
  have cz : ∀ a b, a < N → b < N → ∀ v, v < 3 → (i32 (cr (rF h (C + 1)) a b v) = 0 ↔ cr (rF h (C + 1)) a b v = 0) := fun a b ha hb v hv => by
    have := cr_bd hB ha hb hv
    exact i32_0 (by omega) (by omega)
  have dz : i32 (dt (rF h (C + 1)) i j k) = 0 ↔ dt (rF h (C + 1)) i j k = 0 := by
    have := dt_bd hB hi hj hk
    exact i32_0 (by omega) (by omega)
  unfold s_X0_dependThree
  rw [det_z hN h12 hi hj hk]
  show ∃ r h', (if i32 (dt (rF h (C + 1)) i j k) = 0 then _ else _) = some (r, h') ∧ _
  by_cases hd : dt (rF h (C + 1)) i j k = 0
  · rw [if_pos (dz.mpr hd), li0]
    obtain ⟨e, he, hp⟩ := iter_fuel (f := fun s : Int32 × Hp => s_X0_dependThree_l18 C (nI i) (nI j) (nI k) s.1 s.2) (fun s => ∃ v, s = (nI v, h) ∧ v ≤ 3 ∧ ∀ w, w < v → cr (rF h (C + 1)) i j w = 0) (fun s => 3 - s.1.toNatClampNeg) (fun e => (e = .inl h ∧ ∀ w, w < 3 → cr (rF h (C + 1)) i j w = 0) ∨ (∃ r h', e = .inr (r, h') ∧ Fr [C + 7] h h' ∧ ((∃ f, fac3 (rF h (C + 1)) i j k = some f ∧ r = 1 ∧ h'.1 (C + 7) 0 = i32 (f i) ∧ h'.1 (C + 7) 1 = i32 (f j) ∧ h'.1 (C + 7) 2 = i32 (f k)) ∨ (fac3 (rF h (C + 1)) i j k = none ∧ r = 0)))) (by
      rintro s ⟨v, rfl, hv, hz⟩
      dsimp only
      unfold s_X0_dependThree_l18
      by_cases q : v < 3
      · rw [li3, if_pos (nI_lt q (by omega)), cross_z hN h12 hi hj q]
        by_cases fi : cr (rF h (C + 1)) i j v = 0
        · refine Or.inl ⟨(nI (v + 1), h), ?_, ⟨v + 1, rfl, by omega, fun w hw => ?_⟩, ?_⟩
          · show (if i32 (cr (rF h (C + 1)) i j v) = 0 then _ else _) = _
            rw [if_pos ((cz i j hi hj v q).mpr fi), lt_red, nI_1]
          · rcases Nat.lt_or_ge w v with z | z
            · exact hz w z
            · rw [show w = v by omega]; exact fi
          · dsimp only; rw [nI_clamp (by omega), nI_clamp (by omega)]; omega
        · obtain ⟨r, h', e1, g0, g1, g2, -, gF, gr⟩ := setF_z hm (by omega : 3 ≤ 4) (i32 (cr (rF h (C + 1)) j k v)) (i32 (cr (rF h (C + 1)) k i v)) (i32 (cr (rF h (C + 1)) i j v)) (nI 0)
          refine Or.inr ⟨.inr (r, h'), ?_, Or.inr ⟨r, h', rfl, gF, ?_⟩⟩
          · show (if i32 (cr (rF h (C + 1)) i j v) = 0 then _ else (s_X7_cross (C + 1) (nI j) (nI k) (nI v) h).bind _) = _
            rw [if_neg (fun z => fi ((cz i j hi hj v q).mp z)), cross_z hN h12 hj hk q]
            show (s_X7_cross (C + 1) (nI k) (nI i) (nI v) h).bind _ = _
            rw [cross_z hN h12 hk hi q]
            show ((s_X0_setFactors C (i32 (cr (rF h (C + 1)) j k v)) (i32 (cr (rF h (C + 1)) k i v)) (i32 (cr (rF h (C + 1)) i j v)) 0 h).bind _) = _
            rw [li0, e1]
            show ckB r _ = _
            unfold ckB
            rw [if_pos (by rcases gr with ⟨z, -⟩ | ⟨z, -⟩ <;> rw [z] <;> simp)]
          · rw [fac3_at hd q hz fi]
            rcases gr with ⟨z, gz⟩ | ⟨z, p, hp, gz⟩
            · have nz : ¬ (cr (rF h (C + 1)) j k v = 0 ∨ cr (rF h (C + 1)) k i v = 0) := fun w => by
                rcases w with w | w
                · exact gz 0 (by omega) (by rw [g0, w]; decide)
                · exact gz 1 (by omega) (by rw [g1, w]; decide)
              rw [if_neg nz]
              exact Or.inl ⟨_, rfl, z, by simp [v4]; exact g0, by simp [v4, hji]; exact g1, by simp [v4, hki, hkj]; exact g2⟩
            · rcases (show p = 0 ∨ p = 1 ∨ p = 2 by omega) with rfl | rfl | rfl
              · rw [if_pos (Or.inl ((cz j k hj hk v q).mp (by rw [← g0]; exact gz)))]; exact Or.inr ⟨rfl, z⟩
              · rw [if_pos (Or.inr ((cz k i hk hi v q).mp (by rw [← g1]; exact gz)))]; exact Or.inr ⟨rfl, z⟩
              · exact absurd ((cz i j hi hj v q).mp (by rw [← g2]; exact gz)) fi
      · rw [li3, if_neg (nI_nlt (by omega) (by omega))]
        exact Or.inr ⟨_, rfl, Or.inl ⟨rfl, fun w hw => hz w (by omega)⟩⟩) (nI 0, h) ⟨0, rfl, by omega, fun w hw => by omega⟩ (by dsimp only; rw [nI_clamp (by omega)]; omega)
    rw [he]
    rcases hp with ⟨rfl, q⟩ | ⟨r, h', rfl, q1, q2⟩
    · exact ⟨_, h, rfl, Fr.rf, Or.inr ⟨fac3_no q, rfl⟩⟩
    · exact ⟨r, h', rfl, q1, q2⟩
  · rw [if_neg (fun z => hd (dz.mp z))]
    exact ⟨0, h, rfl, Fr.rf, Or.inr ⟨by unfold fac3; rw [if_pos hd], rfl⟩⟩
theorem depFour_z {h : Hp} {C N i j k l : Nat} (hN : h.1 (C + 1) 4 = nI N) (h12 : N ≤ 12) (hB : Bd (rF h (C + 1)) N) (hm : h.1 C 3 = nI 4) (hi : i < N) (hj : j < N) (hk : k < N) (hl : l < N) (hij : i ≠ j) (hik : i ≠ k) (hil : i ≠ l) (hjk : j ≠ k) (hjl : j ≠ l) (hkl : k ≠ l) : ∃ r h', s_X0_dependFour C (nI i) (nI j) (nI k) (nI l) h = some (r, h') ∧ Fr [C + 7] h h' ∧ ((∃ f, fac4 (rF h (C + 1)) i j k l = some f ∧ r = 1 ∧ h'.1 (C + 7) 0 = i32 (f i) ∧ h'.1 (C + 7) 1 = i32 (f j) ∧ h'.1 (C + 7) 2 = i32 (f k) ∧ h'.1 (C + 7) 3 = i32 (f l)) ∨ (fac4 (rF h (C + 1)) i j k l = none ∧ r = 0)) := by
  have hji : ¬ j = i := fun e => hij e.symm
  have hki : ¬ k = i := fun e => hik e.symm
  have hkj : ¬ k = j := fun e => hjk e.symm
  have hli : ¬ l = i := fun e => hil e.symm
  have hlj : ¬ l = j := fun e => hjl e.symm
  have hlk : ¬ l = k := fun e => hkl e.symm
  have dz : ∀ a b c, a < N → b < N → c < N → (i32 (dt (rF h (C + 1)) a b c) = 0 ↔ dt (rF h (C + 1)) a b c = 0) := fun a b c ha hb hc => by
    have := dt_bd hB ha hb hc
    exact i32_0 (by omega) (by omega)
  have dn : ∀ a b c, a < N → b < N → c < N → (- i32 (dt (rF h (C + 1)) a b c) = 0 ↔ dt (rF h (C + 1)) a b c = 0) := fun a b c ha hb hc => by
    have := dt_bd hB ha hb hc
    rw [neg_i32, i32_0 (by omega) (by omega)]
    omega
  unfold s_X0_dependFour
  rw [det_z hN h12 hi hj hk]
  show ∃ r h', (if i32 (dt (rF h (C + 1)) i j k) = 0 then _ else (s_X7_determinant (C + 1) (nI j) (nI k) (nI l) h).bind _) = some (r, h') ∧ _
  unfold fac4
  by_cases hd : dt (rF h (C + 1)) i j k = 0
  · rw [if_pos ((dz i j k hi hj hk).mpr hd), if_pos hd]
    exact ⟨0, h, rfl, Fr.rf, Or.inr ⟨rfl, rfl⟩⟩
  · rw [if_neg (fun z => hd ((dz i j k hi hj hk).mp z)), if_neg hd, det_z hN h12 hj hk hl]
    show ∃ r h', (s_X7_determinant (C + 1) (nI i) (nI k) (nI l) h).bind _ = some (r, h') ∧ _
    rw [det_z hN h12 hi hk hl]
    show ∃ r h', (s_X7_determinant (C + 1) (nI i) (nI j) (nI l) h).bind _ = some (r, h') ∧ _
    rw [det_z hN h12 hi hj hl]
    obtain ⟨r, h', e1, g0, g1, g2, g3, gF, gr⟩ := setF_z hm (by omega : 4 ≤ 4) (i32 (dt (rF h (C + 1)) j k l)) (- i32 (dt (rF h (C + 1)) i k l)) (i32 (dt (rF h (C + 1)) i j l)) (- i32 (dt (rF h (C + 1)) i j k))
    refine ⟨r, h', ?_, gF, ?_⟩
    · show (s_X0_setFactors C (i32 (dt (rF h (C + 1)) j k l)) (- i32 (dt (rF h (C + 1)) i k l)) (i32 (dt (rF h (C + 1)) i j l)) (- i32 (dt (rF h (C + 1)) i j k)) h).bind _ = _
      rw [e1]
      show ckB r _ = _
      unfold ckB
      rw [if_pos (by rcases gr with ⟨z, -⟩ | ⟨z, -⟩ <;> rw [z] <;> simp)]
    · rcases gr with ⟨z, gz⟩ | ⟨z, p, hp, gz⟩
      · have nz : ¬ (dt (rF h (C + 1)) j k l = 0 ∨ dt (rF h (C + 1)) i k l = 0 ∨ dt (rF h (C + 1)) i j l = 0) := fun w => by
          rcases w with w | w | w
          · exact gz 0 (by omega) (by rw [g0, w]; decide)
          · exact gz 1 (by omega) (by rw [g1, w]; decide)
          · exact gz 2 (by omega) (by rw [g2, w]; decide)
        rw [if_neg nz]
        exact Or.inl ⟨_, rfl, z, by simp [v4]; exact g0, by simp [v4, hji]; rw [g1, neg_i32], by simp [v4, hki, hkj]; exact g2, by simp [v4, hli, hlj, hlk]; rw [g3, neg_i32]⟩
      · rcases (show p = 0 ∨ p = 1 ∨ p = 2 ∨ p = 3 by omega) with rfl | rfl | rfl | rfl
        · rw [if_pos (Or.inl ((dz j k l hj hk hl).mp (by rw [← g0]; exact gz)))]; exact Or.inr ⟨rfl, z⟩
        · rw [if_pos (Or.inr (Or.inl ((dn i k l hi hk hl).mp (by rw [← g1]; exact gz))))]; exact Or.inr ⟨rfl, z⟩
        · rw [if_pos (Or.inr (Or.inr ((dz i j l hi hj hl).mp (by rw [← g2]; exact gz))))]; exact Or.inr ⟨rfl, z⟩
        · exact absurd ((dn i j k hi hj hk).mp (by rw [← g3]; exact gz)) hd
