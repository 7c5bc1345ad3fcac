theorem bnd_s {α β : Type} (a : α) (f : α → Option β) : (some a).bind f = f a := rfl
/-! Clashes.extend: the sets that the newest row belongs to come behind -/
theorem extend_z {h : Hp} {L N nv : Nat} {D : Int} {n s : Nat → Nat} (hW : RowsWF h (L + 2) (N + 1) D) (hD0 : 0 ≤ D) (hD : D ≤ 1000000000000) (hv : h.1 (L + 2) 5 = nI nv) (h1 : 1 ≤ nv) (h3 : nv ≤ 3) (hC : ClashInv h L N nv (rY h (L + 2)) n s) : ∃ h', s_X1_extend L h = some h' ∧ Fr [L + 1, L + 7, L + 8, L + 9, L + 10] h h' ∧ ∃ n' s', ClashInv h' L (N + 1) nv (rY h (L + 2)) n' s' ∧ (∀ k, k ≤ N → n' k = n k) ∧ ∀ i, i < n N → s' i = s i := by
  obtain ⟨c1, c2, c3⟩ := hC
  have hN := hW.1
  have h12 := hW.2.1
  have hn := c1 N (Nat.le_refl _)
  generalize hY : rY h (L + 2) = Y at *
  have hpow : 2 ^ N ≤ 2048 := Nat.pow_le_pow_right (by omega) (by omega : N ≤ 11)
  have hpos : 0 < 2 ^ N := Nat.pow_pos (by omega)
  have hp1 : 2 ^ (N + 1) = 2 ^ N + 2 ^ N := by rw [Nat.pow_succ]; omega
  have hBB : BB (N + 1) ≤ 781 := BB_le (N + 1) h12
  have hBe : BB (N + 1) = BB N + qc (2 ^ N) := rfl
  have qmono : ∀ a b, a ≤ b → qc a ≤ qc b := by
    intro a b hab
    induction b with
    | zero => rw [show a = 0 by omega]; exact Nat.le_refl _
    | succ b ih =>
      rcases Nat.lt_or_ge a (b + 1) with q | q
      · rw [qc_succ]; have := ih (by omega); omega
      · rw [show a = b + 1 by omega]; exact Nat.le_refl _
  have hbl12 : ∀ b, b < 2 ^ (N + 1) → bl b 12 = bl b (N + 1) := fun b hb => by
    have := bl_big hb (12 - (N + 1))
    rwa [show N + 1 + (12 - (N + 1)) = 12 by omega] at this
  have hblo : ∀ o, o < 2 ^ N → bl o 12 = bl o N := fun b hb => by
    have := bl_big hb (12 - N)
    rwa [show N + (12 - N) = 12 by omega] at this
  unfold s_X1_extend
  rw [hN, li1, if_neg (nI_nlt (by omega) (by omega)), show nI (N + 1) - nI 1 = nI N from by rw [← li1]; exact nI_pred N, ldI_n (by omega) (by omega), hn.1, lt_red]
  have hshl : nI 1 <<< (nI N &&& 31) = nI (2 ^ N) := (by decide +kernel : ∀ N, N < 12 → nI 1 <<< (nI N &&& 31) = nI (2 ^ N)) N (by omega)
  rw [hshl]
  obtain ⟨e, he, hp⟩ := iter_fuel (f := fun z : Int32 × Int32 × Hp => s_X1_extend_l41 L z.1 (nI (2 ^ N)) z.2.1 z.2.2)
    (fun z => ∃ (k o : Nat) (H : Hp) (s' : Nat → Nat), z = (nI k, nI o, H) ∧ 1 ≤ o ∧ o ≤ 2 ^ N ∧ Fr [L + 1, L + 7, L + 8, L + 9] h H ∧ n N ≤ k ∧ k ≤ n N + qc o ∧ (∀ i, i < k → H.1 (L + 9) i = nI (s' i)) ∧ (∀ i, i < n N → s' i = s i) ∧ ∀ b, (b < 2 ^ N + o ∧ ¬ b = 2 ^ N ∧ Cls Y nv b) ↔ ∃ i, i < k ∧ s' i = b)
    (fun z => 2 ^ N - z.2.1.toNatClampNeg)
    (fun e => ∃ (k : Nat) (H : Hp) (s' : Nat → Nat), e = (nI k, H) ∧ Fr [L + 1, L + 7, L + 8, L + 9] h H ∧ n N ≤ k ∧ k ≤ n N + qc (2 ^ N) ∧ (∀ i, i < k → H.1 (L + 9) i = nI (s' i)) ∧ (∀ i, i < n N → s' i = s i) ∧ ∀ b, (b < 2 ^ N + 2 ^ N ∧ ¬ b = 2 ^ N ∧ Cls Y nv b) ↔ ∃ i, i < k ∧ s' i = b) (by
    rintro z ⟨k, o, H, s', rfl, ho1, ho2, hF, hk1, hk2, hs1, hs2, hs3⟩
    dsimp only
    unfold s_X1_extend_l41 s_X1_extend_b102
    by_cases q : o < 2 ^ N
    · rw [if_pos (nI_lt q (by omega)), bc_z (by omega)]
      show (∃ s', (if H.1 (L + 2) 5 < nI (bl o 12).length then _ else _) = _ ∧ _) ∨ _
      have hlen : (bl o 12).length ≤ 12 := by
        have := List.length_filter_le (fun i => o.testBit i) (List.range 12)
        rw [List.length_range] at this
        unfold bl; omega
      have hb : 2 ^ N + o < 2 ^ (N + 1) := by omega
      have hlb : (bl (2 ^ N + o) 12).length = (bl o 12).length + 1 := by rw [hbl12 _ hb, bl_top q, hblo o q]; simp
      have hqs := qc_succ o
      have hqm := qmono (o + 1) (2 ^ N) (by omega)
      -- how the list goes on
      have skip : ¬ Cls Y nv (2 ^ N + o) → ∀ b, (b < 2 ^ N + (o + 1) ∧ ¬ b = 2 ^ N ∧ Cls Y nv b) ↔ ∃ i, i < k ∧ s' i = b := fun hno b => by
        rw [← hs3 b]
        constructor
        · rintro ⟨z1, z2, z3⟩
          refine ⟨?_, z2, z3⟩
          rcases Nat.lt_or_ge b (2 ^ N + o) with w | w
          · exact w
          · exact absurd (show Cls Y nv (2 ^ N + o) by rw [show 2 ^ N + o = b by omega]; exact z3) hno
        · rintro ⟨z1, z2, z3⟩
          exact ⟨by omega, z2, z3⟩
      have mu : 2 ^ N - (nI (o + 1)).toNatClampNeg < 2 ^ N - (nI o).toNatClampNeg := by
        rw [nI_clamp (by omega), nI_clamp (by omega)]; omega
      rw [(hF (L + 2) (by simp)).1, hv]
      by_cases c : nv < (bl o 12).length
      · rw [if_pos (nI_lt c (by omega)), lt_red, nI_1]
        exact Or.inl ⟨_, rfl, ⟨k, o + 1, H, s', rfl, by omega, by omega, hF, hk1, by omega, hs1, hs2, skip (fun z => by have := z.1; omega)⟩, mu⟩
      · rw [if_neg (nI_nlt (by omega) (by omega))]
        have hk781 : k < 781 := by
          rw [if_pos ⟨ho1, by omega⟩] at hqs
          omega
        rw [if_pos (show nI k < 781 from nI_lt (b := 781) hk781 (by decide)), nI_or, show o ||| 2 ^ N = 2 ^ N + o from by
          have := Nat.two_pow_add_eq_or_of_lt q 1
          rw [Nat.mul_one] at this
          rw [this, Nat.or_comm]]
        have hWH : RowsWF H (L + 1 + 1) (N + 1) D := hW.fr hF (by simp) (by simp) (by simp) (by simp) (by simp)
        have hYH : rY H (L + 1 + 1) = Y := by rw [← hY]; exact rY_fr (R := L + 2) hF (by simp; try omega) (by simp; try omega) (by simp; try omega) (by simp; try omega)
        obtain ⟨r, H2, e1, gF, gp⟩ := examine_z (C := L + 1) hWH hD0 hD hb
        rw [hYH, ← hbl12 _ hb] at gp
        have gFF : Fr [L + 1, L + 7, L + 8, L + 9] h H2 := hF.tr (gF.wid (by simp; try omega))
        have g9 : H2.1 (L + 9) = H.1 (L + 9) := (gF (L + 9) (by simp)).1
        rw [e1]
        rcases gp with ⟨g, hg, rfl, -, -, gs, gst, gb⟩ | ⟨hg, rfl⟩
        · have hlT : (bl (2 ^ N + o) 12).length ≤ 4 := by omega
          have hsb := sm_bd (T := bl (2 ^ N + o) 12) (f := fun i => g i * Y.2.1 i) (B := 162000000000000) (fun i hi => by
            have hiN : i < N + 1 := by
              rw [hbl12 _ hb] at hi; exact (mem_bl.mp hi).1
            have hr := hW.2.2.2 i hiN
            have yd : Y.2.1 i = (h.2 (L + 2 + 2) i).toInt := by rw [← hY]; rfl
            exact mulb (A := 162) (B := 1000000000000) (gb i hi).1 (gb i hi).2 (by rw [yd]; omega) (by rw [yd]; omega))
          have hsb2 : -648000000000000 ≤ sm (bl (2 ^ N + o) 12) (fun i => g i * Y.2.1 i) ∧ sm (bl (2 ^ N + o) 12) (fun i => g i * Y.2.1 i) ≤ 648000000000000 := by
            have : ((bl (2 ^ N + o) 12).length : Int) ≤ 4 := by omega
            constructor <;> omega
          obtain ⟨r2, e2, g2⟩ := contradicts_z (h := H2) (C := L + 1) gs gst (by omega) (by omega)
          rw [bnd_s]
          dsimp only
          rw [if_neg (by decide), e2, bnd_s]
          try dsimp only
          have hcls : Cls Y nv (2 ^ N + o) ↔ (sm (bl (2 ^ N + o) 12) (fun i => g i * Y.2.1 i) < 0 ∨ sm (bl (2 ^ N + o) 12) (fun i => g i * Y.2.1 i) = 0 ∧ (bl (2 ^ N + o) 12).any Y.2.2.1 = true) := by
            unfold Cls Clash
            rw [hg]
            constructor
            · rintro ⟨-, g', eg, z⟩
              cases eg
              rcases z with z | ⟨z, i, hi, si⟩
              · exact Or.inl z
              · exact Or.inr ⟨z, List.any_eq_true.mpr ⟨i, hi, si⟩⟩
            · intro z
              refine ⟨by omega, g, rfl, ?_⟩
              rcases z with z | ⟨z, w⟩
              · exact Or.inl z
              · obtain ⟨i, hi, si⟩ := List.any_eq_true.mp w
                exact Or.inr ⟨z, i, hi, si⟩
          rcases g2 with ⟨rfl, z⟩ | ⟨rfl, z⟩
          · rw [if_neg (by decide), stI_n (by omega) (by omega), lt_red, lt_red, nI_1, nI_1]
            refine Or.inl ⟨_, rfl, ⟨k + 1, o + 1, _, fun i => if i = k then 2 ^ N + o else s' i, rfl, by omega, by omega, gFF.tr (Fr.sI (by simp)), by omega, by rw [if_pos ⟨ho1, by omega⟩] at hqs; omega, fun i hi => ?_, fun i hi => ?_, fun b => ?_⟩, mu⟩
            · by_cases w : i = k
              · subst w; rw [sI_same]; simp
              · rw [sI_ne w, g9]; simp only [w, if_false]; exact hs1 i (by omega)
            · have : ¬ i = k := by omega
              simp only [this, if_false]; exact hs2 i hi
            · constructor
              · rintro ⟨z1, z2, z3⟩
                rcases Nat.lt_or_ge b (2 ^ N + o) with w | w
                · obtain ⟨i, hi, rfl⟩ := (hs3 b).mp ⟨w, z2, z3⟩
                  have : ¬ i = k := by omega
                  exact ⟨i, by omega, by simp [this]⟩
                · exact ⟨k, by omega, by simp; omega⟩
              · rintro ⟨i, hi, rfl⟩
                by_cases w : i = k
                · subst w
                  simp only [if_true]
                  exact ⟨by omega, by omega, hcls.mpr z⟩
                · simp only [w, if_false]
                  obtain ⟨z1, z2, z3⟩ := (hs3 (s' i)).mpr ⟨i, by omega, rfl⟩
                  exact ⟨by omega, z2, z3⟩
          · rw [if_pos rfl, lt_red, nI_1]
            exact Or.inl ⟨_, rfl, ⟨k, o + 1, H2, s', rfl, by omega, by omega, gFF, hk1, by omega, by rw [g9]; exact hs1, hs2, skip (fun w => z (hcls.mp w))⟩, mu⟩
        · rw [bnd_s]
          dsimp only
          rw [if_pos rfl, lt_red, nI_1]
          refine Or.inl ⟨_, rfl, ⟨k, o + 1, H2, s', rfl, by omega, by omega, gFF, hk1, by omega, by rw [g9]; exact hs1, hs2, skip (fun w => ?_)⟩, mu⟩
          obtain ⟨-, g', eg, -⟩ := w
          rw [hg] at eg; cases eg
    · rw [if_neg (nI_nlt (by omega) (by omega))]
      have : o = 2 ^ N := by omega
      subst this
      exact Or.inr ⟨_, rfl, k, H, s', rfl, hF, hk1, hk2, hs1, hs2, hs3⟩)
    (nI (n N), nI 1, h) ⟨n N, 1, h, s, rfl, by omega, by omega, Fr.rf, Nat.le_refl _, by omega, c2, fun _ _ => rfl, fun b => by
      rw [← c3 N (Nat.le_refl _) b]
      constructor
      · rintro ⟨z1, z2, z3⟩; exact ⟨by omega, z3⟩
      · rintro ⟨z1, z3⟩; exact ⟨by omega, by omega, z3⟩⟩ (by dsimp only; rw [nI_clamp (by omega)]; omega)
  obtain ⟨k, H, s', rfl, hF, hk1, hk2, hs1, hs2, hs3⟩ := hp
  show ∃ h', (iter _ FUEL (nI (n N), nI 1, h)).bind _ = some h' ∧ _
  rw [he]
  show ∃ h', stI H (L + 10) 13 (H.1 (L + 2) 4) (nI k) _ = some h' ∧ _
  rw [(hF (L + 2) (by simp)).1, hN, stI_n (by omega) (by omega)]
  refine ⟨_, rfl, (hF.wid (by simp; try omega)).tr (Fr.sI (by simp)), fun j => if j = N + 1 then k else n j, s', ⟨fun j hj => ?_, fun i hi => ?_, fun j hj b => ?_⟩, fun j hj => if_neg (show ¬ j = N + 1 by omega), hs2⟩
  · by_cases w : j = N + 1
    · subst w
      rw [sI_same]; simp; omega
    · have hj2 := c1 j (by omega)
      rw [sI_ne w, (hF (L + 10) (by simp)).1]
      simp only [w, if_false, if_true]
      exact ⟨hj2.1, hj2.2.1, by omega⟩
  · simp only [if_true] at hi
    rw [sI_cell (by omega)]; exact hs1 i hi
  · by_cases w : j = N + 1
    · subst w
      simp only [if_true]
      rw [← hs3 b]
      constructor
      · rintro ⟨z1, z2⟩
        refine ⟨by omega, fun z => ?_, z2⟩
        subst z
        obtain ⟨-, g, hg, -⟩ := z2
        have e2 : bl (2 ^ N) 12 = [N] := by
          rw [hbl12 _ (by omega)]
          have := bl_top (N := N) (o := 0) hpos
          rw [Nat.add_zero] at this
          rw [this]; simp [bl]
        rw [e2] at hg
        cases hg
      · rintro ⟨z1, -, z3⟩; exact ⟨by omega, z3⟩
    · simp only [w, if_false]
      rw [c3 j (by omega) b]
      have hnj := (c1 j (by omega)).2.2
      constructor
      · rintro ⟨i, hi, rfl⟩; exact ⟨i, hi, hs2 i (by omega)⟩
      · rintro ⟨i, hi, rfl⟩; exact ⟨i, hi, (hs2 i (by omega)).symm⟩
