/-! sees, the whole: the interval, and whether it is empty -/
def SeesP (BA BE : Int) (h : Hp) (C : Nat) (L : List Rw) (r : Option Hp) : Prop := ∃ h', r = some h' ∧ Fr [C, C + 11, C + 12, C + 13, C + 14] h h' ∧ FrK C (15 :: iks) h h' ∧ WFI BA BE h' C ∧ (∀ t, inI h' C t ↔ ∃ y z, ∀ r ∈ L, sat r (p3 t y z)) ∧ (h'.1 C 28 = 0 ↔ ∃ t, inI h' C t)
theorem dec_of {x : Int32} (h : x = 0 ∨ x = 1) : (decide (x = 1) = false) ↔ x = 0 := by rcases h with h | h <;> subst h <;> decide
theorem sees_end {BA BE : Int} {h : Hp} {C : Nat} (hBE : BE * BA ≤ 4000000000000000000) (hW : WFI BA BE h C) : ∃ h', (if (h.1 C 20) = 0 then (some h)
  else (if (h.1 C 24) = 0 then (some h)
  else (lt (((h.2 C 25) * (h.2 C 22)) - ((h.2 C 21) * (h.2 C 26))) fun v1_26 =>
  if (h.1 C 28) = 0 then (if v1_26 < (0 : Int64) then (s_X10_sees_b243 C h)
  else (if v1_26 = (0 : Int64) then (if (h.1 C 23) = 0 then (if (h.1 C 27) = 0 then (s_X10_sees_b247 C h)
  else (s_X10_sees_b243 C h))
  else (s_X10_sees_b243 C h))
  else (s_X10_sees_b247 C h)))
  else (s_X10_sees_b243 C h)))) = some h' ∧ Fr [C] h h' ∧ FrK C iks h h' ∧ WFI BA BE h' C ∧ (∀ t, inI h' C t ↔ inI h C t) ∧ (h'.1 C 28 = 0 ↔ ∃ t, inI h' C t) := by
  have put : ∀ b : Bool, (b = false ↔ h.1 C 28 = 0 ∧ ∃ t, inI h C t) → ∃ h', s_X10_sees_b248 C (bI b) h = some h' ∧ Fr [C] h h' ∧ FrK C iks h h' ∧ WFI BA BE h' C ∧ (∀ t, inI h' C t ↔ inI h C t) ∧ (h'.1 C 28 = 0 ↔ ∃ t, inI h' C t) := by
    intro b hb
    unfold s_X10_sees_b248
    rw [ckB_b, lt_red]
    have hin : ∀ t, inI (sI h C 28 (bI b)) C t ↔ inI h C t := fun t => by
      have e : inI (sI h C 28 (bI b)) C t ↔ b = false ∧ lowS h C t ∧ highS h C t := by
        unfold inI lowS highS
        rw [sI_same, bI0q, sI_ne (by omega), sI_ne (by omega), sI_ne (by omega), sI_ne (by omega), sI_J]
      rw [e, hb]
      constructor
      · rintro ⟨⟨z, -⟩, z2⟩; exact ⟨z, z2⟩
      · intro z; exact ⟨⟨z.1, t, z⟩, z.2⟩
    refine ⟨_, rfl, Fr.sI (by simp), fun k hk => ⟨sI_ne (by simp [iks] at hk; omega), by rw [sI_J]⟩, ?_, hin, ?_⟩
    · unfold WFI hasE at *
      refine ⟨by simpa [sI] using hW.1, by simpa [sI] using hW.2.1, ?_⟩
      rw [sI_same]; cases b <;> simp [bI]
    · rw [sI_same, bI0q, hb]
      constructor
      · rintro ⟨-, t, z⟩; exact ⟨t, (hin t).mpr z⟩
      · rintro ⟨t, z⟩; exact ⟨((hin t).mp z).1, t, (hin t).mp z⟩
  obtain ⟨lo, hi, no⟩ := hW
  rcases lo with w | ⟨w, l1, l2, l3, l4, l5⟩
  · rw [if_pos w]
    refine ⟨h, rfl, Fr.rf, FrK.rf, ⟨Or.inl w, hi, no⟩, fun t => Iff.rfl, ?_⟩
    constructor
    · intro z
      rcases hi with u | ⟨u, l1, -⟩
      · exact ⟨0, z, fun q => absurd (w.symm.trans q) (by decide), fun q => absurd (u.symm.trans q) (by decide)⟩
      · obtain ⟨t, ht⟩ := up_ex l1 (h.2 C 25).toInt (decide (h.1 C 27 = 1))
        exact ⟨t, z, fun q => absurd (w.symm.trans q) (by decide), fun _ => ht⟩
    · rintro ⟨t, z⟩; exact z.1
  · rw [if_neg (by rw [w]; decide)]
    rcases hi with u | ⟨u, m1, m2, m3, m4, m5⟩
    · rw [if_pos u]
      refine ⟨h, rfl, Fr.rf, FrK.rf, ⟨Or.inr ⟨w, l1, l2, l3, l4, l5⟩, Or.inl u, no⟩, fun t => Iff.rfl, ?_⟩
      constructor
      · intro z
        obtain ⟨t, ht⟩ := up_ex l1 (-(h.2 C 21).toInt) (decide (h.1 C 23 = 1))
        exact ⟨-t, z, fun _ => by rw [show - -t = t by grind]; exact ht, fun q => absurd (u.symm.trans q) (by decide)⟩
      · rintro ⟨t, z⟩; exact z.1
    · rw [if_neg (by rw [u]; decide), lt_red]
      have k1 := mulb (A := BE) (B := BA) (a := (h.2 C 25).toInt) (b := (h.2 C 22).toInt) (by omega) (by omega) (by omega) (by omega)
      have k2 := mulb (A := BE) (B := BA) (a := (h.2 C 21).toInt) (b := (h.2 C 26).toInt) (by omega) (by omega) (by omega) (by omega)
      have e1 : (h.2 C 25 * h.2 C 22).toInt = (h.2 C 25).toInt * (h.2 C 22).toInt := mull_z (by omega) (by omega)
      have e2 : (h.2 C 21 * h.2 C 26).toInt = (h.2 C 21).toInt * (h.2 C 26).toInt := mull_z (by omega) (by omega)
      have e3 : (h.2 C 25 * h.2 C 22 - h.2 C 21 * h.2 C 26).toInt = (h.2 C 25).toInt * (h.2 C 22).toInt - (h.2 C 21).toInt * (h.2 C 26).toInt := by
        rw [subl_z (by rw [e1, e2]; omega) (by rw [e1, e2]; omega), e1, e2]
      have bx := both_ex (e := (h.2 C 21).toInt) (f := (h.2 C 25).toInt) l1 m1 (o1 := decide (h.1 C 23 = 1)) (o2 := decide (h.1 C 27 = 1))
      rw [dec_of l5, dec_of m5, ← e3] at bx
      have ix : (∃ t, inI h C t) ↔ h.1 C 28 = 0 ∧ ∃ t, UpS (h.2 C 22).toInt (-(h.2 C 21).toInt) (decide (h.1 C 23 = 1)) (-t) ∧ UpS (h.2 C 26).toInt (h.2 C 25).toInt (decide (h.1 C 27 = 1)) t := by
        unfold inI lowS highS
        rw [w, u]
        constructor
        · rintro ⟨t, z1, z2, z3⟩; exact ⟨z1, t, z2 rfl, z3 rfl⟩
        · rintro ⟨z1, t, z2, z3⟩; exact ⟨t, z1, fun _ => z2, fun _ => z3⟩
      rw [bx] at ix
      generalize h.2 C 25 * h.2 C 22 - h.2 C 21 * h.2 C 26 = v at *
      unfold s_X10_sees_b243 s_X10_sees_b247
      by_cases n : h.1 C 28 = 0
      · rw [if_pos n]
        by_cases a : v.toInt < 0
        · rw [if_pos (show v < (0 : Int64) from ltl_z.mpr a), one32]
          refine put true (Iff.intro (fun z => nomatch z) (fun z => ?_))
          have := ix.mp z.2; omega
        · rw [if_neg (fun z : v < (0 : Int64) => a (ltl_z.mp z))]
          by_cases b : v.toInt = 0
          · rw [if_pos (show v = (0 : Int64) from eql_z.mpr b)]
            by_cases c : h.1 C 23 = 0
            · rw [if_pos c]
              by_cases d : h.1 C 27 = 0
              · rw [if_pos d]
                exact put false ⟨fun _ => ⟨n, ix.mpr ⟨n, Or.inr ⟨b, c, d⟩⟩⟩, fun _ => rfl⟩
              · rw [if_neg d, one32]
                refine put true (Iff.intro (fun z => nomatch z) (fun z => ?_))
                rcases (ix.mp z.2).2 with y | y
                · omega
                · exact absurd y.2.2 d
            · rw [if_neg c, one32]
              refine put true (Iff.intro (fun z => nomatch z) (fun z => ?_))
              rcases (ix.mp z.2).2 with y | y
              · omega
              · exact absurd y.2.1 c
          · rw [if_neg (fun z : v = (0 : Int64) => b (eql_z.mp z))]
            exact put false ⟨fun _ => ⟨n, ix.mpr ⟨n, Or.inl (by omega)⟩⟩, fun _ => rfl⟩
      · rw [if_neg n, one32]
        exact put true (Iff.intro (fun z => nomatch z) (fun z => absurd z.1 n))
theorem sees_g {BA BE : Int} {h : Hp} {C : Nat} {L : List Rw} {A D A1 D1 : Int} (hAD : A * D ≤ 4000000000000000000) (hAA : A * A ≤ 4000000000000000000) (hA : A ≤ 4000000000000000000) (hAA1 : A1 * A1 ≤ 4000000000000000000) (hAD1 : A1 * D1 ≤ 4000000000000000000) (hA1 : A1 ≤ 4000000000000000000) (hBE : BE * BA ≤ 4000000000000000000) (hBA : BA ≤ 4000000000000000000) (hE : BE ≤ 4000000000000000000) (hL : RowL h C L) (hb : ∀ r ∈ L, RB A D r) (hb1 : ∀ r ∈ elim 2 L, RB A1 D1 r) (hG : ∀ r ∈ elim 1 (elim 2 L), RB BA BE r) : SeesP BA BE h C L (s_X10_sees C h) := by
  unfold s_X10_sees
  obtain ⟨h1, e1, f1, k1, fl1⟩ := withoutZ_z hL hAD hAA hA hb
  rw [e1, bnd_s, lt_red, lt_red, lt_red]
  generalize g4 : sI (sI (sI h1 C 20 0) C 24 0) C 28 0 = h4
  have F4 : Fr [C] h1 h4 := by subst g4; exact ((Fr.sI (by simp)).tr (Fr.sI (by simp))).tr (Fr.sI (by simp))
  have K4 : FrK C iks h1 h4 := fun k hk => by
    simp [iks] at hk
    subst g4
    exact ⟨by rw [sI_ne (by omega), sI_ne (by omega), sI_ne (by omega)], rfl⟩
  have v20 : h4.1 C 20 = 0 := by subst g4; rw [sI_ne (by omega), sI_ne (by omega), sI_same]
  have v24 : h4.1 C 24 = 0 := by subst g4; rw [sI_ne (by omega), sI_same]
  have v28 : h4.1 C 28 = 0 := by subst g4; rw [sI_same]
  obtain ⟨h5, e5, f5, k5, w5, t5⟩ := seesLoop (h := h4) (F := elim 2 L) hAA1 hAD1 hA1 hBE hBA hE (fl1.fr F4 K4 (by simp [iks]) (by simp) (by simp) (by simp) (by simp)) hb1 hG ⟨Or.inl v20, Or.inl v24, Or.inl v28⟩ (fun t => ⟨v28, fun q => absurd (v20.symm.trans q) (by decide), fun q => absurd (v24.symm.trans q) (by decide)⟩)
  rw [e5, bnd_s]
  obtain ⟨h6, e6, f6, k6, w6, t6, n6⟩ := sees_end hBE w5
  refine ⟨h6, e6, (f1.tr ((F4.tr (f5.tr f6)).wid (by simp))), ((k1.wid (by simp)).tr ((K4.tr (k5.tr k6)).wid (by simp))), w6, fun t => ?_, n6⟩
  rw [t6, t5, elim_ex]
theorem sees_z {h : Hp} {C : Nat} {L : List Rw} (hL : RowL h C L) (hb : ∀ r ∈ L, RB 18 150 r) : SeesP 839808 6998400 h C L (s_X10_sees C h) := by
  have b1 := elim_bd (A := 18) (D := 150) (A' := 648) (D' := 5400) (by omega) (by omega) (by omega) (by omega) (v := 2) (by omega) hb
  have b2 := elim_bd (A := 648) (D := 5400) (A' := 839808) (D' := 6998400) (by omega) (by omega) (by omega) (by omega) (v := 1) (by omega) b1
  exact sees_g (A := 18) (D := 150) (A1 := 648) (D1 := 5400) (by omega) (by omega) (by omega) (by omega) (by omega) (by omega) (by omega) (by omega) (by omega) hL hb b1 b2
theorem sees_3 {h : Hp} {C : Nat} {L : List Rw} (hL : RowL h C L) (hb : ∀ r ∈ L, RB 3 50 r) : SeesP 648 10800 h C L (s_X10_sees C h) := by
  have b1 := elim_bd (A := 3) (D := 50) (A' := 18) (D' := 300) (by omega) (by omega) (by omega) (by omega) (v := 2) (by omega) hb
  have b2 := elim_bd (A := 18) (D := 300) (A' := 648) (D' := 10800) (by omega) (by omega) (by omega) (by omega) (v := 1) (by omega) b1
  exact sees_g (A := 3) (D := 50) (A1 := 18) (D1 := 300) (by omega) (by omega) (by omega) (by omega) (by omega) (by omega) (by omega) (by omega) (by omega) hL hb b1 b2
