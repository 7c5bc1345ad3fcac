/-! the whole text, read by both -/
def DX (a b : Hp) : Prop := ∃ nv nf m, DR nv nf m a b
theorem IE.mono {t : Nat → Int32} {n s : Nat} {D D' : Hp → Hp → Prop} {Hc Hm : Hp} {x y : Option (Int32 × Hp)} (h : IE t n s D Hc Hm x y) (hD : ∀ a b, D a b → D' a b) : IE t n s D' Hc Hm x y := by
  obtain ⟨b', Hc', Hm', e1, e2, e3, e4, e5, e6⟩ := h
  refine ⟨b', Hc', Hm', e1, e2, e3, e4, fun w => ?_, e6⟩
  obtain ⟨s', u1, u2, u3⟩ := e5 w
  exact ⟨s', u1, u2, hD _ _ u3⟩
theorem b114_z {x : Option (Int32 × Hp)} {k : Nat} {b : Bool} {H : Hp} (e : x = some (bI b, H)) : (x.bind fun y => s_X6_read_b114 27 7 (nI k) y.1 y.2) = some (.inl (nI (k + 1), bI b, H)) := by
  rw [e, bnd_s]
  unfold s_X6_read_b114
  rw [lt_red, nI_1]
theorem b112_z {k : Nat} {H : Hp} : s_X6_read_b112 27 7 (nI k) H = some (.inl (nI (k + 1), bI false, H)) := by
  unfold s_X6_read_b112 s_X6_read_b114
  rw [lt_red, nI_1]
  rfl
set_option maxHeartbeats 1000000 in
/-- one item -/
theorem item_z {t : Nat → Int32} {n s nv nf m k : Nat} {Hc Hm : Hp} (hG : TG t n) (hS : SY t n Hc Hm s) (hs : s < n) (hk : k ≤ s) (hD : DR nv nf m Hc Hm) (h0 : k = 0 → nf = 0 ∧ m = 0) : ∃ (b : Bool) (Hc' Hm' : Hp), s_X6_read_l17 27 7 (nI k) 1 Hc = some (.inl (nI (k + 1), bI b, Hc')) ∧ s_X10_readsItem 66 (nI k) Hm = some (bI b, Hm') ∧ FIc Hc Hc' ∧ FIm Hm Hm' ∧ (b = true → ∃ s', s < s' ∧ SY t n Hc' Hm' s' ∧ DX Hc' Hm') ∧ (b = false → FLz n Hc' Hm') := by
  have n90 := hG.1
  obtain ⟨H1, e1, f1, m1, S1⟩ := look_z hG hS
  have D1 := hD.fc FC.rf f1
  obtain ⟨k110, -⟩ := tk_char hG S1.2.2.1 tkn110
  obtain ⟨k102, -⟩ := tk_char hG S1.2.2.1 tkn102
  obtain ⟨k98, -⟩ := tk_char hG S1.2.2.1 tkn98
  have fl : FLz n Hc H1 := ⟨s, S1.2.2.1.2.1, S1.2.2.1.1, m1⟩
  have ne2 : ¬ Hc.1 27 2 = -2 := fun w => by have := (tk_end hG S1.2.2.1).mp w; omega
  have hk90 : nI k < (90 : Int32) := nI_lt (b := 90) (by omega) (by omega)
  have cls : s_X6_read_l17 27 7 (nI k) 1 Hc = (if (Hc.1 27 2) = (110 : Int32) then (if nI k = 0 then ((s_X6_readVariables 27 7 Hc).bind fun y4 => s_X6_read_b114 27 7 (nI k) y4.1 y4.2) else (s_X6_read_b58 27 7 (nI k) Hc)) else (s_X6_read_b58 27 7 (nI k) Hc)) := by
    unfold s_X6_read_l17
    rw [if_pos hk90, if_neg ne2, if_neg (show ¬ ((1 : Int32) = 0) by decide)]
  have mdl : s_X10_readsItem 66 (nI k) Hm = (if t s = (110 : Int32) then ((s_X10_readsVariables 66 (nI k) H1).bind fun y2 => ckB y2.1 <| some (y2.1, y2.2)) else (if t s = (102 : Int32) then ((s_X10_readsForm 66 H1).bind fun y3 => ckB y3.1 <| some (y3.1, y3.2)) else (if t s = (98 : Int32) then ((s_X10_readsBound 66 H1).bind fun y4 => if y4.1 = 0 then (some ((0 : Int32), y4.2)) else (some ((1 : Int32), y4.2))) else (some ((0 : Int32), H1))))) := by
    unfold s_X10_readsItem
    rw [e1, bnd_s, if_pos hs]
  have bad : s_X6_read_l17 27 7 (nI k) 1 Hc = some (.inl (nI (k + 1), bI false, Hc)) → s_X10_readsItem 66 (nI k) Hm = some (0, H1) → ∃ (b : Bool) (Hc' Hm' : Hp), s_X6_read_l17 27 7 (nI k) 1 Hc = some (.inl (nI (k + 1), bI b, Hc')) ∧ s_X10_readsItem 66 (nI k) Hm = some (bI b, Hm') ∧ FIc Hc Hc' ∧ FIm Hm Hm' ∧ (b = true → ∃ s', s < s' ∧ SY t n Hc' Hm' s' ∧ DX Hc' Hm') ∧ (b = false → FLz n Hc' Hm') := fun q1 q2 => ⟨false, Hc, H1, q1, q2, FIc.rf, f1.i, fun w => (by cases w), fun _ => fl⟩
  by_cases c1 : t s = 110
  · have kk : Hc.1 27 2 = 110 := k110.mpr ⟨hs, c1⟩
    rw [if_pos kk] at cls
    rw [if_pos c1] at mdl
    by_cases k0 : k = 0
    · subst k0
      obtain ⟨rfl, rfl⟩ := h0 rfl
      obtain ⟨b', Hc', Hm', i1, i2, i3, i4, i5, i6⟩ := (readVariables_z hG S1 m1 ⟨hs, c1⟩ D1).mono (D' := DX) (fun a b ⟨nv', d⟩ => ⟨nv', 0, 0, d⟩)
      rw [if_pos (show nI 0 = (0 : Int32) by decide), b114_z i1] at cls
      rw [show nI 0 = (0 : Int32) by decide] at mdl ⊢
      rw [i2, bnd_s] at mdl
      dsimp only at mdl
      rw [ckB_b] at mdl
      rw [show nI 0 = (0 : Int32) by decide] at cls
      exact ⟨b', Hc', Hm', cls, mdl, i3, f1.i.tr i4, i5, i6⟩
    · have n0 : ¬ nI k = 0 := fun w => by
        have := eq_z.mp w
        rw [nI_z (by omega), show (0 : Int32).toInt = 0 from by decide] at this
        omega
      have p0 : (0 : Int32) < nI k := nI_lt (a := 0) (by omega) (by omega)
      refine bad ?_ ?_
      · rw [cls, if_neg n0]
        unfold s_X6_read_b58 s_X6_read_b85
        rw [kk, if_neg (by decide), if_neg (by decide), b112_z]
      · rw [mdl]
        unfold s_X10_readsVariables
        rw [if_pos p0, bnd_s]
        dsimp only
        rw [show (0 : Int32) = bI false from rfl, ckB_b]
  have k1n : ¬ Hc.1 27 2 = 110 := fun w => c1 (k110.mp w).2
  rw [if_neg k1n] at cls
  rw [if_neg c1] at mdl
  unfold s_X6_read_b58 at cls
  by_cases c2 : t s = 102
  · have kk : Hc.1 27 2 = 102 := k102.mpr ⟨hs, c2⟩
    rw [if_pos kk, D1.2.1.1] at cls
    rw [if_pos c2] at mdl
    by_cases n8 : nf < 8
    · rw [if_pos (show nI nf < (8 : Int32) from nI_lt (b := 8) n8 (by omega))] at cls
      obtain ⟨b', Hc', Hm', i1, i2, i3, i4, i5, i6⟩ := (readForm_z hG S1 m1 ⟨hs, c2⟩ D1 n8).mono (D' := DX) (fun a b d => ⟨_, _, _, d⟩)
      rw [b114_z i1] at cls
      rw [i2, bnd_s] at mdl
      dsimp only at mdl
      rw [ckB_b] at mdl
      exact ⟨b', Hc', Hm', cls, mdl, i3, f1.i.tr i4, i5, i6⟩
    · have e8 : nf = 8 := by have := D1.2.1.2.2.1; omega
      subst e8
      refine bad ?_ ?_
      · rw [cls, if_neg (by decide)]
        unfold s_X6_read_b85
        rw [kk, if_neg (by decide), b112_z]
      · rw [mdl]
        unfold s_X10_readsForm
        rw [D1.2.1.2.1, if_pos (show nI 8 = (8 : Int32) by decide), bnd_s]
        dsimp only
        rw [show (0 : Int32) = bI false from rfl, ckB_b]
  have k2n : ¬ Hc.1 27 2 = 102 := fun w => c2 (k102.mp w).2
  rw [if_neg k2n] at cls
  rw [if_neg c2] at mdl
  unfold s_X6_read_b85 at cls
  by_cases c3 : t s = 98
  · have kk : Hc.1 27 2 = 98 := k98.mpr ⟨hs, c3⟩
    rw [if_pos kk, D1.2.2.2.1.1] at cls
    rw [if_pos c3] at mdl
    by_cases m10 : m < 10
    · rw [if_pos (show nI m < (10 : Int32) from nI_lt (b := 10) m10 (by omega))] at cls
      obtain ⟨b', Hc', Hm', i1, i2, i3, i4, i5, i6⟩ := (readConstraint_z hG S1 m1 ⟨hs, c3⟩ D1 m10).mono (D' := DX) (fun a b d => ⟨_, _, _, d⟩)
      rw [b114_z i1] at cls
      rw [i2, bnd_s] at mdl
      dsimp only at mdl
      have mdl2 : s_X10_readsItem 66 (nI k) Hm = some (bI b', Hm') := by
        rw [mdl]
        cases b'
        · rw [if_pos (show bI false = 0 from rfl)]; rfl
        · rw [if_neg (show ¬ (bI true = 0) by decide)]; rfl
      exact ⟨b', Hc', Hm', cls, mdl2, i3, f1.i.tr i4, i5, i6⟩
    · have e10 : m = 10 := by have := D1.2.2.2.1.2.2.1; omega
      subst e10
      refine bad ?_ ?_
      · rw [cls, if_neg (by decide), b112_z]
      · rw [mdl]
        unfold s_X10_readsBound
        rw [D1.2.2.2.1.2.1, if_pos (show nI 10 = (10 : Int32) by decide), bnd_s]
        dsimp only
        rw [if_pos rfl]
  · have k3n : ¬ Hc.1 27 2 = 98 := fun w => c3 (k98.mp w).2
    exact bad (by rw [cls, if_neg k3n, b112_z]) (by rw [mdl, if_neg c3])
/-- how the reading ends -/
def EndR (n : Nat) (Hc0 Hm0 : Hp) : Int32 × Int32 × Hp → (Int32 × Hp) ⊕ (Int32 × Hp) → Prop
  | (a2, a3, Hc), .inl (x, Hm) => a3 = 1 ∧ (∃ k, k ≤ 90 ∧ a2 = nI k ∧ x = nI k) ∧ DX Hc Hm ∧ FIc Hc0 Hc ∧ FIm Hm0 Hm
  | (_, a3, Hc), .inr (r, Hm) => a3 = 0 ∧ (∃ s, s ≤ n ∧ Hc.1 27 3 = nI s ∧ r = -10 - nI s) ∧ FIc Hc0 Hc ∧ FIm Hm0 Hm
set_option maxHeartbeats 1000000 in
theorem loop_z {t : Nat → Int32} {n s0 nv0 : Nat} {Hc0 Hm0 : Hp} (hG : TG t n) (hS0 : SY t n Hc0 Hm0 s0) (hD0 : DR nv0 0 0 Hc0 Hm0) : ∃ r r', iter (fun z : Int32 × Int32 × Hp => s_X6_read_l17 27 7 z.1 z.2.1 z.2.2) FUEL ((0 : Int32), (1 : Int32), Hc0) = some r ∧ iter (fun z : Int32 × Hp => s_X10_tells_l22 66 z.1 z.2) FUEL ((0 : Int32), Hm0) = some r' ∧ EndR n Hc0 Hm0 r r' := by
  have n90 := hG.1
  have fu := FUEL_ge
  refine iter2 (f := fun z : Int32 × Int32 × Hp => s_X6_read_l17 27 7 z.1 z.2.1 z.2.2) (g := fun z : Int32 × Hp => s_X10_tells_l22 66 z.1 z.2)
    (fun z z' => ∃ s k nv nf m, z.1 = nI k ∧ z.2.1 = 1 ∧ z'.1 = nI k ∧ k ≤ s ∧ SY t n z.2.2 z'.2 s ∧ DR nv nf m z.2.2 z'.2 ∧ (k = 0 → nf = 0 ∧ m = 0) ∧ FIc Hc0 z.2.2 ∧ FIm Hm0 z'.2)
    (fun z => n - (z.2.2.1 27 3).toInt.toNat) (EndR n Hc0 Hm0) ?_ FUEL FUEL _ _ ⟨s0, 0, nv0, 0, 0, rfl, rfl, rfl, Nat.zero_le _, hS0, hD0, fun _ => ⟨rfl, rfl⟩, FIc.rf, FIm.rf⟩ (by dsimp only; omega) (by dsimp only; omega)
  rintro ⟨x2, x3, Hc⟩ ⟨y3, Hm⟩ ⟨s, k, nv, nf, m, z1, z2, z3, z4, z5, z6, z7, z8, z9⟩
  dsimp only at z1 z2 z3 z5 z6 z8 z9
  subst z1 z2 z3
  obtain ⟨H1, e1, f1, m1, S1⟩ := look_z hG z5
  have sn := z5.2.2.1.2.1
  by_cases q : s < n
  · obtain ⟨b, Hc', Hm', i1, i2, i3, i4, i5, i6⟩ := item_z hG S1 q z4 (z6.fc FC.rf f1) z7
    have ts0 := (hG.2 s q).1
    have n9 : ¬ t s = -9 := fun w => by rw [w] at ts0; exact absurd ts0 (by decide)
    have mdl : s_X10_tells_l22 66 (nI k) Hm = (if bI b = 0 then (some (.inr (.inr (((-10 : Int32) - (Hm'.1 66 44)), Hm')))) else some (.inl (nI (k + 1), Hm'))) := by
      unfold s_X10_tells_l22
      rw [e1, bnd_s, if_pos q]
      dsimp only
      rw [if_neg n9, i2, bnd_s]
      dsimp only
      rw [lt_red, nI_1]
    have Fc' := z8.tr i3
    have Fm' := (z9.tr f1.i).tr i4
    cases b
    · obtain ⟨s', u1, u2, u3⟩ := i6 rfl
      rw [if_pos (show bI false = 0 from rfl), u3] at mdl
      refine Or.inr ⟨(nI (k + 1), 0, Hc'), .inr (-10 - nI s', Hm'), fun j => ?_, fun j => iter_out mdl (j + 2), rfl, ⟨s', u1, u2, rfl⟩, Fc', Fm'⟩
      rw [iter_go (s' := (nI (k + 1), bI false, Hc')) i1 (j + 2)]
      refine iter_out ?_ (j + 1)
      show s_X6_read_l17 27 7 (nI (k + 1)) 0 Hc' = _
      unfold s_X6_read_l17
      split
      · split
        · rfl
        · rw [if_pos rfl]
      · rfl
    · obtain ⟨s', u1, u2, nv', nf', m', u3⟩ := i5 rfl
      rw [if_neg (show ¬ (bI true = 0) by decide)] at mdl
      refine Or.inl ⟨(nI (k + 1), 1, Hc'), (nI (k + 1), Hm'), i1, mdl, ⟨s', k + 1, nv', nf', m', rfl, rfl, rfl, by omega, u2, u3, fun w => by omega, Fc', Fm'⟩, ?_⟩
      have sn' := u2.2.2.1.2.1
      dsimp only
      rw [u2.2.2.1.1, z5.2.2.1.1, nI_z (by omega), nI_z (by omega)]
      omega
  · have es : s = n := by omega
    have kd := (tk_end hG z5.2.2.1).mpr es
    have cls : s_X6_read_l17 27 7 (nI k) 1 Hc = some (.inr (nI k, 1, Hc)) := by
      unfold s_X6_read_l17
      by_cases c : nI k < (90 : Int32)
      · rw [if_pos c, if_pos kd]
      · rw [if_neg c]
    have mdl : s_X10_tells_l22 66 (nI k) Hm = some (.inr (.inl (nI k, H1))) := by
      unfold s_X10_tells_l22
      rw [e1, bnd_s, if_neg q]
      dsimp only
      rw [if_pos rfl]
    exact Or.inr ⟨(nI k, 1, Hc), .inl (nI k, H1), fun j => iter_out cls (j + 2), fun j => iter_out mdl (j + 2), rfl, ⟨k, by omega, rfl, rfl⟩, ⟨nv, nf, m, z6.fc FC.rf f1⟩, z8, z9.tr f1.i⟩
