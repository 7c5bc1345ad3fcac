/-! one item of the text, read by both -/
def DR (nv nf m : Nat) (Hc Hm : Hp) : Prop :=
  (Hc.1 7 0 = nI nv ∧ Hm.1 66 46 = nI nv ∧ 1 ≤ nv ∧ nv ≤ 3) ∧
  (Hc.1 7 1 = nI nf ∧ Hm.1 66 47 = nI nf ∧ nf ≤ 8 ∧ ∀ j, j < 3 * nf → Hc.1 8 j = Hm.1 90 j) ∧
  (∀ g, g < nf → (∃ v, v < 3 ∧ (Hm.1 90 (3 * g + v)).toInt ≠ 0) ∧ (∀ v, nv ≤ v → v < 3 → (Hm.1 90 (3 * g + v)).toInt = 0) ∧ ∀ v, v < 3 → -3 ≤ (Hm.1 90 (3 * g + v)).toInt ∧ (Hm.1 90 (3 * g + v)).toInt ≤ 3) ∧
  (Hc.1 7 2 = nI m ∧ Hm.1 66 49 = nI m ∧ m ≤ 10 ∧ ∀ k, k < m → (Hc.1 9 k = Hm.1 91 (3 * k) ∧ Hc.1 10 k = Hm.1 91 (3 * k + 1) ∧ Hc.1 11 k = Hm.1 91 (3 * k + 2)) ∧ ∃ (g s : Nat) (d : Int), Hm.1 91 (3 * k) = nI g ∧ g < nf ∧ Hm.1 91 (3 * k + 1) = nI s ∧ s ≤ 4 ∧ Hm.1 91 (3 * k + 2) = i32 d ∧ -50 ≤ d ∧ d ≤ 50) ∧
  Hc.1 7 3 = nI 0
theorem DR.cg {nv nf m : Nat} {Hc Hm Hc' Hm' : Hp} (h : DR nv nf m Hc Hm) (c7 : ∀ k, k < 4 → Hc'.1 7 k = Hc.1 7 k) (c8 : ∀ j, j < 3 * nf → Hc'.1 8 j = Hc.1 8 j) (c9 : ∀ k, k < m → Hc'.1 9 k = Hc.1 9 k ∧ Hc'.1 10 k = Hc.1 10 k ∧ Hc'.1 11 k = Hc.1 11 k) (m6 : Hm'.1 66 46 = Hm.1 66 46 ∧ Hm'.1 66 47 = Hm.1 66 47 ∧ Hm'.1 66 49 = Hm.1 66 49) (m90 : ∀ j, j < 3 * nf → Hm'.1 90 j = Hm.1 90 j) (m91 : ∀ j, j < 3 * m → Hm'.1 91 j = Hm.1 91 j) : DR nv nf m Hc' Hm' := by
  obtain ⟨⟨a1, a2, a3⟩, ⟨b1, b2, b3, b4⟩, c, ⟨d1, d2, d3, d4⟩, e⟩ := h
  refine ⟨⟨by rw [c7 0 (by omega)]; exact a1, by rw [m6.1]; exact a2, a3⟩, ⟨by rw [c7 1 (by omega)]; exact b1, by rw [m6.2.1]; exact b2, b3, fun j hj => by rw [c8 j hj, m90 j hj]; exact b4 j hj⟩, fun g hg => ?_, ⟨by rw [c7 2 (by omega)]; exact d1, by rw [m6.2.2]; exact d2, d3, fun k hk => ?_⟩, by rw [c7 3 (by omega)]; exact e⟩
  · obtain ⟨⟨v, w1, w2⟩, w3, w4⟩ := c g hg
    exact ⟨⟨v, w1, by rw [m90 _ (by omega)]; exact w2⟩, fun v h1 h2 => by rw [m90 _ (by omega)]; exact w3 v h1 h2, fun v hv => by rw [m90 _ (by omega)]; exact w4 v hv⟩
  · rw [(c9 k hk).1, (c9 k hk).2.1, (c9 k hk).2.2, m91 _ (by omega), m91 _ (by omega), m91 _ (by omega)]
    exact d4 k hk
/-- what an item may change -/
def FIc (H H' : Hp) : Prop := Fr [7, 8, 9, 10, 11, 27, 29] H H' ∧ FrK 27 [2, 3, 4, 5] H H'
def FIm (H H' : Hp) : Prop := Fr [66, 90, 91] H H' ∧ FrK 66 [44, 45, 46, 47, 49] H H'
theorem FIc.tr {a b c : Hp} (x : FIc a b) (y : FIc b c) : FIc a c := ⟨x.1.tr y.1, x.2.tr y.2⟩
theorem FIm.tr {a b c : Hp} (x : FIm a b) (y : FIm b c) : FIm a c := ⟨x.1.tr y.1, x.2.tr y.2⟩
theorem FIc.rf {a : Hp} : FIc a a := ⟨Fr.rf, FrK.rf⟩
theorem FIm.rf {a : Hp} : FIm a a := ⟨Fr.rf, FrK.rf⟩
theorem FTc.i {a b : Hp} (x : FTc a b) : FIc a b := ⟨x.1.wid (by simp), x.2⟩
theorem FTm.i {nf : Nat} {a b : Hp} (x : FTm nf a b) : FIm a b := ⟨x.1.wid (by simp), x.2.1.wid (by simp)⟩
theorem FM.i {a b : Hp} (x : FM a b) : FIm a b := FTm.i (nf := 0) x.t
theorem DR.ft {nv nf m : Nat} {Hc Hm Hc' Hm' : Hp} (h : DR nv nf m Hc Hm) (a : FTc Hc Hc') (b : FTm nf Hm Hm') : DR nv nf m Hc' Hm' := h.cg (fun k _ => by rw [(a.1 7 (by simp)).1]) (fun j _ => by rw [(a.1 8 (by simp)).1]) (fun k _ => ⟨by rw [(a.1 9 (by simp)).1], by rw [(a.1 10 (by simp)).1], by rw [(a.1 11 (by simp)).1]⟩) ⟨(b.2.1 46 (by simp)).1, (b.2.1 47 (by simp)).1, (b.2.1 49 (by simp)).1⟩ b.2.2 (fun j _ => by rw [(b.1 91 (by simp)).1])
def IE (t : Nat → Int32) (n s : Nat) (D : Hp → Hp → Prop) (Hc Hm : Hp) (x y : Option (Int32 × Hp)) : Prop := ∃ (b : Bool) (Hc' Hm' : Hp), x = some (bI b, Hc') ∧ y = some (bI b, Hm') ∧ FIc Hc Hc' ∧ FIm Hm Hm' ∧ (b = true → ∃ s', s < s' ∧ SY t n Hc' Hm' s' ∧ D Hc' Hm') ∧ (b = false → FLz n Hc' Hm')
theorem IE.bad {t : Nat → Int32} {n s : Nat} {D : Hp → Hp → Prop} {Hc Hm Hc' Hm' : Hp} (a : FIc Hc Hc') (b : FIm Hm Hm') (h : FLz n Hc' Hm') : IE t n s D Hc Hm (some (0, Hc')) (some (0, Hm')) := ⟨false, Hc', Hm', rfl, rfl, a, b, fun w => (by cases w), fun _ => h⟩
theorem zero29 (H : Hp) : ∃ H', iter (fun z : Int32 × Hp => s_X6_readForm_l6 27 7 z.1 z.2) FUEL ((0 : Int32), H) = some H' ∧ Fr [29] H H' ∧ ∀ v, v < 3 → H'.1 29 v = 0 := by
  obtain ⟨H', he, h1, h2⟩ := iter_fuel (f := fun z : Int32 × Hp => s_X6_readForm_l6 27 7 z.1 z.2)
    (fun z => ∃ (k : Nat) (H2 : Hp), z = (nI k, H2) ∧ k ≤ 3 ∧ Fr [29] H H2 ∧ ∀ v, v < k → H2.1 29 v = 0)
    (fun z => 40 - z.1.toNatClampNeg)
    (fun H2 => Fr [29] H H2 ∧ ∀ v, v < 3 → H2.1 29 v = 0) (by
      rintro z ⟨k, H2, rfl, h3, h4, h5⟩
      dsimp only
      unfold s_X6_readForm_l6
      by_cases c : k < 3
      · rw [if_pos (show nI k < (3 : Int32) from nI_lt (b := 3) c (by omega)), stI_n c (by omega), lt_red, nI_1]
        refine Or.inl ⟨_, rfl, ⟨k + 1, _, rfl, by omega, h4.tr (Fr.sI (by simp)), fun v hv => ?_⟩, by dsimp only; rw [nI_clamp (by omega), nI_clamp (by omega)]; omega⟩
        rcases (show v < k ∨ v = k by omega) with w | rfl
        · rw [sI_ne (by omega)]; exact h5 v w
        · exact sI_same _ _ _ _
      · rw [if_neg (show ¬ nI k < (3 : Int32) from nI_nlt (b := 3) (by omega) (by omega))]
        exact Or.inr ⟨_, rfl, h4, fun v hv => h5 v (by omega)⟩)
    ((0 : Int32), H) ⟨0, H, rfl, by omega, Fr.rf, fun v hv => by omega⟩ (by dsimp only; omega)
  exact ⟨H', he, h1, h2⟩
/-- what stands at the end of a form -/
theorem formend_z {t : Nat → Int32} {n s nv nf m : Nat} {Hc Hm : Hp} (hG : TG t n) (hS : SY t n Hc Hm s) (hP : TP nv nf Hc Hm) (hA : AC nv nf Hc Hm) (hD : DR nv nf m Hc Hm) : IE t n s (DR nv (nf + 1) m) Hc Hm
    (if (Hc.1 27 2) = (59 : Int32) then (ldI Hc (27 + 2) 3 (0 : Int32) fun x9 => ldI Hc (27 + 2) 3 (1 : Int32) fun x10 => ldI Hc (27 + 2) 3 (2 : Int32) fun x11 => (s_X5_allowsForm 7 x9 x10 x11 Hc).bind fun y12 => if y12 = 0 then (some ((0 : Int32), Hc)) else (ldI Hc (27 + 2) 3 (0 : Int32) fun x13 => ldI Hc (27 + 2) 3 (1 : Int32) fun x14 => ldI Hc (27 + 2) 3 (2 : Int32) fun x15 => (s_X5_addForm 7 x13 x14 x15 Hc).bind fun y16 => (s_X6_readSemicolon 27 y16.2).bind fun y17 => ckB y17.1 <| some (y17.1, y17.2))) else (some ((0 : Int32), Hc)))
    ((s_X10_here 66 Hm).bind fun y15 => if y15.1 = (59 : Int32) then (ldI y15.2 (66 + 24) 24 (nI (3 * nf)) fun x16 => (s_X10_in x16 (-3 : Int32) (3 : Int32) y15.2).bind fun y17 => if y17 = 0 then (s_X10_readsForm_b226 66 (nI (3 * nf)) y15.2) else (ldI y15.2 (66 + 24) 24 (nI (3 * nf) + (1 : Int32)) fun x23 => (s_X10_in x23 (-3 : Int32) (3 : Int32) y15.2).bind fun y24 => if y24 = 0 then (s_X10_readsForm_b226 66 (nI (3 * nf)) y15.2) else (ldI y15.2 (66 + 24) 24 (nI (3 * nf) + (2 : Int32)) fun x25 => (s_X10_in x25 (-3 : Int32) (3 : Int32) y15.2).bind fun y26 => if y26 = 0 then (s_X10_readsForm_b226 66 (nI (3 * nf)) y15.2) else (s_X10_readsForm_b227 66 (nI (3 * nf)) (1 : Int32) y15.2)))) else (some ((0 : Int32), y15.2))) := by
  obtain ⟨H1, e1, f1, m1, S1⟩ := look_z hG hS
  have P1 := hP.fr FTc.rf f1.t
  have A1 := hA.fr FC.rf f1
  have D1 := hD.ft FTc.rf f1.t
  obtain ⟨a, b, c, -⟩ := S1
  obtain ⟨k1, k2⟩ := tk_char hG c tkn59
  have sn := c.2.1
  have n90 := hG.1
  have nf8 := P1.2.2.2.2
  have fl : FLz n Hc H1 := ⟨s, sn, c.1, m1⟩
  rw [e1, bnd_s]
  dsimp only
  by_cases q : s < n ∧ t s = 59
  rotate_left
  · rw [if_neg (fun w => q (k1.mp w)), if_neg (fun w => q ((lk_char tkn59).mp w))]
    exact IE.bad FIc.rf f1.i fl
  rw [if_pos (k1.mpr q), if_pos ((lk_char tkn59).mpr q)]
  have a0 := A1.1 0 (by omega)
  have a1 := A1.1 1 (by omega)
  have a2 := A1.1 2 (by omega)
  rw [show (27 + 2 : Nat) = 29 from rfl, show (66 + 24 : Nat) = 90 from rfl, show nI (3 * nf) + 1 = nI (3 * nf + 1) from nI_1 _, show nI (3 * nf) + 2 = nI (3 * nf + 2) from by rw [li2, nI_add]]
  simp only [show ∀ (β : Type) (k : Int32 → Option β), ldI Hc 29 3 0 k = k (Hc.1 29 0) from fun β k => ldI_z (j := 0) (by decide) (by omega), show ∀ (β : Type) (k : Int32 → Option β), ldI Hc 29 3 1 k = k (Hc.1 29 1) from fun β k => ldI_z (j := 1) (by decide) (by omega), show ∀ (β : Type) (k : Int32 → Option β), ldI Hc 29 3 2 k = k (Hc.1 29 2) from fun β k => ldI_z (j := 2) (by decide) (by omega)]
  rw [ldI_n (by omega) (by omega), in_z, bnd_s]
  generalize gx : Hc.1 29 0 = x at *
  generalize gy : Hc.1 29 1 = y at *
  generalize gz : Hc.1 29 2 = z at *
  rw [← show x = H1.1 90 (3 * nf) from a0]
  have z3 : (-3 : Int32).toInt = -3 := by decide
  have z3' : (3 : Int32).toInt = 3 := by decide
  simp only [z3, z3']
  have h7 := P1.1
  have nv3 := P1.2.2.1.2
  have ok0 : okC nv 0 x = decide (-3 ≤ x.toInt ∧ x.toInt ≤ 3) := by
    unfold okC
    rw [decide_eq_decide]
    exact ⟨fun w => w.1, fun w => ⟨w, Or.inr (by have := P1.2.2.1.1; omega)⟩⟩
  have zr : ∀ v, v < 3 → ∀ w : Int32, Hc.1 29 v = w → w.toInt = 0 ∨ v < nv := fun v hv w hw => by
    by_cases u : v < nv
    · exact Or.inr u
    · have := A1.2 v (by omega) hv
      rw [hw] at this
      rw [this]
      exact Or.inl (by decide)
  have ok1 : okC nv 1 y = decide (-3 ≤ y.toInt ∧ y.toInt ≤ 3) := by
    unfold okC
    rw [decide_eq_decide]
    exact ⟨fun w => w.1, fun w => ⟨w, zr 1 (by omega) y gy⟩⟩
  have ok2 : okC nv 2 z = decide (-3 ≤ z.toInt ∧ z.toInt ≤ 3) := by
    unfold okC
    rw [decide_eq_decide]
    exact ⟨fun w => w.1, fun w => ⟨w, zr 2 (by omega) z gz⟩⟩
  have B0 : s_X5_allowsCoefficient 7 0 x Hc = some (bI (decide (-3 ≤ x.toInt ∧ x.toInt ≤ 3))) := by rw [← ok0]; exact allow_z h7 nv3 (show 0 < 3 by omega) x
  have B1 : s_X5_allowsCoefficient 7 1 y Hc = some (bI (decide (-3 ≤ y.toInt ∧ y.toInt ≤ 3))) := by rw [← ok1]; exact allow_z h7 nv3 (show 1 < 3 by omega) y
  have B2 : s_X5_allowsCoefficient 7 2 z Hc = some (bI (decide (-3 ≤ z.toInt ∧ z.toInt ≤ 3))) := by rw [← ok2]; exact allow_z h7 nv3 (show 2 < 3 by omega) z
  unfold s_X5_allowsForm
  rw [B0, bnd_s]
  have b226 : s_X10_readsForm_b226 66 (nI (3 * nf)) H1 = some (0, H1) := by
    unfold s_X10_readsForm_b226 s_X10_readsForm_b227
    rw [if_pos rfl]
  by_cases r0 : -3 ≤ x.toInt ∧ x.toInt ≤ 3
  rotate_left
  · rw [decide_eq_false r0, if_pos (show bI false = 0 from rfl), bnd_s, if_pos rfl, if_pos (show bI false = 0 from rfl), b226]
    exact IE.bad FIc.rf f1.i fl
  rw [decide_eq_true r0, if_neg (show ¬ (bI true = 0) by decide), if_neg (show ¬ (bI true = 0) by decide), ldI_n (by omega) (by omega), in_z, bnd_s, B1, bnd_s, ← a1, z3, z3']
  by_cases r1 : -3 ≤ y.toInt ∧ y.toInt ≤ 3
  rotate_left
  · rw [decide_eq_false r1, if_pos (show bI false = 0 from rfl), bnd_s, if_pos rfl, if_pos (show bI false = 0 from rfl), b226]
    exact IE.bad FIc.rf f1.i fl
  rw [decide_eq_true r1, if_neg (show ¬ (bI true = 0) by decide), if_neg (show ¬ (bI true = 0) by decide), ldI_n (by omega) (by omega), in_z, bnd_s, B2, bnd_s, ← a2, z3, z3']
  by_cases r2 : -3 ≤ z.toInt ∧ z.toInt ≤ 3
  rotate_left
  · rw [decide_eq_false r2, if_pos (show bI false = 0 from rfl), bnd_s, if_pos rfl, if_pos (show bI false = 0 from rfl), b226]
    exact IE.bad FIc.rf f1.i fl
  rw [decide_eq_true r2, if_neg (show ¬ (bI true = 0) by decide), if_neg (show ¬ (bI true = 0) by decide)]
  have three : ∀ {β : Type} (u w : β), (if x = 0 then (if y = 0 then (if z = 0 then u else w) else w) else w) = if (x = 0 ∧ y = 0 ∧ z = 0) then u else w := fun u w => by
    by_cases p : x = 0 <;> by_cases q : y = 0 <;> by_cases r : z = 0 <;> simp [p, q, r]
  unfold s_X10_readsForm_b227
  rw [if_neg (show ¬ ((1 : Int32) = 0) by decide), show (66 + 24 : Nat) = 90 from rfl, ldI_n (by omega) (by omega), show nI (3 * nf) + 1 = nI (3 * nf + 1) from nI_1 _, show nI (3 * nf) + 2 = nI (3 * nf + 2) from by rw [li2, nI_add], ldI_n (by omega) (by omega), ldI_n (by omega) (by omega), ← a1, ← a2, ← show x = H1.1 90 (3 * nf) from a0, three, three]
  by_cases zz : x = 0 ∧ y = 0 ∧ z = 0
  · rw [if_pos zz, if_pos zz, bnd_s, if_pos rfl]
    exact IE.bad FIc.rf f1.i fl
  rw [if_neg zz, if_neg zz, bnd_s, if_neg (by decide), addForm_z (P := 7) D1.2.1.1 nf8 x y z, bnd_s]
  dsimp only
  unfold s_X10_readsForm_b267
  rw [lt_red, lt_red, m1, nI_1, sI_ne (by omega), P1.2.2.2.1, nI_1]
  generalize gc : sI (sI (sI (sI Hc (7 + 1) (3 * nf) x) (7 + 1) (3 * nf + 1) y) (7 + 1) (3 * nf + 2) z) 7 1 (nI (nf + 1)) = Hc2
  generalize gm : sI (sI H1 66 44 (nI (s + 1))) 66 47 (nI (nf + 1)) = Hm2
  have p8 : ∀ j, Hc2.1 8 j = if j = 3 * nf then x else if j = 3 * nf + 1 then y else if j = 3 * nf + 2 then z else Hc.1 8 j := fun j => by
    rw [← gc, sI_cell (c' := 8) (by omega)]; exact sI3 j
  have p7 : Hc2.1 7 1 = nI (nf + 1) := by rw [← gc, sI_same]
  have p7' : ∀ k, k ≠ 1 → Hc2.1 7 k = Hc.1 7 k := fun k hk => by
    rw [← gc, sI_ne hk, sI_cell (by omega), sI_cell (by omega), sI_cell (by omega)]
  have F2 : Fr [7, 8] Hc Hc2 := by
    rw [← gc]; exact ((Fr.sI (by simp)).tr (Fr.sI (by simp))).tr ((Fr.sI (by simp)).tr (Fr.sI (by simp)))
  have G2 : Fr [66] H1 Hm2 := by rw [← gm]; exact (Fr.sI (by simp)).tr (Fr.sI (by simp))
  have GK : FrK 66 [44, 47] H1 Hm2 := by rw [← gm]; exact (frk_sI (by simp)).tr (frk_sI (by simp))
  have m44 : Hm2.1 66 44 = nI (s + 1) := by rw [← gm, sI_ne (by omega), sI_same]
  have m47 : Hm2.1 66 47 = nI (nf + 1) := by rw [← gm, sI_same]
  have Ic : FIc Hc Hc2 := ⟨F2.wid (by simp), FrK.of F2 (by simp)⟩
  have Im : FIm H1 Hm2 := ⟨G2.wid (by simp), GK.wid (by simp)⟩
  have C2 := a.fr F2 (FrK.of F2 (by simp) (ks := [])) (by simp) (by simp)
  have M2 := b.fr G2 GK (by simp) (by simp)
  have D2 : DR nv (nf + 1) m Hc2 Hm2 := by
    obtain ⟨⟨u1, u2, u3⟩, ⟨v1, v2, v3, v4⟩, w, ⟨y1, y2, y3, y4⟩, y5⟩ := D1
    have e90 : Hm2.1 90 = H1.1 90 := (G2 90 (by simp)).1
    have e91 : Hm2.1 91 = H1.1 91 := (G2 91 (by simp)).1
    refine ⟨⟨by rw [p7' 0 (by omega)]; exact u1, by rw [(GK 46 (by simp)).1]; exact u2, u3⟩, ⟨p7, m47, by omega, fun j hj => ?_⟩, fun g hg => ?_, ⟨by rw [p7' 2 (by omega)]; exact y1, by rw [(GK 49 (by simp)).1]; exact y2, y3, fun k hk => ?_⟩, by rw [p7' 3 (by omega)]; exact y5⟩
    · rw [p8, e90]
      by_cases q : j < 3 * nf
      · rw [if_neg (by omega), if_neg (by omega), if_neg (by omega)]; exact v4 j q
      · rcases (show j = 3 * nf ∨ j = 3 * nf + 1 ∨ j = 3 * nf + 2 by omega) with rfl | rfl | rfl
        · rw [if_pos rfl]; exact a0
        · rw [if_neg (by omega), if_pos rfl]; exact a1
        · rw [if_neg (by omega), if_neg (by omega), if_pos rfl]; exact a2
    · rw [e90]
      rcases (show g < nf ∨ g = nf by omega) with q | rfl
      · exact w g q
      · have zz2 : ¬ (x.toInt = 0 ∧ y.toInt = 0 ∧ z.toInt = 0) := fun y => zz ⟨eq_z.mpr y.1, eq_z.mpr y.2.1, eq_z.mpr y.2.2⟩
        refine ⟨?_, fun v h1 h2 => ?_, fun v hv => ?_⟩
        · by_cases y0 : x.toInt = 0
          · by_cases y1 : y.toInt = 0
            · exact ⟨2, by omega, by rw [← a2]; exact fun y2 => zz2 ⟨y0, y1, y2⟩⟩
            · exact ⟨1, by omega, by rw [← a1]; exact y1⟩
          · exact ⟨0, by omega, by rw [← a0]; exact y0⟩
        · rw [← A1.1 v h2, A1.2 v h1 h2]; decide
        · rcases (show v = 0 ∨ v = 1 ∨ v = 2 by omega) with rfl | rfl | rfl
          · rw [← a0]; exact r0
          · rw [← a1]; exact r1
          · rw [← a2]; exact r2
    · rw [(F2 9 (by simp)).1, (F2 10 (by simp)).1, (F2 11 (by simp)).1, e91]
      obtain ⟨o1, g, s, d, o2, o3, o4⟩ := y4 k hk
      exact ⟨o1, g, s, d, o2, by omega, o4⟩
  obtain ⟨Hc3, s', g1, g2, g3, g4⟩ := next_z (Hc := Hc2) (Hm := Hm2) (e := s + 1) hG C2 M2 (by rw [(F2 27 (by simp)).1]; exact k2 q) m44 (by omega)
  have k59 : Hc2.1 27 2 = 59 := by rw [(F2 27 (by simp)).1]; exact k1.mpr q
  unfold s_X6_readSemicolon
  rw [if_pos k59, g1, bnd_s, bnd_s]
  dsimp only
  rw [show (1 : Int32) = bI true from rfl, ckB_b]
  exact ⟨true, Hc3, Hm2, rfl, rfl, Ic.tr g2.t.i, f1.i.tr Im, fun _ => ⟨s', by omega, g4, D2.ft g2.t FTm.rf⟩, fun w => (by cases w)⟩
