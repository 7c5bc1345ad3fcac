/-! a bound, read by both -/
theorem st91 {t : Nat → Int32} {n s nv nf m j : Nat} {Hc Hm : Hp} {v : Int32} (hS : SY t n Hc Hm s) (hD : DR nv nf m Hc Hm) (hj : 3 * m ≤ j) : SY t n Hc (sI Hm 91 j v) s ∧ DR nv nf m Hc (sI Hm 91 j v) ∧ FIm Hm (sI Hm 91 j v) := by
  have F : Fr [91] Hm (sI Hm 91 j v) := Fr.sI (by simp)
  have K : FrK 66 [] Hm (sI Hm 91 j v) := FrK.of F (by simp)
  obtain ⟨a, b, c, p, m4, d⟩ := hS
  refine ⟨⟨a, b.fr F K (by simp) (by simp), c, p, by rw [(K 44 (by simp)).1]; exact m4, d⟩, hD.cg (fun _ _ => rfl) (fun _ _ => rfl) (fun _ _ => ⟨rfl, rfl, rfl⟩) ⟨(K 46 (by simp)).1, (K 47 (by simp)).1, (K 49 (by simp)).1⟩ (fun j _ => by rw [(F 90 (by simp)).1]) (fun k hk => sI_ne (by omega)), F.wid (by simp), K.wid (by simp)⟩
set_option maxHeartbeats 1000000 in
theorem lastnum_z {t : Nat → Int32} {n s nv nf m : Nat} {Hc Hm : Hp} {g sg : Nat} {σ : Int32} (hG : TG t n) (hS : SY t n Hc Hm s) (hD : DR nv nf m Hc Hm) (hm : m < 10) (hg : g < nf) (hs : sg ≤ 4) (hσ : σ = 1 ∨ σ = -1) (e0 : Hm.1 91 (3 * m) = nI g) (e1 : Hm.1 91 (3 * m + 1) = nI sg) : IE t n s (DR nv nf (m + 1)) Hc Hm (s_X6_readConstraint_b78 27 7 (nI g) (nI sg) σ Hc) (s_X10_readsBound_b91 66 (nI (3 * m)) σ Hm) := by
  have n90 := hG.1
  obtain ⟨b', H2, n1, n2, f2, n3, n4⟩ := number_z (a1 := 0) (a2 := 50) hG hS (by decide) (by decide)
  unfold s_X6_readConstraint_b78 s_X10_readsBound_b91
  rw [n1, n2, bnd_s, bnd_s]
  dsimp only
  cases b'
  · rw [if_pos (show bI false = 0 from rfl), if_pos (show bI false = 0 from rfl)]
    exact IE.bad FIc.rf f2.i ⟨s, hS.2.2.1.2.1, hS.2.2.1.1, n4 rfl⟩
  rw [if_neg (show ¬ (bI true = 0) by decide), if_neg (show ¬ (bI true = 0) by decide)]
  obtain ⟨-, -, e, v, u1, u2, u3, u4, u5, u6, u7, u8⟩ := n3 rfl
  have z50 : (50 : Int32).toInt = 50 := by decide
  rw [z50] at u8
  have D2 := hD.fc FC.rf f2
  rw [u5, u6, addC_z (P := 7) D2.2.2.2.1.1 hm, bnd_s, show (66 + 25 : Nat) = 91 from rfl, show nI (3 * m) + 2 = nI (3 * m + 2) from by rw [li2, nI_add], stI_n (by omega) (by omega), lt_red, sI_cell (c := 91) (c' := 66) (by omega), D2.2.2.2.1.2.1, nI_1]
  dsimp only
  obtain ⟨d, hd, hd1, hd2⟩ : ∃ d : Int, σ * nI v = i32 d ∧ -50 ≤ d ∧ d ≤ 50 := by
    rcases hσ with rfl | rfl
    · exact ⟨v, by rw [show (1 : Int32) * nI v = nI v from Int32.one_mul _, nI_i32], by omega, by omega⟩
    · refine ⟨-v, ?_, by omega, by omega⟩
      rw [nI_i32, show (-1 : Int32) = i32 (-1) from by decide, i32_mul]
      congr 1
      omega
  rw [hd]
  generalize gc : sI (sI (sI (sI Hc (7 + 2) m (nI g)) (7 + 3) m (nI sg)) (7 + 4) m (i32 d)) 7 2 (nI (m + 1)) = Hc3
  generalize gm : sI (sI H2 91 (3 * m + 2) (i32 d)) 66 49 (nI (m + 1)) = Hm3
  have Fc3 : Fr [7, 9, 10, 11] Hc Hc3 := by
    rw [← gc]; exact ((Fr.sI (by simp)).tr (Fr.sI (by simp))).tr ((Fr.sI (by simp)).tr (Fr.sI (by simp)))
  have Fm3 : Fr [66, 91] H2 Hm3 := by rw [← gm]; exact (Fr.sI (by simp)).tr (Fr.sI (by simp))
  have Km3 : FrK 66 [49] H2 Hm3 := by
    rw [← gm]
    intro k hk
    simp at hk
    exact ⟨by rw [sI_ne hk, sI_cell (by omega)], rfl⟩
  have c7 : ∀ k, k ≠ 2 → Hc3.1 7 k = Hc.1 7 k := fun k hk => by
    rw [← gc, sI_ne hk, sI_cell (by omega), sI_cell (by omega), sI_cell (by omega)]
  have c72 : Hc3.1 7 2 = nI (m + 1) := by rw [← gc, sI_same]
  have c9 : ∀ k, Hc3.1 9 k = if k = m then nI g else Hc.1 9 k := fun k => by
    rw [← gc, sI_cell (by omega), sI_cell (by omega), sI_cell (by omega)]
    by_cases w : k = m
    · rw [if_pos w, w]; exact sI_same _ _ _ _
    · rw [if_neg w]; exact sI_ne w
  have c10 : ∀ k, Hc3.1 10 k = if k = m then nI sg else Hc.1 10 k := fun k => by
    rw [← gc, sI_cell (by omega), sI_cell (by omega)]
    by_cases w : k = m
    · rw [if_pos w, w]; exact sI_same _ _ _ _
    · rw [if_neg w, sI_ne w, sI_cell (by omega)]
  have c11 : ∀ k, Hc3.1 11 k = if k = m then i32 d else Hc.1 11 k := fun k => by
    rw [← gc, sI_cell (by omega)]
    by_cases w : k = m
    · rw [if_pos w, w]; exact sI_same _ _ _ _
    · rw [if_neg w, sI_ne w, sI_cell (by omega), sI_cell (by omega)]
  have m91 : ∀ j, Hm3.1 91 j = if j = 3 * m + 2 then i32 d else Hm.1 91 j := fun j => by
    rw [← gm, sI_cell (c := 66) (by omega)]
    by_cases w : j = 3 * m + 2
    · rw [if_pos w, w]; exact sI_same _ _ _ _
    · rw [if_neg w, sI_ne w, (f2.1 91 (by simp)).1]
  have m49 : Hm3.1 66 49 = nI (m + 1) := by rw [← gm, sI_same]
  have D3 : DR nv nf (m + 1) Hc3 Hm3 := by
    obtain ⟨⟨a1, a2, a3⟩, ⟨b1, b2, b3, b4⟩, c, ⟨d1, d2, d3, d4⟩, e⟩ := D2
    have d4' := hD.2.2.2.1.2.2.2
    have e90 : Hm3.1 90 = H2.1 90 := (Fm3 90 (by simp)).1
    refine ⟨⟨by rw [c7 0 (by omega)]; exact a1, by rw [(Km3 46 (by simp)).1]; exact a2, a3⟩, ⟨by rw [c7 1 (by omega)]; exact b1, by rw [(Km3 47 (by simp)).1]; exact b2, b3, by rw [(Fc3 8 (by simp)).1, e90]; exact b4⟩, by rw [e90]; exact c, ⟨c72, m49, by omega, fun k hk => ?_⟩, by rw [c7 3 (by omega)]; exact e⟩
    rw [c9, c10, c11, m91, m91, m91]
    rcases (show k < m ∨ k = m by omega) with w | rfl
    · rw [if_neg (by omega), if_neg (by omega), if_neg (by omega), if_neg (by omega), if_neg (by omega), if_neg (by omega)]
      exact d4' k w
    · rw [if_pos rfl, if_pos rfl, if_pos rfl, if_neg (by omega), if_neg (by omega), if_pos rfl, e0, e1]
      exact ⟨⟨rfl, rfl, rfl⟩, g, sg, d, rfl, hg, rfl, hs, rfl, hd1, hd2⟩
  obtain ⟨Hc4, s4, h1, h2, h3, S4⟩ := next_z (Hc := Hc3) (Hm := Hm3) hG (hS.1.fr Fc3 (FrK.of Fc3 (by simp) (ks := [])) (by simp) (by simp)) (TM.fr (f2.tm hS.2.1) Fm3 Km3 (by simp) (by simp)) (by rw [(Fc3 27 (by simp)).1]; exact u1) (by rw [(Km3 44 (by simp)).1]; exact u2) u4
  rw [h1, bnd_s]
  obtain ⟨b2, Hc5, Hm5, w1, w2, w3, w4, w5, w6⟩ := semi_z hG S4
  rw [w1, w2, bnd_s, bnd_s]
  dsimp only
  rw [ckB_b, ckB_b]
  have Ic : FIc Hc Hc5 := (FIc.tr ⟨Fc3.wid (by simp), FrK.of Fc3 (by simp)⟩ h2.i).tr w3.i
  have Im : FIm Hm Hm5 := (f2.i.tr ⟨Fm3.wid (by simp), Km3.wid (by simp)⟩).tr w4.i
  refine ⟨b2, Hc5, Hm5, rfl, rfl, Ic, Im, fun w => ?_, w6⟩
  obtain ⟨s5, x1, x2⟩ := w5 w
  exact ⟨s5, by omega, x2, D3.fc (h2.tr w3) w4⟩
set_option maxHeartbeats 1000000 in
theorem readConstraint_z {t : Nat → Int32} {n s nv nf m : Nat} {Hc Hm : Hp} (hG : TG t n) (hS : SY t n Hc Hm s) (m44 : Hm.1 66 44 = nI s) (q : s < n ∧ t s = 98) (hD : DR nv nf m Hc Hm) (h10 : m < 10) : IE t n s (DR nv nf (m + 1)) Hc Hm (s_X6_readConstraint 27 7 Hc) (s_X10_readsBound 66 Hm) := by
  have n90 := hG.1
  have nf8 := hD.2.1.2.2.1
  obtain ⟨a, b, c, -⟩ := hS
  obtain ⟨k1, k2⟩ := tk_char hG c tkn98
  unfold s_X6_readConstraint s_X10_readsBound
  have n10 : ¬ nI m = (10 : Int32) := fun w => by
    have y : (10 : Int32).toInt = 10 := by decide
    have := eq_z.mp w
    rw [nI_z (by omega), y] at this
    omega
  rw [hD.2.2.2.1.2.1, if_neg n10, lt_red, lt_red, m44, nI_1]
  obtain ⟨Hc1, s1, g1, g2, g3, S1⟩ := next_z (Hm := sI Hm 66 44 (nI (s + 1))) (e := s + 1) hG a (FM.tm FM.sI b) (k2 q) (sI_same _ _ _ _) (by omega)
  have D1 := hD.fc g2 (FM.sI (v := nI (s + 1)))
  rw [D1.2.2.2.1.2.1, show (3 : Int32) * nI m = nI (3 * m) from by rw [li3, nI_mul], D1.2.1.2.1, g1, bnd_s, D1.2.1.1]
  have znf : (nI nf - 1).toInt = (nf : Int) - 1 := by
    rw [nI_i32, show (1 : Int32) = i32 1 from by decide, i32_sub, i32_z (by omega) (by omega)]
  obtain ⟨b', H2, n1, n2, f2, n3, n4⟩ := number_z (a1 := 0) (a2 := nI nf - 1) hG S1 (by decide) (by rw [znf]; omega)
  have F2 : FM Hm H2 := FM.sI.tr f2
  rw [n1, n2, bnd_s, bnd_s]
  dsimp only
  cases b'
  · rw [if_pos (show bI false = 0 from rfl), if_pos (show bI false = 0 from rfl)]
    exact IE.bad g2.i F2.i ⟨s1, S1.2.2.1.2.1, S1.2.2.1.1, n4 rfl⟩
  rw [if_neg (show ¬ (bI true = 0) by decide), if_neg (show ¬ (bI true = 0) by decide), lt_red]
  obtain ⟨-, -, e, g, u1, u2, u3, u4, u5, u6, u7, u8⟩ := n3 rfl
  rw [znf] at u8
  rw [u5, u6, show (66 + 25 : Nat) = 91 from rfl, stI_n (by omega) (by omega)]
  obtain ⟨Hc3, s3, h1, h2, h3, S3⟩ := next_z hG S1.1 (f2.tm S1.2.1) u1 u2 u4
  obtain ⟨S3', D3, I3⟩ := st91 (j := 3 * m) (v := nI g) S3 (D1.fc h2 f2) (Nat.le_refl _)
  have v0 : (sI H2 91 (3 * m) (nI g)).1 91 (3 * m) = nI g := sI_same _ _ _ _
  generalize sI H2 91 (3 * m) (nI g) = Hm3 at *
  rw [h1, bnd_s]
  obtain ⟨b4, H4, n1, n2, f4, n3, n4⟩ := number_z (a1 := 0) (a2 := 4) hG S3' (by decide) (by decide)
  rw [n1, n2, bnd_s, bnd_s]
  dsimp only
  have IcA : FIc Hc Hc3 := g2.i.tr h2.i
  have ImA : FIm Hm H4 := (F2.i.tr I3).tr f4.i
  cases b4
  · rw [if_pos (show bI false = 0 from rfl), if_pos (show bI false = 0 from rfl)]
    exact IE.bad IcA ImA ⟨s3, S3.2.2.1.2.1, S3.2.2.1.1, n4 rfl⟩
  rw [if_neg (show ¬ (bI true = 0) by decide), if_neg (show ¬ (bI true = 0) by decide), lt_red]
  obtain ⟨-, -, e', sg, y1, y2, y3, y4, y5, y6, y7, y8⟩ := n3 rfl
  have z4 : (4 : Int32).toInt = 4 := by decide
  rw [z4] at y8
  rw [y5, y6, nI_1, stI_n (by omega) (by omega)]
  obtain ⟨Hc5, s5, i1, i2, i3, S5⟩ := next_z hG S3'.1 (f4.tm S3'.2.1) y1 y2 y4
  obtain ⟨S5', D5, I5⟩ := st91 (j := 3 * m + 1) (v := nI sg) S5 (D3.fc i2 f4) (by omega)
  have v1 : (sI H4 91 (3 * m + 1) (nI sg)).1 91 (3 * m + 1) = nI sg := sI_same _ _ _ _
  have v0' : (sI H4 91 (3 * m + 1) (nI sg)).1 91 (3 * m) = nI g := by rw [sI_ne (by omega), (f4.1 91 (by simp)).1]; exact v0
  generalize sI H4 91 (3 * m + 1) (nI sg) = Hm5 at *
  rw [i1, bnd_s]
  have IcB : FIc Hc Hc5 := IcA.tr i2.i
  have ImB : FIm Hm Hm5 := ImA.tr I5
  obtain ⟨H6, e6, f6, m6, m6'⟩ := takes_z hG S5' tkn45
  obtain ⟨k1, k2⟩ := tk_char hG S5'.2.2.1 tkn45
  rw [e6, bnd_s]
  dsimp only
  unfold s_X6_readConstraint_b63
  have w0 : H6.1 91 (3 * m) = nI g := by rw [(f6.1 91 (by simp)).1]; exact v0'
  have w1 : H6.1 91 (3 * m + 1) = nI sg := by rw [(f6.1 91 (by simp)).1]; exact v1
  by_cases y : s5 < n ∧ t s5 = 45
  · rw [if_pos (k1.mpr y), if_pos (k1.mpr y), decide_eq_true y, if_neg (show ¬ (bI true = 0) by decide)]
    obtain ⟨Hc7, s7, j1, j2, j3, S7⟩ := next_z hG S5'.1 (f6.tm S5'.2.1) (k2 y) (m6 y) (by omega)
    rw [j1, bnd_s]
    exact (lastnum_z hG S7 (D5.fc j2 f6) h10 (by omega) (by omega) (Or.inr rfl) w0 w1).pre (IcB.tr j2.i) (ImB.tr f6.i) (by omega)
  · rw [if_neg (fun w => y (k1.mp w)), if_neg (fun w => y (k1.mp w)), decide_eq_false y, if_pos (show bI false = 0 from rfl)]
    have S7 : SY t n Hc5 H6 s5 := ⟨S5'.1, f6.tm S5'.2.1, S5'.2.2.1, s5, m6' y, S5'.2.2.2.choose_spec.2.self⟩
    exact (lastnum_z hG S7 (D5.fc FC.rf f6) h10 (by omega) (by omega) (Or.inl rfl) w0 w1).pre IcB (ImB.tr f6.i) (by omega)
