/-! the three kinds of items -/
theorem IE.pre {t : Nat → Int32} {n s s1 : Nat} {D : Hp → Hp → Prop} {Hc Hm Hc1 Hm1 : Hp} {x y : Option (Int32 × Hp)} (h : IE t n s1 D Hc1 Hm1 x y) (a : FIc Hc Hc1) (b : FIm Hm Hm1) (hs : s ≤ s1) : IE t n s D Hc Hm x y := by
  obtain ⟨b', Hc', Hm', e1, e2, e3, e4, e5, e6⟩ := h
  refine ⟨b', Hc', Hm', e1, e2, a.tr e3, b.tr e4, fun w => ?_, e6⟩
  obtain ⟨s', u1, u2⟩ := e5 w
  exact ⟨s', by omega, u2⟩
theorem tkn102 : tkn 102 := by decide
theorem tkn98 : tkn 98 := by decide
theorem tkn110 : tkn 110 := by decide
set_option maxHeartbeats 1000000 in
theorem readForm_z {t : Nat → Int32} {n s nv nf m : Nat} {Hc Hm : Hp} (hG : TG t n) (hS : SY t n Hc Hm s) (m44 : Hm.1 66 44 = nI s) (q : s < n ∧ t s = 102) (hD : DR nv nf m Hc Hm) (h8 : nf < 8) : IE t n s (DR nv (nf + 1) m) Hc Hm (s_X6_readForm 27 7 Hc) (s_X10_readsForm 66 Hm) := by
  have n90 := hG.1
  obtain ⟨a, b, c, -⟩ := hS
  obtain ⟨k1, k2⟩ := tk_char hG c tkn102
  unfold s_X6_readForm s_X10_readsForm
  have n8 : ¬ nI nf = (8 : Int32) := fun w => by
    have y : (8 : Int32).toInt = 8 := by decide
    have := eq_z.mp w
    rw [nI_z (by omega), y] at this
    omega
  rw [hD.2.1.2.1, if_neg n8, lt_red, lt_red, m44, nI_1]
  have h47 : (sI Hm 66 44 (nI (s + 1))).1 66 47 = nI nf := by rw [sI_ne (by omega)]; exact hD.2.1.2.1
  rw [h47, show (3 : Int32) * nI nf = nI (3 * nf) from by rw [li3, nI_mul], show nI (3 * nf) + 1 = nI (3 * nf + 1) from nI_1 _, show nI (3 * nf) + 2 = nI (3 * nf + 2) from by rw [li2, nI_add], show (66 + 24 : Nat) = 90 from rfl, stI_n (by omega) (by omega), stI_n (by omega) (by omega), stI_n (by omega) (by omega)]
  generalize gm : sI (sI (sI (sI Hm 66 44 (nI (s + 1))) 90 (3 * nf) 0) 90 (3 * nf + 1) 0) 90 (3 * nf + 2) 0 = Hm1
  have Fm1 : FTm nf Hm Hm1 := by
    rw [← gm]
    refine ⟨((Fr.sI (by simp)).tr (Fr.sI (by simp))).tr ((Fr.sI (by simp)).tr (Fr.sI (by simp))), fun k hk => ⟨?_, rfl⟩, fun k hk => ?_⟩
    · simp at hk
      rw [sI_cell (by omega), sI_cell (by omega), sI_cell (by omega), sI_ne hk.1]
    · rw [sI_ne (by omega), sI_ne (by omega), sI_ne (by omega), sI_cell (by omega)]
  have z90 : ∀ v, v < 3 → Hm1.1 90 (3 * nf + v) = 0 := fun v hv => by
    rw [← gm, sI3]
    rcases (show v = 0 ∨ v = 1 ∨ v = 2 by omega) with rfl | rfl | rfl
    · rw [if_pos (by omega)]
    · rw [if_neg (by omega), if_pos rfl]
    · rw [if_neg (by omega), if_neg (by omega), if_pos rfl]
  have m44' : Hm1.1 66 44 = nI (s + 1) := by rw [← gm, sI_cell (by omega), sI_cell (by omega), sI_cell (by omega), sI_same]
  obtain ⟨Hc1, s1, g1, g2, g3, S1⟩ := next_z (Hm := Hm1) (e := s + 1) hG a (b.fr Fm1.1 Fm1.2.1 (by simp) (by simp)) (k2 q) m44' (by omega)
  rw [g1, bnd_s]
  obtain ⟨Hc2, z1, z2, z3⟩ := zero29 Hc1
  rw [z1, bnd_s]
  have Fz : FTc Hc1 Hc2 := ⟨z2.wid (by simp), FrK.of z2 (by simp)⟩
  have S2 : SY t n Hc2 Hm1 s1 := by
    obtain ⟨u1, u2, u3, u4⟩ := S1
    refine ⟨u1.fr Fz.1 Fz.2 (by simp) (by simp), u2, ?_, u4⟩
    unfold Tk at u3 ⊢
    rw [(z2 27 (by simp)).1]
    exact u3
  have A2 : AC nv nf Hc2 Hm1 := ⟨fun v hv => by rw [z3 v hv, z90 v hv], fun v _ hv => z3 v hv⟩
  have FcA : FTc Hc Hc2 := g2.t.tr Fz
  have D2 := hD.ft FcA Fm1
  have P2 : TP nv nf Hc2 Hm1 := ⟨D2.1.1, D2.1.2.1, D2.1.2.2, D2.2.1.2.1, h8⟩
  obtain ⟨Hm2, e1, f1, m1, S3⟩ := look_z hG S2
  rw [e1, bnd_s]
  dsimp only
  -- after the sign
  obtain ⟨Hc3, Hm3, s3, σ, w1, w2, w3, w4, w5, w6⟩ : ∃ Hc3 Hm3 s3 σ, s_X6_readTerm 27 7 Hc2 = s_X6_readTerm_b37 27 7 σ Hc3 ∧ FC Hc2 Hc3 ∧ FM Hm2 Hm3 ∧ s1 ≤ s3 ∧ SY t n Hc3 Hm3 s3 ∧ (if (if s1 < n then t s1 else (-9 : Int32)) = 43 then (s_X10_readsForm_b75 66 (nI (3 * nf)) (if s1 < n then t s1 else (-9 : Int32)) (Hm2.1 66 44) Hm2) else (if (if s1 < n then t s1 else (-9 : Int32)) = 45 then (s_X10_readsForm_b75 66 (nI (3 * nf)) (if s1 < n then t s1 else (-9 : Int32)) (Hm2.1 66 44) Hm2) else (s_X10_readsForm_b80 66 (nI (3 * nf)) (if s1 < n then t s1 else (-9 : Int32)) (0 : Int32) (Hm2.1 66 44) Hm2))) = s_X10_readsForm_b96 66 (nI (3 * nf)) σ Hm3 := by
    obtain ⟨sg1, sg2⟩ := sign_z hG S3
    unfold s_X10_readsForm_b75 s_X10_readsForm_b80
    rw [lt_red, lt_red, m1, nI_1]
    by_cases y : s1 < n ∧ (t s1 = 43 ∨ t s1 = 45)
    · obtain ⟨Hc3, s3, u1, u2, u3, u4⟩ := sg1 y (sI Hm2 66 44 (nI (s1 + 1))) (FM.tm FM.sI S3.2.1) (sI_same _ _ _ _)
      refine ⟨Hc3, _, s3, _, u1, u2, FM.sI, by omega, u4, ?_⟩
      rw [if_pos y.1]
      rcases y.2 with y2 | y2
      · rw [if_pos y2, y2, if_neg (by decide), if_neg (by decide)]
      · rw [if_neg (by rw [y2]; decide), if_pos y2, y2, if_pos rfl, if_pos rfl]
    · refine ⟨Hc2, sI Hm2 66 44 (nI s1), s1, 1, sg2 y, FC.rf, FM.sI, Nat.le_refl _, ?_, ?_⟩
      · exact ⟨S3.1, FM.tm FM.sI S3.2.1, S3.2.2.1, s1, sI_same _ _ _ _, S3.2.2.2.choose_spec.2.self⟩
      · have n43 : ¬ (if s1 < n then t s1 else (-9 : Int32)) = 43 := fun w => y (by have := (lk_char tkn43).mp w; exact ⟨this.1, Or.inl this.2⟩)
        have n45 : ¬ (if s1 < n then t s1 else (-9 : Int32)) = 45 := fun w => y (by have := (lk_char tkn45).mp w; exact ⟨this.1, Or.inr this.2⟩)
        rw [if_neg n43, if_neg n45, if_neg n45, show nI s1 + 0 = nI s1 from by rw [li0, nI_add, Nat.add_zero]]
  rw [w6]
  have P3 := (P2.fr FTc.rf f1.t).fr w2.t w3.t
  have A3 := (A2.fr FC.rf f1).fr w2 w3
  obtain ⟨b', Hc4, Hm4, t1, t2, t3, t4, t5, t6⟩ := term_z (σ := σ) hG w5 P3 A3
  unfold s_X10_readsForm_b96
  rw [t2, bnd_s]
  dsimp only
  obtain ⟨FU, hFU, hFU2⟩ : ∃ F, FUEL = F + 1 ∧ 200 ≤ F := ⟨FUEL - 1, by have := FUEL_ge; omega, by have := FUEL_ge; omega⟩
  have cls0 : s_X6_readForm_l32 27 7 1 0 Hc2 = (if bI b' = 0 then (some (.inr (.inr ((0 : Int32), Hc4)))) else some (.inl (flg Hc4, nI 1, Hc4))) := by
    unfold s_X6_readForm_l32
    rw [if_pos (show (0 : Int32) < (90 : Int32) by decide), if_neg (by decide), w1, t1, bnd_s]
    dsimp only
    rw [flg_b (a3 := 0) (k := 0) (by decide)]
  have IcA : FIc Hc Hc4 := ((FcA.tr w2.t).tr t3).i
  have ImA : FIm Hm Hm4 := ((Fm1.tr (f1.t.tr w3.t)).tr t4).i
  cases b'
  · rw [if_pos (show bI false = 0 from rfl)] at cls0
    have ec : iter (fun z : Int32 × Int32 × Hp => s_X6_readForm_l32 27 7 z.1 z.2.1 z.2.2) FUEL ((1 : Int32), (0 : Int32), Hc2) = some (.inr ((0 : Int32), Hc4)) := by
      rw [hFU]; exact iter_out cls0 _
    have em : iter (fun z : Int32 × Hp => s_X10_readsForm_l100 66 (nI (3 * nf)) z.1 z.2) FUEL (bI false, Hm4) = some ((0 : Int32), Hm4) := by
      rw [hFU]
      refine iter_out ?_ _
      show s_X10_readsForm_l100 66 (nI (3 * nf)) 0 Hm4 = _
      unfold s_X10_readsForm_l100
      rw [if_pos rfl]
    rw [ec, bnd_s, em, bnd_s]
    dsimp only [Sum.elim]
    rw [if_pos rfl]
    exact IE.bad IcA ImA (t6 rfl)
  · rw [if_neg (show ¬ (bI true = 0) by decide)] at cls0
    obtain ⟨s4, v1, v2, v3⟩ := t5 rfl
    have P4 := P3.fr t3 t4
    obtain ⟨r, r', c1, c2, c3⟩ := sum_z (a1 := nI (3 * nf)) (k0 := 1) hG v2 P4 v3 (by omega) FU FUEL hFU2 (by omega)
    have ec : iter (fun z : Int32 × Int32 × Hp => s_X6_readForm_l32 27 7 z.1 z.2.1 z.2.2) FUEL ((1 : Int32), (0 : Int32), Hc2) = some r := by
      rw [hFU, iter_go (s' := (flg Hc4, nI 1, Hc4)) cls0]; exact c1
    rw [ec, bnd_s, show bI true = (1 : Int32) from rfl, c2, bnd_s]
    rcases r with Hc5 | ⟨x, Hc5⟩
    · obtain ⟨r', Hm5⟩ := r'
      obtain ⟨rfl, d1, d2, s5, d3, d4, d5⟩ := c3
      dsimp only [Sum.elim]
      rw [if_neg (show ¬ ((1 : Int32) = 0) by decide)]
      have D5 : DR nv nf m Hc5 Hm5 := D2.ft ((w2.t.tr t3).tr d1) (((f1.t.tr w3.t).tr t4).tr d2)
      exact (formend_z hG d4 (P4.fr d1 d2) d5 D5).pre (IcA.tr d1.i) (ImA.tr d2.i) (by omega)
    · obtain ⟨r', Hm5⟩ := r'
      obtain ⟨rfl, rfl, d1, d2, d3⟩ := c3
      dsimp only [Sum.elim]
      rw [if_pos rfl]
      exact IE.bad (IcA.tr d1.i) (ImA.tr d2.i) d3
theorem FC.i {a b : Hp} (x : FC a b) : FIc a b := x.t.i
theorem DR.fc {nv nf m : Nat} {Hc Hm Hc' Hm' : Hp} (h : DR nv nf m Hc Hm) (a : FC Hc Hc') (b : FM Hm Hm') : DR nv nf m Hc' Hm' := h.ft a.t b.t
/-- the number of variables -/
theorem readVariables_z {t : Nat → Int32} {n s nv : Nat} {Hc Hm : Hp} (hG : TG t n) (hS : SY t n Hc Hm s) (m44 : Hm.1 66 44 = nI s) (q : s < n ∧ t s = 110) (hD : DR nv 0 0 Hc Hm) : IE t n s (fun a b => ∃ nv', DR nv' 0 0 a b) Hc Hm (s_X6_readVariables 27 7 Hc) (s_X10_readsVariables 66 0 Hm) := by
  have n90 := hG.1
  obtain ⟨a, b, c, -⟩ := hS
  obtain ⟨k1, k2⟩ := tk_char hG c tkn110
  unfold s_X6_readVariables s_X10_readsVariables
  rw [if_neg (by decide), lt_red, m44, nI_1]
  obtain ⟨Hc1, s1, g1, g2, g3, S1⟩ := next_z (Hm := sI Hm 66 44 (nI (s + 1))) (e := s + 1) hG a (FM.tm FM.sI b) (k2 q) (sI_same _ _ _ _) (by omega)
  have D1 := hD.fc g2 (FM.sI (v := nI (s + 1)))
  rw [g1, bnd_s]
  obtain ⟨b', H2, n1, n2, f2, n3, n4⟩ := number_z (a1 := 1) (a2 := 3) hG S1 (by decide) (by decide)
  have F2 : FM Hm H2 := FM.sI.tr f2
  rw [n1, n2, bnd_s, bnd_s]
  dsimp only
  cases b'
  · rw [if_pos (show bI false = 0 from rfl), if_pos (show bI false = 0 from rfl)]
    exact IE.bad g2.i F2.i ⟨s1, S1.2.2.1.2.1, S1.2.2.1.1, n4 rfl⟩
  · rw [if_neg (show ¬ (bI true = 0) by decide), if_neg (show ¬ (bI true = 0) by decide), lt_red, lt_red]
    obtain ⟨-, -, e, v, u1, u2, u3, u4, u5, u6, u7, u8⟩ := n3 rfl
    rw [u5, u6]
    have Fc3 : Fr [7] Hc1 (sI Hc1 7 0 (nI v)) := Fr.sI (by simp)
    have Kc3 : FrK 7 [0] Hc1 (sI Hc1 7 0 (nI v)) := frk_sI (by simp)
    have Fm3 : Fr [66] H2 (sI H2 66 46 (nI v)) := Fr.sI (by simp)
    have Km3 : FrK 66 [46] H2 (sI H2 66 46 (nI v)) := frk_sI (by simp)
    have v7 : (sI Hc1 7 0 (nI v)).1 7 0 = nI v := sI_same _ _ _ _
    have v46 : (sI H2 66 46 (nI v)).1 66 46 = nI v := sI_same _ _ _ _
    generalize sI Hc1 7 0 (nI v) = Hc3 at *
    generalize sI H2 66 46 (nI v) = Hm3 at *
    obtain ⟨Hc4, s4, h1, h2, h3, S4⟩ := next_z (Hc := Hc3) (Hm := Hm3) hG (S1.1.fr Fc3 (FrK.of Fc3 (by simp) (ks := [])) (by simp) (by simp)) (TM.fr (f2.tm S1.2.1) Fm3 Km3 (by simp) (by simp)) (by rw [(Fc3 27 (by simp)).1]; exact u1) (by rw [(Km3 44 (by simp)).1]; exact u2) u4
    rw [h1, bnd_s]
    obtain ⟨b2, Hc5, Hm5, w1, w2, w3, w4, w5, w6⟩ := semi_z hG S4
    rw [w1, w2, bnd_s, bnd_s]
    dsimp only
    rw [ckB_b, ckB_b]
    have z1 : (1 : Int32).toInt = 1 := by decide
    have z3 : (3 : Int32).toInt = 3 := by decide
    rw [z1] at u7
    rw [z3] at u8
    have D2 := D1.fc FC.rf f2
    have D3 : DR v 0 0 Hc3 Hm3 := by
      obtain ⟨d1, ⟨d2, d3, d4, d5⟩, d6, ⟨e1, e2, e3, e4⟩, e5⟩ := D2
      exact ⟨⟨v7, v46, by omega, by omega⟩, ⟨by rw [(Kc3 1 (by simp)).1]; exact d2, by rw [(Km3 47 (by simp)).1]; exact d3, d4, fun j hj => by omega⟩, fun g hg => by omega, ⟨by rw [(Kc3 2 (by simp)).1]; exact e1, by rw [(Km3 49 (by simp)).1]; exact e2, e3, fun k hk => by omega⟩, by rw [(Kc3 3 (by simp)).1]; exact e5⟩
    have Ic : FIc Hc Hc5 := ((g2.i.tr ⟨Fc3.wid (by simp), FrK.of Fc3 (by simp)⟩).tr h2.i).tr w3.i
    have Im : FIm Hm Hm5 := (F2.i.tr ⟨Fm3.wid (by simp), Km3.wid (by simp)⟩).tr w4.i
    refine ⟨b2, Hc5, Hm5, rfl, rfl, Ic, Im, fun w => ?_, w6⟩
    obtain ⟨s5, x1, x2⟩ := w5 w
    exact ⟨s5, by omega, x2, v, D3.fc (h2.tr w3) w4⟩
