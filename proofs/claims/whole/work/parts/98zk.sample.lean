/-! class and model choose one point -/
theorem hd_eq {h : Hp} {nv nf m lv : Nat} (hP : ProbR h nv nf m lv) (hc : CIM h nv m) : HdF m (mS h 66) (fF h) (mD h 66) = HdY m (rY h 32) := by
  funext p
  apply propext
  constructor
  · intro z i hi; exact (row_hold (hP.rw i hi).1 (hc.2.1 i hi) p).mpr (z i hi)
  · intro z i hi; exact (row_hold (hP.rw i hi).1 (hc.2.1 i hi) p).mp (z i hi)
theorem eb_lim {h : Hp} {L : Nat} {B : Int} (hL : LimW h L B) : EB B 162 (limO h L) := by
  intro x hx
  unfold limO at hx
  rcases hL.1 with q | q
  · rw [if_neg (by rw [q]; decide)] at hx; cases hx
  · rw [if_pos q] at hx
    cases hx
    exact ⟨(h.2 L 1).toInt, (h.2 L 2).toInt, hL.2.1.1, hL.2.1.2, hL.2.2.1.1, hL.2.2.1.2, rfl⟩
theorem wit0 {h : Hp} {nv nf m lv : Nat} (hP : ProbR h nv nf m lv) (hn1 : 1 ≤ nv) (hc : CIM h nv m) (hs : ∃ p, HdY m (rY h 32) p) : ∃ p q : Int, 0 < q ∧ q ≤ 324 ∧ SS (HdY m (rY h 32)) 0 (fun _ => 0) (frc p q) := by
  have h3 := hP.1.2.2
  have hm := hP.2.2.2.1.2.1.2.1
  have lK : ∀ (tz : Int) (q : Nat → Rat), lin (eK 0 tz) q = (tz : Rat) * q 0 := fun tz q => by unfold lin eK; simp; grind
  have sk : ∀ tz : Int, (tz = 1 ∨ tz = -1) → ∃ E : End, EB 32400 162 E ∧ ∀ t, IV none E t ↔ ∃ p, HdY m (rY h 32) p ∧ t ≤ (tz : Rat) * p 0 := fun tz ht => by
    obtain ⟨H1, -, -, -, -, -, -, -, sL, sT⟩ := seek_z (h := h) (ub := 0) (C := 31) (Lm := 41) (D := 50) (nv := nv) (N := m) (K := eK 0 tz) (by omega) (rows_wf hc.1.1 hc.1.2.2 hc.2.1 hP.rw) (by omega) (by omega) hc.1.2.1 hn1 (by omega) (by omega) (fun i hi v hv hn => (rows_forms hc.2.1 hP.rw i hi).1 v hv (by omega)) (by
      obtain ⟨p, hp⟩ := hs
      exact ⟨p, fun i hi => hp i (List.mem_range.mp hi)⟩) (fun w hw => by
      unfold eK
      split
      · rcases ht with e | e <;> rw [e] <;> omega
      · omega) (fun w hw hn => by
      unfold eK
      rw [if_neg (by omega)]) ⟨0, by omega, by
      unfold eK
      rw [if_pos rfl]
      rcases ht with e | e <;> rw [e] <;> omega⟩
    refine ⟨limO H1 41, eb_lim sL, fun t => ?_⟩
    rw [sT t]
    constructor
    · rintro ⟨p, w1, w2⟩; exact ⟨p, w1, by rw [lK] at w2; exact w2⟩
    · rintro ⟨p, w1, w2⟩; exact ⟨p, w1, by rw [lK]; exact w2⟩
  obtain ⟨E1, b1, t1⟩ := sk 1 (Or.inl rfl)
  obtain ⟨E2, b2, t2⟩ := sk (-1) (Or.inr rfl)
  have hIV : ∀ t, IV E2 E1 t ↔ SS (HdY m (rY h 32)) 0 (fun _ => 0) t := fun t => by
    have k : IV E2 E1 t ↔ IV none E2 (-t) ∧ IV none E1 t := by
      unfold IV
      constructor
      · rintro ⟨a, b⟩; exact ⟨⟨fun x hx => (by cases hx), a⟩, ⟨fun x hx => (by cases hx), b⟩⟩
      · rintro ⟨a, b⟩; exact ⟨a.2, b.2⟩
    rw [k, t1, t2]
    constructor
    · rintro ⟨⟨q, q1, q2⟩, ⟨p, p1, p2⟩⟩
      push_cast at p2 q2
      exact ss_mid ⟨p, p1, fun w hw => by omega, by grind⟩ ⟨q, q1, fun w hw => by omega, by grind⟩
    · rintro ⟨p, p1, -, p3⟩
      exact ⟨⟨p, p1, by push_cast; grind⟩, ⟨p, p1, by push_cast; grind⟩⟩
  obtain ⟨p, q, w1, w2, -, w4⟩ := wit_z b2 b1 (by omega) (by omega) (by
    obtain ⟨p, hp⟩ := hs
    exact ⟨p 0, (hIV _).mpr ⟨p, hp, fun w hw => by omega, rfl⟩⟩)
  exact ⟨p, q, w1, by omega, (hIV _).mp w4⟩
abbrev smq : List Nat := 0 :: (smpc ++ smc)
/-- both sides of a satisfiable problem -/
theorem both_z {h : Hp} {nv nf m lv : Nat} (hP : ProbR h nv nf m lv) (hn1 : 1 ≤ nv) (hc : CIM h nv m) (hs : sB h m (aI m) = true) : ∃ (P Q : Nat → Int) (e : Hp), s_X8_choose 42 32 (h.1 1 0) h = some e ∧ Fr smpc h e ∧ (∀ v, v < 3 → e.2 53 v = i64 (P v) ∧ e.2 54 v = i64 (Q v)) ∧ SBd P Q ∧ (∀ v, v < 3 → nv ≤ v → P v = 0 ∧ Q v = 1) ∧ ∀ H : Hp, Fr (0 :: smpc) h H → ∃ H', s_X10_setSample 66 H = some (1, H') ∧ Fr smc H H' ∧ FrK 66 scrK H H' ∧ ∀ v, v < nv → H'.2 85 v = i64 (P v) ∧ H'.2 86 v = i64 (Q v) := by
  have h3 := hP.1.2.2
  have hM := hP.2.2.2.1.2.1
  have hm := hM.2.1
  have hd := hd_eq hP hc
  have hsF : ∃ p, HdF m (mS h 66) (fF h) (mD h 66) p := by
    obtain ⟨p, hp⟩ := sB_iff.mp hs
    exact ⟨p, (mHd_iff hM p).mp hp⟩
  have hsY : ∃ p, HdY m (rY h 32) p := by rw [← hd]; exact hsF
  have w0 := wit0 hP hn1 hc hsY
  obtain ⟨P, Q, -, -, -, -, a4, a5, a6, -⟩ := setSample_z hM hP.1.2.1 hn1 h3 hsF (by rw [hd]; exact w0)
  rw [hd] at a4
  obtain ⟨e, c1, c2, c3⟩ := choose_z (h := h) (N := m) (nv := nv) (rows_wf hc.1.1 hc.1.2.2 hc.2.1 hP.rw) hc.zero.2 (by omega) h3 (fun i hi w hw hn => (rows_forms hc.2.1 hP.rw i hi).1 w hw hn) hsY a4 a5 a6
  refine ⟨P, Q, e, by rw [hP.1.1]; exact c1, c2, c3, a5, a6, fun H F => ?_⟩
  have K : FrK 66 [] h H := FrK.of F (by simp [smpc])
  obtain ⟨hM2, g1, g2, g3, g4⟩ := hM.fr F K (by simp) (by simp [smpc]) (by simp [smpc])
  have gH : HdF m (mS H 66) (fF H) (mD H 66) = HdY m (rY h 32) := by
    rw [← hd]
    show HdF m (mS H 66) (fun i => mK H 66 (mG H 66 i)) (mD H 66) = HdF m (mS h 66) (fun i => mK h 66 (mG h 66 i)) (mD h 66)
    rw [g1, g2, g3, g4]
  obtain ⟨P', Q', H', b1, b2, b3, b4, -, -, b7⟩ := setSample_z hM2 (by rw [(F 66 (by simp [smpc])).1]; exact hP.1.2.1) hn1 h3 (by rw [gH]; exact hsY) (by rw [gH]; exact w0)
  rw [gH] at b4
  have one := samp_one (fun v x => ss_cvx m (rY h 32) v x) a4 b4
  refine ⟨H', b1, b2, b3, fun v hv => ?_⟩
  rw [(one v hv).1, (one v hv).2]; exact b7 v hv
def QS (h h2 : Hp) (nv nf m lv : Nat) : Prop := ProbR h2 nv nf m lv ∧ CIM h2 nv m ∧ Fr smq h h2 ∧ FrK 0 [12, 13] h h2 ∧ FrK 66 rngK h h2 ∧ (Res2 h → Res2 h2)
theorem says_q {h H4 : Hp} {x y x' y' : Int64} {r : Int32} {nv nf m lv : Nat} (hP : ProbR h nv nf m lv) (hc : CIM h nv m) (hF : Fr smq h H4) (hK0 : FrK 0 [12, 13] h H4) (hK : FrK 66 rngK h H4) (hx' : -9223372036854775808 < x'.toInt) (hy : 0 < y.toInt) (hy' : 0 < y'.toInt) (he : x.toInt * y'.toInt = x'.toInt * y.toInt) (e12 : H4.2 0 12 = i64 (rn x.toInt y.toInt)) (e13 : H4.2 0 13 = i64 (rd x.toInt y.toInt)) : ∃ H5, s_X10_says 66 x' y' r H4 = some (r, H5) ∧ QS h H5 nv nf m lv := by
  obtain ⟨d1, d2⟩ := red_one hy hy' he
  refine ⟨_, says_z r hx' hy', ?_⟩
  have F5 : Fr [66] H4 (sJ (sJ H4 66 34 (i64 (rn x'.toInt y'.toInt))) 66 35 (i64 (rd x'.toInt y'.toInt))) := (Fr.sJ (by simp)).tr (Fr.sJ (by simp))
  have K5 : FrK 66 [34, 35] H4 (sJ (sJ H4 66 34 (i64 (rn x'.toInt y'.toInt))) 66 35 (i64 (rd x'.toInt y'.toInt))) := fun k hk => by
    simp at hk
    exact ⟨rfl, by rw [sJ_ne hk.2, sJ_ne hk.1]⟩
  have g34 : (sJ (sJ H4 66 34 (i64 (rn x'.toInt y'.toInt))) 66 35 (i64 (rd x'.toInt y'.toInt))).2 66 34 = i64 (rn x'.toInt y'.toInt) := by rw [sJ_ne (by omega), sJ_same]
  have g35 : (sJ (sJ H4 66 34 (i64 (rn x'.toInt y'.toInt))) 66 35 (i64 (rd x'.toInt y'.toInt))).2 66 35 = i64 (rd x'.toInt y'.toInt) := by rw [sJ_same]
  generalize sJ (sJ H4 66 34 (i64 (rn x'.toInt y'.toInt))) 66 35 (i64 (rd x'.toInt y'.toInt)) = H5 at *
  have Fa : Fr smq h H5 := hF.tr (F5.wid (by simp [smq, smc, scr]))
  have Ka : FrK 66 rngK h H5 := hK.tr (K5.wid (by simp [rngK]))
  obtain ⟨P5, C5⟩ := PC.fr hP hc Fa Ka (by simp [smq, smpc, smc, scr]) (by simp [rngK, scrK, iks])
  refine ⟨P5, C5, Fa, hK0.tr (FrK.of F5 (by simp)), Ka, fun _ => ⟨?_, ?_⟩⟩
  · rw [(F5 0 (by simp)).2, g34, e12, d1]
  · rw [(F5 0 (by simp)).2, g35, e13, d2]
theorem no_q {h H : Hp} {nv nf m lv : Nat} (hP : ProbR h nv nf m lv) (hc : CIM h nv m) (F : Fr smc h H) (K : FrK 66 scrK h H) : QS h H nv nf m lv := by
  obtain ⟨P5, C5⟩ := PC.fr hP hc F K (by simp [smc, scr]) (by simp [scrK, iks])
  refine ⟨P5, C5, F.wid (by simp [smq, smc, scr]), FrK.of F (by simp [smc, scr]), K.wid (by simp [rngK, scrK, iks]), fun r => ⟨?_, ?_⟩⟩
  · rw [(F 0 (by simp [smc, scr])).2, (K 34 (by simp [scrK, iks])).2]; exact r.1
  · rw [(F 0 (by simp [smc, scr])).2, (K 35 (by simp [scrK, iks])).2]; exact r.2
theorem rf_q {h : Hp} {nv nf m lv : Nat} (hP : ProbR h nv nf m lv) (hc : CIM h nv m) : QS h h nv nf m lv := ⟨hP, hc, Fr.rf, FrK.rf, FrK.rf, id⟩
theorem no_F {h : Hp} {nv nf m lv : Nat} (hP : ProbR h nv nf m lv) (hs : sB h m (aI m) = false) : ¬ ∃ p, HdF m (mS h 66) (fF h) (mD h 66) p := by
  rintro ⟨p, hp⟩
  have := sB_iff.mpr ⟨p, (mHd_iff hP.2.2.2.1.2.1 p).mpr hp⟩
  rw [hs] at this; cases this
set_option maxHeartbeats 1000000 in
theorem sample_step {h : Hp} {nv nf m lv : Nat} (hP : ProbR h nv nf m lv) (hn1 : 1 ≤ nv) (hc : CIM h nv m) (a1 : Int32) : ∃ r : Int32, ∃ h1 h2 : Hp, s_X9_sample 0 a1 h = some (r, h1) ∧ s_X10_sample 66 a1 h1 = some (r, h2) ∧ QS h h2 nv nf m lv := by
  have h3 := hP.1.2.2
  have A : s_X5_hasVariable 1 a1 h = some (bI (decide (0 ≤ a1.toInt ∧ a1.toInt < nv))) := by
    unfold s_X5_hasVariable
    rw [hP.1.1, has_z (by omega)]
  have B : ∀ H : Hp, H.1 66 0 = nI nv → s_X10_isVariable 66 a1 H = some (bI (decide (0 ≤ a1.toInt ∧ a1.toInt < nv))) := fun H e => by
    unfold s_X10_isVariable
    rw [e, isn_z (by omega), bnd_s, ckB_b]
  unfold s_X9_sample
  simp only [Nat.zero_add]
  by_cases c1 : 0 ≤ a1.toInt ∧ a1.toInt < nv
  rotate_left
  · refine ⟨-1, h, h, ?_, ?_, rf_q hP hc⟩
    · rw [A, decide_eq_false c1]; rfl
    · unfold s_X10_sample
      rw [B h hP.1.2.1, decide_eq_false c1]; rfl
  rw [A, decide_eq_true c1, bnd_s, if_neg (by decide), satis_z hP hn1 hc, bnd_s]
  cases hs : sB h m (aI m)
  · obtain ⟨H, n1, n2, n3⟩ := setSample_no hP.2.2.2.1.2.1 (no_F hP hs)
    refine ⟨-2, h, H, by rw [if_pos (by decide)], ?_, no_q hP hc n2 n3⟩
    unfold s_X10_sample
    rw [B h hP.1.2.1, decide_eq_true c1, bnd_s, if_neg (by decide), n1, bnd_s]
    rfl
  · obtain ⟨v, hv⟩ : ∃ i : Nat, a1.toInt = i := ⟨a1.toInt.toNat, by omega⟩
    have ea := of_nat hv
    subst ea
    have hvn : v < nv := by omega
    obtain ⟨P, Q, e, y1, y2, y3, y4, y5, y6⟩ := both_z hP hn1 hc hs
    have pb : (-4000000000 ≤ P v ∧ P v ≤ 4000000000) ∧ (0 < Q v ∧ Q v ≤ 22674816) := by
      obtain ⟨⟨a1, a2, a3, a4⟩, ⟨b1, b2, b3, b4⟩, ⟨c1, c2, c3, c4⟩⟩ := y4
      rcases (show v = 0 ∨ v = 1 ∨ v = 2 by omega) with rfl | rfl | rfl <;> omega
    have zP : (i64 (P v)).toInt = P v := i64_z (by omega) (by omega)
    have zQ : (i64 (Q v)).toInt = Q v := i64_z (by omega) (by omega)
    rw [if_neg (by decide), y1, bnd_s]
    simp only [show (42 + 11 : Nat) = 53 from rfl, show (42 + 12 : Nat) = 54 from rfl]
    rw [ldJ_n (by omega) (by omega), (y3 v (by omega)).1, ldJ_n (by omega) (by omega), (y3 v (by omega)).2, find_z (by rw [zP]; omega) (by rw [zQ]; omega), bnd_s]
    generalize gH2 : sJ (sJ e 0 12 (i64 (rn (i64 (P v)).toInt (i64 (Q v)).toInt))) 0 13 (i64 (rd (i64 (P v)).toInt (i64 (Q v)).toInt)) = H2
    have F2 : Fr [0] e H2 := by rw [← gH2]; exact (Fr.sJ (by simp)).tr (Fr.sJ (by simp))
    have K2 : FrK 0 [12, 13] e H2 := fun k hk => by
      simp at hk
      rw [← gH2]
      exact ⟨rfl, by rw [sJ_ne hk.2, sJ_ne hk.1]⟩
    have e12 : H2.2 0 12 = i64 (rn (i64 (P v)).toInt (i64 (Q v)).toInt) := by rw [← gH2, sJ_ne (by omega), sJ_same]
    have e13 : H2.2 0 13 = i64 (rd (i64 (P v)).toInt (i64 (Q v)).toInt) := by rw [← gH2, sJ_same]
    have F02 : Fr (0 :: smpc) h H2 := (y2.wid (by simp)).tr (F2.wid (by simp))
    obtain ⟨H4, m1, m2, m3, m4⟩ := y6 H2 F02
    have md : s_X10_sample 66 (nI v) H2 = (s_X10_says 66 (i64 (P v)) (i64 (Q v)) 1 H4).bind fun y5 => some (y5.1, y5.2) := by
      unfold s_X10_sample
      rw [B H2 (by rw [(F02 66 (by simp [smpc])).1]; exact hP.1.2.1), decide_eq_true c1, bnd_s, if_neg (by decide), m1, bnd_s, if_neg (show ¬ (1 : Int32) = 0 from by decide)]
      simp only [show (66 + 19 : Nat) = 85 from rfl, show (66 + 20 : Nat) = 86 from rfl]
      rw [ldJ_n (by omega) (by omega), (m4 v hvn).1, ldJ_n (by omega) (by omega), (m4 v hvn).2]
    obtain ⟨H5, sy, qs⟩ := says_q (h := h) (H4 := H4) (r := 1) (x := i64 (P v)) (y := i64 (Q v)) (x' := i64 (P v)) (y' := i64 (Q v)) hP hc ((F02.wid (by simp [smq])).tr (m2.wid (by simp [smq, smc, scr]))) (((FrK.of y2 (by simp [smpc])).tr K2).tr (FrK.of m2 (by simp [smc, scr]))) ((FrK.of F02 (by simp [smpc])).tr (m3.wid (by simp [rngK, scrK, iks]))) (by rw [zP]; omega) (by rw [zQ]; omega) (by rw [zQ]; omega) rfl (by rw [(m2 0 (by simp [smc, scr])).2]; exact e12) (by rw [(m2 0 (by simp [smc, scr])).2]; exact e13)
    exact ⟨1, H2, H5, rfl, by rw [md, sy, bnd_s], qs⟩
