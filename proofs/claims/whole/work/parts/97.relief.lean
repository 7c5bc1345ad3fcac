/-! the relief step -/
theorem wo_bt {x : Int32} {k i : Nat} (hk : k < 32) (hi : i < 32) : bt (wo x (nI k)) i = (bt x i && !decide (i = k)) := by
  rw [b_and, b_xor, bt_one hk hi, b_m1 i hi]
  cases bt x i <;> cases decide (i = k) <;> rfl
theorem abs32_z {z : Int} (hz : -1000 ≤ z ∧ z ≤ 1000) (h : Hp) : s_J9_abs_0f7a4 (i32 z) h = some (i32 (z.natAbs : Int)) := by
  have z0 : (0 : Int32).toInt = 0 := by decide
  unfold s_J9_abs_0f7a4
  by_cases c : z < 0
  · rw [if_pos (show i32 z < 0 from lt_z.mpr (by rw [z0, i32_z (by omega) (by omega)]; exact c)), i32_neg]; congr 2; omega
  · rw [if_neg (show ¬ i32 z < 0 from fun q => c (by have := lt_z.mp q; rw [z0, i32_z (by omega) (by omega)] at this; exact this))]; congr 2; omega
set_option maxHeartbeats 2000000 in
theorem relief_loop {h : Hp} {nv nf m lv k : Nat} (hP : ProbR h nv nf m lv) (hc : CIM h nv m) (hk : k < m) : ∃ h0 h', s_X4_begin 41 0 h = some h0 ∧ iter (fun s : Int32 × Hp => s_X9_relief_l46 0 (nI k) s.1 s.2) FUEL ((0 : Int32), h0) = some h' ∧ Fr [31, 37, 38, 41] h h' ∧ LimW h' 41 32400 ∧ h'.1 41 0 = 1 ∧ ∀ t, IV none (limO h' 41) t ↔ t ≤ 0 ∧ ∀ T, List.Sublist T (List.range m) → T.length ≤ nv + 1 → k ∈ T → Clash (rY h 32) T → ∀ g, circ (rY h 32) T = some g → UpS ((g k).natAbs : Int) (sm T (fun i => g i * (rY h 32).2.1 i)) (T.any (rY h 32).2.2.1) t := by
  have z0l : (0 : Int64).toInt = 0 := by decide
  have z1l : (1 : Int64).toInt = 1 := by decide
  have hm := hP.2.2.2.1.2.1.2.1
  have hW := rows_wf hc.1.1 hc.1.2.2 hc.2.1 hP.rw
  obtain ⟨⟨c1, c2, c3⟩, c4, n, tt, ⟨q1, q2, q3⟩, c6⟩ := hc
  obtain ⟨h0, b1, bF, bK, b2, b3, b4, b5⟩ := begin_z h 41
  have L0 : LimW h0 41 32400 := ⟨Or.inr b2, by rw [b4]; decide, by rw [b3, z0l]; omega, Or.inl b5⟩
  have nm := q1 m (Nat.le_refl _)
  have nb : n m ≤ 781 := Nat.le_trans nm.2.1 (BB_le m c3)
  have tb : ∀ i, i < n m → tt i < 2 ^ m ∧ Cls (rY h 32) nv (tt i) := fun i hi => (q3 m (Nat.le_refl _) (tt i)).mpr ⟨i, hi, rfl⟩
  have hbl : ∀ b, b < 2 ^ m → bl b 12 = bl b m := fun b hb => by
    have := bl_big hb (12 - m)
    rwa [show m + (12 - m) = 12 by omega] at this
  generalize hY : rY h 32 = Y at *
  obtain ⟨e, he, hp⟩ := iter_fuel (f := fun s : Int32 × Hp => s_X9_relief_l46 0 (nI k) s.1 s.2)
    (fun z => ∃ (i : Nat) (G : Hp), z = (nI i, G) ∧ i ≤ n m ∧ Fr [31, 37, 38, 41] h G ∧ LimW G 41 32400 ∧ G.1 41 0 = 1 ∧ ∀ t, IV none (limO G 41) t ↔ t ≤ 0 ∧ ∀ j, j < i → k ∈ bl (tt j) m → ∀ g, circ Y (bl (tt j) m) = some g → UpS ((g k).natAbs : Int) (sm (bl (tt j) m) (fun i => g i * Y.2.1 i)) ((bl (tt j) m).any Y.2.2.1) t)
    (fun z => 1000 - z.1.toNatClampNeg)
    (fun G => Fr [31, 37, 38, 41] h G ∧ LimW G 41 32400 ∧ G.1 41 0 = 1 ∧ ∀ t, IV none (limO G 41) t ↔ t ≤ 0 ∧ ∀ j, j < n m → k ∈ bl (tt j) m → ∀ g, circ Y (bl (tt j) m) = some g → UpS ((g k).natAbs : Int) (sm (bl (tt j) m) (fun i => g i * Y.2.1 i)) ((bl (tt j) m).any Y.2.2.1) t) (by
    rintro z ⟨i, G, rfl, hi, hF, hL, hth, ht⟩
    dsimp only
    unfold s_X9_relief_l46 s_X9_relief_b109 s_X1_size
    simp only [Nat.zero_add]
    have e40 : G.1 40 = h.1 40 := (hF 40 (by simp)).1
    have e39 : G.1 39 = h.1 39 := (hF 39 (by simp)).1
    have e32 : G.1 32 4 = nI m := by rw [(hF 32 (by simp)).1]; exact c1
    show (∃ s', ((ldI G 40 13 (G.1 32 4) fun x1 => some x1).bind _) = _ ∧ _) ∨ (∃ r, ((ldI G 40 13 (G.1 32 4) fun x1 => some x1).bind _) = _ ∧ _)
    have e40' : h.1 40 m = nI (n m) := nm.1
    rw [e32, ldI_n (by omega) (by omega), bnd_s, e40, e40']
    have mu : 1000 - (nI (i + 1)).toNatClampNeg < 1000 - (nI i).toNatClampNeg := by rw [nI_clamp (by omega), nI_clamp (by omega)]; omega
    by_cases q : i < n m
    · obtain ⟨b1, b2⟩ := tb i q
      have e39' : h.1 39 i = nI (tt i) := q2 i q
      rw [if_pos (nI_lt q (by omega))]
      show (∃ s', (ldI G 39 781 (nI i) fun x6 => _) = _ ∧ _) ∨ (∃ r, (ldI G 39 781 (nI i) fun x6 => _) = _ ∧ _)
      rw [ldI_n (by omega) (by omega), e39, e39']
      have WG : RowsWF G (31 + 1) m 50 := hW.fr hF (by simp) (by simp) (by simp) (by simp) (by simp)
      have YG : rY G (31 + 1) = Y := by rw [← hY]; exact rY_fr hF (by simp) (by simp) (by simp) (by simp)
      obtain ⟨r, G2, x1, gF, gp⟩ := examine_z (C := 31) WG (by omega) (by omega) b1
      rw [YG] at gp
      have eL := gF 41 (by simp)
      have GL2 : LimW G2 41 32400 := by unfold LimW; rw [eL.1, eL.2]; exact hL
      have GO2 : limO G2 41 = limO G 41 := by unfold limO; rw [eL.1, eL.2]
      have Gth : G2.1 41 0 = 1 := by rw [eL.1]; exact hth
      have GF2 : Fr [31, 37, 38, 41] h G2 := hF.tr (gF.wid (by simp))
      rw [x1, bnd_s]
      dsimp only
      have hcl := b2.2
      rw [hbl _ b1] at hcl
      rcases gp with ⟨g, hg, rfl, g3, gm, gs, gst, gb⟩ | ⟨hg, rfl⟩
      · rw [if_neg (by decide)]
        generalize hT : bl (tt i) m = T at *
        have hlT : T.length ≤ 4 := by
          rcases (show (T.length = 2 ∨ T.length = 3 ∨ T.length = 4) ∨ ¬ (T.length = 2 ∨ T.length = 3 ∨ T.length = 4) by omega) with y | y
          · omega
          · exfalso
            unfold circ at hg
            rw [fac_len y] at hg; cases hg
        have hTN : ∀ i ∈ T, i < m := fun i hi => by rw [← hT] at hi; exact (mem_bl.mp hi).1
        have hnd : T.Nodup := by rw [← hT]; exact bl_nodup _ _
        rw [factorOf_z (C := 31) (r := k) (T := T) (g := g) g3 hlT (fun i hi => by have := hTN i hi; omega) (by omega) gm, bnd_s]
        have step : ∀ G3 : Hp, Fr [31, 37, 38, 41] h G3 → LimW G3 41 32400 → G3.1 41 0 = 1 → (∀ t, IV none (limO G3 41) t ↔ IV none (limO G 41) t ∧ (k ∈ T → UpS ((g k).natAbs : Int) (sm T (fun i => g i * Y.2.1 i)) (T.any Y.2.2.1) t)) → ∀ t, IV none (limO G3 41) t ↔ t ≤ 0 ∧ ∀ j, j < i + 1 → k ∈ bl (tt j) m → ∀ g, circ Y (bl (tt j) m) = some g → UpS ((g k).natAbs : Int) (sm (bl (tt j) m) (fun i => g i * Y.2.1 i)) ((bl (tt j) m).any Y.2.2.1) t := fun G3 _ _ _ h3 t => by
          rw [h3 t, ht t]
          constructor
          · rintro ⟨⟨w1, w2⟩, w3⟩
            refine ⟨w1, fun j hj hkj g' hg' => ?_⟩
            rcases (show j < i ∨ j = i by omega) with y | rfl
            · exact w2 j y hkj g' hg'
            · rw [hT] at hkj hg' ⊢
              rw [hg] at hg'
              cases hg'
              exact w3 hkj
          · rintro ⟨w1, w2⟩
            refine ⟨⟨w1, fun j hj => w2 j (by omega)⟩, fun hkT => ?_⟩
            have := w2 i (by omega) (by rw [hT]; exact hkT) g (by rw [hT]; exact hg)
            rw [hT] at this
            exact this
        by_cases hkT : k ∈ T
        · have hgk := gb k hkT
          have hgn := (circ_sound hnd hg).2.1 k hkT
          rw [if_pos hkT, abs32_z (by omega), bnd_s, gs, gst]
          have hsb := sm_bd (T := T) (f := fun i => g i * Y.2.1 i) (B := 162 * 50) (fun i hi => by
            have yd : Y.2.1 i = (h.2 (32 + 2) i).toInt := by rw [← hY]; rfl
            have hr := hW.2.2.2 i (hTN i hi)
            exact mulb (A := 162) (B := 50) (gb i hi).1 (gb i hi).2 (by rw [yd]; omega) (by rw [yd]; omega))
          have hsb2 : -32400 ≤ sm T (fun i => g i * Y.2.1 i) ∧ sm T (fun i => g i * Y.2.1 i) ≤ 32400 := by
            have h4 : (T.length : Int) * (162 * 50) ≤ 4 * (162 * 50) := Int.mul_le_mul_of_nonneg_right (by omega) (by omega)
            omega
          have es : (i64 (sm T (fun i => g i * Y.2.1 i))).toInt = sm T (fun i => g i * Y.2.1 i) := i64_z (by omega) (by omega)
          have ef : (i32 ((g k).natAbs : Int)).toInt64.toInt = ((g k).natAbs : Int) := i32_tl (by omega) (by omega)
          obtain ⟨G3, e3, f3, k3, l3, y3, t3⟩ := lowerTo_z (h := G2) (L := 41) (x := i64 (sm T (fun i => g i * Y.2.1 i))) (y := (i32 ((g k).natAbs : Int)).toInt64) (B := 32400) (by omega) GL2 (by rw [es]; exact hsb2) (by rw [ef]; omega) (T.any Y.2.2.1)
          rw [e3, bnd_s, lt_red, nI_1]
          have F3 : Fr [31, 37, 38, 41] h G3 := GF2.tr (f3.wid (by simp))
          refine Or.inl ⟨_, rfl, ⟨i + 1, G3, rfl, by omega, F3, l3, y3, step G3 F3 l3 y3 (fun t => ?_)⟩, mu⟩
          rw [t3, GO2, es, ef]
          exact ⟨fun w => ⟨w.1, fun _ => w.2⟩, fun w => ⟨w.1, w.2 hkT⟩⟩
        · rw [if_neg hkT, show (0 : Int32) = i32 0 from by decide, abs32_z (by omega), bnd_s, lowerTo_no (by decide), bnd_s, lt_red, nI_1]
          refine Or.inl ⟨_, rfl, ⟨i + 1, G2, rfl, by omega, GF2, GL2, Gth, step G2 GF2 GL2 Gth (fun t => ?_)⟩, mu⟩
          rw [GO2]
          exact ⟨fun w => ⟨w, fun y => absurd y hkT⟩, fun w => w.1⟩
      · exfalso
        obtain ⟨g, hg', -⟩ := hcl
        rw [hg] at hg'; cases hg'
    · rw [if_neg (nI_nlt (by omega) (by omega))]
      have : i = n m := by omega
      subst this
      exact Or.inr ⟨_, rfl, hF, hL, hth, ht⟩)
    (nI 0, h0) ⟨0, h0, rfl, by omega, bF.wid (by simp), L0, b2, fun t => by
      rw [iv_lim L0, b2, b3, b4, b5, z0l, z1l]
      unfold UpS
      push_cast
      constructor
      · intro w
        refine ⟨?_, fun j hj => by omega⟩
        rcases w (by trivial) with y | ⟨y, -⟩ <;> grind
      · rintro ⟨w, -⟩ -
        by_cases y : t < 0
        · exact Or.inl (by grind)
        · exact Or.inr ⟨by grind, by decide⟩⟩ (by dsimp only; rw [nI_clamp (by omega)]; omega)
  obtain ⟨hF, hL, hth, ht⟩ := hp
  refine ⟨h0, e, b1, by rw [li0]; exact he, hF, hL, hth, fun t => ?_⟩
  rw [ht t]
  refine and_congr Iff.rfl ⟨fun w T hT hl hkT hC g hg => ?_, fun w j hj hkj g hg => ?_⟩
  · obtain ⟨b, hb, rfl⟩ := sub_bl hT
    have hb12 := hbl b hb
    obtain ⟨j, hj, rfl⟩ := (q3 m (Nat.le_refl _) b).mp ⟨hb, ⟨by rw [hb12]; exact hl, by rw [hb12]; exact hC⟩⟩
    exact w j hj hkT g hg
  · obtain ⟨b1, b2⟩ := tb j hj
    have hb12 := hbl _ b1
    obtain ⟨d1, d2⟩ := b2
    rw [hb12] at d1 d2
    exact w _ (bl_sub _ _) d1 hkj d2 g hg
set_option maxHeartbeats 2000000 in
theorem relief_step {h : Hp} {nv nf m lv : Nat} (hP : ProbR h nv nf m lv) (hn1 : 1 ≤ nv) (hc : CIM h nv m) (a1 : Int32) : ∃ r : Int32, ∃ h1 h2 : Hp, s_X9_relief 0 a1 h = some (r, h1) ∧ s_X10_relief 66 a1 h1 = some (r, h2) ∧ QP h h2 nv nf m lv := by
  have h3 := hP.1.2.2
  have hM := hP.2.2.2.1.2.1
  have hm := hM.2.1
  have rf : QP h h nv nf m lv := ⟨hP, hc, Fr.rf, FrK.rf, FrK.rf, id⟩
  have A : s_X5_hasConstraint 1 a1 h = some (bI (decide (0 ≤ a1.toInt ∧ a1.toInt < m))) := by
    unfold s_X5_hasConstraint; rw [hP.2.2.2.1.1, has_z (by omega)]
  have B : ∀ H : Hp, H.1 66 3 = nI m → s_X10_isBound 66 a1 H = some (bI (decide (0 ≤ a1.toInt ∧ a1.toInt < m))) := fun H e => by
    unfold s_X10_isBound; rw [e, isn_z (by omega), bnd_s, ckB_b]
  by_cases c1 : 0 ≤ a1.toInt ∧ a1.toInt < m
  rotate_left
  · refine ⟨-1, h, h, ?_, ?_, rf⟩
    · unfold s_X9_relief; simp only [Nat.zero_add]; rw [A, decide_eq_false c1]; rfl
    · unfold s_X10_relief; rw [B h hM.1, decide_eq_false c1]; rfl
  obtain ⟨k, hk⟩ : ∃ i : Nat, a1.toInt = i := ⟨a1.toInt.toNat, by omega⟩
  have hkm : k < m := by omega
  have ea := of_nat hk
  subst ea
  obtain ⟨⟨w1, w2⟩, ⟨w3, w4⟩, w5⟩ := hM.2.2.2 k hkm
  generalize hx : wo (aI m) (nI k) = x
  have hxe : aI m &&& (((1 : Int32) <<< (nI k &&& 31)) ^^^ (-1 : Int32)) = x := hx
  have mh : ∀ p, mHold h 66 x m p ↔ ∀ i, i < m → i ≠ k → hold (rY h 32) i p := fun p => by
    rw [mHold_iff hM]
    constructor
    · intro q i hi hik
      exact (row_hold (hP.rw i hi).1 (hc.2.1 i hi) p).mpr (q i hi (by rw [← hx, wo_bt (by omega) (by omega), aI_set hm.1 hi, decide_eq_false hik]; rfl))
    · intro q i hi hb
      have hik : i ≠ k := fun z => by
        rw [← hx, wo_bt (by omega) (by omega), decide_eq_true z, Bool.not_true, Bool.and_false] at hb
        cases hb
      exact (row_hold (hP.rw i hi).1 (hc.2.1 i hi) p).mp (q i hi hik)
  -- the model
  have head : ∀ H : Hp, ProbR H nv nf m lv → (mG H 66 = mG h 66 ∧ mS H 66 = mS h 66 ∧ mD H 66 = mD h 66 ∧ mK H 66 = mK h 66) → ∃ H4, Fr (scr 66) H H4 ∧ FrK 66 scrK H H4 ∧ WFI 839808 6998400 H4 66 ∧ (∀ t, inI H4 66 t ↔ ∃ p, mHold h 66 x m p ∧ lin (mK h 66 (mG h 66 k)) p = t) ∧ (H4.1 66 28 = 0 ↔ ∃ t, inI H4 66 t) ∧ s_X10_relief 66 (nI k) H = (if (H4.1 66 28) = 0 then (if nI (mS h 66 k) = (4 : Int32) then ((s_X10_lacksBoth 66 (i32 (mD h 66 k)) H4).bind fun y7 => some (y7.1, y7.2)) else (if nI (mS h 66 k) < (2 : Int32) then (if nI (mS h 66 k) = (1 : Int32) then (s_X10_relief_b92 66 (1 : Int32) (i32 (mD h 66 k)) H4) else (s_X10_relief_b92 66 (0 : Int32) (i32 (mD h 66 k)) H4)) else (if nI (mS h 66 k) = (3 : Int32) then (s_X10_relief_b110 66 (1 : Int32) (i32 (mD h 66 k)) H4) else (s_X10_relief_b110 66 (0 : Int32) (i32 (mD h 66 k)) H4)))) else (some ((-9 : Int32), H4))) := fun H PH hg => by
    obtain ⟨g1, g2, g3, g4⟩ := hg
    have MH := PH.2.2.2.1.2.1
    obtain ⟨⟨u1, u2⟩, ⟨u3, u4⟩, u5⟩ := MH.2.2.2 k hkm
    rw [g1] at u1 u2
    rw [g2] at u3
    obtain ⟨H4, m1, m2, m3, m4, m5, m6⟩ := seesForm_z (g := mG h 66 k) MH u2 x (PH.2.2.1 _ u2).1
    have mh2 : ∀ p, mHold H 66 x m p ↔ mHold h 66 x m p := fun p => by unfold mHold; rw [mset_congr g1 g2 g3 g4]
    refine ⟨H4, m2, m3, m4, fun t => ?_, m6, ?_⟩
    · rw [m5 t, g4]
      constructor
      · rintro ⟨p, y1, y2⟩; exact ⟨p, (mh2 p).mp y1, y2⟩
      · rintro ⟨p, y1, y2⟩; exact ⟨p, (mh2 p).mpr y1, y2⟩
    · have e68 : H4.1 68 = H.1 68 := (m2 68 (by simp [scr])).1
      have ed : H.1 68 (3 * k + 2) = i32 (mD h 66 k) := by rw [← g3]; exact (i32_of _).symm
      unfold s_X10_relief
      rw [B H MH.1, decide_eq_true c1, bnd_s, if_neg (by decide), allB_z MH.1, bnd_s, show (3 : Int32) * nI k = nI (3 * k) from by rw [li3, nI_mul], ldI_n (by omega) (by omega), u1, hxe, m1, bnd_s, show nI (3 * k) + 1 = nI (3 * k + 1) from nI_1 _, show nI (3 * k) + 2 = nI (3 * k + 2) from by rw [li2, nI_add], ldI_n (by omega) (by omega), ldI_n (by omega) (by omega), show (66 + 2 : Nat) = 68 from rfl, e68, ed]
      have u3' : H.1 68 (3 * k + 1) = nI (mS h 66 k) := u3
      rw [u3']
  have cls0 : s_X9_relief 0 (nI k) h = (if bI (!sB h m x) = 0 then ((s_X4_begin 41 (0 : Int64) h).bind fun y4 => (iter (fun s : Int32 × Hp => s_X9_relief_l46 0 (nI k) s.1 s.2) FUEL ((0 : Int32), y4)).bind fun e12 => (s_X9_find 0 (-(e12.2 41 1)) (e12.2 41 2) e12).bind fun y13 => if (y13.1 41 3) = 0 then (some ((1 : Int32), y13)) else (some ((0 : Int32), y13))) else (some ((-9 : Int32), h))) := by
    unfold s_X9_relief
    simp only [Nat.zero_add]
    rw [A, decide_eq_true c1, bnd_s, if_neg (by decide), allC_z hP.2.2.2.1.1, bnd_s, hxe, within_m hP hn1 hc, bnd_s]
  cases hs : sB h m x
  · -- the others are not satisfiable
    obtain ⟨H4, m2, m3, m4, m5, m6, m7⟩ := head h hP ⟨rfl, rfl, rfl, rfl⟩
    have n0 : ¬ H4.1 66 28 = 0 := fun q => by
      obtain ⟨t, ht⟩ := m6.mp q
      obtain ⟨p, hp, -⟩ := (m5 t).mp ht
      have := sB_iff.mpr ⟨p, hp⟩
      rw [hs] at this; cases this
    obtain ⟨P4, C4⟩ := PC.fr hP hc m2 m3 (by simp [scr]) (by simp [scrK, iks])
    refine ⟨-9, h, H4, by rw [cls0, hs]; rfl, by rw [m7, if_neg n0], P4, C4, m2.wid (by simp [rngc, scr]), FrK.of m2 (by simp [scr]), m3.wid (by simp [rngK, scrK, iks]), fun q => ?_⟩
    unfold Res2
    rw [(m2 0 (by simp [scr])).2, (m3 34 (by simp [scrK, iks])).2, (m3 35 (by simp [scrK, iks])).2]; exact q
  · obtain ⟨p0, hp0⟩ := sB_iff.mp hs
    obtain ⟨h0, H1, b1, l1, F1, L1, th1, T1⟩ := relief_loop hP hc hkm
    have rel := fun (s : Rat) (hs0 : 0 ≤ s) => relax_iff (Y := rY h 32) (k := k) (M := m) hn1 h3 (rows_forms hc.2.1 hP.rw) (rows_se hc.2.1) hkm ⟨p0, (mh p0).mp hp0⟩ hs0
    have T2 : ∀ t, IV none (limO H1 41) t ↔ t ≤ 0 ∧ ∃ p, mHold h 66 x m p ∧ RelaxH (rY h 32) k (-t) p := fun t => by
      rw [T1 t]
      constructor
      · rintro ⟨y1, y2⟩
        refine ⟨y1, ?_⟩
        have := (rel (-t) (by grind)).mpr (by rw [show - -t = t by grind]; exact y2)
        obtain ⟨p, z1, z2⟩ := this
        exact ⟨p, (mh p).mpr z1, z2⟩
      · rintro ⟨y1, p, z1, z2⟩
        have := (rel (-t) (by grind)).mp ⟨p, (mh p).mp z1, z2⟩
        rw [show - -t = t by grind] at this
        exact ⟨y1, this⟩
    -- what it says of the form's values
    have row := hc.2.1 k hkm
    have eqk := row.eq
    have stk := row.st
    have lk : ∀ p : Nat → Rat, lin ((rY h 32).1 k) p = (tz (mS h 66 k) : Rat) * lin (mK h 66 (mG h 66 k)) p := fun p => by
      show lin (rF h 32 k) p = _
      unfold lin
      rw [row.1 0 (by omega), row.1 1 (by omega), row.1 2 (by omega)]; push_cast; grind
    have dk : (((rY h 32).2.1 k : Int) : Rat) = (tz (mS h 66 k) : Rat) * (mD h 66 k : Rat) := by
      show (((h.2 34 k).toInt : Int) : Rat) = _
      rw [row.2.1]; push_cast; rfl
    obtain ⟨ex1, fz⟩ : (-(H1.2 41 1)).toInt = - (H1.2 41 1).toInt ∧ s_X9_find 0 (-(H1.2 41 1)) (H1.2 41 2) H1 = some (sJ (sJ H1 0 12 (i64 (rn (-(H1.2 41 1)).toInt (H1.2 41 2).toInt))) 0 13 (i64 (rd (-(H1.2 41 1)).toInt (H1.2 41 2).toInt))) := by
      have e : (-(H1.2 41 1)).toInt = - (H1.2 41 1).toInt := negl_z (by have := L1.2.2.1; omega)
      exact ⟨e, find_z (by rw [e]; have := L1.2.2.1; omega) ⟨L1.2.1.1, by have := L1.2.1.2; omega⟩⟩
    generalize gH2 : sJ (sJ H1 0 12 (i64 (rn (-(H1.2 41 1)).toInt (H1.2 41 2).toInt))) 0 13 (i64 (rd (-(H1.2 41 1)).toInt (H1.2 41 2).toInt)) = H2 at fz
    have F2 : Fr [0] H1 H2 := by rw [← gH2]; exact (Fr.sJ (by simp)).tr (Fr.sJ (by simp))
    have K2 : FrK 0 [12, 13] H1 H2 := fun k hk => by
      simp at hk
      rw [← gH2]
      exact ⟨rfl, by rw [sJ_ne hk.2, sJ_ne hk.1]⟩
    have e12 : H2.2 0 12 = i64 (rn (-(H1.2 41 1)).toInt (H1.2 41 2).toInt) := by rw [← gH2, sJ_ne (by omega), sJ_same]
    have e13 : H2.2 0 13 = i64 (rd (-(H1.2 41 1)).toInt (H1.2 41 2).toInt) := by rw [← gH2, sJ_same]
    have F02 : Fr [0, 31, 37, 38, 41] h H2 := (F1.wid (by simp)).tr (F2.wid (by simp))
    obtain ⟨P2, C2⟩ := PC.fr hP hc F02 (FrK.of F02 (by simp) (ks := [])) (by simp) (by simp)
    have g4 := (hM.fr F02 (FrK.of F02 (by simp) (ks := [])) (by simp) (by simp) (by simp)).2
    obtain ⟨H4, m2, m3, m4, m5, m6, m7⟩ := head H2 P2 g4
    have ne : ∃ t, inI H4 66 t := ⟨_, (m5 _).mpr ⟨p0, hp0, rfl⟩⟩
    have n0 := m6.mpr ne
    have hin : ∀ t, inI H4 66 t ↔ IV (lowO H4 66) (highO H4 66) t := fun t => (inI_iv m4 t).trans ⟨fun q => q.2, fun q => ⟨n0, q⟩⟩
    have neI : ∃ t, IV (lowO H4 66) (highO H4 66) t := by
      obtain ⟨t, q⟩ := ne
      exact ⟨t, (hin t).mp q⟩
    have vals : ∀ Q : Rat → Prop, (∃ p, mHold h 66 x m p ∧ Q (lin (mK h 66 (mG h 66 k)) p)) ↔ ∃ v, IV (lowO H4 66) (highO H4 66) v ∧ Q v := fun Q => by
      constructor
      · rintro ⟨p, y1, y2⟩
        exact ⟨_, (hin _).mp ((m5 _).mpr ⟨p, y1, rfl⟩), y2⟩
      · rintro ⟨v, y1, y2⟩
        obtain ⟨p, y3, rfl⟩ := (m5 v).mp ((hin v).mpr y1)
        exact ⟨p, y3, y2⟩
    obtain ⟨P4, C4⟩ := PC.fr P2 C2 m2 m3 (by simp [scr]) (by simp [scrK, iks])
    have cls : s_X9_relief 0 (nI k) h = some (if decide (H1.1 41 3 = 1) = true then 0 else 1, H2) := by
      rw [cls0, hs, if_pos (by decide), b1, bnd_s, l1, bnd_s, fz, bnd_s, (F2 41 (by simp)).1]
      rcases L1.2.2.2 with o | o
      · rw [o, if_pos rfl]; rfl
      · rw [o, if_neg (by decide)]; rfl
    -- close, from what the model answers
    have close : ∀ (P : Rat → Prop), LacP H4 (s_X10_relief 66 (nI k) H2) P → (∀ t, IV none (limO H1 41) t ↔ P t) → ∃ r : Int32, ∃ h1 h2 : Hp, s_X9_relief 0 (nI k) h = some (r, h1) ∧ s_X10_relief 66 (nI k) h1 = some (r, h2) ∧ QP h h2 nv nf m lv := by
      rintro P ⟨x', y', o, eM, y1, x1, hiv⟩ hPt
      have eE : limO H1 41 = some (((-x'.toInt : Int) : Rat) / (y'.toInt : Rat), o) := end_one (fun t => (hPt t).trans (hiv t).symm)
      have eO : limO H1 41 = some (((H1.2 41 1).toInt : Rat) / ((H1.2 41 2).toInt : Rat), decide (H1.1 41 3 = 1)) := if_pos th1
      rw [eO] at eE
      have e1 := congrArg Prod.fst (Option.some.inj eE)
      have e2 := congrArg Prod.snd (Option.some.inj eE)
      dsimp only at e1 e2
      have cross : (-(H1.2 41 1)).toInt * y'.toInt = x'.toInt * (H1.2 41 2).toInt := by
        have := frac_eq L1.2.1.1 y1 e1
        rw [ex1, Int.neg_mul, this, Int.neg_mul, Int.neg_neg]
      obtain ⟨H5, sy, qp⟩ := says_res (h := h) (H2 := H2) (r := if o = true then 0 else 1) (x := -(H1.2 41 1)) (y := H1.2 41 2) (x' := x') (y' := y') P4 C4 ((F02.wid (by simp [rngc, rowc])).tr (m2.wid (by simp [rngc, scr]))) (((FrK.of F1 (by simp)).tr K2).tr (FrK.of m2 (by simp [scr]))) ((FrK.of F02 (by simp)).tr (m3.wid (by simp [rngK, scrK, iks]))) (by omega) L1.2.1.1 y1 cross (by rw [(m2 0 (by simp [scr])).2]; exact e12) (by rw [(m2 0 (by simp [scr])).2]; exact e13)
      exact ⟨_, H2, H5, by rw [cls, e2], by rw [eM, sy, bnd_s], qp⟩
    rw [if_pos n0] at m7
    unfold s_X10_relief_b92 s_X10_relief_b110 at m7
    simp only [bind_pair] at m7
    have mid : ∀ (t : Rat) (V : Rat → Prop), (∀ p, RelaxH (rY h 32) k (-t) p ↔ V (lin (mK h 66 (mG h 66 k)) p)) → ((∃ p, mHold h 66 x m p ∧ RelaxH (rY h 32) k (-t) p) ↔ ∃ v, IV (lowO H4 66) (highO H4 66) v ∧ V v) := fun t V hV => by
      rw [← vals V]
      constructor
      · rintro ⟨p, y1, y2⟩; exact ⟨p, y1, (hV p).mp y2⟩
      · rintro ⟨p, y1, y2⟩; exact ⟨p, y1, (hV p).mpr y2⟩
    rcases (show mS h 66 k = 0 ∨ mS h 66 k = 1 ∨ mS h 66 k = 2 ∨ mS h 66 k = 3 ∨ mS h 66 k = 4 by omega) with e | e | e | e | e
    all_goals rw [e] at m7 stk eqk lk dk
    · rw [if_neg (by decide), if_pos (by decide), if_neg (by decide)] at m7
      refine close _ (by rw [m7]; exact lacksLow_z m4 w5 false) (fun t => ?_)
      rw [T2 t, mid t (fun v => v ≤ (mD h 66 k : Rat) - t) (fun p => ?_)]
      · have := iv_lo neI ((mD h 66 k : Rat) - t)
        rw [this, show -((mD h 66 k : Rat) - t) = t - (mD h 66 k : Rat) by grind]
      · unfold RelaxH
        rw [stk, eqk, lk, dk, show tz 0 = 1 from rfl]
        simp only [show (decide (0 = 1 ∨ 0 = 3)) = false from rfl, show (decide (0 = 4)) = false from rfl, Bool.false_eq_true, if_false, false_or]
        constructor
        · intro y; have := y 1 (Or.inl rfl) rfl; push_cast at this; grind
        · intro y σ _ hσ; subst hσ; push_cast; grind
    · rw [if_neg (by decide), if_pos (by decide), if_pos (by decide)] at m7
      refine close _ (by rw [m7]; exact lacksLow_z m4 w5 true) (fun t => ?_)
      rw [T2 t, mid t (fun v => v < (mD h 66 k : Rat) - t) (fun p => ?_)]
      · have := iv_los neI ((mD h 66 k : Rat) - t)
        rw [this, show -((mD h 66 k : Rat) - t) = t - (mD h 66 k : Rat) by grind]
      · unfold RelaxH
        rw [stk, eqk, lk, dk, show tz 1 = 1 from rfl]
        simp only [show (decide (1 = 1 ∨ 1 = 3)) = true from rfl, show (decide (1 = 4)) = false from rfl, Bool.false_eq_true, if_true, false_or]
        constructor
        · intro y; have := y 1 (Or.inl rfl) rfl; push_cast at this; grind
        · intro y σ _ hσ; subst hσ; push_cast; grind
    · rw [if_neg (by decide), if_neg (by decide), if_neg (by decide)] at m7
      refine close _ (by rw [m7]; exact lacksHigh_z m4 w5 false) (fun t => ?_)
      rw [T2 t, mid t (fun v => (mD h 66 k : Rat) + t ≤ v) (fun p => ?_)]
      · have := iv_hi2 neI ((mD h 66 k : Rat) + t) false
        simp only [Bool.false_eq_true, if_false] at this
        rw [this]
      · unfold RelaxH
        rw [stk, eqk, lk, dk, show tz 2 = -1 from rfl]
        simp only [show (decide (2 = 1 ∨ 2 = 3)) = false from rfl, show (decide (2 = 4)) = false from rfl, Bool.false_eq_true, if_false, false_or]
        constructor
        · intro y; have := y 1 (Or.inl rfl) rfl; push_cast at this; grind
        · intro y σ _ hσ; subst hσ; push_cast; grind
    · rw [if_neg (by decide), if_neg (by decide), if_pos (by decide)] at m7
      refine close _ (by rw [m7]; exact lacksHigh_z m4 w5 true) (fun t => ?_)
      rw [T2 t, mid t (fun v => (mD h 66 k : Rat) + t < v) (fun p => ?_)]
      · have := iv_hi2 neI ((mD h 66 k : Rat) + t) true
        simp only [if_true] at this
        rw [this]
      · unfold RelaxH
        rw [stk, eqk, lk, dk, show tz 3 = -1 from rfl]
        simp only [show (decide (3 = 1 ∨ 3 = 3)) = true from rfl, show (decide (3 = 4)) = false from rfl, Bool.false_eq_true, if_true, false_or]
        constructor
        · intro y; have := y 1 (Or.inl rfl) rfl; push_cast at this; grind
        · intro y σ _ hσ; subst hσ; push_cast; grind
    · rw [if_pos (by decide)] at m7
      refine close _ (by rw [m7]; exact lacksBoth_z m4 neI w5) (fun t => ?_)
      rw [T2 t]
      refine and_congr_right (fun ht => ?_)
      rw [mid t (fun v => v ≤ (mD h 66 k : Rat) - t ∧ (mD h 66 k : Rat) + t ≤ v) (fun p => ?_)]
      · have := iv_both neI (a := (mD h 66 k : Rat) + t) (b := (mD h 66 k : Rat) - t) (by grind)
        rw [this, show -((mD h 66 k : Rat) - t) = t - (mD h 66 k : Rat) by grind]
      · unfold RelaxH
        rw [stk, eqk, lk, dk, show tz 4 = 1 from rfl]
        simp only [show (decide (4 = 1 ∨ 4 = 3)) = false from rfl, show (decide (4 = 4)) = true from rfl, Bool.false_eq_true, if_false, true_or, true_implies]
        constructor
        · intro y
          have y1 := y 1 (Or.inl rfl)
          have y2 := y (-1) (Or.inr rfl)
          push_cast at y1 y2
          exact ⟨by grind, by grind⟩
        · rintro ⟨y1, y2⟩ σ hσ
          rcases hσ with e | e
          · subst e; push_cast; grind
          · subst e; push_cast; grind
