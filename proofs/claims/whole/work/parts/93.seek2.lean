/-! Limit.seek: the supremum of a form over the points that satisfy the rows -/
abbrev cirk (C : Nat) : List Nat := [C, C + 1, C + 2, C + 3, C + 4, C + 5, C + 6, C + 7]
def RowsSame (h h' : Hp) (R N : Nat) : Prop := ∀ i, i < N → (∀ v, v < 3 → rF h' R i v = rF h R i v) ∧ h'.2 (R + 2) i = h.2 (R + 2) i ∧ h'.1 (R + 3) i = h.1 (R + 3) i ∧ h'.1 (R + 4) i = h.1 (R + 4) i
theorem rs_hold {h h' : Hp} {R N i : Nat} (a : RowsSame h h' R N) (hi : i < N) (p : Nat → Rat) : hold (rY h' R) i p ↔ hold (rY h R) i p := by
  obtain ⟨a1, a2, a3, a4⟩ := a i hi
  unfold hold
  have e1 : lin ((rY h' R).1 i) p = lin ((rY h R).1 i) p := by
    show lin (rF h' R i) p = lin (rF h R i) p
    unfold lin
    rw [a1 0 (by omega), a1 1 (by omega), a1 2 (by omega)]
  have e2 : (rY h' R).2.1 i = (rY h R).2.1 i := by
    show (h'.2 (R + 2) i).toInt = (h.2 (R + 2) i).toInt
    rw [a2]
  have e3 : (rY h' R).2.2.1 i = (rY h R).2.2.1 i := by
    show decide (h'.1 (R + 3) i = 1) = decide (h.1 (R + 3) i = 1)
    rw [a3]
  have e4 : (rY h' R).2.2.2 i = (rY h R).2.2.2 i := by
    show decide (h'.1 (R + 4) i = 1) = decide (h.1 (R + 4) i = 1)
    rw [a4]
  rw [e1, e2, e3, e4]
theorem rows_se2 {h : Hp} {R N : Nat} {D : Int} (hW : RowsWF h R N D) : ∀ i, i < N → (rY h R).2.2.1 i = true → (rY h R).2.2.2 i = false := by
  intro i hi q
  have q1 : h.1 (R + 3) i = 1 := of_decide_eq_true q
  have := (hW.2.2.2 i hi).2.2.1 q1
  show decide (h.1 (R + 4) i = 1) = false
  rw [this]; decide
theorem begin_z (h : Hp) (L : Nat) : ∃ h', s_X4_begin L 0 h = some h' ∧ Fr [L] h h' ∧ FrK L [0, 1, 2, 3] h h' ∧ h'.1 L 0 = 1 ∧ h'.2 L 1 = 0 ∧ h'.2 L 2 = 1 ∧ h'.1 L 3 = 0 := by
  unfold s_X4_begin
  rw [lt_red, lt_red, lt_red, lt_red]
  refine ⟨_, rfl, ((Fr.sI (by simp)).tr (Fr.sJ (by simp))).tr ((Fr.sJ (by simp)).tr (Fr.sI (by simp))), fun k hk => ?_, ?_, ?_, ?_, ?_⟩
  · simp at hk
    obtain ⟨k0, k1, k2, k3⟩ := hk
    exact ⟨by rw [sI_ne k3, sJ_I, sJ_I, sI_ne k0], by rw [sI_J, sJ_ne k2, sJ_ne k1]; rfl⟩
  · rw [sI_ne (by omega), sJ_I, sJ_I, sI_same]
  · rw [sI_J, sJ_ne (by omega), sJ_same]
  · rw [sI_J, sJ_same]
  · rw [sI_same]
set_option maxHeartbeats 2000000 in
theorem seek_z {h : Hp} {C Lm N nv ub : Nat} {D : Int} (hLm : Lm < C ∨ C + 7 < Lm) (hW : RowsWF h (C + 1) N D) (hD0 : 0 ≤ D) (hD : D ≤ 1000000000000) (hv : h.1 (C + 1) 5 = nI nv) (h1 : 1 ≤ nv) (h3 : ub + nv ≤ 3) (hN : N < 12) (hF : ∀ i, i < N → ∀ v, v < 3 → (v < ub ∨ ub + nv ≤ v) → rF h (C + 1) i v = 0) (hsat : Sat (rY h (C + 1)) (List.range N)) {K : Nat → Int} (hK : ∀ v, v < 3 → -3 ≤ K v ∧ K v ≤ 3) (hKz : ∀ v, v < 3 → (v < ub ∨ ub + nv ≤ v) → K v = 0) (hKn : ∃ v, v < 3 ∧ K v ≠ 0) : ∃ h', s_X4_seek Lm C (i32 (K 0)) (i32 (K 1)) (i32 (K 2)) h = some h' ∧ Fr (Lm :: cirk C) h h' ∧ FrK Lm [0, 1, 2, 3] h h' ∧ RowsWF h' (C + 1) N D ∧ h'.1 (C + 1) 5 = nI nv ∧ RowsSame h h' (C + 1) N ∧ (∀ k, (h'.1 (C + 4) k = h.1 (C + 4) k ∨ h'.1 (C + 4) k = 0) ∧ (h'.1 (C + 5) k = h.1 (C + 5) k ∨ h'.1 (C + 5) k = 0)) ∧ LimW h' Lm (648 * D) ∧ ∀ t, IV none (limO h' Lm) t ↔ ∃ p, (∀ i, i < N → hold (rY h (C + 1)) i p) ∧ t ≤ lin K p := by
  have hc : ∀ c, c ∈ cirk C → c ≠ Lm := fun c hc q => by simp [cirk] at hc; omega
  obtain ⟨h0, b1, bF, bK, b2, b3, b4, b5⟩ := begin_z h Lm
  unfold s_X4_seek
  rw [b1, bnd_s, lt_red, lt_red]
  generalize gh2 : sI h0 Lm 0 0 = h2
  have F2 : Fr [Lm] h h2 := bF.tr (by rw [← gh2]; exact Fr.sI (by simp))
  have K2 : FrK Lm [0, 1, 2, 3] h h2 := bK.tr (fun k hk => by
    simp at hk
    rw [← gh2]; exact ⟨sI_ne hk.1, rfl⟩)
  have p0 : h2.1 Lm 0 = 0 := by rw [← gh2, sI_same]
  have p1 : h2.2 Lm 1 = 0 := by rw [← gh2]; exact b3
  have p2 : h2.2 Lm 2 = 1 := by rw [← gh2]; exact b4
  have p3 : h2.1 Lm 3 = 0 := by rw [← gh2, sI_ne (by omega)]; exact b5
  have L2 : LimW h2 Lm (648 * D) := by
    refine ⟨Or.inl p0, by rw [p2]; decide, ?_, Or.inl p3⟩
    rw [p1, show (0 : Int64).toInt = 0 from by decide]; omega
  have ro : ∀ c, c ∈ cirk C → h2.1 c = h.1 c ∧ h2.2 c = h.2 c := fun c hcc => F2 c (by simpa using hc c hcc)
  have r1 := ro (C + 1) (by simp [cirk])
  have r2 := ro (C + 2) (by simp [cirk])
  have r3 := ro (C + 3) (by simp [cirk])
  have r4 := ro (C + 4) (by simp [cirk])
  have r5 := ro (C + 5) (by simp [cirk])
  have e4 : h2.1 (C + 1) 4 = nI N := by rw [r1.1]; exact hW.1
  rw [e4, if_pos (show nI N < (12 : Int32) from nI_lt (b := 12) hN (by decide))]
  obtain ⟨H, q1, q2, q3, ⟨q4, q5, q6, q7⟩, ⟨q8, q9⟩, ⟨q10, q11⟩, ⟨q12, q13⟩, qF⟩ := push_z (h := h2) (R := C + 1) e4 hN (s := 2) (by omega) (i32 (K 0)) (i32 (K 1)) (i32 (K 2)) 0
  have q1' : s_X7_push (C + 1) (i32 (K 0)) (i32 (K 1)) (i32 (K 2)) 0 2 h2 = some H := q1
  rw [q1', bnd_s]
  have tm : tI 2 = -1 := rfl
  -- the rows behind the push
  have same : RowsSame h H (C + 1) N := fun i hi => by
    refine ⟨fun v hv => ?_, ?_, ?_, ?_⟩
    · unfold rF
      rw [q7 _ (by omega)]
      show (h2.1 (C + 2) _).toInt = (h.1 (C + 2) _).toInt
      rw [r2.1]
    · rw [q9 i hi]
      show h2.2 (C + 3) i = h.2 (C + 3) i
      rw [r3.2]
    · rw [q11 i (by omega)]
      show h2.1 (C + 4) i = h.1 (C + 4) i
      rw [r4.1]
    · rw [q13 i (by omega)]
      show h2.1 (C + 5) i = h.1 (C + 5) i
      rw [r5.1]
  have newF : ∀ v, v < 3 → rF H (C + 1) N v = - K v := fun v hv => by
    have mz : ∀ k, -3 ≤ k ∧ k ≤ 3 → (tI 2 * i32 k).toInt = - k := fun k hk => by
      rw [mul3_z (B := 3) hk (by omega), show tz 2 = -1 from rfl]; omega
    rcases (show v = 0 ∨ v = 1 ∨ v = 2 by omega) with rfl | rfl | rfl
    · show (H.1 (C + 1 + 1) (3 * N)).toInt = _
      rw [q4]; exact mz _ (hK 0 (by omega))
    · show (H.1 (C + 1 + 1) (3 * N + 1)).toInt = _
      rw [q5]; exact mz _ (hK 1 (by omega))
    · show (H.1 (C + 1 + 1) (3 * N + 2)).toInt = _
      rw [q6]; exact mz _ (hK 2 (by omega))
  have newd : H.2 (C + 1 + 2) N = 0 := by rw [q8]; decide
  have news : H.1 (C + 1 + 3) N = 0 := by rw [q10]; rfl
  have newe : H.1 (C + 1 + 4) N = 0 := by rw [q12]; rfl
  have z0l : (0 : Int64).toInt = 0 := by decide
  have WH : RowsWF H (C + 1) (N + 1) D := by
    refine ⟨q2, by omega, fun i hi v hv => ?_, fun i hi => ?_⟩
    · rcases (show i < N ∨ i = N by omega) with y | rfl
      · rw [(same i y).1 v hv]; exact hW.2.2.1 i y v hv
      · rw [newF v hv]; have := hK v hv; omega
    · rcases (show i < N ∨ i = N by omega) with y | rfl
      · obtain ⟨a1, a2, a3, a4⟩ := same i y
        rw [a2, a3, a4]; exact hW.2.2.2 i y
      · rw [newd, news, newe, z0l]; simp; omega
  have FH : ∀ i, i < N + 1 → ∀ v, v < 3 → (v < ub ∨ ub + nv ≤ v) → (rY H (C + 1)).1 i v = 0 := fun i hi v hv hn => by
    show rF H (C + 1) i v = 0
    rcases (show i < N ∨ i = N by omega) with y | rfl
    · rw [(same i y).1 v hv]; exact hF i y v hv hn
    · rw [newF v hv, hKz v hv hn]; rfl
  have FN : ∃ v, v < 3 ∧ (rY H (C + 1)).1 N v ≠ 0 := by
    obtain ⟨v, hv, hne⟩ := hKn
    refine ⟨v, hv, ?_⟩
    show rF H (C + 1) N v ≠ 0
    rw [newF v hv]; omega
  have satH : Sat (rY H (C + 1)) (List.range N) := by
    obtain ⟨p, hp⟩ := hsat
    exact ⟨p, fun i hi => (rs_hold same (List.mem_range.mp hi) p).mpr (hp i hi)⟩
  have hY3 : (rY H (C + 1)).2.2.1 N = false := by
    show decide (H.1 (C + 1 + 3) N = 1) = false
    rw [news]; decide
  have hY4 : (rY H (C + 1)).2.2.2 N = false := by
    show decide (H.1 (C + 1 + 4) N = 1) = false
    rw [newe]; decide
  have hYd : (rY H (C + 1)).2.1 N = 0 := by
    show (H.2 (C + 1 + 2) N).toInt = 0
    rw [newd, z0l]
  have lim := lim_bits hN h1 h3 FH FN (rows_se2 WH) hY3 hY4 hYd satH
  have linN : ∀ p : Nat → Rat, lin ((rY H (C + 1)).1 N) p = - lin K p := fun p => by
    show lin (rF H (C + 1) N) p = _
    unfold lin
    rw [newF 0 (by omega), newF 1 (by omega), newF 2 (by omega)]; push_cast; grind
  have FH2 : Fr (Lm :: cirk C) h H := (F2.wid (by simp)).tr (qF.wid (by simp [cirk]))
  have LH : LimW H Lm (648 * D) := by
    have e := qF Lm (by simp; omega)
    unfold LimW; rw [e.1, e.2]; exact L2
  have KH : FrK Lm [0, 1, 2, 3] h H := fun k hk => by
    have e := qF Lm (by simp; omega)
    rw [e.1, e.2]; exact K2 k hk
  have hv5 : H.1 (C + 1) 5 = nI nv := by rw [q3, r1.1]; exact hv
  have hpow : 2 ^ N ≤ 2048 := Nat.pow_le_pow_right (by omega) (by omega : N ≤ 11)
  have hpos : 0 < 2 ^ N := Nat.pow_pos (by omega)
  have hshl : (1 : Int32) <<< (nI N &&& 31) = nI (2 ^ N) := (by decide +kernel : ∀ N, N < 12 → (1 : Int32) <<< (nI N &&& 31) = nI (2 ^ N)) N (by omega)
  have hblo : ∀ o, o < 2 ^ N → bl o 12 = bl o N := fun b hb => by
    have := bl_big hb (12 - N)
    rwa [show N + (12 - N) = 12 by omega] at this
  have hp1 : 2 ^ (N + 1) = 2 ^ N + 2 ^ N := by rw [Nat.pow_succ]; omega
  generalize hYg : rY H (C + 1) = Y at *
  obtain ⟨e, he, hp⟩ := iter_fuel (f := fun s : Int32 × Hp => s_X4_seek_l45 Lm C (nI N) s.1 s.2)
    (fun z => ∃ (o : Nat) (G : Hp), z = (nI o, G) ∧ 1 ≤ o ∧ o ≤ 2 ^ N ∧ Fr [Lm, C, C + 6, C + 7] H G ∧ FrK Lm [0, 1, 2, 3] H G ∧ LimW G Lm (648 * D) ∧ ∀ t, IV none (limO G Lm) t ↔ ∀ o', 1 ≤ o' → o' < o → (bl o' 12).length ≤ nv → ∀ g, circ Y (bl (2 ^ N + o') (N + 1)) = some g → UpS (g N) (sm (bl (2 ^ N + o') (N + 1)) (fun i => g i * Y.2.1 i)) ((bl (2 ^ N + o') (N + 1)).any Y.2.2.1) t)
    (fun z => 3000 - z.1.toNatClampNeg)
    (fun G => Fr [Lm, C, C + 6, C + 7] H G ∧ FrK Lm [0, 1, 2, 3] H G ∧ LimW G Lm (648 * D) ∧ ∀ t, IV none (limO G Lm) t ↔ ∀ o', 1 ≤ o' → o' < 2 ^ N → (bl o' 12).length ≤ nv → ∀ g, circ Y (bl (2 ^ N + o') (N + 1)) = some g → UpS (g N) (sm (bl (2 ^ N + o') (N + 1)) (fun i => g i * Y.2.1 i)) ((bl (2 ^ N + o') (N + 1)).any Y.2.2.1) t) (by
    rintro z ⟨o, G, rfl, ho1, ho2, hGF, hGK, hGL, hGt⟩
    dsimp only
    unfold s_X4_seek_l45 s_X4_seek_b100
    rw [hshl]
    have mu : 3000 - (nI (o + 1)).toNatClampNeg < 3000 - (nI o).toNatClampNeg := by rw [nI_clamp (by omega), nI_clamp (by omega)]; omega
    by_cases q : o < 2 ^ N
    · have hlen : (bl o 12).length ≤ 12 := bl_le o 12
      rw [if_pos (nI_lt q (by omega)), bc_z (by omega), bnd_s, (hGF (C + 1) (by simp; omega)).1, hv5]
      have skip : (∀ g, (bl o 12).length ≤ nv → circ Y (bl (2 ^ N + o) (N + 1)) = some g → False) → ∀ t, IV none (limO G Lm) t ↔ ∀ o', 1 ≤ o' → o' < o + 1 → (bl o' 12).length ≤ nv → ∀ g, circ Y (bl (2 ^ N + o') (N + 1)) = some g → UpS (g N) (sm (bl (2 ^ N + o') (N + 1)) (fun i => g i * Y.2.1 i)) ((bl (2 ^ N + o') (N + 1)).any Y.2.2.1) t := fun hno t => by
        rw [hGt t]
        constructor
        · intro hh o' w1 w2 w3 g hg
          rcases (show o' < o ∨ o' = o by omega) with y | rfl
          · exact hh o' w1 y w3 g hg
          · exact absurd hg (fun y => hno g w3 y)
        · intro hh o' w1 w2 w3 g hg
          exact hh o' w1 (by omega) w3 g hg
      by_cases c : nv < (bl o 12).length
      · rw [if_pos (nI_lt c (by omega)), lt_red, nI_1]
        exact Or.inl ⟨_, rfl, ⟨o + 1, G, rfl, by omega, by omega, hGF, hGK, hGL, skip (fun g w _ => by omega)⟩, mu⟩
      · rw [if_neg (nI_nlt (by omega) (by omega)), nI_or, show o ||| 2 ^ N = 2 ^ N + o from by
          have := Nat.two_pow_add_eq_or_of_lt q 1
          rw [Nat.mul_one] at this
          rw [this, Nat.or_comm]]
        have WG : RowsWF G (C + 1) (N + 1) D := WH.fr hGF (by simp; try omega) (by simp; try omega) (by simp; try omega) (by simp; try omega) (by simp; try omega)
        have YG : rY G (C + 1) = Y := by rw [← hYg]; exact rY_fr hGF (by simp; try omega) (by simp; try omega) (by simp; try omega) (by simp; try omega)
        obtain ⟨r, G2, e1, gF, gp⟩ := examine_z (C := C) (b := 2 ^ N + o) WG hD0 hD (by omega)
        rw [YG] at gp
        have GF2 : Fr [Lm, C, C + 6, C + 7] H G2 := hGF.tr (gF.wid (by simp; try omega))
        have eL := gF Lm (by simp; omega)
        have GL2 : LimW G2 Lm (648 * D) := by unfold LimW; rw [eL.1, eL.2]; exact hGL
        have GO2 : limO G2 Lm = limO G Lm := by unfold limO; rw [eL.1, eL.2]
        have GK2 : FrK Lm [0, 1, 2, 3] H G2 := fun k hk => by rw [eL.1, eL.2]; exact hGK k hk
        rw [e1, bnd_s]
        dsimp only
        rcases gp with ⟨g, hg, rfl, g3, gm, gs, gst, gb⟩ | ⟨hg, rfl⟩
        · rw [if_neg (by decide)]
          generalize hT : bl (2 ^ N + o) (N + 1) = T at *
          have hlT : T.length ≤ 4 := by
            rcases (show (T.length = 2 ∨ T.length = 3 ∨ T.length = 4) ∨ ¬ (T.length = 2 ∨ T.length = 3 ∨ T.length = 4) by omega) with y | y
            · omega
            · exfalso
              unfold circ at hg
              rw [fac_len y] at hg; cases hg
          have hTN : ∀ i ∈ T, i < N + 1 := fun i hi => by rw [← hT] at hi; exact (mem_bl.mp hi).1
          have hNT : N ∈ T := by rw [← hT, bl_top q]; simp
          have hnd : T.Nodup := by rw [← hT]; exact bl_nodup _ _
          have hsound := circ_sound hnd hg
          have hpos2 := hsound.2.2.1 N hNT hY4
          have hgN := gb N hNT
          rw [factorOf_z (C := C) (r := N) (T := T) (g := g) g3 hlT (fun i hi => by have := hTN i hi; omega) (by omega) gm, if_pos hNT, bnd_s, gs, gst]
          have hsb := sm_bd (T := T) (f := fun i => g i * Y.2.1 i) (B := 162 * D) (fun i hi => by
            have yd : Y.2.1 i = (H.2 (C + 1 + 2) i).toInt := by rw [← hYg]; rfl
            have hr := WH.2.2.2 i (hTN i hi)
            exact mulb (A := 162) (B := D) (gb i hi).1 (gb i hi).2 (by rw [yd]; omega) (by rw [yd]; omega))
          have hsb2 : -(648 * D) ≤ sm T (fun i => g i * Y.2.1 i) ∧ sm T (fun i => g i * Y.2.1 i) ≤ 648 * D := by
            have h4 : (T.length : Int) * (162 * D) ≤ 4 * (162 * D) := Int.mul_le_mul_of_nonneg_right (by omega) (by omega)
            omega
          have es : (i64 (sm T (fun i => g i * Y.2.1 i))).toInt = sm T (fun i => g i * Y.2.1 i) := i64_z (by omega) (by omega)
          have ef : (i32 (g N)).toInt64.toInt = g N := i32_tl (by omega) (by omega)
          obtain ⟨G3, e3, f3, k3, l3, -, t3⟩ := lowerTo_z (h := G2) (L := Lm) (x := i64 (sm T (fun i => g i * Y.2.1 i))) (y := (i32 (g N)).toInt64) (B := 648 * D) (by omega) GL2 (by rw [es]; exact hsb2) (by rw [ef]; omega) (T.any Y.2.2.1)
          rw [e3, bnd_s, lt_red, nI_1]
          refine Or.inl ⟨_, rfl, ⟨o + 1, G3, rfl, by omega, by omega, GF2.tr (f3.wid (by simp)), GK2.tr k3, l3, fun t => ?_⟩, mu⟩
          rw [t3, GO2, hGt, es, ef]
          constructor
          · rintro ⟨hh, hu⟩ o' w1 w2 w3 g' hg'
            rcases (show o' < o ∨ o' = o by omega) with y | rfl
            · exact hh o' w1 y w3 g' hg'
            · rw [hT] at hg' ⊢
              rw [hg] at hg'
              cases hg'
              exact hu
          · intro hh
            refine ⟨fun o' w1 w2 w3 g' hg' => hh o' w1 (by omega) w3 g' hg', ?_⟩
            have := hh o ho1 (by omega) (by omega) g (by rw [hT]; exact hg)
            rw [hT] at this
            exact this
        · rw [if_pos rfl, lt_red, nI_1]
          refine Or.inl ⟨_, rfl, ⟨o + 1, G2, rfl, by omega, by omega, GF2, GK2, GL2, ?_⟩, mu⟩
          rw [GO2]
          exact skip (fun g w hg' => by rw [hg] at hg'; cases hg')
    · rw [if_neg (nI_nlt (by omega) (by omega))]
      have : o = 2 ^ N := by omega
      subst this
      exact Or.inr ⟨_, rfl, hGF, hGK, hGL, hGt⟩)
    (nI 1, H) ⟨1, H, rfl, by omega, by omega, Fr.rf, FrK.rf, LH, fun t => by
      have e := qF Lm (by simp; omega)
      rw [iv_lim LH]
      constructor
      · intro _ o' w1 w2; omega
      · intro _ w
        rw [e.1, p0] at w; exact absurd w (by decide)⟩ (by dsimp only; rw [nI_clamp (by omega)]; omega)
  obtain ⟨hGF, hGK, hGL, hGt⟩ := hp
  rw [li1, he, bnd_s]
  obtain ⟨h9, c1, c2, c3, c4, c5⟩ := cut_z (h := e) (R := C + 1) (N := N + 1) (n := N) (by rw [(hGF (C + 1) (by simp; omega)).1]; exact q2) (by omega) (by omega)
  rw [c1, bnd_s]
  have F9 : Fr [C + 1] e h9 := fun c hcc => by
    simp at hcc
    exact ⟨c4 c hcc, by rw [c5]⟩
  have rr : ∀ c, c ≠ C + 1 → c ∉ [Lm, C, C + 6, C + 7] → h9.1 c = H.1 c ∧ h9.2 c = H.2 c := fun c w1 w2 => by
    rw [c4 c w1, c5]; exact hGF c w2
  have s2 := rr (C + 2) (by omega) (by simp; omega)
  have s3 := rr (C + 3) (by omega) (by simp; omega)
  have s4 := rr (C + 4) (by omega) (by simp; omega)
  have s5 := rr (C + 5) (by omega) (by simp; omega)
  have same9 : RowsSame h h9 (C + 1) N := fun i hi => by
    obtain ⟨a1, a2, a3, a4⟩ := same i hi
    refine ⟨fun v hv => ?_, ?_, ?_, ?_⟩
    · rw [← a1 v hv]; unfold rF
      show (h9.1 (C + 2) _).toInt = (H.1 (C + 2) _).toInt
      rw [s2.1]
    · rw [← a2]
      show h9.2 (C + 3) i = H.2 (C + 3) i
      rw [s3.2]
    · rw [← a3]
      show h9.1 (C + 4) i = H.1 (C + 4) i
      rw [s4.1]
    · rw [← a4]
      show h9.1 (C + 5) i = H.1 (C + 5) i
      rw [s5.1]
  have eL := F9 Lm (by simp; omega)
  have bb : ∀ k, (h9.1 (C + 4) k = h.1 (C + 4) k ∨ h9.1 (C + 4) k = 0) ∧ (h9.1 (C + 5) k = h.1 (C + 5) k ∨ h9.1 (C + 5) k = 0) := fun k => by
    rw [s4.1, s5.1]
    by_cases w : k = N
    · rw [w]; exact ⟨Or.inr news, Or.inr newe⟩
    · exact ⟨Or.inl ((q11 k w).trans (congrFun r4.1 k)), Or.inl ((q13 k w).trans (congrFun r5.1 k))⟩
  refine ⟨h9, rfl, FH2.tr ((hGF.wid (by simp [cirk])).tr (F9.wid (by simp [cirk]))), fun k hk => ?_, ⟨c2, by omega, fun i hi v hv => ?_, fun i hi => ?_⟩, by rw [c3 5 (by omega), (hGF (C + 1) (by simp; omega)).1]; exact hv5, same9, bb, by unfold LimW; rw [eL.1, eL.2]; exact hGL, fun t => ?_⟩
  · rw [eL.1, eL.2]; exact (KH.tr hGK) k hk
  · rw [(same9 i hi).1 v hv]; exact hW.2.2.1 i hi v hv
  · obtain ⟨a1, a2, a3, a4⟩ := same9 i hi
    rw [a2, a3, a4]; exact hW.2.2.2 i hi
  · have eO : limO h9 Lm = limO e Lm := by unfold limO; rw [eL.1, eL.2]
    rw [eO, hGt t, ← lim t]
    constructor
    · rintro ⟨p, w1, w2⟩
      rw [linN] at w2
      exact ⟨p, fun i hi => (by have := w1 i hi; rw [← hYg] at this; exact (rs_hold same hi p).mp this), by grind⟩
    · rintro ⟨p, w1, w2⟩
      exact ⟨p, fun i hi => (by rw [← hYg]; exact (rs_hold same hi p).mpr (w1 i hi)), by rw [linN]; grind⟩
