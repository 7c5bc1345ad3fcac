/-! the proof step -/
abbrev prfc : List Nat := [0, 31, 37, 38, 81, 82, 83, 84] ++ scr 66
abbrev prfK : List Nat := 29 :: 36 :: scrK
def PfP (h h2 : Hp) (nv nf m lv : Nat) : Prop := ProbR h2 nv nf m lv ∧ CIM h2 nv m ∧ Fr prfc h h2 ∧ FrK 0 [14] h h2 ∧ FrK 66 prfK h h2 ∧ (h.2 0 14 = h.2 66 36 → h2.2 0 14 = h2.2 66 36)
theorem sq_pos {a : Int} (h : a ≠ 0) : 0 < a * a := by
  rcases Int.lt_or_gt_of_ne h with q | q
  · have := Int.mul_pos_of_neg_of_neg q q; omega
  · exact Int.mul_pos q q
theorem sgn_of {a b c d : Int} (ha : 0 < a) (h : a * b = c * d) (hd : 0 < d) : (0 < b ↔ 0 < c) := by
  constructor
  · intro q
    have := Int.mul_pos ha q
    rcases Int.lt_or_le 0 c with y | y
    · exact y
    · have := Int.mul_nonneg (show 0 ≤ -c by omega) (Int.le_of_lt hd); rw [Int.neg_mul] at this; omega
  · intro q
    have := Int.mul_pos q hd
    rcases Int.lt_or_le 0 b with y | y
    · exact y
    · have := Int.mul_nonneg (Int.le_of_lt ha) (show 0 ≤ -b by omega); rw [Int.mul_neg] at this; omega
theorem rs_mul (c : Int) (f : Nat → Int) : ∀ n, rs (fun i => c * f i) n = c * rs f n
  | 0 => by simp [rs]
  | n + 1 => by unfold rs; rw [rs_mul c f n]; grind
set_option maxHeartbeats 2000000 in
/-- the model's shares -/
theorem setShares_z {h : Hp} {nq m b : Nat} {Y : Sys} {g : Nat → Int} (hM : MB h 66 nq m) (hb : b < 2 ^ m) (hY : ∀ i, i < m → (∀ v, v < 3 → Y.1 i v = tz (mS h 66 i) * fF h i v) ∧ Y.2.1 i = tz (mS h 66 i) * mD h 66 i ∧ Y.2.2.2 i = decide (mS h 66 i = 4) ∧ (Y.2.2.1 i = true → Y.2.2.2 i = false)) (h2 : 2 ≤ (bl b m).length) (h4 : (bl b m).length ≤ 4) (hmin : DMin Y (bl b m)) (hg : circ Y (bl b m) = some g) (hS : sm (bl b m) (fun i => g i * Y.2.1 i) < 0 ∨ sm (bl b m) (fun i => g i * Y.2.1 i) = 0 ∧ ∃ i ∈ bl b m, Y.2.2.1 i = true) : ∃ h', s_X10_setShares 66 (nI b) h = some h' ∧ Fr [66, 81, 82, 83, 84] h h' ∧ FrK 66 [29] h h' ∧ h'.1 66 29 = nI (bl b m).length ∧ (∀ c, c < (bl b m).length → h'.1 81 c = nI ((bl b m).getD c 0)) ∧ ∀ c, c < (bl b m).length → h'.2 83 c = i64 (g ((bl b m).getD c 0) / ((gf (fun p => g ((bl b m).getD p 0)) (bl b m).length : Nat) : Int)) := by
  have hm := hM.2.1
  obtain ⟨H1, t1, tF, tK, t81, tT⟩ := setTable_z hM hb h4
  generalize hT : bl b m = T at *
  have hnd : T.Nodup := by rw [← hT]; exact bl_nodup _ _
  have hTm : ∀ i ∈ T, i < m := fun i hi => by rw [← hT] at hi; exact (mem_bl.mp hi).1
  obtain ⟨g1, g2, g3, -⟩ := circ_sound hnd hg
  obtain ⟨r, hr⟩ : ∃ r, T.length = r + 1 := ⟨T.length - 1, by omega⟩
  have hr1 : 1 ≤ r := by omega
  have hr3 : r ≤ 3 := by omega
  generalize hA0 : (fun v c => tz (mS h 66 (T.getD c 0)) * fF h (T.getD c 0) v) = A0 at *
  have eA : ∀ v c, v < 3 → c < T.length → A0 v c = Y.1 (T.getD c 0) v := fun v c hv hc => by
    rw [← hA0]; exact ((hY _ (hTm _ (getD_mem hc))).1 v hv).symm
  have bA : Bnd A0 (r + 1) (bq 0) := fun v c hv hc => by
    rw [← hA0]
    have hi := hTm _ (getD_mem (T := T) (c := c) (by omega))
    exact tz_bd (hM.2.2.1 _ v (hM.2.2.2 _ hi).1.2 hv)
  have nsmin := ns_min hnd eA hmin
  have nsg : NS A0 T.length (fun c => g (T.getD c 0)) := (ns_dep eA g _ (fun _ _ => rfl)).mpr g1
  rw [hr] at nsmin nsg tT
  have gne : ∀ c, c < r + 1 → g (T.getD c 0) ≠ 0 := fun c hc => g2 _ (getD_mem (by omega))
  obtain ⟨H2, e1, eF, e84, e84r, A, eT, eD, eNS, eB⟩ := elim_z tT hr1 bA nsmin nsg (gne r (by omega))
  have hln := last_none eD hr3 ((eNS _).mpr nsg) (gne r (by omega))
  have nss := (eNS _).mp (shr_NS hr1 hr3 eD eB hln)
  have hsr : shr2 A r r ≠ 0 := by unfold shr2; rw [if_neg (by omega)]; exact pr_ne eD
  -- the shares are the factors, up to a factor
  have prop : ∀ c, c < r + 1 → g (T.getD r 0) * shr2 A r c = shr2 A r r * g (T.getD c 0) := fun c hc => by
    have := nsmin (fun c => g (T.getD r 0) * shr2 A r c - shr2 A r r * g (T.getD c 0)) (fun v hv => by
      have e : rs (fun j => A0 v j * (g (T.getD r 0) * shr2 A r j - shr2 A r r * g (T.getD j 0))) (r + 1) = rs (fun j => g (T.getD r 0) * (A0 v j * shr2 A r j) - shr2 A r r * (A0 v j * g (T.getD j 0))) (r + 1) := rs_congr (fun j _ => by grind)
      rw [e, rs_lin, nss v hv, nsg v hv]; simp) ⟨r, by omega, by grind⟩ c hc
    omega
  have sb : ∀ c, c < r + 1 → -2200000000000 ≤ shr2 A r c ∧ shr2 A r c ≤ 2200000000000 := fun c hc => shr_bd hr1 hr3 eD eB hc
  obtain ⟨H3, s1, sF, s83⟩ := shares_z hr1 eD eB eT e84 e84r
  have F3 : Fr [66, 81, 82, 83, 84] h H3 := (tF.wid (by simp)).tr ((eF.wid (by simp)).tr (sF.wid (by simp)))
  have K3 : FrK 66 [29] h H3 := tK.tr ((FrK.of eF (by simp)).tr (FrK.of sF (by simp)))
  have M3 := hM.fr F3 K3 (by simp) (by simp) (by simp)
  have h29 : H3.1 66 29 = nI (r + 1) := by rw [(sF 66 (by simp)).1]; exact eT.1
  have h81 : ∀ c, c < r + 1 → H3.1 81 c = nI (T.getD c 0) := fun c hc => by
    rw [(sF 81 (by simp)).1, (eF 81 (by simp)).1]; exact t81 c (by omega)
  obtain ⟨sg, w1, w2⟩ := turnsRight_z M3.1 h29 (by omega) hr hTm h81 s83 sb
  rw [M3.2.2.1, M3.2.2.2.1] at w2
  -- the sign
  have sgn : sg = true ↔ 0 < shr2 A r r * g (T.getD r 0) := by
    have gr2 := sq_pos (gne r (by omega))
    rcases w2 with ⟨j, hj, hn4, hsg⟩ | ⟨h4a, hsg⟩
    · rw [hsg]
      have hjT := getD_mem (T := T) (c := j) (by omega)
      have hpos : 0 < g (T.getD j 0) := g3 _ hjT (by rw [(hY _ (hTm _ hjT)).2.2.1]; exact decide_eq_false hn4)
      exact sgn_of gr2 (b := shr2 A r j) (c := shr2 A r r * g (T.getD r 0)) (d := g (T.getD j 0)) (by have := prop j hj; rw [Int.mul_assoc, this]; grind) hpos
    · rw [hsg]
      have hdj : ∀ j, j < r + 1 → Y.2.1 (T.getD j 0) = mD h 66 (T.getD j 0) := fun j hj => by
        have hjT := getD_mem (T := T) (c := j) (by omega)
        rw [(hY _ (hTm _ hjT)).2.1, h4a j hj, show tz 4 = 1 from rfl, Int.one_mul]
      have eS : sm T (fun i => g i * Y.2.1 i) = rs (fun j => g (T.getD j 0) * mD h 66 (T.getD j 0)) (r + 1) := by
        rw [sm_rs, hr]
        exact rs_congr (fun j hj => by rw [hdj j hj])
      have hneg : rs (fun j => g (T.getD j 0) * mD h 66 (T.getD j 0)) (r + 1) < 0 := by
        rw [← eS]
        rcases hS with y | ⟨-, i, hi, y⟩
        · exact y
        · exfalso
          obtain ⟨p, hp, e⟩ := List.getElem_of_mem hi
          have h44 := h4a p (by omega)
          rw [show T.getD p 0 = i from by rw [List.getD_eq_getElem?_getD, List.getElem?_eq_getElem hp]; exact e] at h44
          have h5 := (hY i (hTm i hi)).2.2.2 y
          rw [(hY i (hTm i hi)).2.2.1, h44] at h5
          exact absurd h5 (by decide)
      have ep : g (T.getD r 0) * rs (fun j => shr2 A r j * mD h 66 (T.getD j 0)) (r + 1) = shr2 A r r * rs (fun j => g (T.getD j 0) * mD h 66 (T.getD j 0)) (r + 1) := by
        rw [← rs_mul, ← rs_mul]
        exact rs_congr (fun j hj => by rw [← Int.mul_assoc, prop j hj, Int.mul_assoc])
      have := sgn_of gr2 (b := - rs (fun j => shr2 A r j * mD h 66 (T.getD j 0)) (r + 1)) (c := shr2 A r r * g (T.getD r 0)) (d := - rs (fun j => g (T.getD j 0) * mD h 66 (T.getD j 0)) (r + 1)) (by rw [Int.mul_neg, Int.mul_assoc, ep]; grind) (by omega)
      rw [← this]; omega
  have gsp : 0 < gf (shr2 A r) (r + 1) := gf_pos (i := r) (by omega) hsr
  have gsl : ((gf (shr2 A r) (r + 1) : Nat) : Int) ≤ 2200000000000 := gf_le (by omega) sb
  have rat := fun c (hc : c < r + 1) => ratio (f := fun c => g (T.getD c 0)) (s := shr2 A r) (n := r + 1) (r := r) (by omega) (gne r (by omega)) hsr prop hc
  unfold s_X10_setShares
  rw [t1, bnd_s, e1, bnd_s]
  dsimp only
  rw [prod_z eT e84 e84r, bnd_s, s1, bnd_s]
  dsimp only
  rw [w1, bnd_s]
  have fin : ∀ c : Int, (c = ((gf (shr2 A r) (r + 1) : Nat) : Int) ∨ c = -((gf (shr2 A r) (r + 1) : Nat) : Int)) → (∀ j, j < r + 1 → shr2 A r j / c = g (T.getD j 0) / ((gf (fun p => g (T.getD p 0)) (r + 1) : Nat) : Int)) → ∃ h', s_X10_setShares_b282 66 (i64 c) H3 = some h' ∧ Fr [66, 81, 82, 83, 84] h h' ∧ FrK 66 [29] h h' ∧ h'.1 66 29 = nI T.length ∧ (∀ c, c < T.length → h'.1 81 c = nI (T.getD c 0)) ∧ ∀ c, c < T.length → h'.2 83 c = i64 (g (T.getD c 0) / ((gf (fun p => g (T.getD p 0)) T.length : Nat) : Int)) := fun c hc hq => by
    obtain ⟨H4, d1, dF, d83⟩ := divs_z (c := c) h29 (by omega) s83 sb (by omega) (by omega) (fun j hj => by
      have := gf_dvd (f := shr2 A r) hj
      rcases hc with e | e
      · rw [e]; exact this
      · rw [e]; exact Int.neg_dvd.mpr this)
    refine ⟨H4, d1, F3.tr (dF.wid (by simp)), K3.tr (FrK.of dF (by simp)), by rw [(dF 66 (by simp)).1, h29, hr], fun c hc => by rw [(dF 81 (by simp)).1]; exact h81 c (by omega), fun c hc => ?_⟩
    rw [d83 c (by omega), hq c (by omega), hr]
  cases hsg : sg
  · rw [if_pos (by decide), i64_neg]
    have hneg : shr2 A r r * g (T.getD r 0) < 0 := by
      have h1 : ¬ 0 < shr2 A r r * g (T.getD r 0) := fun y => by have := sgn.mpr y; rw [hsg] at this; cases this
      have h2 : shr2 A r r * g (T.getD r 0) ≠ 0 := fun y => by
        rcases Int.mul_eq_zero.mp y with z | z
        · exact hsr z
        · exact gne r (by omega) z
      omega
    exact fin _ (Or.inr rfl) (fun j hj => (rat j hj).2 hneg)
  · rw [if_neg (by decide)]
    exact fin _ (Or.inl rfl) (fun j hj => (rat j hj).1 (sgn.mp hsg))
set_option maxHeartbeats 2000000 in
theorem proof_step {h : Hp} {nv nf m lv : Nat} (hP : ProbR h nv nf m lv) (hn1 : 1 ≤ nv) (hc : CIM h nv m) (a1 : Int32) : ∃ r : Int32, ∃ h1 h2 : Hp, s_X9_proof 0 a1 h = some (r, h1) ∧ s_X10_proof 66 a1 h1 = some (r, h2) ∧ PfP h h2 nv nf m lv := by
  have h3 := hP.1.2.2
  have hM := hP.2.2.2.1.2.1
  have hm := hM.2.1
  have rf : PfP h h nv nf m lv := ⟨hP, hc, Fr.rf, FrK.rf, FrK.rf, id⟩
  have A : s_X5_hasConstraint 1 a1 h = some (bI (decide (0 ≤ a1.toInt ∧ a1.toInt < m))) := by
    unfold s_X5_hasConstraint; rw [hP.2.2.2.1.1, has_z (by omega)]
  have B : ∀ H : Hp, H.1 66 3 = nI m → s_X10_isBound 66 a1 H = some (bI (decide (0 ≤ a1.toInt ∧ a1.toInt < m))) := fun H e => by
    unfold s_X10_isBound; rw [e, isn_z (by omega), bnd_s, ckB_b]
  by_cases c1 : 0 ≤ a1.toInt ∧ a1.toInt < m
  rotate_left
  · refine ⟨-1, h, h, ?_, ?_, rf⟩
    · unfold s_X9_proof; simp only [Nat.zero_add]; rw [A, decide_eq_false c1]; rfl
    · unfold s_X10_proof; rw [B h hM.1, decide_eq_false c1]; rfl
  obtain ⟨k, hk⟩ : ∃ i : Nat, a1.toInt = i := ⟨a1.toInt.toNat, by omega⟩
  have hkm : k < m := by omega
  have ea := of_nat hk
  subst ea
  cases hs : sB h m (aI m)
  rotate_left
  · obtain ⟨H4, m1, m2, m3⟩ := coreOf_z hM
    rw [hs] at m1
    obtain ⟨P4, C4⟩ := PC.fr hP hc m2 m3 (by simp [scr]) (by simp [scrK, iks])
    refine ⟨-2, h, H4, ?_, ?_, P4, C4, m2.wid (by simp [prfc, scr]), FrK.of m2 (by simp [scr]), m3.wid (by simp [prfK, scrK, iks]), fun q => ?_⟩
    · unfold s_X9_proof
      simp only [Nat.zero_add]
      rw [A, decide_eq_true c1, bnd_s, if_neg (by decide), satis_z hP hn1 hc, hs, bnd_s, if_neg (by decide)]
    · unfold s_X10_proof
      rw [B h hM.1, decide_eq_true c1, bnd_s, if_neg (by decide), m1, bnd_s]
      rfl
    · rw [(m2 0 (by simp [scr])).2, (m3 36 (by simp [scrK, iks])).2]; exact q
  · -- the core
    obtain ⟨k1, k2, k3⟩ := shr_core hM m (aI m) (Nat.le_refl _) hs
    obtain ⟨b, hb, eb⟩ := bits_nat hm.1 (x := shr (fun y => !sB h m y) m (aI m)) (fun j hj1 hj2 => by
      cases hq : bt (shr (fun y => !sB h m y) m (aI m)) j
      · rfl
      · have := k2 j hj2 hq
        rw [aI_bits hm.1 (Nat.le_refl _) j hj1 hj2] at this; cases this)
    have hb10 : b < 1024 := Nat.lt_of_lt_of_le hb (Nat.pow_le_pow_right (by omega) (by omega : m ≤ 10))
    have cset := coreSet_z hP hn1 hc
    rw [eb] at k1 k3 cset
    obtain ⟨l2, l4, hmin, g, hg, hS⟩ := core_circ hP hn1 hc k1 k3
    have hW := rows_wf hc.1.1 hc.1.2.2 hc.2.1 hP.rw
    obtain ⟨r, H1, x1, gF, gp⟩ := examine_z (C := 31) hW (by omega) (by omega) hb
    rw [show (31 + 1 : Nat) = 32 from rfl] at gp
    rcases gp with ⟨g', hg', rfl, g3, gm, gs, gst, gb⟩ | ⟨hg', -⟩
    rotate_left
    · rw [hg] at hg'; cases hg'
    rw [hg] at hg'
    cases hg'
    have hnd := bl_nodup b m
    have hTm : ∀ i ∈ bl b m, i < m := fun i hi => (mem_bl.mp hi).1
    have gsound := circ_sound hnd hg
    have red := reduced_z (C := 31) (k := k) (T := bl b m) (g := g) g3 (by omega) (fun i hi => by have := hTm i hi; omega) (by omega) gm (fun i hi => ⟨gb i hi, gsound.2.1 i hi⟩) (by omega)
    generalize hV : (if k ∈ bl b m then g k / ((gf (fun p => g ((bl b m).getD p 0)) (bl b m).length : Nat) : Int) else 0) = V at *
    have F1 : Fr [0, 31, 37, 38] h (sJ H1 0 14 (i64 V)) := (gF.wid (by simp)).tr (Fr.sJ (by simp))
    have e14 : (sJ H1 0 14 (i64 V)).2 0 14 = i64 V := sJ_same _ _ _ _
    have K10 : FrK 0 [14] h (sJ H1 0 14 (i64 V)) := fun j hj => by
      simp at hj
      rw [sJ_I, sJ_ne hj, (gF 0 (by simp)).1, (gF 0 (by simp)).2]
      exact ⟨rfl, rfl⟩
    have cls : s_X9_proof 0 (nI k) h = some ((nI b >>> (nI k &&& 31)) &&& 1, sJ H1 0 14 (i64 V)) := by
      unfold s_X9_proof s_X9_proof_b52
      simp only [Nat.zero_add]
      rw [A, decide_eq_true c1, bnd_s, if_neg (by decide), satis_z hP hn1 hc, hs, bnd_s, if_pos (by decide), cset, bnd_s, x1, bnd_s]
      dsimp only
      rw [if_neg (by decide), red, bnd_s, lt_red]
    generalize sJ H1 0 14 (i64 V) = H2 at *
    obtain ⟨P2, C2⟩ := PC.fr hP hc F1 (FrK.of F1 (by simp) (ks := [])) (by simp) (by simp)
    have M2 := hM.fr F1 (FrK.of F1 (by simp) (ks := [])) (by simp) (by simp) (by simp)
    have sBe : ∀ y, sB H2 m y = sB h m y := fun y => hM.sB F1 (FrK.of F1 (by simp) (ks := [])) (by simp) (by simp) (by simp) y
    obtain ⟨H3, m1, m2, m3⟩ := coreOf_z M2.1
    rw [sBe, hs, if_neg (by decide), show (fun y => !sB H2 m y) = (fun y => !sB h m y) from by funext y; rw [sBe], eb] at m1
    have F3 : Fr ([0, 31, 37, 38] ++ scr 66) h H3 := (F1.wid (by simp)).tr (m2.wid (by simp))
    have K3 : FrK 66 scrK h H3 := (FrK.of F1 (by simp)).tr m3
    have M3 := hM.fr F3 K3 (by simp [scrK, iks]) (by simp [scr]) (by simp [scr])
    have fe : ∀ i, fF H3 i = fF h i := fun i => by
      show mK H3 66 (mG H3 66 i) = mK h 66 (mG h 66 i)
      rw [M3.2.1, M3.2.2.2.2]
    obtain ⟨H4, s1, sF, sK, s29, s81, s83⟩ := setShares_z (h := H3) (Y := rY h 32) (g := g) M3.1 hb (fun i hi => by
      rw [M3.2.2.1, M3.2.2.2.1, fe]
      have row := hc.2.1 i hi
      exact ⟨fun v hv => row.1 v hv, row.2.1, row.eq, rows_se hc.2.1 i hi⟩) l2 (by omega) hmin hg hS
    have b0 : ¬ nI b = 0 := fun q => by
      have : b = 0 := by
        have := eq_z.mp q
        rw [nI_z (by omega), show (0 : Int32).toInt = 0 from by decide] at this
        omega
      subst this
      have : bl 0 m = [] := by simp [bl]
      rw [this] at l2
      simp at l2
    have T4 : ∀ c, c < (bl b m).length → (bl b m).getD c 0 < 12 := fun c hc => by have := hTm _ (getD_mem hc); omega
    -- the last loop
    generalize hL : (bl b m).length = n at *
    obtain ⟨H5, l1, l5⟩ : ∃ H5, iter (fun s : Int32 × Hp => s_X10_proof_l34 66 (nI k) (nI b) s.1 s.2) FUEL ((0 : Int32), sJ H4 66 36 0) = some H5 ∧ Fr [66] H4 H5 ∧ FrK 66 [36] H4 H5 ∧ H5.2 66 36 = i64 V := by
      obtain ⟨e, he, hp⟩ := iter_fuel (f := fun s : Int32 × Hp => s_X10_proof_l34 66 (nI k) (nI b) s.1 s.2)
        (fun z => ∃ (j : Nat) (G : Hp), z = (nI j, G) ∧ j ≤ n ∧ Fr [66] H4 G ∧ FrK 66 [36] H4 G ∧ ((G.2 66 36 = i64 V ∧ k ∈ bl b m) ∨ (G.2 66 36 = 0 ∧ ∀ c, c < j → (bl b m).getD c 0 ≠ k)))
        (fun z => 20 - z.1.toNatClampNeg)
        (fun G => Fr [66] H4 G ∧ FrK 66 [36] H4 G ∧ G.2 66 36 = i64 V) (by
        rintro z ⟨j, G, rfl, hj, hF, hK, hV2⟩
        dsimp only
        unfold s_X10_proof_l34 s_X10_proof_b66
        rw [(hK 29 (by simp)).1, s29, show (66 + 15 : Nat) = 81 from rfl, show (66 + 17 : Nat) = 83 from rfl]
        by_cases q : j < n
        · have mu : 20 - (nI (j + 1)).toNatClampNeg < 20 - (nI j).toNatClampNeg := by rw [nI_clamp (by omega), nI_clamp (by omega)]; omega
          have t4 := T4 j q
          rw [if_pos (nI_lt q (by omega)), ldI_n (by omega) (by omega), (hF 81 (by simp)).1, s81 j q, ldJ_n (by omega) (by omega), (hF 83 (by simp)).2, s83 j q]
          by_cases c : (bl b m).getD j 0 = k
          · rw [if_pos (by rw [c]), lt_red, lt_red, nI_1]
            have hkT : k ∈ bl b m := by rw [← c]; exact getD_mem (by omega)
            refine Or.inl ⟨_, rfl, ⟨j + 1, _, rfl, by omega, hF.tr (Fr.sJ (by simp)), hK.tr (fun u hu => ⟨rfl, sJ_ne (by simpa using hu)⟩), Or.inl ⟨?_, hkT⟩⟩, mu⟩
            rw [sJ_same, c, ← hV, if_pos hkT]
          · rw [if_neg (by rw [nI_eq (by omega) (by omega)]; exact c), lt_red, lt_red, nI_1]
            refine Or.inl ⟨_, rfl, ⟨j + 1, _, rfl, by omega, hF.tr (Fr.sJ (by simp)), hK.tr (fun u hu => ⟨rfl, sJ_ne (by simpa using hu)⟩), ?_⟩, mu⟩
            rw [sJ_same]
            rcases hV2 with y | ⟨y1, y2⟩
            · exact Or.inl y
            · refine Or.inr ⟨y1, fun c' hc' => ?_⟩
              rcases (show c' < j ∨ c' = j by omega) with w | rfl
              · exact y2 c' w
              · exact c
        · rw [if_neg (nI_nlt (by omega) (by omega))]
          refine Or.inr ⟨_, rfl, hF, hK, ?_⟩
          rcases hV2 with y | ⟨y1, y2⟩
          · exact y.1
          · have hkT : k ∉ bl b m := fun hmem => by
              obtain ⟨p, hp, e⟩ := List.getElem_of_mem hmem
              exact y2 p (by omega) (by rw [List.getD_eq_getElem?_getD, List.getElem?_eq_getElem hp]; exact e)
            rw [y1, ← hV, if_neg hkT]; decide)
        (nI 0, sJ H4 66 36 0) ⟨0, _, rfl, by omega, Fr.sJ (by simp), fun u hu => ⟨rfl, sJ_ne (by simpa using hu)⟩, Or.inr ⟨sJ_same _ _ _ _, fun c hc => by omega⟩⟩ (by dsimp only; rw [nI_clamp (by omega)]; omega)
      exact ⟨e, by rw [li0]; exact he, hp⟩
    obtain ⟨l5, l6, l7⟩ := l5
    have FA : Fr prfc h H5 := (F3.wid (by simp [prfc, scr])).tr ((sF.wid (by simp [prfc, scr])).tr (l5.wid (by simp [prfc, scr])))
    have KA : FrK 66 prfK h H5 := (K3.wid (by simp [prfK, scrK, iks])).tr ((sK.wid (by simp [prfK])).tr (l6.wid (by simp [prfK])))
    obtain ⟨P5, C5⟩ := PC.fr hP hc FA KA (by simp [prfc, scr]) (by simp [prfK, scrK, iks])
    refine ⟨_, H2, H5, cls, ?_, P5, C5, FA, ?_, KA, fun _ => ?_⟩
    · unfold s_X10_proof
      rw [B H2 M2.1.1, decide_eq_true c1, bnd_s, if_neg (by decide), m1, bnd_s]
      dsimp only
      rw [if_neg b0, s1, bnd_s, lt_red, l1, bnd_s]
    · refine K10.tr ((FrK.of m2 (by simp [scr])).tr ((FrK.of sF (by simp)).tr (FrK.of l5 (by simp))))
    · rw [l7, (l5 0 (by simp)).2, (sF 0 (by simp)).2, (m2 0 (by simp [scr])).2]; exact e14
