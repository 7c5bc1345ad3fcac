abbrev crc : List Nat := [0, 66, 87, 88] ++ clc
abbrev crK : List Nat := [34, 35, 39]
/-- what a corner query leaves -/
def CrP (h h2 : Hp) (nv nf m lv : Nat) : Prop := ProbR h2 nv nf m lv ∧ CIM h2 nv m ∧ Fr crc h h2 ∧ FrK 0 [12, 13] h h2 ∧ FrK 66 crK h h2 ∧ (Res2 h → Res2 h2)
/-- both lists of corners are one -/
theorem corners_z {h : Hp} {nv nf m lv : Nat} (hP : ProbR h nv nf m lv) (hn1 : 1 ≤ nv) (hc : CIM h nv m) : ∃ H L, s_X2_collect 55 32 (nI nv) h = some H ∧ CL H L ∧ Fr clc h H ∧ ∀ H2, Fr (0 :: clc) h H2 → ∃ H3, s_X10_setCorners 66 H2 = some H3 ∧ ML H3 L ∧ Fr [66, 87, 88] H2 H3 ∧ FrK 66 [39] H2 H3 := by
  obtain ⟨H, L, e1, c1, f1, m1⟩ := collect_z hP hn1 hc
  refine ⟨H, L, e1, c1, f1, fun H2 F2 => ?_⟩
  obtain ⟨P2, C2⟩ := PC.fr hP hc F2 (FrK.of F2 (by simp [clc, sysc]) (ks := [])) (by simp [clc, sysc]) (by simp)
  obtain ⟨-, g1, g2, g3, g4⟩ := hP.2.2.2.1.2.1.fr F2 (FrK.of F2 (by simp [clc, sysc]) (ks := [])) (by simp) (by simp [clc, sysc]) (by simp [clc, sysc])
  have ef : fF H2 = fF h := by funext l; show mK H2 66 (mG H2 66 l) = mK h 66 (mG h 66 l); rw [g1, g4]
  obtain ⟨H3, L', e3, c3, f3, k3, m3⟩ := setCorners_z P2.2.2.2.1.2.1 P2.1.2.1 hn1 P2.1.2.2
  have eL : L' = L := by
    refine sorted_unique _ _ c3.2.2.1 c1.2.2.1 (fun p => ?_)
    rw [m1 p, m3 p, ef, g2, g3]
    constructor
    · rintro ⟨T, t1, t2⟩
      obtain ⟨b, hb, rfl⟩ := vt_bl t1
      exact ⟨b, hb, t1.2.2, t2⟩
    · rintro ⟨b, hb, hl, t2⟩
      have := bl_vt b m
      rw [hl] at this
      exact ⟨_, this, t2⟩
  subst eL
  exact ⟨H3, e3, c3, f3, k3⟩
theorem q4_eq {a b c d a' b' c' d' : Int64} (hd : 0 < d.toInt) (hd' : 0 < d'.toInt) (h : q4 a b c d = q4 a' b' c' d') : a.toInt * d'.toInt = a'.toInt * d.toInt ∧ b.toInt * d'.toInt = b'.toInt * d.toInt ∧ c.toInt * d'.toInt = c'.toInt * d.toInt := (eq3_mk hd hd').mp h
set_option maxHeartbeats 1000000 in
theorem corner_step {h : Hp} {nv nf m lv : Nat} (hP : ProbR h nv nf m lv) (hn1 : 1 ≤ nv) (hc : CIM h nv m) (a1 a2 : Int32) : ∃ r : Int32, ∃ h1 h2 : Hp, s_X9_corner 0 a1 a2 h = some (r, h1) ∧ s_X10_corner 66 a1 a2 h1 = some (r, h2) ∧ CrP h h2 nv nf m lv := by
  have z0 : (0 : Int32).toInt = 0 := by decide
  have h3 := hP.1.2.2
  have rf : CrP h h nv nf m lv := ⟨hP, hc, Fr.rf, FrK.rf, FrK.rf, id⟩
  by_cases c1 : a1 < 0
  · refine ⟨-1, h, h, ?_, ?_, rf⟩
    · unfold s_X9_corner; rw [if_pos c1]
    · unfold s_X10_corner; rw [if_pos c1]
  have c1' : 0 ≤ a1.toInt := by
    have : ¬ a1.toInt < 0 := fun q => c1 (lt_z.mpr (by rw [z0]; exact q))
    omega
  have A := hasV_z (P := 1) hP.1.1 h3 a2
  have B : ∀ H : Hp, H.1 66 0 = nI nv → s_X10_isVariable 66 a2 H = some (bI (decide (0 ≤ a2.toInt ∧ a2.toInt < nv))) := fun H e => isV_z e h3 a2
  by_cases c2 : 0 ≤ a2.toInt ∧ a2.toInt < nv
  rotate_left
  · refine ⟨-1, h, h, ?_, ?_, rf⟩
    · unfold s_X9_corner
      rw [if_neg c1]
      simp only [Nat.zero_add]
      rw [A, decide_eq_false c2, bnd_s, if_pos (by decide)]
    · unfold s_X10_corner
      rw [if_neg c1, B h hP.1.2.1, decide_eq_false c2, bnd_s, if_pos (by decide)]
  obtain ⟨k, hk⟩ : ∃ i : Nat, a1.toInt = i := ⟨a1.toInt.toNat, by omega⟩
  obtain ⟨v, hv⟩ : ∃ i : Nat, a2.toInt = i := ⟨a2.toInt.toNat, by omega⟩
  have k31 : k < 2147483648 := by have : a1.toInt < 2147483648 := a1.toInt_lt; omega
  have e1 := of_nat hk
  have e2 := of_nat hv
  subst e1 e2
  have hv3 : v < 3 := by omega
  obtain ⟨H1, L, s1, C1, F1, mdl⟩ := corners_z hP hn1 hc
  have l120 := C1.2.1
  have cls : s_X9_corner 0 (nI k) (nI v) h = (if nI k < H1.1 55 0 then (ldJ H1 56 360 (nI k * (3 : Int32) + nI v) fun x3 => ldJ H1 57 120 (nI k) fun x4 => (s_X9_find 0 x3 x4 H1).bind fun y5 => some ((1 : Int32), y5)) else (some ((-9 : Int32), H1))) := by
    unfold s_X9_corner
    simp only [Nat.zero_add]
    rw [if_neg c1, A, decide_eq_true c2, bnd_s, if_neg (by decide), hP.1.1, s1, bnd_s]
  have mds : ∀ H2 H3, H2.1 66 0 = nI nv → s_X10_setCorners 66 H2 = some H3 → s_X10_corner 66 (nI k) (nI v) H2 = (if nI k < H3.1 66 39 then (ldJ H3 87 480 ((4 : Int32) * nI k + nI v) fun x3 => ldJ H3 87 480 ((4 : Int32) * nI k + 3) fun x4 => (s_X10_says 66 x3 x4 (1 : Int32) H3).bind fun y5 => some (y5.1, y5.2)) else (some ((-9 : Int32), H3))) := fun H2 H3 ev es => by
    unfold s_X10_corner
    rw [if_neg c1, B H2 ev, decide_eq_true c2, bnd_s, if_neg (by decide), es, bnd_s]
  rw [C1.1] at cls
  by_cases kc : k < L.length
  · rw [if_pos ((nI_le_iff k31 (by omega)).mpr kc), ix3, ldJ_n (by omega) (by omega), ldJ_n (by omega) (by omega)] at cls
    obtain ⟨Q1, E1⟩ := C1.2.2.2 k kc
    have bn : ∀ u, u < 3 → -1000000 ≤ (H1.2 56 (3 * k + u)).toInt ∧ (H1.2 56 (3 * k + u)).toInt ≤ 1000000 := fun u hu => by
      obtain rfl | rfl | rfl : u = 0 ∨ u = 1 ∨ u = 2 := by omega
      · exact Q1.1
      · exact Q1.2.1
      · exact Q1.2.2.1
    have bv := bn v hv3
    rw [find_z (by omega) ⟨Q1.2.2.2.1, by have := Q1.2.2.2.2; omega⟩, bnd_s] at cls
    have F2 : Fr [0] H1 (sJ (sJ H1 0 12 (i64 (rn (H1.2 56 (3 * k + v)).toInt (H1.2 57 k).toInt))) 0 13 (i64 (rd (H1.2 56 (3 * k + v)).toInt (H1.2 57 k).toInt))) := (Fr.sJ (by simp)).tr (Fr.sJ (by simp))
    have K2 : FrK 0 [12, 13] H1 (sJ (sJ H1 0 12 (i64 (rn (H1.2 56 (3 * k + v)).toInt (H1.2 57 k).toInt))) 0 13 (i64 (rd (H1.2 56 (3 * k + v)).toInt (H1.2 57 k).toInt))) := fun j hj => by
      simp at hj
      exact ⟨rfl, by rw [sJ_ne hj.2, sJ_ne hj.1]⟩
    have e12 : (sJ (sJ H1 0 12 (i64 (rn (H1.2 56 (3 * k + v)).toInt (H1.2 57 k).toInt))) 0 13 (i64 (rd (H1.2 56 (3 * k + v)).toInt (H1.2 57 k).toInt))).2 0 12 = i64 (rn (H1.2 56 (3 * k + v)).toInt (H1.2 57 k).toInt) := by rw [sJ_ne (by omega), sJ_same]
    have e13 : (sJ (sJ H1 0 12 (i64 (rn (H1.2 56 (3 * k + v)).toInt (H1.2 57 k).toInt))) 0 13 (i64 (rd (H1.2 56 (3 * k + v)).toInt (H1.2 57 k).toInt))).2 0 13 = i64 (rd (H1.2 56 (3 * k + v)).toInt (H1.2 57 k).toInt) := by rw [sJ_same]
    generalize sJ (sJ H1 0 12 (i64 (rn (H1.2 56 (3 * k + v)).toInt (H1.2 57 k).toInt))) 0 13 (i64 (rd (H1.2 56 (3 * k + v)).toInt (H1.2 57 k).toInt)) = H2 at *
    have F02 : Fr (0 :: clc) h H2 := (F1.wid (by simp [clc, sysc])).tr (F2.wid (by simp))
    obtain ⟨H3, s3, M3, F3, K3⟩ := mdl H2 F02
    have md := mds H2 H3 (by rw [(F02 66 (by simp [clc, sysc])).1]; exact hP.1.2.1) s3
    obtain ⟨Q3, E3⟩ := M3.2.2.2 k kc
    rw [M3.1, if_pos ((nI_le_iff k31 (by omega)).mpr kc), ix4, nI_add, ldJ_n (by omega) (by omega), li3, nI_add, ldJ_n (by omega) (by omega)] at md
    have bn3 : ∀ u, u < 3 → -1000000 ≤ (H3.2 87 (4 * k + u)).toInt ∧ (H3.2 87 (4 * k + u)).toInt ≤ 1000000 := fun u hu => by
      obtain rfl | rfl | rfl : u = 0 ∨ u = 1 ∨ u = 2 := by omega
      · exact Q3.1
      · exact Q3.2.1
      · exact Q3.2.2.1
    have b3 := bn3 v hv3
    have q := q4_eq Q1.2.2.2.1 Q3.2.2.2.1 (E1.symm.trans E3)
    have qv : (H1.2 56 (3 * k + v)).toInt * (H3.2 87 (4 * k + 3)).toInt = (H3.2 87 (4 * k + v)).toInt * (H1.2 57 k).toInt := by
      obtain rfl | rfl | rfl : v = 0 ∨ v = 1 ∨ v = 2 := by omega
      · exact q.1
      · exact q.2.1
      · exact q.2.2
    obtain ⟨d1, d2⟩ := red_one Q1.2.2.2.1 Q3.2.2.2.1 qv
    rw [says_z 1 (by omega) Q3.2.2.2.1, bnd_s] at md
    refine ⟨1, H2, _, cls, md, ?_⟩
    dsimp only
    have F5 : Fr [66] H3 (sJ (sJ H3 66 34 (i64 (rn (H3.2 87 (4 * k + v)).toInt (H3.2 87 (4 * k + 3)).toInt))) 66 35 (i64 (rd (H3.2 87 (4 * k + v)).toInt (H3.2 87 (4 * k + 3)).toInt))) := (Fr.sJ (by simp)).tr (Fr.sJ (by simp))
    have K5 : FrK 66 [34, 35] H3 (sJ (sJ H3 66 34 (i64 (rn (H3.2 87 (4 * k + v)).toInt (H3.2 87 (4 * k + 3)).toInt))) 66 35 (i64 (rd (H3.2 87 (4 * k + v)).toInt (H3.2 87 (4 * k + 3)).toInt))) := fun j hj => by
      simp at hj
      exact ⟨rfl, by rw [sJ_ne hj.2, sJ_ne hj.1]⟩
    have g34 : (sJ (sJ H3 66 34 (i64 (rn (H3.2 87 (4 * k + v)).toInt (H3.2 87 (4 * k + 3)).toInt))) 66 35 (i64 (rd (H3.2 87 (4 * k + v)).toInt (H3.2 87 (4 * k + 3)).toInt))).2 66 34 = i64 (rn (H3.2 87 (4 * k + v)).toInt (H3.2 87 (4 * k + 3)).toInt) := by rw [sJ_ne (by omega), sJ_same]
    have g35 : (sJ (sJ H3 66 34 (i64 (rn (H3.2 87 (4 * k + v)).toInt (H3.2 87 (4 * k + 3)).toInt))) 66 35 (i64 (rd (H3.2 87 (4 * k + v)).toInt (H3.2 87 (4 * k + 3)).toInt))).2 66 35 = i64 (rd (H3.2 87 (4 * k + v)).toInt (H3.2 87 (4 * k + 3)).toInt) := by rw [sJ_same]
    generalize sJ (sJ H3 66 34 (i64 (rn (H3.2 87 (4 * k + v)).toInt (H3.2 87 (4 * k + 3)).toInt))) 66 35 (i64 (rd (H3.2 87 (4 * k + v)).toInt (H3.2 87 (4 * k + 3)).toInt)) = H5 at *
    have Fa : Fr crc h H5 := ((F02.wid (by simp [crc, clc, sysc])).tr (F3.wid (by simp [crc]))).tr (F5.wid (by simp [crc]))
    have Ka : FrK 66 crK h H5 := ((FrK.of F02 (by simp [clc, sysc])).tr (K3.wid (by simp [crK]))).tr (K5.wid (by simp [crK]))
    obtain ⟨P5, C5⟩ := PC.fr hP hc Fa Ka (by simp [crc, clc, sysc]) (by simp [crK])
    refine ⟨P5, C5, Fa, (((FrK.of F1 (by simp [clc, sysc])).tr K2).tr (FrK.of F3 (by simp))).tr (FrK.of F5 (by simp)), Ka, fun _ => ⟨?_, ?_⟩⟩
    · rw [(F5 0 (by simp)).2, (F3 0 (by simp)).2, g34, e12, d1]
    · rw [(F5 0 (by simp)).2, (F3 0 (by simp)).2, g35, e13, d2]
  · rw [if_neg (by rw [nI_le_iff k31 (by omega)]; exact kc)] at cls
    obtain ⟨H3, s3, M3, F3, K3⟩ := mdl H1 (F1.wid (by simp [clc, sysc]))
    have md := mds H1 H3 (by rw [(F1 66 (by simp [clc, sysc])).1]; exact hP.1.2.1) s3
    rw [M3.1, if_neg (by rw [nI_le_iff k31 (by omega)]; exact kc)] at md
    have Fa : Fr crc h H3 := (F1.wid (by simp [crc, clc, sysc])).tr (F3.wid (by simp [crc]))
    have Ka : FrK 66 crK h H3 := (FrK.of F1 (by simp [clc, sysc])).tr (K3.wid (by simp [crK]))
    obtain ⟨P5, C5⟩ := PC.fr hP hc Fa Ka (by simp [crc, clc, sysc]) (by simp [crK])
    refine ⟨-9, H1, H3, cls, md, P5, C5, Fa, (FrK.of F1 (by simp [clc, sysc])).tr (FrK.of F3 (by simp)), Ka, fun r => ⟨?_, ?_⟩⟩
    · rw [(F3 0 (by simp)).2, (F1 0 (by simp [clc, sysc])).2, (K3 34 (by simp)).2, (F1 66 (by simp [clc, sysc])).2]; exact r.1
    · rw [(F3 0 (by simp)).2, (F1 0 (by simp [clc, sysc])).2, (K3 35 (by simp)).2, (F1 66 (by simp [clc, sysc])).2]; exact r.2
/-- what count leaves -/
def CnP (h h2 : Hp) (nv nf m lv : Nat) : Prop := ProbR h2 nv nf m lv ∧ CIM h2 nv m ∧ Fr (65 :: crc) h h2 ∧ FrK 0 [] h h2 ∧ FrK 66 [39] h h2
theorem count_step {h : Hp} {nv nf m lv : Nat} (hP : ProbR h nv nf m lv) (hn1 : 1 ≤ nv) (hc : CIM h nv m) (hT : TextI h) (a1 : Int32) : ∃ r : Int32, ∃ h1 h2 : Hp, s_X9_count 0 a1 h = some (r, h1) ∧ s_X10_count 66 a1 h1 = some (r, h2) ∧ CnP h h2 nv nf m lv := by
  have rf : CnP h h nv nf m lv := ⟨hP, hc, Fr.rf, FrK.rf, FrK.rf⟩
  unfold s_X9_count s_X10_count
  simp only [Nat.zero_add]
  by_cases c0 : a1 = 0
  · simp only [if_pos c0]
    exact ⟨_, _, _, by rw [hP.1.1], by rw [hP.1.2.1], rf⟩
  simp only [if_neg c0]
  by_cases c1 : a1 = 1
  · simp only [if_pos c1]
    exact ⟨_, _, _, by rw [hP.2.1.1], by rw [hP.2.1.2.1], rf⟩
  simp only [if_neg c1]
  by_cases c2 : a1 = 2
  · simp only [if_pos c2]
    exact ⟨_, _, _, by rw [hP.2.2.2.1.1], by rw [hP.2.2.2.1.2.1.1], rf⟩
  simp only [if_neg c2]
  by_cases c3 : a1 = 3
  · simp only [if_pos c3]
    exact ⟨_, _, _, by rw [hP.2.2.2.2.1], by rw [hP.2.2.2.2.2.1], rf⟩
  simp only [if_neg c3]
  by_cases c4 : a1 = 4
  · simp only [if_pos c4]
    obtain ⟨H1, L, s1, C1, F1, mdl⟩ := corners_z hP hn1 hc
    obtain ⟨H3, s3, M3, F3, K3⟩ := mdl H1 (F1.wid (by simp [clc, sysc]))
    have Fa : Fr (65 :: crc) h H3 := (F1.wid (by simp [crc, clc, sysc])).tr (F3.wid (by simp [crc]))
    have Ka : FrK 66 [39] h H3 := (FrK.of F1 (by simp [clc, sysc])).tr K3
    obtain ⟨P5, C5⟩ := PC.fr hP hc Fa Ka (by simp [crc, clc, sysc]) (by simp)
    refine ⟨nI L.length, H1, H3, ?_, ?_, P5, C5, Fa, (FrK.of F1 (by simp [clc, sysc])).tr (FrK.of F3 (by simp)), Ka⟩
    · rw [hP.1.1, s1, bnd_s, C1.1]
    · rw [s3, bnd_s, M3.1]
  simp only [if_neg c4]
  by_cases c5 : a1 = 5
  · simp only [if_pos c5]
    obtain ⟨r, H1, s1, F1, m1⟩ := count5_z hP hc
    obtain ⟨P5, C5⟩ := PC.fr hP hc F1 (FrK.of F1 (by simp) (ks := [])) (by simp) (by simp)
    refine ⟨r, H1, H1, ?_, m1, P5, C5, F1.wid (by simp), FrK.of F1 (by simp), FrK.of F1 (by simp)⟩
    rw [hP.1.1, s1, bnd_s]
  simp only [if_neg c5]
  by_cases c6 : a1 = 6
  · simp only [if_pos c6]
    obtain ⟨n, -, t1, t2, -⟩ := hT
    exact ⟨_, _, _, by rw [t1], by rw [t2], rf⟩
  simp only [if_neg c6]
  exact ⟨_, _, _, rfl, rfl, rf⟩
