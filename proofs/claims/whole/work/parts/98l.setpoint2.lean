/-! the model's setPoint -/
def Pnt (H : Hp) (a b c d : Int) : Prop := H.2 88 0 = i64 a ∧ H.2 88 1 = i64 b ∧ H.2 88 2 = i64 c ∧ H.2 88 3 = i64 d
def SPP (H0 : Hp) (a b c d : Int) (r : Option (Int32 × Hp)) : Prop := ∃ r' H', r = some (r', H') ∧ Fr [88] H0 H' ∧ ((r' = 0 ∧ d = 0) ∨ (r' = 1 ∧ d ≠ 0 ∧ MNew H' (mkp a b c d)))
theorem spb_z {H0 H : Hp} {a b c d : Int} (hF : Fr [88] H0 H) (hP : Pnt H a b c d) (ha : -2700 ≤ a ∧ a ≤ 2700) (hb : -2700 ≤ b ∧ b ≤ 2700) (hc : -2700 ≤ c ∧ c ≤ 2700) (hd : -2700 ≤ d ∧ d ≤ 2700) : SPP H0 a b c d (s_X10_setPoint_b152 66 H) := by
  have z0l : (0 : Int64).toInt = 0 := by decide
  obtain ⟨p0, p1, p2, p3⟩ := hP
  have v : ∀ x : Int, -2700 ≤ x ∧ x ≤ 2700 → (i64 x).toInt = x := fun x hx => i64_z (by omega) (by omega)
  have L0 : ∀ k : Int64 → Option (Int32 × Hp), ldJ H 88 4 (0 : Int32) k = k (i64 a) := fun k => by rw [li0, ldJ_n (by omega) (by omega), p0]
  have L1 : ∀ k : Int64 → Option (Int32 × Hp), ldJ H 88 4 (1 : Int32) k = k (i64 b) := fun k => by rw [li1, ldJ_n (by omega) (by omega), p1]
  have L2 : ∀ k : Int64 → Option (Int32 × Hp), ldJ H 88 4 (2 : Int32) k = k (i64 c) := fun k => by rw [li2, ldJ_n (by omega) (by omega), p2]
  have L3 : ∀ k : Int64 → Option (Int32 × Hp), ldJ H 88 4 (3 : Int32) k = k (i64 d) := fun k => by rw [li3, ldJ_n (by omega) (by omega), p3]
  unfold s_X10_setPoint_b152
  rw [show (66 + 22 : Nat) = 88 from rfl, L3]
  by_cases c0 : d = 0
  · rw [if_pos ((i64_0 (by omega) (by omega)).mpr c0)]
    exact ⟨0, H, rfl, hF, Or.inl ⟨rfl, c0⟩⟩
  · rw [if_neg (fun y => c0 ((i64_0 (by omega) (by omega)).mp y)), L0, L1, mg_z (by rw [v a ha]; omega) (by rw [v b hb]; omega), bnd_s, L2, L3, mg_z (by rw [v c hc]; omega) (by rw [v d hd]; omega), bnd_s, v a ha, v b hb, v c hc, v d hd]
    -- the common divisor
    have g2l : Int.gcd c d ≤ d.natAbs := Nat.gcd_le_right _ (by omega)
    have g1l : Int.gcd a b ≤ 2700 := by
      unfold Int.gcd
      rcases Nat.eq_zero_or_pos b.natAbs with y | y
      · rw [y, Nat.gcd_zero_right]; omega
      · have := Nat.gcd_le_right a.natAbs y; omega
    have e1 : (i64 ((Int.gcd a b : Nat) : Int)).toInt = ((Int.gcd a b : Nat) : Int) := i64_z (by omega) (by omega)
    have e2 : (i64 ((Int.gcd c d : Nat) : Int)).toInt = ((Int.gcd c d : Nat) : Int) := i64_z (by omega) (by omega)
    rw [mg_z (by rw [e1]; omega) (by rw [e2]; omega), bnd_s, L3, e1, e2]
    generalize hg : Int.gcd ((Int.gcd a b : Nat) : Int) ((Int.gcd c d : Nat) : Int) = g
    have gpos : 0 < Int.gcd c d := by
      rcases Nat.eq_zero_or_pos (Int.gcd c d) with y | y
      · have := (Int.gcd_eq_zero_iff.mp y).2; exact absurd this c0
      · exact y
    have gp : 0 < g := by
      rw [← hg]
      rcases Nat.eq_zero_or_pos (Int.gcd ((Int.gcd a b : Nat) : Int) ((Int.gcd c d : Nat) : Int)) with y | y
      · have := (Int.gcd_eq_zero_iff.mp y).2; omega
      · exact y
    have gab : (g : Int) ∣ ((Int.gcd a b : Nat) : Int) := by rw [← hg]; exact Int.gcd_dvd_left _ _
    have gcd' : (g : Int) ∣ ((Int.gcd c d : Nat) : Int) := by rw [← hg]; exact Int.gcd_dvd_right _ _
    have ga : (g : Int) ∣ a := Int.dvd_trans gab (Int.gcd_dvd_left _ _)
    have gb : (g : Int) ∣ b := Int.dvd_trans gab (Int.gcd_dvd_right _ _)
    have gc : (g : Int) ∣ c := Int.dvd_trans gcd' (Int.gcd_dvd_left _ _)
    have gd : (g : Int) ∣ d := Int.dvd_trans gcd' (Int.gcd_dvd_right _ _)
    have gl : (g : Int) ≤ 2700 := by
      have := Int.le_of_dvd (by omega) gcd'
      omega
    have fin : ∀ k : Int, (k = (g : Int) ∨ k = -(g : Int)) → 0 < d / k → SPP H0 a b c d (s_X10_setPoint_b219 66 (i64 k) H) := fun k hk hdk => by
      have k0 : k ≠ 0 := by omega
      have kd : ∀ x : Int, (g : Int) ∣ x → k ∣ x := fun x hx => by
        rcases hk with e | e
        · rw [e]; exact hx
        · rw [e]; exact Int.neg_dvd.mpr hx
      have bd : ∀ x : Int, -2700 ≤ x ∧ x ≤ 2700 → (g : Int) ∣ x → -2700 ≤ x / k ∧ x / k ≤ 2700 := fun x hx hgx => by
        obtain ⟨y, hy⟩ := kd x hgx
        rw [hy, Int.mul_ediv_cancel_left _ k0]
        have k1 : k.natAbs ≥ 1 := by omega
        have : y.natAbs ≤ x.natAbs := by
          rw [hy, Int.natAbs_mul]
          exact Nat.le_mul_of_pos_left _ (by omega)
        omega
      unfold s_X10_setPoint_b219
      have vk : (i64 k).toInt = k := i64_z (by omega) (by omega)
      have dv : ∀ x : Int, -2700 ≤ x ∧ x ≤ 2700 → (g : Int) ∣ x → i64 x / i64 k = i64 (x / k) := fun x hx hgx => by
        rw [← i64_of (i64 x / i64 k), Jvm.Kit.i64_div (by rw [v x hx]; omega), v x hx, vk, Int.tdiv_eq_ediv_of_dvd (kd x hgx)]
      obtain ⟨e, he, hp⟩ := iter_fuel (f := fun s : Int32 × Hp => s_X10_setPoint_l224 66 (i64 k) s.1 s.2)
        (fun z => ∃ (u : Nat) (Q : Hp), z = (nI u, Q) ∧ u ≤ 4 ∧ Fr [88] H0 Q ∧ Q.2 88 0 = i64 (if 0 < u then a / k else a) ∧ Q.2 88 1 = i64 (if 1 < u then b / k else b) ∧ Q.2 88 2 = i64 (if 2 < u then c / k else c) ∧ Q.2 88 3 = i64 (if 3 < u then d / k else d))
        (fun z => 20 - z.1.toNatClampNeg)
        (fun Q => Fr [88] H0 Q ∧ Pnt Q (a / k) (b / k) (c / k) (d / k)) (by
        rintro z ⟨u, Q, rfl, hu, hQF, w0, w1, w2, w3⟩
        dsimp only
        unfold s_X10_setPoint_l224 nzJ
        by_cases y : u < 4
        · rw [if_pos (nI_ltn y (by omega) (by decide)), show (66 + 22 : Nat) = 88 from rfl, ldJ_n (by omega) (by omega), if_neg (fun y => k0 ((i64_0 (by omega) (by omega)).mp y)), stJ_n (by omega) (by omega), lt_red, nI_1]
          refine Or.inl ⟨_, rfl, ⟨u + 1, _, rfl, by omega, hQF.tr (Fr.sJ (by simp)), ?_⟩, by rw [nI_clamp (by omega), nI_clamp (by omega)]; omega⟩
          rcases (show u = 0 ∨ u = 1 ∨ u = 2 ∨ u = 3 by omega) with rfl | rfl | rfl | rfl
          · rw [sJ_same, sJ_ne (by omega), sJ_ne (by omega), sJ_ne (by omega), w0, w1, w2, w3]
            simp only [Nat.lt_irrefl, if_false]
            exact ⟨dv a ha ga, rfl, rfl, rfl⟩
          · rw [sJ_same, sJ_ne (by omega), sJ_ne (by omega), sJ_ne (by omega), w0, w1, w2, w3]
            simp only [Nat.lt_irrefl, if_false]
            exact ⟨rfl, dv b hb gb, rfl, rfl⟩
          · rw [sJ_same, sJ_ne (by omega), sJ_ne (by omega), sJ_ne (by omega), w0, w1, w2, w3]
            simp only [Nat.lt_irrefl, if_false]
            exact ⟨rfl, rfl, dv c hc gc, rfl⟩
          · rw [sJ_same, sJ_ne (by omega), sJ_ne (by omega), sJ_ne (by omega), w0, w1, w2, w3]
            simp only [Nat.lt_irrefl, if_false]
            exact ⟨rfl, rfl, rfl, dv d hd gd⟩
        · have : u = 4 := by omega
          subst this
          rw [if_neg (nI_nltn (by decide))]
          exact Or.inr ⟨_, rfl, hQF, w0, w1, w2, w3⟩)
        (nI 0, H) ⟨0, H, rfl, by omega, hF, p0, p1, p2, p3⟩ (by dsimp only; rw [nI_clamp (by omega)]; omega)
      rw [li0, he, bnd_s]
      obtain ⟨hQF, w0, w1, w2, w3⟩ := hp
      have ba := bd a ha ga
      have bb := bd b hb gb
      have bc := bd c hc gc
      have bd' := bd d hd gd
      refine ⟨1, e, rfl, hQF, Or.inr ⟨rfl, c0, ?_, ?_⟩⟩
      · unfold QB
        rw [w0, w1, w2, w3, v _ ba, v _ bb, v _ bc, v _ bd']
        omega
      · unfold q4
        rw [w0, w1, w2, w3, v _ ba, v _ bb, v _ bc, v _ bd']
        have := mkp_scale k0 (a / k) (b / k) (c / k) (d / k)
        rw [Int.mul_ediv_cancel' (kd a ga), Int.mul_ediv_cancel' (kd b gb), Int.mul_ediv_cancel' (kd c gc), Int.mul_ediv_cancel' (kd d gd)] at this
        exact this
    obtain ⟨dq, hdq⟩ := gd
    by_cases dn : d < 0
    · rw [if_pos (show i64 d < (0 : Int64) from ltl_z.mpr (by rw [z0l, v d hd]; exact dn)), i64_neg]
      refine fin _ (Or.inr rfl) ?_
      rw [Int.ediv_neg, hdq, Int.mul_ediv_cancel_left _ (by omega)]
      rcases Int.lt_or_le dq 0 with y | y
      · omega
      · have := Int.mul_nonneg (show (0 : Int) ≤ (g : Int) by omega) y; omega
    · rw [if_neg (show ¬ i64 d < (0 : Int64) from fun y => dn (by have := ltl_z.mp y; rw [z0l, v d hd] at this; exact this))]
      refine fin _ (Or.inl rfl) ?_
      rw [hdq, Int.mul_ediv_cancel_left _ (by omega)]
      rcases Int.lt_or_le 0 dq with y | y
      · exact y
      · have := Int.mul_nonneg (show (0 : Int) ≤ (g : Int) by omega) (show 0 ≤ -dq by omega); rw [Int.mul_neg] at this; omega
theorem toL {z : Int} (h : -1000 ≤ z ∧ z ≤ 1000) : (i32 z).toInt64 = i64 z := by
  apply eql_z.mpr
  rw [tl_z, i32_z (by omega) (by omega), i64_z (by omega) (by omega)]
/-- what stands in a cell of the equations: a number in place of one coefficient -/
def cel (H : Hp) (k v ins : Nat) : Int := if v = ins then mD H 66 k else fF H k v
theorem cell_z {H : Hp} {nq m k v ins : Nat} (hM : MB H 66 nq m) (hk : k < m) (hv : v < 3) {a : Int32} (ha : nI v = a ↔ v = ins) : s_X10_cell 66 (nI k) (nI v) a H = some (i64 (cel H k v ins)) := by
  have hm := hM.2.1
  obtain ⟨⟨w1, w2⟩, ⟨w3, w4⟩, w5⟩ := hM.2.2.2 k hk
  unfold s_X10_cell cel
  by_cases c : v = ins
  · rw [if_pos (ha.mpr c), if_pos c, show (3 : Int32) * nI k = nI (3 * k) from by rw [li3, nI_mul], show nI (3 * k) + 2 = nI (3 * k + 2) from by rw [li2, nI_add], ldI_n (by omega) (by omega)]
    have : H.1 (66 + 2) (3 * k + 2) = i32 (mD H 66 k) := (i32_of _).symm
    rw [this, toL (by omega)]
  · rw [if_neg (fun y => c (ha.mp y)), if_neg c, coef_i hM hk hv, bnd_s, toL (by have := hM.2.2.1 _ v w2 hv; show -1000 ≤ mK H 66 (mG H 66 k) v ∧ mK H 66 (mG H 66 k) v ≤ 1000; omega)]
def dt2 (a b c d : Int) : Int := a * d - b * c
def td3 (H : Hp) (i j k ins : Nat) : Int := cel H i 0 ins * dt2 (cel H j 1 ins) (cel H j 2 ins) (cel H k 1 ins) (cel H k 2 ins) - cel H i 1 ins * dt2 (cel H j 0 ins) (cel H j 2 ins) (cel H k 0 ins) (cel H k 2 ins) + cel H i 2 ins * dt2 (cel H j 0 ins) (cel H j 1 ins) (cel H k 0 ins) (cel H k 1 ins)
theorem threeDet_z {H : Hp} {nq m i j k ins : Nat} (hM : MB H 66 nq m) (hi : i < m) (hj : j < m) (hk : k < m) {a : Int32} (ha : ∀ v, v < 3 → (nI v = a ↔ v = ins)) : s_X10_threeDet 66 (nI i) (nI j) (nI k) a H = some (i64 (td3 H i j k ins)) := by
  have C : ∀ l, l < m → ∀ v, v < 3 → s_X10_cell 66 (nI l) (nI v) a H = some (i64 (cel H l v ins)) := fun l hl v hv => cell_z hM hl hv (ha v hv)
  have C0 : ∀ l, l < m → s_X10_cell 66 (nI l) 0 a H = some (i64 (cel H l 0 ins)) := fun l hl => C l hl 0 (by omega)
  have C1 : ∀ l, l < m → s_X10_cell 66 (nI l) 1 a H = some (i64 (cel H l 1 ins)) := fun l hl => C l hl 1 (by omega)
  have C2 : ∀ l, l < m → s_X10_cell 66 (nI l) 2 a H = some (i64 (cel H l 2 ins)) := fun l hl => C l hl 2 (by omega)
  unfold s_X10_threeDet s_X10_det
  rw [C1 j hj, C2 j hj, C1 k hk, C2 k hk, C0 j hj, C0 k hk, C0 i hi, C1 i hi, C2 i hi]
  simp only [bnd_s, i64_mul, i64_sub, i64_add]
  rfl
theorem twoDet_z {H : Hp} {nq m i j ins : Nat} (hM : MB H 66 nq m) (hi : i < m) (hj : j < m) {a : Int32} (ha : ∀ v, v < 2 → (nI v = a ↔ v = ins)) : s_X10_twoDet 66 (nI i) (nI j) a H = some (i64 (dt2 (cel H i 0 ins) (cel H i 1 ins) (cel H j 0 ins) (cel H j 1 ins))) := by
  have hm := hM.2.1
  have rd : ∀ l, l < m → ∀ K : Int32 → Option Int64, ldI H 68 30 ((3 : Int32) * nI l + 2) K = K (i32 (mD H 66 l)) := fun l hl K => by
    rw [show (3 : Int32) * nI l = nI (3 * l) from by rw [li3, nI_mul], show nI (3 * l) + 2 = nI (3 * l + 2) from by rw [li2, nI_add], ldI_n (by omega) (by omega)]
    have : H.1 68 (3 * l + 2) = i32 (mD H 66 l) := (i32_of _).symm
    rw [this]
  have co0 : ∀ l, l < m → s_X10_coefficientOf 66 (nI l) 0 H = some (i32 (fF H l 0)) := fun l hl => coef_i hM hl (v := 0) (by omega)
  have co1 : ∀ l, l < m → s_X10_coefficientOf 66 (nI l) 1 H = some (i32 (fF H l 1)) := fun l hl => coef_i hM hl (v := 1) (by omega)
  have tF : ∀ l, l < m → ∀ v, v < 3 → (i32 (fF H l v)).toInt64 = i64 (fF H l v) := fun l hl v hv => toL (by
    have := hM.2.2.1 _ v (hM.2.2.2 l hl).1.2 hv
    show -1000 ≤ mK H 66 (mG H 66 l) v ∧ mK H 66 (mG H 66 l) v ≤ 1000
    omega)
  have tD : ∀ l, l < m → (i32 (mD H 66 l)).toInt64 = i64 (mD H 66 l) := fun l hl => toL (by have := (hM.2.2.2 l hl).2.2; omega)
  have h0 : ((0 : Int32) = a ↔ 0 = ins) := ha 0 (by omega)
  have h1 : ((1 : Int32) = a ↔ 1 = ins) := ha 1 (by omega)
  unfold s_X10_twoDet s_X10_twoDet_b25 s_X10_twoDet_b53 s_X10_twoDet_b80 s_X10_twoDet_b108 s_X10_det
  rw [show (66 + 2 : Nat) = 68 from rfl]
  by_cases c0 : 0 = ins
  · have a0 : a = 0 := (h0.mpr c0).symm
    have a1 : ¬ a = 1 := fun y => by have := h1.mp y.symm; omega
    rw [if_pos a0, rd i hi, if_neg a1, co1 i hi, bnd_s, if_pos a0, rd j hj, if_neg a1, co1 j hj, bnd_s, bnd_s, tD i hi, tD j hj, tF i hi 1 (by omega), tF j hj 1 (by omega), i64_mul, i64_mul, i64_sub]
    unfold dt2 cel
    rw [if_pos c0, if_pos c0, if_neg (by omega), if_neg (by omega)]
  · have a0 : ¬ a = 0 := fun y => c0 (h0.mp y.symm)
    by_cases c1 : 1 = ins
    · have a1 : a = 1 := (h1.mpr c1).symm
      rw [if_neg a0, co0 i hi, bnd_s, if_pos a1, rd i hi, if_neg a0, co0 j hj, bnd_s, if_pos a1, rd j hj, bnd_s, tD i hi, tD j hj, tF i hi 0 (by omega), tF j hj 0 (by omega), i64_mul, i64_mul, i64_sub]
      unfold dt2 cel
      rw [if_neg c0, if_neg c0, if_pos c1, if_pos c1]
    · have a1 : ¬ a = 1 := fun y => c1 (h1.mp y.symm)
      rw [if_neg a0, co0 i hi, bnd_s, if_neg a1, co1 i hi, bnd_s, if_neg a0, co0 j hj, bnd_s, if_neg a1, co1 j hj, bnd_s, bnd_s, tF i hi 0 (by omega), tF j hj 0 (by omega), tF i hi 1 (by omega), tF j hj 1 (by omega), i64_mul, i64_mul, i64_sub]
      unfold dt2 cel
      rw [if_neg c0, if_neg c0, if_neg c1, if_neg c1]
/-- the set of a try -/
def tset (nv i j k : Nat) : List Nat := if nv = 1 then [i] else if nv = 2 then [i, j] else [i, j, k]
theorem nI_m9 (v : Nat) (hv : v < 3) : (nI v = (-9 : Int32) ↔ v = 9) := by
  constructor
  · intro y
    have := eq_z.mp y
    rw [nI_z (by omega), show (-9 : Int32).toInt = -9 from by decide] at this
    omega
  · intro y; omega
theorem eqF_bd {F : Nat → Nat → Int} {T : List Nat} (hF : ∀ i ∈ T, ∀ v, v < 3 → -3 ≤ F i v ∧ F i v ≤ 3) : Bd (eqF F T) 3 := fun c _ v hv => by
  unfold eqF
  by_cases q : c < T.length
  · rw [if_pos q]; exact hF _ (getD_mem q) v hv
  · rw [if_neg q]; split <;> omega
theorem eqR_bd {d : Nat → Int} {T : List Nat} (hd : ∀ i ∈ T, -50 ≤ d i ∧ d i ≤ 50) (c : Nat) : -50 ≤ eqR d T c ∧ eqR d T c ≤ 50 := by
  unfold eqR
  by_cases q : c < T.length
  · rw [if_pos q]; exact hd _ (getD_mem q)
  · rw [if_neg q]; omega
set_option maxHeartbeats 2000000 in
theorem setPoint_z {H : Hp} {nq m nv i j k : Nat} (hM : MB H 66 nq m) (hv : H.1 66 0 = nI nv) (h1 : 1 ≤ nv) (h3 : nv ≤ 3) (hi : i < m) (hj : j < m) (hk : k < m) : SPP H (nmr (eqF (fF H) (tset nv i j k)) (eqR (mD H 66) (tset nv i j k)) 0) (nmr (eqF (fF H) (tset nv i j k)) (eqR (mD H 66) (tset nv i j k)) 1) (nmr (eqF (fF H) (tset nv i j k)) (eqR (mD H 66) (tset nv i j k)) 2) (dt (eqF (fF H) (tset nv i j k)) 0 1 2) (s_X10_setPoint 66 (nI i) (nI j) (nI k) H) := by
  have hTm : ∀ l ∈ tset nv i j k, l < m := fun l hl => by
    unfold tset at hl
    split at hl
    · simp at hl; omega
    · split at hl
      · simp at hl; omega
      · simp at hl; omega
  have hG : Bd (eqF (fF H) (tset nv i j k)) 3 := eqF_bd (fun l hl v hv => hM.2.2.1 _ v (hM.2.2.2 l (hTm l hl)).1.2 hv)
  have hR := eqR_bd (d := mD H 66) (T := tset nv i j k) (fun l hl => (hM.2.2.2 l (hTm l hl)).2.2)
  have nb : ∀ v, v < 3 → -2700 ≤ nmr (eqF (fF H) (tset nv i j k)) (eqR (mD H 66) (tset nv i j k)) v ∧ nmr (eqF (fF H) (tset nv i j k)) (eqR (mD H 66) (tset nv i j k)) v ≤ 2700 := fun v hv => by
    have := nmr_bd hG (fun c _ => hR c) hv
    unfold nmr; omega
  have db := dt_bd hG (i := 0) (j := 1) (k := 2) (by omega) (by omega) (by omega)
  have go : ∀ H' : Hp, Fr [88] H H' → Pnt H' (nmr (eqF (fF H) (tset nv i j k)) (eqR (mD H 66) (tset nv i j k)) 0) (nmr (eqF (fF H) (tset nv i j k)) (eqR (mD H 66) (tset nv i j k)) 1) (nmr (eqF (fF H) (tset nv i j k)) (eqR (mD H 66) (tset nv i j k)) 2) (dt (eqF (fF H) (tset nv i j k)) 0 1 2) → SPP H (nmr (eqF (fF H) (tset nv i j k)) (eqR (mD H 66) (tset nv i j k)) 0) (nmr (eqF (fF H) (tset nv i j k)) (eqR (mD H 66) (tset nv i j k)) 1) (nmr (eqF (fF H) (tset nv i j k)) (eqR (mD H 66) (tset nv i j k)) 2) (dt (eqF (fF H) (tset nv i j k)) 0 1 2) (s_X10_setPoint_b152 66 H') := fun H' hF hP => spb_z hF hP (nb 0 (by omega)) (nb 1 (by omega)) (nb 2 (by omega)) (by omega)
  have same : ∀ H' : Hp, Fr [88] H H' → MB H' 66 nq m ∧ (∀ l v ins, cel H' l v ins = cel H l v ins) := fun H' hF => by
    obtain ⟨a, g1, g2, g3, g4⟩ := hM.fr hF (FrK.of hF (by simp) (ks := [])) (by simp) (by simp) (by simp)
    refine ⟨a, fun l v ins => ?_⟩
    unfold cel
    show (if v = ins then mD H' 66 l else mK H' 66 (mG H' 66 l) v) = (if v = ins then mD H 66 l else mK H 66 (mG H 66 l) v)
    rw [g1, g3, g4]
  unfold s_X10_setPoint
  rw [show (66 + 22 : Nat) = 88 from rfl, li1, stJ_n (by omega) (by omega), li2, stJ_n (by omega) (by omega)]
  generalize gH2 : sJ (sJ H 88 1 0) 88 2 0 = H2
  have F2 : Fr [88] H H2 := by rw [← gH2]; exact (Fr.sJ (by simp)).tr (Fr.sJ (by simp))
  have e1 : H2.2 88 1 = i64 0 := by rw [← gH2, sJ_ne (by omega), sJ_same]; decide
  have e2 : H2.2 88 2 = i64 0 := by rw [← gH2, sJ_same]; decide
  obtain ⟨M2, C2⟩ := same H2 F2
  rw [(F2 66 (by simp)).1, hv]
  rcases (show nv = 1 ∨ nv = 2 ∨ nv = 3 by omega) with rfl | rfl | rfl
  · have hT : tset 1 i j k = [i] := rfl
    have hd : H2.1 68 (3 * i + 2) = i32 (mD H 66 i) := by rw [(F2 68 (by simp)).1]; exact (i32_of _).symm
    have wb := hM.2.2.1 _ 0 (hM.2.2.2 i hi).1.2 (by omega)
    have wd := (hM.2.2.2 i hi).2.2
    have hm := hM.2.1
    rw [if_pos rfl, show (3 : Int32) * nI i = nI (3 * i) from by rw [li3, nI_mul], show (66 + 2 : Nat) = 68 from rfl, show nI (3 * i) + nI 2 = nI (3 * i + 2) from nI_add _ _, ldI_n (by omega) (by omega), hd, toL (by omega), li0, stJ_n (by omega) (by omega)]
    generalize gH4 : sJ H2 88 0 (i64 (mD H 66 i)) = H4
    have F4 : Fr [88] H H4 := F2.tr (by rw [← gH4]; exact Fr.sJ (by simp))
    obtain ⟨M4, C4⟩ := same H4 F4
    have cf : fF H4 i 0 = fF H i 0 := by
      have := C4 i 0 9
      unfold cel at this
      rw [if_neg (by omega), if_neg (by omega)] at this
      exact this
    rw [coef_i M4 hi (by omega), bnd_s, cf, toL (by show -1000 ≤ mK H 66 (mG H 66 i) 0 ∧ mK H 66 (mG H 66 i) 0 ≤ 1000; omega), li3, stJ_n (by omega) (by omega)]
    refine go _ (F4.tr (Fr.sJ (by simp))) ?_
    unfold Pnt
    rw [sJ_ne (by omega), sJ_ne (by omega), sJ_ne (by omega), sJ_same, ← gH4, sJ_same, sJ_ne (by omega), sJ_ne (by omega), e1, e2, hT]
    refine ⟨?_, ?_, ?_, ?_⟩
    · congr 1; unfold nmr; simp [cr0, eqF, eqR]
    · congr 1; unfold nmr; simp [cr1, eqF, eqR]
    · congr 1; unfold nmr; simp [cr2, eqF, eqR]
    · congr 1; unfold dt; simp [eqF]
  · have hT : tset 2 i j k = [i, j] := rfl
    rw [if_neg (by decide), if_pos rfl]
    have t0 : ∀ H' : Hp, Fr [88] H H' → s_X10_twoDet 66 (nI i) (nI j) 0 H' = some (i64 (dt2 (cel H i 0 0) (cel H i 1 0) (cel H j 0 0) (cel H j 1 0))) := fun H' hF => by
      obtain ⟨M, C⟩ := same H' hF
      rw [twoDet_z (ins := 0) M hi hj (fun v hv => by rw [show (0 : Int32) = nI 0 from li0, nI_eq (by omega) (by omega)]), C, C, C, C]
    have t1 : ∀ H' : Hp, Fr [88] H H' → s_X10_twoDet 66 (nI i) (nI j) (nI 1) H' = some (i64 (dt2 (cel H i 0 1) (cel H i 1 1) (cel H j 0 1) (cel H j 1 1))) := fun H' hF => by
      obtain ⟨M, C⟩ := same H' hF
      rw [twoDet_z (ins := 1) M hi hj (fun v hv => by rw [nI_eq (by omega) (by omega)]), C, C, C, C]
    have t9 : ∀ H' : Hp, Fr [88] H H' → s_X10_twoDet 66 (nI i) (nI j) (-9) H' = some (i64 (dt2 (cel H i 0 9) (cel H i 1 9) (cel H j 0 9) (cel H j 1 9))) := fun H' hF => by
      obtain ⟨M, C⟩ := same H' hF
      rw [twoDet_z (ins := 9) M hi hj (fun v hv => nI_m9 v (by omega)), C, C, C, C]
    have F21 : ∀ z, Fr [88] H (sJ H2 88 0 z) := fun z => F2.tr (Fr.sJ (by simp))
    rw [t0 H2 F2, bnd_s, li0, stJ_n (by omega) (by omega), t1 _ (F21 _), bnd_s, stJ_n (by omega) (by omega), t9 _ ((F21 _).tr (Fr.sJ (by simp))), bnd_s, li3, stJ_n (by omega) (by omega)]
    refine go _ (((F21 _).tr (Fr.sJ (by simp))).tr (Fr.sJ (by simp))) ?_
    unfold Pnt
    rw [sJ_ne (by omega), sJ_ne (by omega), sJ_same, sJ_ne (by omega), sJ_same, sJ_ne (by omega), sJ_ne (by omega), sJ_ne (by omega), sJ_same, e2, hT]
    refine ⟨?_, ?_, ?_, ?_⟩
    · congr 1; unfold nmr dt2 cel; simp [cr0, eqF, eqR]; grind
    · congr 1; unfold nmr dt2 cel; simp [cr1, eqF, eqR]; grind
    · congr 1; unfold nmr; simp [cr2, eqF, eqR]
    · congr 1; unfold dt dt2 cel; simp [eqF]; grind
  · have hT : tset 3 i j k = [i, j, k] := rfl
    rw [if_neg (by decide), if_neg (by decide)]
    have t3 : ∀ (H' : Hp) (a : Int32) (ins : Nat), Fr [88] H H' → (∀ v, v < 3 → (nI v = a ↔ v = ins)) → s_X10_threeDet 66 (nI i) (nI j) (nI k) a H' = some (i64 (td3 H i j k ins)) := fun H' a ins hF ha => by
      obtain ⟨M, C⟩ := same H' hF
      rw [threeDet_z M hi hj hk ha]
      unfold td3
      simp only [C]
    obtain ⟨e, he, hp⟩ := iter_fuel (f := fun s : Int32 × Hp => s_X10_setPoint_l109 66 (nI i) (nI j) (nI k) s.1 s.2)
      (fun z => ∃ (v : Nat) (Q : Hp), z = (nI v, Q) ∧ v ≤ 3 ∧ Fr [88] H Q ∧ ∀ u, u < v → Q.2 88 u = i64 (td3 H i j k u))
      (fun z => 20 - z.1.toNatClampNeg)
      (fun Q => Fr [88] H Q ∧ ∀ u, u < 3 → Q.2 88 u = i64 (td3 H i j k u)) (by
      rintro z ⟨v, Q, rfl, hv3, hF, hQ⟩
      dsimp only
      unfold s_X10_setPoint_l109
      by_cases y : v < 3
      · rw [if_pos (nI_ltn y (by omega) (by decide)), t3 Q (nI v) v hF (fun u hu => nI_eq (by omega) (by omega)), bnd_s, show (66 + 22 : Nat) = 88 from rfl, stJ_n (by omega) (by omega), lt_red, nI_1]
        refine Or.inl ⟨_, rfl, ⟨v + 1, _, rfl, by omega, hF.tr (Fr.sJ (by simp)), fun u hu => ?_⟩, by rw [nI_clamp (by omega), nI_clamp (by omega)]; omega⟩
        by_cases w : u = v
        · subst w; rw [sJ_same]
        · rw [sJ_ne w]; exact hQ u (by omega)
      · have : v = 3 := by omega
        subst this
        rw [if_neg (nI_nltn (by decide))]
        exact Or.inr ⟨_, rfl, hF, hQ⟩)
      (nI 0, H2) ⟨0, H2, rfl, by omega, F2, fun u hu => by omega⟩ (by dsimp only; rw [nI_clamp (by omega)]; omega)
    obtain ⟨hF, hQ⟩ := hp
    rw [li0, he, bnd_s, t3 e (-9) 9 hF (fun v hv => nI_m9 v hv), bnd_s, li3, stJ_n (by omega) (by omega)]
    refine go _ (hF.tr (Fr.sJ (by simp))) ?_
    unfold Pnt
    rw [sJ_ne (by omega), sJ_ne (by omega), sJ_ne (by omega), sJ_same, hQ 0 (by omega), hQ 1 (by omega), hQ 2 (by omega), hT]
    refine ⟨?_, ?_, ?_, ?_⟩
    · congr 1; unfold nmr td3 dt2 cel; simp [cr0, eqF, eqR]; grind
    · congr 1; unfold nmr td3 dt2 cel; simp [cr1, eqF, eqR]; grind
    · congr 1; unfold nmr td3 dt2 cel; simp [cr2, eqF, eqR]; grind
    · congr 1; unfold dt td3 dt2 cel; simp [eqF]; grind
