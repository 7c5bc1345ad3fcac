/-! Corners.collect, the model's setCorners -/
def VP (m : Nat) (F : Nat → Nat → Int) (s : Nat → Nat) (d : Nat → Int) (T : List Nat) (p : P3) : Prop := dt (eqF F T) 0 1 2 ≠ 0 ∧ p = mkp (nmr (eqF F T) (eqR d T) 0) (nmr (eqF F T) (eqR d T) 1) (nmr (eqF F T) (eqR d T) 2) (dt (eqF F T) 0 1 2) ∧ cHp m F s d p
theorem dt_scale (G G' : Nat → Nat → Int) (t : Nat → Int) (h : ∀ c v, c < 3 → v < 3 → G' c v = t c * G c v) : dt G' 0 1 2 = (t 0 * t 1 * t 2) * dt G 0 1 2 := by
  unfold dt
  rw [h 0 0 (by omega) (by omega), h 0 1 (by omega) (by omega), h 0 2 (by omega) (by omega), h 1 0 (by omega) (by omega), h 1 1 (by omega) (by omega), h 1 2 (by omega) (by omega), h 2 0 (by omega) (by omega), h 2 1 (by omega) (by omega), h 2 2 (by omega) (by omega)]
  grind
theorem nmr_scale (G G' : Nat → Nat → Int) (R R' t : Nat → Int) (h : ∀ c v, c < 3 → v < 3 → G' c v = t c * G c v) (hR : ∀ c, c < 3 → R' c = t c * R c) {v : Nat} (hv : v < 3) : nmr G' R' v = (t 0 * t 1 * t 2) * nmr G R v := by
  have a1 : nx v < 3 := by unfold nx; split <;> omega
  have a2 : th v < 3 := by unfold th; split <;> omega
  unfold nmr cr
  rw [hR 0 (by omega), hR 1 (by omega), hR 2 (by omega), h 0 _ (by omega) a1, h 0 _ (by omega) a2, h 1 _ (by omega) a1, h 1 _ (by omega) a2, h 2 _ (by omega) a1, h 2 _ (by omega) a2]
  grind
/-- negated rows give the same point -/
theorem turned {F F' : Nat → Nat → Int} {d d' : Nat → Int} {T : List Nat} {t : Nat → Int} (ht : ∀ i ∈ T, t i = 1 ∨ t i = -1) (hF : ∀ i ∈ T, ∀ v, v < 3 → F' i v = t i * F i v) (hd : ∀ i ∈ T, d' i = t i * d i) : (dt (eqF F' T) 0 1 2 = 0 ↔ dt (eqF F T) 0 1 2 = 0) ∧ mkp (nmr (eqF F' T) (eqR d' T) 0) (nmr (eqF F' T) (eqR d' T) 1) (nmr (eqF F' T) (eqR d' T) 2) (dt (eqF F' T) 0 1 2) = mkp (nmr (eqF F T) (eqR d T) 0) (nmr (eqF F T) (eqR d T) 1) (nmr (eqF F T) (eqR d T) 2) (dt (eqF F T) 0 1 2) := by
  let u : Nat → Int := fun c => if c < T.length then t (T.getD c 0) else 1
  have hu : ∀ c, u c = 1 ∨ u c = -1 := fun c => by
    show (if c < T.length then t (T.getD c 0) else 1) = 1 ∨ (if c < T.length then t (T.getD c 0) else 1) = -1
    by_cases q : c < T.length
    · rw [if_pos q]; exact ht _ (getD_mem q)
    · rw [if_neg q]; exact Or.inl rfl
  have eF : ∀ c v, c < 3 → v < 3 → eqF F' T c v = u c * eqF F T c v := fun c v _ hv => by
    show (if c < T.length then F' (T.getD c 0) v else if v = c then 1 else 0) = (if c < T.length then t (T.getD c 0) else 1) * (if c < T.length then F (T.getD c 0) v else if v = c then 1 else 0)
    by_cases q : c < T.length
    · rw [if_pos q, if_pos q, if_pos q]; exact hF _ (getD_mem q) v hv
    · rw [if_neg q, if_neg q, if_neg q, Int.one_mul]
  have eR : ∀ c, c < 3 → eqR d' T c = u c * eqR d T c := fun c _ => by
    show (if c < T.length then d' (T.getD c 0) else 0) = (if c < T.length then t (T.getD c 0) else 1) * (if c < T.length then d (T.getD c 0) else 0)
    by_cases q : c < T.length
    · rw [if_pos q, if_pos q, if_pos q]; exact hd _ (getD_mem q)
    · rw [if_neg q, if_neg q, if_neg q, Int.one_mul]
  have k0 : u 0 * u 1 * u 2 ≠ 0 := by
    rcases hu 0 with e | e <;> rcases hu 1 with e1 | e1 <;> rcases hu 2 with e2 | e2 <;> rw [e, e1, e2] <;> decide
  have ed := dt_scale _ _ u eF
  refine ⟨?_, ?_⟩
  · rw [ed]
    constructor
    · intro y
      rcases Int.mul_eq_zero.mp y with z | z
      · exact absurd z k0
      · exact z
    · intro y; rw [y, Int.mul_zero]
  · rw [ed, nmr_scale _ _ _ _ u eF eR (v := 0) (by omega), nmr_scale _ _ _ _ u eF eR (v := 1) (by omega), nmr_scale _ _ _ _ u eF eR (v := 2) (by omega), mkp_scale k0]
def cnt (nv x : Nat) : Nat := ((List.range x).filter (fun o => decide ((bl o 12).length = nv))).length
theorem cnt_succ (nv x : Nat) : cnt nv (x + 1) = cnt nv x + (if (bl x 12).length = nv then 1 else 0) := by
  unfold cnt
  rw [List.range_succ, List.filter_append, List.length_append]
  by_cases q : (bl x 12).length = nv <;> simp [q]
set_option maxRecDepth 100000 in
theorem cnt_all : ∀ nv, nv < 4 → cnt nv 1024 ≤ 120 := by decide +kernel
theorem cnt_le {nv x : Nat} (hv : nv ≤ 3) (hx : x ≤ 1024) : cnt nv x ≤ 120 := by
  have mono : ∀ d, cnt nv x ≤ cnt nv (x + d) := fun d => by
    induction d with
    | zero => exact Nat.le_refl _
    | succ d ih => rw [← Nat.add_assoc, cnt_succ]; omega
  have := mono (1024 - x)
  rw [show x + (1024 - x) = 1024 by omega] at this
  exact Nat.le_trans this (cnt_all nv (by omega))
abbrev clc : List Nat := [55, 56, 57, 63] ++ sysc
set_option maxHeartbeats 2000000 in
theorem collect_z {h : Hp} {nv nf m lv : Nat} (hP : ProbR h nv nf m lv) (hn1 : 1 ≤ nv) (hc : CIM h nv m) : ∃ H L, s_X2_collect 55 32 (nI nv) h = some H ∧ CL H L ∧ Fr clc h H ∧ ∀ p, p ∈ L ↔ ∃ b, b < 2 ^ m ∧ (bl b m).length = nv ∧ VP m (fF h) (mS h 66) (mD h 66) (bl b m) p := by
  have h3 := hP.1.2.2
  have hm := hP.2.2.2.1.2.1.2.1
  have hrw := hP.rw
  have hpow : 2 ^ m ≤ 1024 := Nat.pow_le_pow_right (by omega) (by omega : m ≤ 10)
  have hpos : 0 < 2 ^ m := Nat.pow_pos (by omega)
  have hshl : (1 : Int32) <<< (nI m &&& 31) = nI (2 ^ m) := (by decide +kernel : ∀ N, N < 12 → (1 : Int32) <<< (nI N &&& 31) = nI (2 ^ N)) m (by omega)
  have hbl : ∀ o, o < 2 ^ m → bl o 12 = bl o m := fun b hb => by
    have := bl_big hb (12 - m)
    rwa [show m + (12 - m) = 12 by omega] at this
  have start : ∀ p, p ∈ ([] : List P3) ↔ ∃ b, b < 1 ∧ (bl b m).length = nv ∧ VP m (fF h) (mS h 66) (mD h 66) (bl b m) p := fun p => by
    constructor
    · intro y; cases y
    · rintro ⟨b, b1, b2, -⟩
      have : b = 0 := by omega
      subst this
      have e0 : bl 0 m = [] := by simp [bl]
      rw [e0] at b2
      simp at b2
      omega
  unfold s_X2_collect
  rw [lt_red]
  obtain ⟨e, he, hp⟩ := iter_fuel (f := fun s : Int32 × Hp => s_X2_collect_l7 55 32 (nI nv) s.1 s.2)
    (fun z => ∃ (o : Nat) (G : Hp) (L : List P3), z = (nI o, G) ∧ 1 ≤ o ∧ o ≤ 2 ^ m ∧ Fr clc h G ∧ CL G L ∧ L.length ≤ cnt nv o ∧ ∀ p, p ∈ L ↔ ∃ b, b < o ∧ (bl b m).length = nv ∧ VP m (fF h) (mS h 66) (mD h 66) (bl b m) p)
    (fun z => 3000 - z.1.toNatClampNeg)
    (fun G => ∃ L, Fr clc h G ∧ CL G L ∧ ∀ p, p ∈ L ↔ ∃ b, b < 2 ^ m ∧ (bl b m).length = nv ∧ VP m (fF h) (mS h 66) (mD h 66) (bl b m) p) (by
    rintro z ⟨o, G, L, rfl, ho1, ho2, hF, hC, hL, hmem⟩
    dsimp only
    unfold s_X2_collect_l7 s_X2_collect_b73
    have g4 : G.1 32 4 = nI m := by rw [(hF 32 (by simp [clc, sysc])).1]; exact hc.1.1
    rw [g4, hshl]
    have mu : 3000 - (nI (o + 1)).toNatClampNeg < 3000 - (nI o).toNatClampNeg := by rw [nI_clamp (by omega), nI_clamp (by omega)]; omega
    by_cases q : o < 2 ^ m
    · have hlen : (bl o 12).length ≤ 12 := bl_le o 12
      have hcs := cnt_succ nv o
      rw [if_pos (nI_lt q (by omega)), bc_z (by omega), bnd_s]
      have skip : (¬ (bl o m).length = nv ∨ ∀ p, ¬ VP m (fF h) (mS h 66) (mD h 66) (bl o m) p) → ∀ p, p ∈ L ↔ ∃ b, b < o + 1 ∧ (bl b m).length = nv ∧ VP m (fF h) (mS h 66) (mD h 66) (bl b m) p := fun hno p => by
        rw [hmem p]
        constructor
        · rintro ⟨b, b1, b2⟩; exact ⟨b, by omega, b2⟩
        · rintro ⟨b, b1, b2, b3⟩
          rcases (show b < o ∨ b = o by omega) with y | rfl
          · exact ⟨b, y, b2, b3⟩
          · rcases hno with w | w
            · exact absurd b2 w
            · exact absurd b3 (w p)
      by_cases c : (bl o 12).length = nv
      · rw [if_pos (by rw [c])]
        have c' : (bl o m).length = nv := by rw [← hbl o q]; exact c
        have hTm : ∀ i ∈ bl o m, i < m := fun i hi => (mem_bl.mp hi).1
        have hrow : ∀ i, i < m → (∀ v, v < 3 → rF G 32 i v = tz (mS h 66 i) * fF h i v) ∧ (G.2 34 i).toInt = tz (mS h 66 i) * mD h 66 i := fun i hi => by
          have row := hc.2.1 i hi
          refine ⟨fun v hv => ?_, ?_⟩
          · rw [← row.1 v hv]; unfold rF; rw [(hF 33 (by simp [clc, sysc])).1]
          · rw [(hF 34 (by simp [clc, sysc])).2]; exact row.2.1
        obtain ⟨G2, e1, eF, eS⟩ := equate_z (Fr0 := fun i v => tz (mS h 66 i) * fF h i v) (d0 := fun i => tz (mS h 66 i) * mD h 66 i) g4 hm.1 hrow c' h3
        have hG := eqF_bd (F := fun i v => tz (mS h 66 i) * fF h i v) (T := bl o m) (fun i hi v hv => tz_bd ((hrw i (hTm i hi)).2.2.1 v hv))
        have hR := eqR_bd (d := fun i => tz (mS h 66 i) * mD h 66 i) (T := bl o m) (fun i hi => tz_bd (hrw i (hTm i hi)).2.1)
        obtain ⟨tz0, tp⟩ := turned (F := fF h) (F' := fun i v => tz (mS h 66 i) * fF h i v) (d := mD h 66) (d' := fun i => tz (mS h 66 i) * mD h 66 i) (T := bl o m) (t := fun i => tz (mS h 66 i)) (fun i _ => tz_pm _) (fun i _ v _ => rfl) (fun i _ => rfl)
        obtain ⟨r, G3, s1, sF, sK, sR⟩ := solve_z eS hG (fun c _ => hR c)
        rw [tp] at sR
        rw [e1, bnd_s, s1, bnd_s]
        dsimp only
        have F3 : Fr clc h G3 := hF.tr ((eF.wid (by simp [clc, sysc])).tr (sF.wid (by simp [clc, sysc])))
        have C3 : CL G3 L := by
          obtain ⟨k1, k2, k3, k4⟩ := hC
          refine ⟨?_, k2, k3, fun k hk => ?_⟩
          · rw [(sK 0 (by simp)).1, (eF 55 (by simp [sysc])).1]; exact k1
          · rw [(sF 56 (by simp)).2, (sF 57 (by simp)).2, (eF 56 (by simp [sysc])).2, (eF 57 (by simp [sysc])).2]; exact k4 k hk
        rcases sR with ⟨rfl, d0⟩ | ⟨rfl, d0, hN⟩
        · rw [if_pos rfl, lt_red, nI_1]
          refine Or.inl ⟨_, rfl, ⟨o + 1, G3, L, rfl, by omega, by omega, F3, C3, by omega, skip (Or.inr (fun p y => y.1 (tz0.mp d0)))⟩, mu⟩
        · have dn : dt (eqF (fF h) (bl o m)) 0 1 2 ≠ 0 := fun y => d0 (tz0.mpr y)
          have hN0 := hN
          obtain ⟨⟨n0, n1, n2, n3⟩, np⟩ := hN
          have cH : CI G3 nv m (fF h) (mS h 66) (mD h 66) := CI.fr hc F3 (by simp [clc, sysc]) (by simp [clc, sysc]) (by simp [clc, sysc]) (by simp [clc, sysc]) (by simp [clc, sysc]) (by simp [clc, sysc]) (by simp [clc, sysc])
          have L0 : ∀ K : Int64 → Option ((Int32 × Hp) ⊕ Hp), ldJ G3 63 3 (0 : Int32) K = K (G3.2 63 0) := fun K => by rw [li0]; exact ldJ_n (by omega) (by omega)
          have L1 : ∀ K : Int64 → Option ((Int32 × Hp) ⊕ Hp), ldJ G3 63 3 (1 : Int32) K = K (G3.2 63 1) := fun K => by rw [li1]; exact ldJ_n (by omega) (by omega)
          have L2 : ∀ K : Int64 → Option ((Int32 × Hp) ⊕ Hp), ldJ G3 63 3 (2 : Int32) K = K (G3.2 63 2) := fun K => by rw [li2]; exact ldJ_n (by omega) (by omega)
          have hh := hold_z (R := 32) (a := G3.2 63 0) (b := G3.2 63 1) (c := G3.2 63 2) (t := G3.2 55 5) (B := 1000000) cH.1.1 cH.1.2.2 cH.2.1 hrw (by omega) n0 n1 n2 (by omega) true
          have hb := hBl_c hrw (G3.2 63 0).toInt (G3.2 63 1).toInt (G3.2 63 2).toInt n3.1
          have np' : mkp (G3.2 63 0).toInt (G3.2 63 1).toInt (G3.2 63 2).toInt (G3.2 55 5).toInt = _ := np.symm
          rw [np'] at hb
          have hh' : s_X7_hold 32 (G3.2 63 0) (G3.2 63 1) (G3.2 63 2) (G3.2 55 5) 1 G3 = _ := hh
          rw [if_neg (by decide), show (55 + 8 : Nat) = 63 from rfl, L0, L1, L2, hh', bnd_s]
          cases hB : hBl m (fF h) (mS h 66) (mD h 66) true (G3.2 63 0).toInt (G3.2 63 1).toInt (G3.2 63 2).toInt (G3.2 55 5).toInt
          · rw [if_pos (by decide), lt_red, nI_1]
            refine Or.inl ⟨_, rfl, ⟨o + 1, G3, L, rfl, by omega, by omega, F3, C3, by omega, skip (Or.inr (fun p y => ?_))⟩, mu⟩
            have := hb.mpr (by rw [← y.2.1]; exact y.2.2)
            rw [hB] at this; cases this
          · rw [if_neg (by decide)]
            have hlt : L.length < 120 := by
              have := cnt_le (nv := nv) (x := o + 1) h3 (by omega)
              rw [if_pos c] at hcs
              omega
            obtain ⟨G4, L', i1, i2, i3, i4, i5, i6⟩ := insert_z C3 hN0 hlt
            rw [i1, bnd_s, lt_red, nI_1]
            refine Or.inl ⟨_, rfl, ⟨o + 1, G4, L', rfl, by omega, by omega, F3.tr (i5.wid (by simp [clc])), i2, by rw [if_pos c] at hcs; omega, fun p => ?_⟩, mu⟩
            rw [i3 p, hmem p]
            constructor
            · rintro (⟨b, b1, b2⟩ | y)
              · exact ⟨b, by omega, b2⟩
              · exact ⟨o, by omega, c', dn, y, by rw [y]; exact hb.mp hB⟩
            · rintro ⟨b, b1, b2, b3⟩
              rcases (show b < o ∨ b = o by omega) with y | rfl
              · exact Or.inl ⟨b, y, b2, b3⟩
              · exact Or.inr b3.2.1
      · rw [if_neg (by rw [nI_eq (by omega) (by omega)]; exact c), lt_red, nI_1]
        refine Or.inl ⟨_, rfl, ⟨o + 1, G, L, rfl, by omega, by omega, hF, hC, by omega, skip (Or.inl (by rw [← hbl o q]; exact c))⟩, mu⟩
    · rw [if_neg (nI_nlt (by omega) (by omega))]
      have : o = 2 ^ m := by omega
      subst this
      exact Or.inr ⟨_, rfl, L, hF, hC, hmem⟩)
    (nI 1, sI h 55 0 0) ⟨1, _, [], rfl, by omega, by omega, Fr.sI (by simp [clc]), ⟨by rw [sI_same]; rfl, by simp, List.Pairwise.nil, fun k hk => absurd hk (Nat.not_lt_zero k)⟩, by simp, start⟩ (by dsimp only; rw [nI_clamp (by omega)]; omega)
  obtain ⟨L, l1, l2, l3⟩ := hp
  rw [show ((1 : Int32), sI h 55 0 0) = (nI 1, sI h 55 0 0) from by rw [show nI 1 = (1 : Int32) from by decide], he, bnd_s]
  exact ⟨e, L, rfl, l2, l1, l3⟩
