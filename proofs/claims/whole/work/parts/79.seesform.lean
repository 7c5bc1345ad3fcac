/-! seesForm: the rows in the form's value as the first variable -/
def trF (sg : Int) (K : Nat → Int) (i3 i4 i5 : Nat) (F : Nat → Int) : Nat → Int := fun v => if v = 0 then sg * F i3 else if v = 1 then sg * K i3 * F i4 - sg * F i3 * K i4 else sg * K i3 * F i5 - sg * F i3 * K i5
def fset (h : Hp) (C : Nat) (x : Int32) (g : Nat) (sg : Int) (i3 i4 i5 m : Nat) : List Rw := ((List.range m).filter (fun k => bt x k)).flatMap (fun k => sR (mS h C k) (trF sg (mK h C g) i3 i4 i5 (mK h C (mG h C k))) (sg * mK h C g i3 * mD h C k))
theorem fset_succ (h : Hp) (C : Nat) (x : Int32) (g : Nat) (sg : Int) (i3 i4 i5 m : Nat) : fset h C x g sg i3 i4 i5 (m + 1) = fset h C x g sg i3 i4 i5 m ++ (if bt x m = true then sR (mS h C m) (trF sg (mK h C g) i3 i4 i5 (mK h C (mG h C m))) (sg * mK h C g i3 * mD h C m) else []) := by
  unfold fset
  rw [List.range_succ, List.filter_append, List.flatMap_append]
  by_cases q : bt x m = true <;> simp [q]
theorem fset_len (h : Hp) (C : Nat) (x : Int32) (g : Nat) (sg : Int) (i3 i4 i5 m : Nat) : (fset h C x g sg i3 i4 i5 m).length ≤ 2 * m := by
  induction m with
  | zero => simp [fset]
  | succ m ih =>
    rw [fset_succ, List.length_append]
    have := sR_len (mS h C m) (trF sg (mK h C g) i3 i4 i5 (mK h C (mG h C m))) (sg * mK h C g i3 * mD h C m)
    by_cases q : bt x m = true
    · rw [if_pos q]; omega
    · rw [if_neg q]; simp; omega
theorem pm3 {sg a : Int} (hs : sg = 1 ∨ sg = -1) (ha : -3 ≤ a ∧ a ≤ 3) : -3 ≤ sg * a ∧ sg * a ≤ 3 := by
  rcases hs with rfl | rfl <;> omega
theorem trF_bd {sg : Int} {K F : Nat → Int} {i3 i4 i5 : Nat} (hs : sg = 1 ∨ sg = -1) (h3 : i3 < 3) (h4 : i4 < 3) (h5 : i5 < 3) (hK : ∀ v, v < 3 → -3 ≤ K v ∧ K v ≤ 3) (hF : ∀ v, v < 3 → -3 ≤ F v ∧ F v ≤ 3) : ∀ v, v < 3 → -18 ≤ trF sg K i3 i4 i5 F v ∧ trF sg K i3 i4 i5 F v ≤ 18 := by
  intro v hv
  have a := pm3 hs (hF i3 h3)
  have b := pm3 hs (hK i3 h3)
  have m : ∀ i, i < 3 → -18 ≤ sg * K i3 * F i - sg * F i3 * K i ∧ sg * K i3 * F i - sg * F i3 * K i ≤ 18 := fun i hi => by
    have m1 := mulb (A := 3) (B := 3) (a := sg * K i3) (b := F i) b.1 b.2 (hF i hi).1 (hF i hi).2
    have m2 := mulb (A := 3) (B := 3) (a := sg * F i3) (b := K i) a.1 a.2 (hK i hi).1 (hK i hi).2
    omega
  unfold trF
  split
  · omega
  · split
    · exact m i4 h4
    · exact m i5 h5
theorem fset_bd {h : Hp} {C nq m g : Nat} (hM : MB h C nq m) (hg : g < nq) (x : Int32) {sg : Int} {i3 i4 i5 : Nat} (hs : sg = 1 ∨ sg = -1) (h3 : i3 < 3) (h4 : i4 < 3) (h5 : i5 < 3) : ∀ r ∈ fset h C x g sg i3 i4 i5 m, RB 18 150 r := by
  intro r hr
  unfold fset at hr
  obtain ⟨k, hk, hr⟩ := List.mem_flatMap.mp hr
  have hkm : k < m := by simpa using (List.mem_filter.mp hk).1
  obtain ⟨⟨a1, a2⟩, -, a3⟩ := hM.2.2.2 k hkm
  have b := pm3 hs (hM.2.2.1 g i3 hg h3)
  have m1 := mulb (A := 3) (B := 50) (a := sg * mK h C g i3) (b := mD h C k) b.1 b.2 a3.1 a3.2
  exact sR_bd (trF_bd hs h3 h4 h5 (fun v hv => hM.2.2.1 g v hg hv) (fun v hv => hM.2.2.1 _ v a2 hv)) (by omega) r hr
theorem sfl_z {h : Hp} {C nq m g : Nat} (hM : MB h C nq m) (hg : g < nq) (x : Int32) {sg : Int} {i3 i4 i5 : Nat} (hs : sg = 1 ∨ sg = -1) (h3 : i3 < 3) (h4 : i4 < 3) (h5 : i5 < 3) {a7 a6 : Int32} (e7 : a7.toInt = sg) (e6 : a6 = h.1 (C + 1) (3 * g + i3)) : ∃ h', s_X10_seesForm_b79 C x (nI g) (nI i3) (nI i4) (nI i5) a6 a7 h = some h' ∧ Fr (scr C) h h' ∧ FrK C scrK h h' ∧ WFI 839808 6998400 h' C ∧ (∀ t, inI h' C t ↔ ∃ y z, ∀ r ∈ fset h C x g sg i3 i4 i5 m, sat r (p3 t y z)) ∧ (h'.1 C 28 = 0 ↔ ∃ t, inI h' C t) := by
  have hm := hM.2.1
  have hK := fun v hv => hM.2.2.1 g v hg hv
  unfold s_X10_seesForm_b79
  rw [lt_red, lt_red]
  have b3 := pm3 hs (hK i3 h3)
  have e8 : (a7 * a6).toInt = sg * mK h C g i3 := by
    have q : a6.toInt = mK h C g i3 := by rw [e6]; rfl
    rw [mul_z (by rw [e7, q]; omega) (by rw [e7, q]; omega), e7, q]
  generalize a7 * a6 = a8 at *
  generalize gS : [C, C + 6, C + 7, C + 8, C + 9, C + 10] = S
  have hmb : ∀ H : Hp, Fr S h H → FrK C [9] h H → MB H C nq m ∧ mG H C = mG h C ∧ mS H C = mS h C ∧ mD H C = mD h C ∧ mK H C = mK h C := fun H f k => hM.fr f k (by simp) (by subst gS; simp) (by subst gS; simp)
  obtain ⟨e, he, hp1, hp2, hp3⟩ := iter_fuel (f := fun s : Int32 × Hp => s_X10_seesForm_l96 C x (nI g) (nI i3) (nI i4) (nI i5) a7 a8 s.1 s.2)
    (fun z => ∃ (i : Nat) (H : Hp), z = (nI i, H) ∧ i ≤ m ∧ Fr S h H ∧ FrK C [9] h H ∧ RowL H C (fset h C x g sg i3 i4 i5 i))
    (fun z => m - z.1.toNatClampNeg)
    (fun e => Fr S h e ∧ FrK C [9] h e ∧ RowL e C (fset h C x g sg i3 i4 i5 m)) (by
    rintro z ⟨i, H, rfl, hi, hF, hKK, hR⟩
    dsimp only
    unfold s_X10_seesForm_l96 s_X10_seesForm_b223
    obtain ⟨hH, g1, g2, g3, g4⟩ := hmb H hF hKK
    rw [hH.1]
    by_cases q : i < m
    · rw [if_pos (nI_lt q (by omega)), sh1 x (by omega)]
      have mu : m - (nI (i + 1)).toNatClampNeg < m - (nI i).toNatClampNeg := by
        rw [nI_clamp (by omega), nI_clamp (by omega)]; omega
      have hsu := fset_succ h C x g sg i3 i4 i5 i
      cases hb : bt x i
      · rw [if_neg (by decide), lt_red, nI_1]
        refine Or.inl ⟨_, rfl, ⟨i + 1, H, rfl, by omega, hF, hKK, ?_⟩, mu⟩
        rw [hsu, hb]
        simpa using hR
      · obtain ⟨⟨a1, a2⟩, ⟨a3, a4⟩, a5⟩ := hH.2.2.2 i q
        have hl := fset_len h C x g sg i3 i4 i5 i
        have hF3 := fun v hv => hH.2.2.1 (mG H C i) v a2 hv
        have hG3 := fun v hv => hH.2.2.1 g v hg hv
        rw [g4] at hF3 hG3
        have c3 := pm3 hs (hF3 i3 h3)
        have tb := trF_bd (sg := sg) hs h3 h4 h5 hG3 hF3
        have r3 : ∀ v, (H.1 (C + 1) (3 * mG H C i + v)).toInt = mK h C (mG H C i) v := fun v => by rw [← g4]; rfl
        have rg : ∀ v, (H.1 (C + 1) (3 * g + v)).toInt = mK h C g v := fun v => by rw [← g4]; rfl
        have z10 : (a7 * H.1 (C + 1) (3 * mG H C i + i3)).toInt = sg * mK h C (mG H C i) i3 := by
          rw [mul_z (by rw [e7, r3]; omega) (by rw [e7, r3]; omega), e7, r3]
        have zz : ∀ v, v < 3 → (a8 * H.1 (C + 1) (3 * mG H C i + v) - a7 * H.1 (C + 1) (3 * mG H C i + i3) * H.1 (C + 1) (3 * g + v)).toInt = sg * mK h C g i3 * mK h C (mG H C i) v - sg * mK h C (mG H C i) i3 * mK h C g v := fun v hv => by
          have m1 := mulb (A := 3) (B := 3) (a := sg * mK h C g i3) (b := mK h C (mG H C i) v) b3.1 b3.2 (hF3 v hv).1 (hF3 v hv).2
          have m2 := mulb (A := 3) (B := 3) (a := sg * mK h C (mG H C i) i3) (b := mK h C g v) c3.1 c3.2 (hG3 v hv).1 (hG3 v hv).2
          have y1 : (a8 * H.1 (C + 1) (3 * mG H C i + v)).toInt = sg * mK h C g i3 * mK h C (mG H C i) v := by rw [mul_z (by rw [e8, r3]; omega) (by rw [e8, r3]; omega), e8, r3]
          have y2 : (a7 * H.1 (C + 1) (3 * mG H C i + i3) * H.1 (C + 1) (3 * g + v)).toInt = sg * mK h C (mG H C i) i3 * mK h C g v := by rw [mul_z (by rw [z10, rg]; omega) (by rw [z10, rg]; omega), z10, rg]
          rw [sub_z (by rw [y1, y2]; omega) (by rw [y1, y2]; omega), y1, y2]
        have m1 := mulb (A := 3) (B := 50) (a := sg * mK h C g i3) (b := mD H C i) b3.1 b3.2 a5.1 a5.2
        have zd : (a8.toInt64 * (H.1 (C + 2) (3 * i + 2)).toInt64).toInt = sg * mK h C g i3 * mD H C i := by
          have y : (H.1 (C + 2) (3 * i + 2)).toInt = mD H C i := rfl
          rw [mull_z (by rw [tl_z, tl_z, e8, y]; omega) (by rw [tl_z, tl_z, e8, y]; omega), tl_z, tl_z, e8, y]
        have t0 := tb 0 (by omega)
        have t1 := tb 1 (by omega)
        have t2 := tb 2 (by omega)
        obtain ⟨H2, e2, f2, k2, l2⟩ := comesBySort_z (F := trF sg (mK h C g) i3 i4 i5 (mK h C (mG H C i))) (D := sg * mK h C g i3 * mD H C i) (s := mS H C i) hR (by omega) a4
          (a := (a7 * H.1 (C + 1) (3 * mG H C i + i3)).toInt64)
          (b := (a8 * H.1 (C + 1) (3 * mG H C i + i4) - a7 * H.1 (C + 1) (3 * mG H C i + i3) * H.1 (C + 1) (3 * g + i4)).toInt64)
          (c := (a8 * H.1 (C + 1) (3 * mG H C i + i5) - a7 * H.1 (C + 1) (3 * mG H C i + i3) * H.1 (C + 1) (3 * g + i5)).toInt64)
          (d := a8.toInt64 * (H.1 (C + 2) (3 * i + 2)).toInt64)
          (by rw [tl_z, z10]; rfl) (by rw [tl_z, zz i4 h4]; rfl) (by rw [tl_z, zz i5 h5]; rfl) zd (by omega) (by omega) (by omega) (by omega)
        rw [if_pos (by decide), coef_z hH q h3, bnd_s, lt_red, coef_z hH q h4, bnd_s, li3, nI_mul, nI_add, ldI_n (by omega) (by omega), lt_red, coef_z hH q h5, bnd_s, nI_add, ldI_n (by omega) (by omega), lt_red, nI_mul, li1, nI_add, ldI_n (by omega) (by omega), li2, nI_add, ldI_n (by omega) (by omega), a3, e2, bnd_s, lt_red, nI_add]
        refine Or.inl ⟨_, rfl, ⟨i + 1, H2, rfl, by omega, hF.tr (by rw [← gS]; exact f2), hKK.tr k2, ?_⟩, mu⟩
        rw [hsu, if_pos hb, ← g1, ← g2, ← g3]
        exact l2
    · rw [if_neg (nI_nlt (by omega) (by omega))]
      have : i = m := by omega
      subst this
      exact Or.inr ⟨_, rfl, hF, hKK, hR⟩)
    (nI 0, sI h C 9 0) ⟨0, _, rfl, by omega, Fr.sI (by subst gS; simp), fun k hk => ⟨sI_ne (by simpa using hk), by rw [sI_J]⟩, ⟨by rw [sI_same]; rfl, by simp [fset], fun i hi => by simp [fset] at hi⟩⟩ (by dsimp only; rw [nI_clamp (by omega)]; omega)
  rw [li0] at he ⊢
  rw [he, bnd_s]
  obtain ⟨h2, q2, f2, k2, w2, t2, n2⟩ := sees_z hp3 (fset_bd hM hg x hs h3 h4 h5)
  rw [q2, bnd_s]
  subst gS
  exact ⟨h2, rfl, (hp1.wid (by simp [scr])).tr (f2.wid (by simp [scr])), (hp2.wid (by simp [scrK])).tr (k2.wid (by simp [scrK])), w2, t2, n2⟩
