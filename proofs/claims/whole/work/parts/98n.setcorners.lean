theorem nat_sorted_unique : ∀ (L L' : List Nat), L.Pairwise (· < ·) → L'.Pairwise (· < ·) → (∀ x, x ∈ L ↔ x ∈ L') → L = L'
  | [], L', _, _, h => by
    cases L' with
    | nil => rfl
    | cons b t => exact absurd ((h b).mpr (by simp)) (by simp)
  | a :: t, L', h1, h2, h => by
    cases L' with
    | nil => exact absurd ((h a).mp (by simp)) (by simp)
    | cons b t' =>
      obtain ⟨a1, a2⟩ := List.pairwise_cons.mp h1
      obtain ⟨b1, b2⟩ := List.pairwise_cons.mp h2
      have e : a = b := by
        rcases List.mem_cons.mp ((h a).mp (by simp)) with q | q
        · exact q
        · rcases List.mem_cons.mp ((h b).mpr (by simp)) with r | r
          · exact r.symm
          · have := a1 b r; have := b1 a q; omega
      subst e
      congr 1
      refine nat_sorted_unique t t' a2 b2 (fun x => ⟨fun hx => ?_, fun hx => ?_⟩)
      · rcases List.mem_cons.mp ((h x).mp (by simp [hx])) with q | q
        · subst q; have := a1 x hx; omega
        · exact q
      · rcases List.mem_cons.mp ((h x).mpr (by simp [hx])) with q | q
        · subst q; have := b1 x hx; omega
        · exact q
def VT (m nv : Nat) (T : List Nat) : Prop := T.Pairwise (· < ·) ∧ (∀ x ∈ T, x < m) ∧ T.length = nv
theorem vt_bl {m nv : Nat} {T : List Nat} (hT : VT m nv T) : ∃ b, b < 2 ^ m ∧ bl b m = T := by
  obtain ⟨b, hb, hP⟩ := mkbits (fun i => decide (i ∈ T)) m
  refine ⟨b, hb, nat_sorted_unique _ _ (List.pairwise_lt_range.sublist (bl_sub b m)) hT.1 (fun x => ?_)⟩
  rw [mem_bl]
  constructor
  · rintro ⟨h1, h2⟩
    rw [hP x h1] at h2
    exact of_decide_eq_true h2
  · intro h
    have := hT.2.1 x h
    exact ⟨this, by rw [hP x this]; exact decide_eq_true h⟩
theorem bl_vt (b m : Nat) : VT m (bl b m).length (bl b m) := ⟨List.pairwise_lt_range.sublist (bl_sub b m), fun x hx => (mem_bl.mp hx).1, rfl⟩
theorem vt1' {m : Nat} {T : List Nat} : VT m 1 T ↔ ∃ i, i < m ∧ T = [i] := by
  constructor
  · rintro ⟨h1, h2, h3⟩
    obtain ⟨i, rfl⟩ := List.length_eq_one_iff.mp h3
    exact ⟨i, h2 i (by simp), rfl⟩
  · rintro ⟨i, hi, rfl⟩
    exact ⟨by simp, by simpa using hi, rfl⟩
theorem vt2' {m : Nat} {T : List Nat} : VT m 2 T ↔ ∃ i j, i < j ∧ j < m ∧ T = [i, j] := by
  constructor
  · rintro ⟨h1, h2, h3⟩
    obtain ⟨i, j, rfl⟩ := list2 h3
    simp at h1 h2
    exact ⟨i, j, h1, h2.2, rfl⟩
  · rintro ⟨i, j, hij, hj, rfl⟩
    exact ⟨by simp [hij], by simp; omega, rfl⟩
theorem vt3' {m : Nat} {T : List Nat} : VT m 3 T ↔ ∃ i j k, i < j ∧ j < k ∧ k < m ∧ T = [i, j, k] := by
  constructor
  · rintro ⟨h1, h2, h3⟩
    obtain ⟨i, j, k, rfl⟩ := list3 h3
    simp at h1 h2
    exact ⟨i, j, k, h1.1.1, h1.2, h2.2.2, rfl⟩
  · rintro ⟨i, j, k, hij, hjk, hk, rfl⟩
    exact ⟨by simp; omega, by simp; omega, rfl⟩
def sumN (f : Nat → Nat) : Nat → Nat
  | 0 => 0
  | n + 1 => sumN f n + f n
theorem sumN_mono (f : Nat → Nat) {a b : Nat} (h : a ≤ b) : sumN f a ≤ sumN f b := by
  induction b with
  | zero => rw [show a = 0 by omega]; exact Nat.le_refl _
  | succ b ih =>
    rcases (show a ≤ b ∨ a = b + 1 by omega) with q | rfl
    · have := ih q
      show sumN f a ≤ sumN f b + f b
      omega
    · exact Nat.le_refl _
def cj (nv m j : Nat) : Nat := if nv = 2 then 1 else m - 1 - j
def ri (nv m i : Nat) : Nat := sumN (fun j => if i < j then cj nv m j else 0) m
theorem tot_le : ∀ m, m < 11 → sumN (ri 2 m) m ≤ 120 ∧ sumN (ri 3 m) m ≤ 120 := by decide +kernel
/-- what stands while the model tries -/
def MSt (h H : Hp) (m : Nat) (n : Nat) (PR : List Nat → Prop) : Prop := ∃ L, Fr [66, 87, 88] h H ∧ FrK 66 [39] h H ∧ ML H L ∧ L.length ≤ n ∧ ∀ p, p ∈ L ↔ ∃ T, PR T ∧ VP m (fF h) (mS h 66) (mD h 66) T p
theorem MSt.cg {h H : Hp} {m n n' : Nat} {PR PR' : List Nat → Prop} (hS : MSt h H m n PR) (hn : n ≤ n') (hq : ∀ T, PR T ↔ PR' T) : MSt h H m n' PR' := by
  obtain ⟨L, a, b, c, d, e⟩ := hS
  refine ⟨L, a, b, c, by omega, fun p => ?_⟩
  rw [e p]
  constructor
  · rintro ⟨T, t1, t2⟩; exact ⟨T, (hq T).mp t1, t2⟩
  · rintro ⟨T, t1, t2⟩; exact ⟨T, (hq T).mpr t1, t2⟩
theorem tries_z {h H : Hp} {nq m nv n i j k : Nat} {PR : List Nat → Prop} (hM : MB h 66 nq m) (hv : h.1 66 0 = nI nv) (h1 : 1 ≤ nv) (h3 : nv ≤ 3) (hS : MSt h H m n PR) (hn : n < 120) (hi : i < m) (hj : j < m) (hk : k < m) : ∃ H', s_X10_tries 66 (nI i) (nI j) (nI k) H = some H' ∧ MSt h H' m (n + 1) (fun T => PR T ∨ T = tset nv i j k) := by
  obtain ⟨L, f, K, ml, hl, hmem⟩ := hS
  obtain ⟨M, g1, g2, g3, g4⟩ := hM.fr f K (by simp) (by simp) (by simp)
  have ef : fF H = fF h := by funext l; show mK H 66 (mG H 66 l) = mK h 66 (mG h 66 l); rw [g1, g4]
  obtain ⟨r, H1, e1, F1, R1⟩ := setPoint_z (H := H) (nv := nv) (i := i) (j := j) (k := k) M (by rw [(K 0 (by simp)).1]; exact hv) h1 h3 hi hj hk
  rw [ef, g3] at R1
  unfold s_X10_tries
  rw [e1, bnd_s]
  dsimp only
  have fA : Fr [66, 87, 88] h H1 := f.tr (F1.wid (by simp))
  have KA : FrK 66 [39] h H1 := K.tr (FrK.of F1 (by simp))
  have mlA : ML H1 L := by
    obtain ⟨c1, c2, c3, c4⟩ := ml
    refine ⟨by rw [(F1 66 (by simp)).1]; exact c1, c2, c3, fun k hk => ?_⟩
    rw [(F1 87 (by simp)).2]; exact c4 k hk
  have keep : (∀ p, ¬ VP m (fF h) (mS h 66) (mD h 66) (tset nv i j k) p) → MSt h H1 m (n + 1) (fun T => PR T ∨ T = tset nv i j k) := fun hno => by
    refine ⟨L, fA, KA, mlA, by omega, fun p => ?_⟩
    rw [hmem p]
    constructor
    · rintro ⟨T, t1, t2⟩; exact ⟨T, Or.inl t1, t2⟩
    · rintro ⟨T, t1 | rfl, t2⟩
      · exact ⟨T, t1, t2⟩
      · exact absurd t2 (hno p)
  rcases R1 with ⟨rfl, d0⟩ | ⟨rfl, d0, hN⟩
  · rw [if_pos rfl]
    exact ⟨H1, rfl, keep (fun p y => y.1 d0)⟩
  · rw [if_neg (by decide)]
    obtain ⟨M1, k1, k2, k3, k4⟩ := hM.fr fA KA (by simp) (by simp) (by simp)
    have ef1 : fF H1 = fF h := by funext l; show mK H1 66 (mG H1 66 l) = mK h 66 (mG h 66 l); rw [k1, k4]
    obtain ⟨b, e2, hb⟩ := isWithin_z M1 hN
    rw [ef1, k2, k3] at hb
    rw [e2, bnd_s]
    cases b
    · rw [if_pos (by decide)]
      refine ⟨H1, rfl, keep (fun p y => ?_)⟩
      have := hb.mpr (by rw [← y.2.1]; exact y.2.2)
      cases this
    · rw [if_neg (by decide)]
      obtain ⟨H2, L', i1, i2, i3, i4, i5, i6⟩ := comesCorner_z mlA hN (by omega)
      rw [i1, bnd_s]
      refine ⟨H2, rfl, L', fA.tr (i5.wid (by simp)), KA.tr i6, i2, by omega, fun p => ?_⟩
      rw [i3 p, hmem p]
      constructor
      · rintro (⟨T, t1, t2⟩ | y)
        · exact ⟨T, Or.inl t1, t2⟩
        · exact ⟨_, Or.inr rfl, d0, y, by rw [y]; exact hb.mp rfl⟩
      · rintro ⟨T, t1 | rfl, t2⟩
        · exact Or.inl ⟨T, t1, t2⟩
        · exact Or.inr t2.2.1
theorem MSt.v {h H : Hp} {m n : Nat} {PR : List Nat → Prop} (hS : MSt h H m n PR) : H.1 66 0 = h.1 66 0 ∧ H.1 66 3 = h.1 66 3 := by
  obtain ⟨L, f, K, -⟩ := hS
  exact ⟨(K 0 (by simp)).1, (K 3 (by simp)).1⟩
set_option maxHeartbeats 2000000 in
theorem setCorners_z {h : Hp} {nq m nv : Nat} (hM : MB h 66 nq m) (hv : h.1 66 0 = nI nv) (h1 : 1 ≤ nv) (h3 : nv ≤ 3) : ∃ H L, s_X10_setCorners 66 h = some H ∧ ML H L ∧ Fr [66, 87, 88] h H ∧ FrK 66 [39] h H ∧ ∀ p, p ∈ L ↔ ∃ T, VT m nv T ∧ VP m (fF h) (mS h 66) (mD h 66) T p := by
  have hm := hM.2.1
  have tot := tot_le m (by omega)
  -- the empty list
  have st0 : ∀ (PR : List Nat → Prop), (∀ T, ¬ PR T) → MSt h (sI h 66 39 0) m 0 PR := fun PR hno => by
    refine ⟨[], Fr.sI (by simp), fun k hk => ⟨sI_ne (by simpa using hk), rfl⟩, ⟨by rw [sI_same]; rfl, by simp, List.Pairwise.nil, fun k hk => absurd hk (Nat.not_lt_zero k)⟩, by simp, fun p => ?_⟩
    constructor
    · intro y; cases y
    · rintro ⟨T, t1, -⟩; exact absurd t1 (hno T)
  have fin : ∀ H n, MSt h H m n (VT m nv) → ∃ H' L, some H = some H' ∧ ML H' L ∧ Fr [66, 87, 88] h H' ∧ FrK 66 [39] h H' ∧ ∀ p, p ∈ L ↔ ∃ T, VT m nv T ∧ VP m (fF h) (mS h 66) (mD h 66) T p := fun H n hS => by
    obtain ⟨L, a, b, c, d, e⟩ := hS
    exact ⟨H, L, rfl, c, a, b, e⟩
  -- walks over an index
  have walk : ∀ (f : Int32 × Hp → Option ((Int32 × Hp) ⊕ Hp)) (J : Nat → Hp → Prop) (a : Nat) (H : Hp), a ≤ m + 1 → (∀ i H, a ≤ i → i < m → J i H → ∃ H', f (nI i, H) = some (.inl (nI (i + 1), H')) ∧ J (i + 1) H') → (∀ i H, m ≤ i → i ≤ m + 1 → J i H → f (nI i, H) = some (.inr H)) → J a H → ∃ H' i, iter f FUEL (nI a, H) = some H' ∧ J i H' ∧ m ≤ i ∧ i ≤ m + 1 ∧ a ≤ i := fun f J a H ha hstep hend hJ => by
    obtain ⟨e, he, hp⟩ := iter_fuel (f := f)
      (fun z => ∃ (i : Nat) (H : Hp), z = (nI i, H) ∧ a ≤ i ∧ i ≤ m + 1 ∧ J i H)
      (fun z => 40 - z.1.toNatClampNeg)
      (fun H' => ∃ i, J i H' ∧ m ≤ i ∧ i ≤ m + 1 ∧ a ≤ i) (by
      rintro z ⟨i, H, rfl, h1, h2, hJ⟩
      by_cases c : i < m
      · obtain ⟨H', e1, e2⟩ := hstep i H h1 c hJ
        exact Or.inl ⟨_, e1, ⟨i + 1, H', rfl, by omega, by omega, e2⟩, by dsimp only; rw [nI_clamp (by omega), nI_clamp (by omega)]; omega⟩
      · rw [hend i H (by omega) h2 hJ]
        exact Or.inr ⟨_, rfl, i, hJ, by omega, h2, h1⟩)
      (nI a, H) ⟨a, H, rfl, Nat.le_refl _, ha, hJ⟩ (by dsimp only; omega)
    obtain ⟨i, q1, q2, q3, q4⟩ := hp
    exact ⟨e, i, he, q1, q2, q3, q4⟩
  unfold s_X10_setCorners
  rw [lt_red]
  rcases (show nv = 1 ∨ nv = 2 ∨ nv = 3 by omega) with rfl | rfl | rfl
  · -- one variable
    obtain ⟨H', i, e, hJ, q1, q2, -⟩ := walk (fun s => s_X10_setCorners_l7 66 s.1 s.2) (fun i H => i ≤ m ∧ MSt h H m i (fun T => ∃ i', i' < i ∧ T = [i'])) 0 (sI h 66 39 0) (by omega) (fun i H _ hi ⟨_, hS⟩ => by
      dsimp only
      unfold s_X10_setCorners_l7 s_X10_setCorners_b30
      rw [hS.v.1, hS.v.2, hM.1, hv, if_pos (nI_lt hi (by omega)), if_pos (by decide)]
      obtain ⟨H2, t1, t2⟩ := tries_z (k := i) hM hv (by omega) (by omega) hS (by omega) hi hi hi
      have inner : iter (fun s : Int32 × Hp => s_X10_setCorners_l34 66 (nI i) s.1 s.2) FUEL (nI (i + 1), H2) = some H2 := by
        obtain ⟨e, he, hp⟩ := iter_fuel (f := fun s : Int32 × Hp => s_X10_setCorners_l34 66 (nI i) s.1 s.2) (fun z => z = (nI (i + 1), H2)) (fun _ => 0) (fun r => r = H2) (by
          rintro z rfl
          dsimp only
          unfold s_X10_setCorners_l34
          rw [t2.v.1, t2.v.2, hM.1, hv]
          by_cases c : i + 1 < m
          · rw [if_pos (nI_lt c (by omega)), if_neg (by decide)]; exact Or.inr ⟨_, rfl, rfl⟩
          · rw [if_neg (nI_nlt (by omega) (by omega))]; exact Or.inr ⟨_, rfl, rfl⟩) (nI (i + 1), H2) rfl (by omega)
        rw [he, hp]
      rw [t1, bnd_s, lt_red, nI_1, inner, bnd_s, lt_red]
      refine ⟨H2, rfl, by omega, t2.cg (Nat.le_refl _) (fun T => ?_)⟩
      constructor
      · rintro (⟨i', y1, y2⟩ | y)
        · exact ⟨i', by omega, y2⟩
        · exact ⟨i, by omega, y⟩
      · rintro ⟨i', y1, y2⟩
        rcases (show i' < i ∨ i' = i by omega) with w | rfl
        · exact Or.inl ⟨i', w, y2⟩
        · exact Or.inr y2) (fun i H h1 _ ⟨_, hS⟩ => by
      dsimp only
      unfold s_X10_setCorners_l7
      rw [hS.v.2, hM.1, if_neg (nI_nlt (by omega) (by omega))]) ⟨by omega, st0 _ (fun T ⟨i', y, _⟩ => by omega)⟩
    have ei : i = m := by omega
    subst ei
    rw [show ((0 : Int32), sI h 66 39 0) = (nI 0, sI h 66 39 0) from by rw [show nI 0 = (0 : Int32) from by decide], e, bnd_s]
    exact fin H' i (hJ.2.cg (Nat.le_refl _) (fun T => vt1'.symm))
  · -- two
    obtain ⟨H', i, e, hJ, q1, q2, -⟩ := walk (fun s => s_X10_setCorners_l7 66 s.1 s.2) (fun i H => i ≤ m ∧ MSt h H m (sumN (ri 2 m) i) (fun T => ∃ i' j', i' < j' ∧ j' < m ∧ i' < i ∧ T = [i', j'])) 0 (sI h 66 39 0) (by omega) (fun i H _ hi ⟨_, hS⟩ => by
      dsimp only
      unfold s_X10_setCorners_l7 s_X10_setCorners_b30
      rw [hS.v.1, hS.v.2, hM.1, hv, if_pos (nI_lt hi (by omega)), if_neg (by decide), lt_red, nI_1]
      have mono := sumN_mono (ri 2 m) (show i + 1 ≤ m by omega)
      have rse : sumN (ri 2 m) (i + 1) = sumN (ri 2 m) i + ri 2 m i := rfl
      obtain ⟨H2, j, e2, hJ2, r1, r2, r3⟩ := walk (fun s => s_X10_setCorners_l34 66 (nI i) s.1 s.2) (fun j H => i < j ∧ MSt h H m (sumN (ri 2 m) i + sumN (fun j => if i < j then cj 2 m j else 0) (min j m)) (fun T => ∃ i' j', i' < j' ∧ j' < m ∧ (i' < i ∨ (i' = i ∧ j' < j)) ∧ T = [i', j'])) (i + 1) H (by omega) (fun j H hij hj ⟨_, hS⟩ => by
        dsimp only
        unfold s_X10_setCorners_l34 s_X10_setCorners_b65
        have mono2 := sumN_mono (fun j => if i < j then cj 2 m j else 0) (show j + 1 ≤ m by omega)
        have rse2 : sumN (fun j => if i < j then cj 2 m j else 0) (j + 1) = sumN (fun j => if i < j then cj 2 m j else 0) j + 1 := by
          show _ + (if i < j then cj 2 m j else 0) = _
          rw [if_pos (by omega)]; rfl
        have ri_e : ri 2 m i = sumN (fun j => if i < j then cj 2 m j else 0) m := rfl
        rw [hS.v.1, hS.v.2, hM.1, hv, if_pos (nI_lt hj (by omega)), if_pos (by decide), if_pos (by decide)]
        rw [show min j m = j by omega] at hS
        obtain ⟨H3, t1, t2⟩ := tries_z (k := j) hM hv (by omega) (by omega) hS (by omega) hi hj hj
        have inner : iter (fun s : Int32 × Hp => s_X10_setCorners_l69 66 (nI i) (nI j) s.1 s.2) FUEL (nI (j + 1), H3) = some H3 := by
          obtain ⟨e, he, hp⟩ := iter_fuel (f := fun s : Int32 × Hp => s_X10_setCorners_l69 66 (nI i) (nI j) s.1 s.2) (fun z => z = (nI (j + 1), H3)) (fun _ => 0) (fun r => r = H3) (by
            rintro z rfl
            dsimp only
            unfold s_X10_setCorners_l69
            rw [t2.v.1, t2.v.2, hM.1, hv]
            by_cases c : j + 1 < m
            · rw [if_pos (nI_lt c (by omega)), if_neg (by decide)]; exact Or.inr ⟨_, rfl, rfl⟩
            · rw [if_neg (nI_nlt (by omega) (by omega))]; exact Or.inr ⟨_, rfl, rfl⟩) (nI (j + 1), H3) rfl (by omega)
          rw [he, hp]
        rw [t1, bnd_s, lt_red, nI_1, inner, bnd_s, lt_red]
        refine ⟨H3, rfl, by omega, t2.cg (by rw [show min (j + 1) m = j + 1 by omega, rse2]; omega) (fun T => ?_)⟩
        constructor
        · rintro (⟨i', j', y1, y2, y3, y4⟩ | y)
          · exact ⟨i', j', y1, y2, by omega, y4⟩
          · exact ⟨i, j, by omega, hj, Or.inr ⟨rfl, by omega⟩, y⟩
        · rintro ⟨i', j', y1, y2, y3, y4⟩
          by_cases w : i' = i ∧ j' = j
          · obtain ⟨rfl, rfl⟩ := w; exact Or.inr y4
          · exact Or.inl ⟨i', j', y1, y2, by omega, y4⟩) (fun j H hj1 _ ⟨_, hS⟩ => by
        dsimp only
        unfold s_X10_setCorners_l34
        rw [hS.v.2, hM.1, if_neg (nI_nlt (by omega) (by omega))]) ⟨by omega, hS.cg (by omega) (fun T => by
        constructor
        · rintro ⟨i', j', y1, y2, y3, y4⟩; exact ⟨i', j', y1, y2, Or.inl y3, y4⟩
        · rintro ⟨i', j', y1, y2, y3, y4⟩; exact ⟨i', j', y1, y2, by omega, y4⟩)⟩
      rw [e2, bnd_s, lt_red]
      refine ⟨H2, rfl, by omega, hJ2.2.cg (by rw [rse, show min j m = m by omega]; exact Nat.le_refl _) (fun T => ?_)⟩
      constructor
      · rintro ⟨i', j', y1, y2, y3, y4⟩; exact ⟨i', j', y1, y2, by omega, y4⟩
      · rintro ⟨i', j', y1, y2, y3, y4⟩; exact ⟨i', j', y1, y2, by omega, y4⟩) (fun i H h1 _ ⟨_, hS⟩ => by
      dsimp only
      unfold s_X10_setCorners_l7
      rw [hS.v.2, hM.1, if_neg (nI_nlt (by omega) (by omega))]) ⟨by omega, st0 _ (fun T ⟨i', j', _, _, y, _⟩ => by omega)⟩
    have ei : i = m := by omega
    subst ei
    rw [show ((0 : Int32), sI h 66 39 0) = (nI 0, sI h 66 39 0) from by rw [show nI 0 = (0 : Int32) from by decide], e, bnd_s]
    refine fin H' _ (hJ.2.cg (Nat.le_refl _) (fun T => ?_))
    rw [vt2']
    constructor
    · rintro ⟨i', j', y1, y2, y3, y4⟩; exact ⟨i', j', y1, y2, y4⟩
    · rintro ⟨i', j', y1, y2, y4⟩; exact ⟨i', j', y1, y2, by omega, y4⟩
  · -- three
    obtain ⟨H', i, e, hJ, q1, q2, -⟩ := walk (fun s => s_X10_setCorners_l7 66 s.1 s.2) (fun i H => i ≤ m ∧ MSt h H m (sumN (ri 3 m) i) (fun T => ∃ i' j' k', i' < j' ∧ j' < k' ∧ k' < m ∧ i' < i ∧ T = [i', j', k'])) 0 (sI h 66 39 0) (by omega) (fun i H _ hi ⟨_, hS⟩ => by
      dsimp only
      unfold s_X10_setCorners_l7 s_X10_setCorners_b30
      rw [hS.v.1, hS.v.2, hM.1, hv, if_pos (nI_lt hi (by omega)), if_neg (by decide), lt_red, nI_1]
      have mono := sumN_mono (ri 3 m) (show i + 1 ≤ m by omega)
      have rse : sumN (ri 3 m) (i + 1) = sumN (ri 3 m) i + ri 3 m i := rfl
      obtain ⟨H2, j, e2, hJ2, r1, r2, r3⟩ := walk (fun s => s_X10_setCorners_l34 66 (nI i) s.1 s.2) (fun j H => i < j ∧ MSt h H m (sumN (ri 3 m) i + sumN (fun j => if i < j then cj 3 m j else 0) (min j m)) (fun T => ∃ i' j' k', i' < j' ∧ j' < k' ∧ k' < m ∧ (i' < i ∨ (i' = i ∧ j' < j)) ∧ T = [i', j', k'])) (i + 1) H (by omega) (fun j H hij hj ⟨_, hS⟩ => by
        dsimp only
        unfold s_X10_setCorners_l34 s_X10_setCorners_b65
        have mono2 := sumN_mono (fun j => if i < j then cj 3 m j else 0) (show j + 1 ≤ m by omega)
        have rse2 : sumN (fun j => if i < j then cj 3 m j else 0) (j + 1) = sumN (fun j => if i < j then cj 3 m j else 0) j + (m - 1 - j) := by
          show _ + (if i < j then cj 3 m j else 0) = _
          rw [if_pos (by omega)]; rfl
        have ri_e : ri 3 m i = sumN (fun j => if i < j then cj 3 m j else 0) m := rfl
        rw [hS.v.1, hS.v.2, hM.1, hv, if_pos (nI_lt hj (by omega)), if_pos (by decide), if_neg (by decide), lt_red, nI_1]
        rw [show min j m = j by omega] at hS
        obtain ⟨H3, k, e3, hJ3, s1, s2, s3⟩ := walk (fun s => s_X10_setCorners_l69 66 (nI i) (nI j) s.1 s.2) (fun k H => j < k ∧ MSt h H m (sumN (ri 3 m) i + sumN (fun j => if i < j then cj 3 m j else 0) j + (min k m - (j + 1))) (fun T => ∃ i' j' k', i' < j' ∧ j' < k' ∧ k' < m ∧ (i' < i ∨ (i' = i ∧ j' < j) ∨ (i' = i ∧ j' = j ∧ k' < k)) ∧ T = [i', j', k'])) (j + 1) H (by omega) (fun k H hjk hk ⟨_, hS⟩ => by
          dsimp only
          unfold s_X10_setCorners_l69
          rw [hS.v.1, hS.v.2, hM.1, hv, if_pos (nI_lt hk (by omega)), if_pos (by decide)]
          rw [show min k m = k by omega] at hS
          obtain ⟨H4, t1, t2⟩ := tries_z (k := k) hM hv (by omega) (by omega) hS (by omega) hi hj hk
          rw [t1, bnd_s, lt_red, nI_1]
          refine ⟨H4, rfl, by omega, t2.cg (by rw [show min (k + 1) m = k + 1 by omega]; omega) (fun T => ?_)⟩
          constructor
          · rintro (⟨i', j', k', y1, y2, y3, y4, y5⟩ | y)
            · exact ⟨i', j', k', y1, y2, y3, by omega, y5⟩
            · exact ⟨i, j, k, by omega, by omega, hk, Or.inr (Or.inr ⟨rfl, rfl, by omega⟩), y⟩
          · rintro ⟨i', j', k', y1, y2, y3, y4, y5⟩
            by_cases w : i' = i ∧ j' = j ∧ k' = k
            · obtain ⟨rfl, rfl, rfl⟩ := w; exact Or.inr y5
            · exact Or.inl ⟨i', j', k', y1, y2, y3, by omega, y5⟩) (fun k H hk1 _ ⟨_, hS⟩ => by
          dsimp only
          unfold s_X10_setCorners_l69
          rw [hS.v.2, hM.1, if_neg (nI_nlt (by omega) (by omega))]) ⟨by omega, hS.cg (by omega) (fun T => by
          constructor
          · rintro ⟨i', j', k', y1, y2, y3, y4, y5⟩; exact ⟨i', j', k', y1, y2, y3, by omega, y5⟩
          · rintro ⟨i', j', k', y1, y2, y3, y4, y5⟩; exact ⟨i', j', k', y1, y2, y3, by omega, y5⟩)⟩
        rw [e3, bnd_s, lt_red]
        refine ⟨H3, rfl, by omega, hJ3.2.cg (by rw [show min (j + 1) m = j + 1 by omega, rse2, show min k m = m by omega]; omega) (fun T => ?_)⟩
        constructor
        · rintro ⟨i', j', k', y1, y2, y3, y4, y5⟩; exact ⟨i', j', k', y1, y2, y3, by omega, y5⟩
        · rintro ⟨i', j', k', y1, y2, y3, y4, y5⟩; exact ⟨i', j', k', y1, y2, y3, by omega, y5⟩) (fun j H hj1 _ ⟨_, hS⟩ => by
        dsimp only
        unfold s_X10_setCorners_l34
        rw [hS.v.2, hM.1, if_neg (nI_nlt (by omega) (by omega))]) ⟨by omega, hS.cg (by omega) (fun T => by
        constructor
        · rintro ⟨i', j', k', y1, y2, y3, y4, y5⟩; exact ⟨i', j', k', y1, y2, y3, Or.inl y4, y5⟩
        · rintro ⟨i', j', k', y1, y2, y3, y4, y5⟩; exact ⟨i', j', k', y1, y2, y3, by omega, y5⟩)⟩
      rw [e2, bnd_s, lt_red]
      refine ⟨H2, rfl, by omega, hJ2.2.cg (by rw [rse, show min j m = m by omega]; exact Nat.le_refl _) (fun T => ?_)⟩
      constructor
      · rintro ⟨i', j', k', y1, y2, y3, y4, y5⟩; exact ⟨i', j', k', y1, y2, y3, by omega, y5⟩
      · rintro ⟨i', j', k', y1, y2, y3, y4, y5⟩; exact ⟨i', j', k', y1, y2, y3, by omega, y5⟩) (fun i H h1 _ ⟨_, hS⟩ => by
      dsimp only
      unfold s_X10_setCorners_l7
      rw [hS.v.2, hM.1, if_neg (nI_nlt (by omega) (by omega))]) ⟨by omega, st0 _ (fun T ⟨i', j', k', _, _, _, y, _⟩ => by omega)⟩
    have ei : i = m := by omega
    subst ei
    rw [show ((0 : Int32), sI h 66 39 0) = (nI 0, sI h 66 39 0) from by rw [show nI 0 = (0 : Int32) from by decide], e, bnd_s]
    refine fin H' _ (hJ.2.cg (Nat.le_refl _) (fun T => ?_))
    rw [vt3']
    constructor
    · rintro ⟨i', j', k', y1, y2, y3, y4, y5⟩; exact ⟨i', j', k', y1, y2, y3, y5⟩
    · rintro ⟨i', j', k', y1, y2, y3, y5⟩; exact ⟨i', j', k', y1, y2, y3, by omega, y5⟩
