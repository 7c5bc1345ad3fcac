/-! the model's sample -/
def HdF (m : Nat) (s : Nat → Nat) (F : Nat → Nat → Int) (d : Nat → Int) (p : Nat → Rat) : Prop := ∀ k, k < m → rel (s k) (lin (F k) p) (d k : Rat)
def F1r (F : Nat → Int) : Nat → Int := fun v => if v = 0 then F 1 else if v = 1 then F 2 else 0
def F2r (F : Nat → Int) : Nat → Int := fun v => if v = 0 then F 2 else 0
theorem tl64 (x : Int32) : x.toInt64 = i64 x.toInt := by rw [← tl_z, i64_of]
theorem loop1_z {h : Hp} {nq m : Nat} (hM : MB h 66 nq m) {P0 Q0 : Int} (e85 : h.2 85 0 = i64 P0) (hP : -22248 ≤ P0 ∧ P0 ≤ 22248) (hQ : 0 < Q0 ∧ Q0 ≤ 324) : ∃ h', iter (fun s : Int32 × Hp => s_X10_setSample_l41 66 (i64 Q0) s.1 s.2) FUEL ((0 : Int32), sI h 66 9 (0 : Int32)) = some h' ∧ Fr [66, 72, 73, 74, 75, 76] h h' ∧ FrK 66 [9] h h' ∧ RowL h' 66 (rwl m (mS h 66) (fun k => F1r (mK h 66 (mG h 66 k))) (fun k => Q0 * mD h 66 k - mK h 66 (mG h 66 k) 0 * P0)) := by
  have hm := hM.2.1
  generalize gS : [66, 72, 73, 74, 75, 76] = S
  have hmb : ∀ H : Hp, Fr S h H → FrK 66 [9] h H → MB H 66 nq m ∧ mG H 66 = mG h 66 ∧ mS H 66 = mS h 66 ∧ mD H 66 = mD h 66 ∧ mK H 66 = mK h 66 := fun H f k => hM.fr f k (by simp) (by subst gS; simp) (by subst gS; simp)
  obtain ⟨e, he, hp⟩ := iter_fuel (f := fun s : Int32 × Hp => s_X10_setSample_l41 66 (i64 Q0) s.1 s.2)
    (fun z => ∃ (i : Nat) (H : Hp), z = (nI i, H) ∧ i ≤ m ∧ Fr S h H ∧ FrK 66 [9] h H ∧ RowL H 66 (rwl i (mS h 66) (fun k => F1r (mK h 66 (mG h 66 k))) (fun k => Q0 * mD h 66 k - mK h 66 (mG h 66 k) 0 * P0)))
    (fun z => m - z.1.toNatClampNeg)
    (fun e => Fr S h e ∧ FrK 66 [9] h e ∧ RowL e 66 (rwl m (mS h 66) (fun k => F1r (mK h 66 (mG h 66 k))) (fun k => Q0 * mD h 66 k - mK h 66 (mG h 66 k) 0 * P0))) (by
    rintro z ⟨i, H, rfl, hi, hF, hK, hR⟩
    dsimp only
    unfold s_X10_setSample_l41
    obtain ⟨hH, g1, g2, g3, g4⟩ := hmb H hF hK
    rw [hH.1]
    by_cases q : i < m
    · have mu : m - (nI (i + 1)).toNatClampNeg < m - (nI i).toNatClampNeg := by
        rw [nI_clamp (by omega), nI_clamp (by omega)]; omega
      obtain ⟨⟨a1, a2⟩, ⟨a3, a4⟩, a5⟩ := hH.2.2.2 i q
      have hl := rwl_len i (mS h 66) (fun k => F1r (mK h 66 (mG h 66 k))) (fun k => Q0 * mD h 66 k - mK h 66 (mG h 66 k) 0 * P0)
      have k0 := hH.2.2.1 _ 0 a2 (by omega)
      have k1 := hH.2.2.1 _ 1 a2 (by omega)
      have k2 := hH.2.2.1 _ 2 a2 (by omega)
      have e85' : H.2 (66 + 19) 0 = i64 P0 := by
        show H.2 85 0 = i64 P0
        rw [(hF 85 (by subst gS; simp)).2]; exact e85
      have m1 := mulb (A := 324) (B := 50) (a := Q0) (b := mD H 66 i) (by omega) (by omega) (by omega) (by omega)
      have m2 := mulb (A := 3) (B := 22248) (a := mK H 66 (mG H 66 i) 0) (b := P0) (by omega) (by omega) (by omega) (by omega)
      have ed : (i64 Q0 * (H.1 (66 + 2) (3 * i + 2)).toInt64 - (H.1 (66 + 1) (3 * mG H 66 i + 0)).toInt64 * H.2 (66 + 19) 0).toInt = Q0 * mD H 66 i - mK H 66 (mG H 66 i) 0 * P0 := by
        rw [e85', tl64, tl64, i64_mul, i64_mul, i64_sub]
        have := i64_z (z := Q0 * mD H 66 i - mK H 66 (mG H 66 i) 0 * P0) (by omega) (by omega)
        exact this
      obtain ⟨H2, e2, f2, k2', l2⟩ := comesBySort_z (F := F1r (mK H 66 (mG H 66 i))) (D := Q0 * mD H 66 i - mK H 66 (mG H 66 i) 0 * P0) (s := mS H 66 i) hR (by omega) a4
        (a := (H.1 (66 + 1) (3 * mG H 66 i + 1)).toInt64) (b := (H.1 (66 + 1) (3 * mG H 66 i + 2)).toInt64) (c := (0 : Int64))
        (by rw [tl_z]; rfl) (by rw [tl_z]; rfl) (by show (0 : Int64).toInt = 0; decide) ed (by show -4000000000000000000 ≤ mK H 66 (mG H 66 i) 1; omega) (by show -4000000000000000000 ≤ mK H 66 (mG H 66 i) 2; omega) (by show -4000000000000000000 ≤ (0 : Int); omega) (by omega)
      rw [if_pos (nI_lt q (by omega)), li3, nI_mul, li1, nI_add, li2, nI_add, li0, ldI_n (by omega) (by omega), coef_z hH q (by omega), bnd_s, coef_z hH q (by omega), bnd_s, ldI_n (by omega) (by omega), coef_z hH q (by omega), bnd_s, ldJ_n (by omega) (by omega), a3, e2, bnd_s, lt_red, nI_add]
      refine Or.inl ⟨_, rfl, ⟨i + 1, H2, rfl, by omega, hF.tr (by rw [← gS]; exact f2), hK.tr k2', ?_⟩, mu⟩
      rw [rwl_succ]
      rw [g1, g2, g3, g4] at l2
      exact l2
    · rw [if_neg (nI_nlt (by omega) (by omega))]
      have : i = m := by omega
      subst this
      exact Or.inr ⟨_, rfl, hF, hK, hR⟩)
    (nI 0, sI h 66 9 0) ⟨0, _, rfl, by omega, Fr.sI (by subst gS; simp), fun k hk => ⟨sI_ne (by simpa using hk), by rw [sI_J]⟩, ⟨by rw [sI_same]; rfl, by simp [rwl], fun i hi => by simp [rwl] at hi⟩⟩ (by dsimp only; rw [nI_clamp (by omega)]; omega)
  rw [li0] at he ⊢
  exact ⟨e, he, hp⟩
theorem loop2_z {h : Hp} {nq m : Nat} (hM : MB h 66 nq m) {P0 Q0 P1 Q1 : Int} (e85 : h.2 85 0 = i64 P0) (e851 : h.2 85 1 = i64 P1) (hP : -22248 ≤ P0 ∧ P0 ≤ 22248) (hQ : 0 < Q0 ∧ Q0 ≤ 324) (hP1 : -995346 ≤ P1 ∧ P1 ≤ 995346) (hQ1 : 0 < Q1 ∧ Q1 ≤ 11664) : ∃ h', iter (fun s : Int32 × Hp => s_X10_setSample_l152 66 (i64 Q0) (i64 Q1) s.1 s.2) FUEL ((0 : Int32), sI h 66 9 (0 : Int32)) = some h' ∧ Fr [66, 72, 73, 74, 75, 76] h h' ∧ FrK 66 [9] h h' ∧ RowL h' 66 (rwl m (mS h 66) (fun k => F2r (mK h 66 (mG h 66 k))) (fun k => Q0 * Q1 * mD h 66 k - mK h 66 (mG h 66 k) 0 * P0 * Q1 - mK h 66 (mG h 66 k) 1 * P1 * Q0)) := by
  have hm := hM.2.1
  generalize gS : [66, 72, 73, 74, 75, 76] = S
  have hmb : ∀ H : Hp, Fr S h H → FrK 66 [9] h H → MB H 66 nq m ∧ mG H 66 = mG h 66 ∧ mS H 66 = mS h 66 ∧ mD H 66 = mD h 66 ∧ mK H 66 = mK h 66 := fun H f k => hM.fr f k (by simp) (by subst gS; simp) (by subst gS; simp)
  obtain ⟨e, he, hp⟩ := iter_fuel (f := fun s : Int32 × Hp => s_X10_setSample_l152 66 (i64 Q0) (i64 Q1) s.1 s.2)
    (fun z => ∃ (i : Nat) (H : Hp), z = (nI i, H) ∧ i ≤ m ∧ Fr S h H ∧ FrK 66 [9] h H ∧ RowL H 66 (rwl i (mS h 66) (fun k => F2r (mK h 66 (mG h 66 k))) (fun k => Q0 * Q1 * mD h 66 k - mK h 66 (mG h 66 k) 0 * P0 * Q1 - mK h 66 (mG h 66 k) 1 * P1 * Q0)))
    (fun z => m - z.1.toNatClampNeg)
    (fun e => Fr S h e ∧ FrK 66 [9] h e ∧ RowL e 66 (rwl m (mS h 66) (fun k => F2r (mK h 66 (mG h 66 k))) (fun k => Q0 * Q1 * mD h 66 k - mK h 66 (mG h 66 k) 0 * P0 * Q1 - mK h 66 (mG h 66 k) 1 * P1 * Q0))) (by
    rintro z ⟨i, H, rfl, hi, hF, hK, hR⟩
    dsimp only
    unfold s_X10_setSample_l152
    obtain ⟨hH, g1, g2, g3, g4⟩ := hmb H hF hK
    rw [hH.1]
    by_cases q : i < m
    · have mu : m - (nI (i + 1)).toNatClampNeg < m - (nI i).toNatClampNeg := by
        rw [nI_clamp (by omega), nI_clamp (by omega)]; omega
      obtain ⟨⟨a1, a2⟩, ⟨a3, a4⟩, a5⟩ := hH.2.2.2 i q
      have hl := rwl_len i (mS h 66) (fun k => F2r (mK h 66 (mG h 66 k))) (fun k => Q0 * Q1 * mD h 66 k - mK h 66 (mG h 66 k) 0 * P0 * Q1 - mK h 66 (mG h 66 k) 1 * P1 * Q0)
      have k0 := hH.2.2.1 _ 0 a2 (by omega)
      have k1 := hH.2.2.1 _ 1 a2 (by omega)
      have k2 := hH.2.2.1 _ 2 a2 (by omega)
      have e85' : H.2 (66 + 19) 0 = i64 P0 := by
        show H.2 85 0 = i64 P0
        rw [(hF 85 (by subst gS; simp)).2]; exact e85
      have e851' : H.2 (66 + 19) 1 = i64 P1 := by
        show H.2 85 1 = i64 P1
        rw [(hF 85 (by subst gS; simp)).2]; exact e851
      have n1 := mulb (A := 324) (B := 11664) (a := Q0) (b := Q1) (by omega) (by omega) (by omega) (by omega)
      have m1 := mulb (A := 324 * 11664) (B := 50) (a := Q0 * Q1) (b := mD H 66 i) (by omega) (by omega) (by omega) (by omega)
      have n2 := mulb (A := 3) (B := 22248) (a := mK H 66 (mG H 66 i) 0) (b := P0) (by omega) (by omega) (by omega) (by omega)
      have m2 := mulb (A := 3 * 22248) (B := 11664) (a := mK H 66 (mG H 66 i) 0 * P0) (b := Q1) (by omega) (by omega) (by omega) (by omega)
      have n3 := mulb (A := 3) (B := 995346) (a := mK H 66 (mG H 66 i) 1) (b := P1) (by omega) (by omega) (by omega) (by omega)
      have m3 := mulb (A := 3 * 995346) (B := 324) (a := mK H 66 (mG H 66 i) 1 * P1) (b := Q0) (by omega) (by omega) (by omega) (by omega)
      have ed : (i64 Q0 * i64 Q1 * (H.1 (66 + 2) (3 * i + 2)).toInt64 - (H.1 (66 + 1) (3 * mG H 66 i + 0)).toInt64 * H.2 (66 + 19) 0 * i64 Q1 - (H.1 (66 + 1) (3 * mG H 66 i + 1)).toInt64 * H.2 (66 + 19) 1 * i64 Q0).toInt = Q0 * Q1 * mD H 66 i - mK H 66 (mG H 66 i) 0 * P0 * Q1 - mK H 66 (mG H 66 i) 1 * P1 * Q0 := by
        rw [e85', e851', tl64, tl64, tl64, i64_mul, i64_mul, i64_mul, i64_mul, i64_mul, i64_mul, i64_sub, i64_sub]
        have := i64_z (z := Q0 * Q1 * mD H 66 i - mK H 66 (mG H 66 i) 0 * P0 * Q1 - mK H 66 (mG H 66 i) 1 * P1 * Q0) (by omega) (by omega)
        exact this
      obtain ⟨H2, e2, f2, k2', l2⟩ := comesBySort_z (F := F2r (mK H 66 (mG H 66 i))) (D := Q0 * Q1 * mD H 66 i - mK H 66 (mG H 66 i) 0 * P0 * Q1 - mK H 66 (mG H 66 i) 1 * P1 * Q0) (s := mS H 66 i) hR (by omega) a4
        (a := (H.1 (66 + 1) (3 * mG H 66 i + 2)).toInt64) (b := (0 : Int64)) (c := (0 : Int64))
        (by rw [tl_z]; rfl) (by show (0 : Int64).toInt = 0; decide) (by show (0 : Int64).toInt = 0; decide) ed (by show -4000000000000000000 ≤ mK H 66 (mG H 66 i) 2; omega) (by show -4000000000000000000 ≤ (0 : Int); omega) (by show -4000000000000000000 ≤ (0 : Int); omega) (by omega)
      rw [if_pos (nI_lt q (by omega)), li3, nI_mul, li2, nI_add, li1, nI_add, li0, ldI_n (by omega) (by omega), coef_z hH q (by omega), bnd_s, ldJ_n (by omega) (by omega), coef_z hH q (by omega), bnd_s, ldJ_n (by omega) (by omega), lt_red, ldI_n (by omega) (by omega), coef_z hH q (by omega), bnd_s, a3, e2, bnd_s, lt_red, nI_add]
      refine Or.inl ⟨_, rfl, ⟨i + 1, H2, rfl, by omega, hF.tr (by rw [← gS]; exact f2), hK.tr k2', ?_⟩, mu⟩
      rw [rwl_succ]
      rw [g1, g2, g3, g4] at l2
      exact l2
    · rw [if_neg (nI_nlt (by omega) (by omega))]
      have : i = m := by omega
      subst this
      exact Or.inr ⟨_, rfl, hF, hK, hR⟩)
    (nI 0, sI h 66 9 0) ⟨0, _, rfl, by omega, Fr.sI (by subst gS; simp), fun k hk => ⟨sI_ne (by simpa using hk), by rw [sI_J]⟩, ⟨by rw [sI_same]; rfl, by simp [rwl], fun i hi => by simp [rwl] at hi⟩⟩ (by dsimp only; rw [nI_clamp (by omega)]; omega)
  rw [li0] at he ⊢
  exact ⟨e, he, hp⟩
theorem sees_1 {h : Hp} {L : List Rw} {D : Int} (hD : 0 ≤ D ∧ D ≤ 1000000) (hL : RowL h 66 L) (hb : ∀ r ∈ L, RB 3 D r) (hz : ∀ r ∈ L, r.1 2 = 0) : SeesP 18 (6 * D) h 66 L (s_X10_sees 66 h) := by
  have b1 : ∀ r ∈ elim 2 L, RB 3 D r := fun r hr => hb r (elim_same hz r hr)
  have b2 := elim_bd (A := 3) (D := D) (A' := 18) (D' := 6 * D) (by omega) (by omega) (by omega) (by omega) (v := 1) (by omega) b1
  exact sees_g (A := 3) (D := D) (A1 := 3) (D1 := D) (by omega) (by omega) (by omega) (by omega) (by omega) (by omega) (by omega) (by omega) (by omega) hL hb b1 b2
theorem sees_2 {h : Hp} {L : List Rw} {D : Int} (hD : 0 ≤ D ∧ D ≤ 10000000000) (hL : RowL h 66 L) (hb : ∀ r ∈ L, RB 3 D r) (hz : ∀ r ∈ L, r.1 2 = 0) (hz1 : ∀ r ∈ L, r.1 1 = 0) : SeesP 3 D h 66 L (s_X10_sees 66 h) := by
  have s1 := elim_same hz
  have b1 : ∀ r ∈ elim 2 L, RB 3 D r := fun r hr => hb r (s1 r hr)
  have s2 := elim_same (v := 1) (L := elim 2 L) (fun r hr => hz1 r (s1 r hr))
  exact sees_g (A := 3) (D := D) (A1 := 3) (D1 := D) (by omega) (by omega) (by omega) (by omega) (by omega) (by omega) (by omega) (by omega) (by omega) hL hb b1 (fun r hr => b1 r (s2 r hr))
theorem frc_m {p q : Int} (hq : 0 < q) : (q : Rat) * frc p q = (p : Rat) := by
  have : (0 : Rat) < (q : Rat) := by exact_mod_cast hq
  unfold frc
  rw [Rat.mul_comm]
  exact Rat.div_mul_cancel (by grind)
theorem in_1 {H : Hp} {m : Nat} {s : Nat → Nat} {F : Nat → Nat → Int} {d : Nat → Int} {P0 Q0 : Int} (hs : ∀ k, k < m → s k ≤ 4) (hQ : 0 < Q0) (hin : ∀ t, inI H 66 t ↔ ∃ y z, ∀ r ∈ rwl m s (fun k => F1r (F k)) (fun k => Q0 * d k - F k 0 * P0), sat r (p3 t y z)) {x : Nat → Rat} (hx : x 0 = frc P0 Q0) (t : Rat) : inI H 66 ((Q0 : Rat) * t) ↔ SS (HdF m s F d) 1 x t := by
  have q1 : (0 : Rat) < (Q0 : Rat) := by exact_mod_cast hQ
  have e0 := frc_m (p := P0) hQ
  have key : ∀ (p : Nat → Rat) (k : Nat), p 0 = frc P0 Q0 → ∀ z : Rat, (rel (s k) (lin (F1r (F k)) (p3 ((Q0 : Rat) * p 1) ((Q0 : Rat) * p 2) z)) ((Q0 * d k - F k 0 * P0 : Int) : Rat) ↔ rel (s k) (lin (F k) p) (d k : Rat)) := fun p k hp z => by
    have a : lin (F1r (F k)) (p3 ((Q0 : Rat) * p 1) ((Q0 : Rat) * p 2) z) = (Q0 : Rat) * lin (F k) p + -((F k 0 : Rat) * (P0 : Rat)) := by
      show ((F k 1 : Int) : Rat) * ((Q0 : Rat) * p 1) + ((F k 2 : Int) : Rat) * ((Q0 : Rat) * p 2) + ((0 : Int) : Rat) * z = (Q0 : Rat) * ((F k 0 : Rat) * p 0 + (F k 1 : Rat) * p 1 + (F k 2 : Rat) * p 2) + -((F k 0 : Rat) * (P0 : Rat))
      rw [hp, ← e0]; push_cast; grind
    have b : ((Q0 * d k - F k 0 * P0 : Int) : Rat) = (Q0 : Rat) * (d k : Rat) + -((F k 0 : Rat) * (P0 : Rat)) := by push_cast; grind
    rw [a, b, rel_shift, rel_scale q1]
  constructor
  · intro h
    obtain ⟨y, z, hr⟩ := (hin _).mp h
    rw [rwl_sat hs] at hr
    have ey : (Q0 : Rat) * (y / (Q0 : Rat)) = y := by rw [Rat.mul_comm]; exact Rat.div_mul_cancel (by grind)
    refine ⟨p3 (frc P0 Q0) t (y / (Q0 : Rat)), fun k hk => (key _ k rfl z).mp ?_, fun w hw => ?_, rfl⟩
    · show rel (s k) (lin (F1r (F k)) (p3 ((Q0 : Rat) * t) ((Q0 : Rat) * (y / (Q0 : Rat))) z)) _
      rw [ey]; exact hr k hk
    · rw [show w = 0 by omega, hx]; rfl
  · rintro ⟨p, hp, hw, ht⟩
    refine (hin _).mpr ⟨(Q0 : Rat) * p 2, 0, (rwl_sat hs _).mpr (fun k hk => ?_)⟩
    rw [← ht]
    exact (key p k ((hw 0 (by omega)).trans hx) 0).mpr (hp k hk)
theorem in_2 {H : Hp} {m : Nat} {s : Nat → Nat} {F : Nat → Nat → Int} {d : Nat → Int} {P0 Q0 P1 Q1 : Int} (hs : ∀ k, k < m → s k ≤ 4) (hQ : 0 < Q0) (hQ1 : 0 < Q1) (hin : ∀ t, inI H 66 t ↔ ∃ y z, ∀ r ∈ rwl m s (fun k => F2r (F k)) (fun k => Q0 * Q1 * d k - F k 0 * P0 * Q1 - F k 1 * P1 * Q0), sat r (p3 t y z)) {x : Nat → Rat} (hx : x 0 = frc P0 Q0) (hx1 : x 1 = frc P1 Q1) (t : Rat) : inI H 66 (((Q0 * Q1 : Int) : Rat) * t) ↔ SS (HdF m s F d) 2 x t := by
  have q1 : (0 : Rat) < ((Q0 * Q1 : Int) : Rat) := by exact_mod_cast Int.mul_pos hQ hQ1
  have e0 := frc_m (p := P0) hQ
  have e1 := frc_m (p := P1) hQ1
  have key : ∀ (p : Nat → Rat) (k : Nat), p 0 = frc P0 Q0 → p 1 = frc P1 Q1 → ∀ y z : Rat, (rel (s k) (lin (F2r (F k)) (p3 (((Q0 * Q1 : Int) : Rat) * p 2) y z)) ((Q0 * Q1 * d k - F k 0 * P0 * Q1 - F k 1 * P1 * Q0 : Int) : Rat) ↔ rel (s k) (lin (F k) p) (d k : Rat)) := fun p k hp hp1 y z => by
    have a : lin (F2r (F k)) (p3 (((Q0 * Q1 : Int) : Rat) * p 2) y z) = ((Q0 * Q1 : Int) : Rat) * lin (F k) p + -((F k 0 : Rat) * (P0 : Rat) * (Q1 : Rat) + (F k 1 : Rat) * (P1 : Rat) * (Q0 : Rat)) := by
      show ((F k 2 : Int) : Rat) * (((Q0 * Q1 : Int) : Rat) * p 2) + ((0 : Int) : Rat) * y + ((0 : Int) : Rat) * z = ((Q0 * Q1 : Int) : Rat) * ((F k 0 : Rat) * p 0 + (F k 1 : Rat) * p 1 + (F k 2 : Rat) * p 2) + -((F k 0 : Rat) * (P0 : Rat) * (Q1 : Rat) + (F k 1 : Rat) * (P1 : Rat) * (Q0 : Rat))
      rw [hp, hp1, ← e0, ← e1]; push_cast; grind
    have b : ((Q0 * Q1 * d k - F k 0 * P0 * Q1 - F k 1 * P1 * Q0 : Int) : Rat) = ((Q0 * Q1 : Int) : Rat) * (d k : Rat) + -((F k 0 : Rat) * (P0 : Rat) * (Q1 : Rat) + (F k 1 : Rat) * (P1 : Rat) * (Q0 : Rat)) := by push_cast; grind
    rw [a, b, rel_shift, rel_scale q1]
  constructor
  · intro h
    obtain ⟨y, z, hr⟩ := (hin _).mp h
    rw [rwl_sat hs] at hr
    refine ⟨p3 (frc P0 Q0) (frc P1 Q1) t, fun k hk => (key _ k rfl rfl y z).mp (hr k hk), fun w hw => ?_, rfl⟩
    rcases (show w = 0 ∨ w = 1 by omega) with rfl | rfl
    · rw [hx]; rfl
    · rw [hx1]; rfl
  · rintro ⟨p, hp, hw, ht⟩
    refine (hin _).mpr ⟨0, 0, (rwl_sat hs _).mpr (fun k hk => ?_)⟩
    rw [← ht]
    exact (key p k ((hw 0 (by omega)).trans hx) ((hw 1 (by omega)).trans hx1) 0 0).mpr (hp k hk)
