/-! small integer points: meets, the two walks over the grid -/
theorem coef_i {h : Hp} {nq m k v : Nat} (hM : MB h 66 nq m) (hk : k < m) (hv : v < 3) : s_X10_coefficientOf 66 (nI k) (nI v) h = some (i32 (fF h k v)) := by
  rw [coef_z hM hk hv]
  show some (h.1 67 _) = some (i32 (h.1 67 _).toInt)
  rw [i32_of]
theorem meetrow {s : Nat} {v : Int32} {u w : Int} {β : Type} (hs : s ≤ 4) (hv : v.toInt = u - w) (x y : Option β) : (if nI s = 0 then (if 0 < v then x else y) else (if nI s = (1 : Int32) then (if v < 0 then y else x) else (if nI s = (2 : Int32) then (if v < 0 then x else y) else (if nI s = (3 : Int32) then (if 0 < v then y else x) else (if v = 0 then y else x))))) = if rz s u w = true then y else x := by
  have z0 : (0 : Int32).toInt = 0 := by decide
  have d1 : (0 < v) ↔ w < u := by rw [lt_z, z0, hv]; omega
  have d2 : (v < 0) ↔ u < w := by rw [lt_z, z0, hv]; omega
  have d3 : (v = 0) ↔ u = w := by rw [eq_z, z0, hv]; omega
  simp only [d1, d2, d3]
  rcases (show s = 0 ∨ s = 1 ∨ s = 2 ∨ s = 3 ∨ s = 4 by omega) with rfl | rfl | rfl | rfl | rfl
  · rw [if_pos (by decide)]; simp [rz]; (repeat' split) <;> first | rfl | omega
  · rw [if_neg (by decide), if_pos (by decide)]; simp [rz]
  · rw [if_neg (by decide), if_neg (by decide), if_pos (by decide)]; simp [rz]; (repeat' split) <;> first | rfl | omega
  · rw [if_neg (by decide), if_neg (by decide), if_neg (by decide), if_pos (by decide)]; simp [rz]
  · rw [if_neg (by decide), if_neg (by decide), if_neg (by decide), if_neg (by decide)]; simp [rz]
theorem meets_z {h : Hp} {nq m : Nat} (hM : MB h 66 nq m) {a b c : Int} (ha : -4 ≤ a ∧ a ≤ 4) (hb : -4 ≤ b ∧ b ≤ 4) (hc : -4 ≤ c ∧ c ≤ 4) : s_X10_meets 66 (i32 a) (i32 b) (i32 c) h = some (bI (hBl m (fF h) (mS h 66) (mD h 66) false a b c 1)) := by
  have hm := hM.2.1
  unfold s_X10_meets
  obtain ⟨e, he, hp⟩ := iter_fuel (f := fun z : Int32 => s_X10_meets_l3 66 (i32 a) (i32 b) (i32 c) z h)
    (fun z => ∃ j, z = nI j ∧ j ≤ m ∧ ∀ i, i < j → rz (clo false (mS h 66 i)) (ldot (fF h i) a b c) (mD h 66 i * 1) = true)
    (fun z => 20 - z.toNatClampNeg)
    (fun e => (e = .inl () ∧ hBl m (fF h) (mS h 66) (mD h 66) false a b c 1 = true) ∨ (e = .inr 0 ∧ hBl m (fF h) (mS h 66) (mD h 66) false a b c 1 = false)) (by
    rintro z ⟨j, rfl, hj, hz⟩
    unfold s_X10_meets_l3 s_X10_meets_b153
    rw [hM.1]
    by_cases q : j < m
    · obtain ⟨⟨w1, w2⟩, ⟨w3, w4⟩, w5⟩ := hM.2.2.2 j q
      have wb : ∀ v, v < 3 → -3 ≤ fF h j v ∧ fF h j v ≤ 3 := fun v hv => hM.2.2.1 _ v w2 hv
      have c0 : s_X10_coefficientOf 66 (nI j) 0 h = some (i32 (fF h j 0)) := coef_i hM q (v := 0) (by omega)
      have c1 : s_X10_coefficientOf 66 (nI j) 1 h = some (i32 (fF h j 1)) := coef_i hM q (v := 1) (by omega)
      have c2 : s_X10_coefficientOf 66 (nI j) 2 h = some (i32 (fF h j 2)) := coef_i hM q (v := 2) (by omega)
      rw [if_pos (nI_lt q (by omega)), c0, bnd_s, c1, bnd_s, c2, bnd_s, show (3 : Int32) * nI j = nI (3 * j) from by rw [li3, nI_mul], show nI (3 * j) + 1 = nI (3 * j + 1) from nI_1 _, show nI (3 * j) + 2 = nI (3 * j + 2) from by rw [li2, nI_add], ldI_n (by omega) (by omega), lt_red, ldI_n (by omega) (by omega), w3, lt_red, nI_1]
      have b0 := wb 0 (by omega)
      have b1 := wb 1 (by omega)
      have b2 := wb 2 (by omega)
      have m0 := mulb (A := 3) (B := 4) b0.1 b0.2 ha.1 ha.2
      have m1 := mulb (A := 3) (B := 4) b1.1 b1.2 hb.1 hb.2
      have m2 := mulb (A := 3) (B := 4) b2.1 b2.2 hc.1 hc.2
      have ev : (i32 (fF h j 0) * i32 a + i32 (fF h j 1) * i32 b + i32 (fF h j 2) * i32 c - h.1 (66 + 2) (3 * j + 2)).toInt = ldot (fF h j) a b c - mD h 66 j * 1 := by
        have ed : h.1 (66 + 2) (3 * j + 2) = i32 (mD h 66 j) := (i32_of _).symm
        rw [ed, i32_mul, i32_mul, i32_mul, i32_add, i32_add, i32_sub]
        rw [i32_z (by omega) (by omega)]
        unfold ldot; omega
      have hrow := meetrow (s := mS h 66 j) w4 ev (some (.inr (.inr (0 : Int32))) : Option (Int32 ⊕ (Unit ⊕ Int32))) (some (.inl (nI (j + 1))))
      have fl : ∀ (P : Option (Int32 ⊕ (Unit ⊕ Int32))) , (if (0 : Int32) = 0 then (some (.inr (.inr (0 : Int32))) : Option (Int32 ⊕ (Unit ⊕ Int32))) else P) = some (.inr (.inr 0)) := fun P => if_pos rfl
      have fl1 : ∀ (P : Option (Int32 ⊕ (Unit ⊕ Int32))) , (if (1 : Int32) = 0 then (some (.inr (.inr (0 : Int32))) : Option (Int32 ⊕ (Unit ⊕ Int32))) else P) = P := fun P => if_neg (by decide)
      simp only [fl1, if_true]
      have cl : clo false (mS h 66 j) = mS h 66 j := if_neg (by decide)
      rw [hrow]
      cases hb : rz (mS h 66 j) (ldot (fF h j) a b c) (mD h 66 j * 1)
      · rw [if_neg (by decide)]
        refine Or.inr ⟨_, rfl, Or.inr ⟨rfl, ?_⟩⟩
        cases hh : hBl m (fF h) (mS h 66) (mD h 66) false a b c 1
        · rfl
        · have := all_split.mp hh j q
          rw [cl, hb] at this; cases this
      · rw [if_pos rfl]
        refine Or.inl ⟨_, rfl, ⟨j + 1, rfl, by omega, fun i hi => ?_⟩, by rw [nI_clamp (by omega), nI_clamp (by omega)]; omega⟩
        rcases Nat.lt_or_ge i j with y | y
        · exact hz i y
        · rw [show i = j by omega, cl]; exact hb
    · rw [if_neg (nI_nlt (by omega) (by omega))]
      exact Or.inr ⟨_, rfl, Or.inl ⟨rfl, all_split.mpr (fun i hi => hz i (by omega))⟩⟩)
    (nI 0) ⟨0, rfl, by omega, fun i hi => by omega⟩ (by omega)
  rw [li0, he, bnd_s]
  rcases hp with ⟨rfl, q⟩ | ⟨rfl, q⟩
  · rw [q]; rfl
  · rw [q]; rfl
/-- the n-th point of the grid -/
def gn (e : Nat) : Nat := 2 * e + 1
def ga (eb ec n : Nat) : Int := (n / (gn eb * gn ec) : Nat) - 4
def gb (eb ec n : Nat) : Int := (n / gn ec % gn eb : Nat) - (eb : Int)
def gc (_eb ec n : Nat) : Int := (n % gn ec : Nat) - (ec : Int)
def okE (eb ec : Nat) : Prop := (eb = 0 ∧ ec = 0) ∨ (eb = 4 ∧ ec = 0) ∨ (eb = 4 ∧ ec = 4)
theorem g_at {eb ec i j k : Nat} (ho : okE eb ec) (hi : i < 9) (hj : j < gn eb) (hk : k < gn ec) : ga eb ec (i * (gn eb * gn ec) + j * gn ec + k) = (i : Int) - 4 ∧ gb eb ec (i * (gn eb * gn ec) + j * gn ec + k) = (j : Int) - eb ∧ gc eb ec (i * (gn eb * gn ec) + j * gn ec + k) = (k : Int) - ec := by
  unfold ga gb gc gn at *
  rcases ho with ⟨rfl, rfl⟩ | ⟨rfl, rfl⟩ | ⟨rfl, rfl⟩ <;> simp only [Nat.reduceMul, Nat.reduceAdd] at hj hk ⊢ <;> omega
/-- a walk from -e to e with a heap -/
theorem walkH {f : Int32 × Int32 × Hp → Option ((Int32 × Int32 × Hp) ⊕ (Int32 × Hp))} {e : Nat} (he : e ≤ 4) (J : Nat → Int32 → Hp → Prop) (hstep : ∀ i, i < gn e → ∀ a h, J i a h → ∃ a' h', f (a, i32 ((i : Int) - e), h) = some (.inl (a', i32 ((i : Int) - e) + 1, h')) ∧ J (i + 1) a' h') (hend : ∀ a h, f (a, i32 ((gn e : Int) - e), h) = some (.inr (a, h))) (a : Int32) (h : Hp) (h0 : J 0 a h) : ∃ a' h', iter f FUEL (a, - i32 e, h) = some (a', h') ∧ J (gn e) a' h' := by
  have hg : gn e = 2 * e + 1 := rfl
  obtain ⟨r, hr, hp⟩ := iter_fuel (f := f)
    (fun z => ∃ (i : Nat) (a : Int32) (h : Hp), z = (a, i32 ((i : Int) - e), h) ∧ i ≤ gn e ∧ J i a h)
    (fun z => (20 - z.2.1.toInt).toNat)
    (fun r => J (gn e) r.1 r.2) (by
    rintro z ⟨i, a, h, rfl, hi, hJ⟩
    by_cases q : i < gn e
    · obtain ⟨a', h', e1, e2⟩ := hstep i q a h hJ
      refine Or.inl ⟨_, e1, ⟨i + 1, a', h', ?_, by omega, e2⟩, ?_⟩
      · rw [show (1 : Int32) = i32 1 from by decide, i32_add]; congr 3; push_cast; omega
      · dsimp only
        rw [show (1 : Int32) = i32 1 from by decide, i32_add, i32_z (by omega) (by omega), i32_z (by omega) (by omega)]; omega
    · have : i = gn e := by omega
      subst this
      rw [hend]
      exact Or.inr ⟨_, rfl, hJ⟩)
    (a, - i32 e, h) ⟨0, a, h, by rw [i32_neg]; congr 3; omega, by omega, h0⟩ (by dsimp only; rw [i32_neg, i32_z (by omega) (by omega)]; omega)
  exact ⟨r.1, r.2, hr, hp⟩
/-- a walk from -e to e that may end early -/
theorem walkE {f : Int32 × Int32 → Option ((Int32 × Int32) ⊕ (Int32 ⊕ Int32))} {e : Nat} (he : e ≤ 4) (J : Nat → Int32 → Prop) (X : Int32 → Prop) (hstep : ∀ i, i < gn e → ∀ a, J i a → (∃ a', f (a, i32 ((i : Int) - e)) = some (.inl (a', i32 ((i : Int) - e) + 1)) ∧ J (i + 1) a') ∨ (∃ t, f (a, i32 ((i : Int) - e)) = some (.inr (.inr t)) ∧ X t)) (hend : ∀ a, f (a, i32 ((gn e : Int) - e)) = some (.inr (.inl a))) (a : Int32) (h0 : J 0 a) : (∃ a', iter f FUEL (a, - i32 e) = some (.inl a') ∧ J (gn e) a') ∨ (∃ t, iter f FUEL (a, - i32 e) = some (.inr t) ∧ X t) := by
  have hg : gn e = 2 * e + 1 := rfl
  obtain ⟨r, hr, hp⟩ := iter_fuel (f := f)
    (fun z => ∃ (i : Nat) (a : Int32), z = (a, i32 ((i : Int) - e)) ∧ i ≤ gn e ∧ J i a)
    (fun z => (20 - z.2.toInt).toNat)
    (fun r => (∃ a', r = .inl a' ∧ J (gn e) a') ∨ (∃ t, r = .inr t ∧ X t)) (by
    rintro z ⟨i, a, rfl, hi, hJ⟩
    by_cases q : i < gn e
    · rcases hstep i q a hJ with ⟨a', e1, e2⟩ | ⟨t, e1, e2⟩
      · refine Or.inl ⟨_, e1, ⟨i + 1, a', ?_, by omega, e2⟩, ?_⟩
        · rw [show (1 : Int32) = i32 1 from by decide, i32_add]; congr 2; push_cast; omega
        · dsimp only
          rw [show (1 : Int32) = i32 1 from by decide, i32_add, i32_z (by omega) (by omega), i32_z (by omega) (by omega)]; omega
      · exact Or.inr ⟨_, e1, Or.inr ⟨t, rfl, e2⟩⟩
    · have : i = gn e := by omega
      subst this
      rw [hend]
      exact Or.inr ⟨_, rfl, Or.inl ⟨a, rfl, hJ⟩⟩)
    (a, - i32 e) ⟨0, a, by rw [i32_neg]; congr 2; omega, by omega, h0⟩ (by dsimp only; rw [i32_neg, i32_z (by omega) (by omega)]; omega)
  rcases hp with ⟨a', rfl, q⟩ | ⟨t, rfl, q⟩
  · exact Or.inl ⟨a', hr, q⟩
  · exact Or.inr ⟨t, hr, q⟩
