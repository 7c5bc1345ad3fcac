/-! points that satisfy the rows, strict ones taken as not strict; the model's setPoint, isWithin -/
def ptf (p : P3) : Nat → Rat := fun v => if v = 0 then p.1 else if v = 1 then p.2.1 else p.2.2
def cHp (m : Nat) (F : Nat → Nat → Int) (s : Nat → Nat) (d : Nat → Int) (p : P3) : Prop := ∀ i, i < m → rel (clo true (s i)) (lin (F i) (ptf p)) (d i : Rat)
theorem lin_mkp (F : Nat → Int) (a b c : Int) {t : Int} (ht : 0 < t) : (t : Rat) * lin F (ptf (mkp a b c t)) = ((ldot F a b c : Int) : Rat) := by
  have t1 : (0 : Rat) < (t : Rat) := by exact_mod_cast ht
  have e : ∀ x : Rat, x / (t : Rat) * (t : Rat) = x := fun x => Rat.div_mul_cancel (by grind)
  unfold lin ptf mkp ldot
  simp only [if_true, show ((1 : Nat) = 0) = False from by simp, show ((2 : Nat) = 0) = False from by simp, show ((2 : Nat) = 1) = False from by simp, if_false]
  have ea := e (a : Rat)
  have eb := e (b : Rat)
  have ec := e (c : Rat)
  push_cast
  grind
theorem rz_rel {s : Nat} (hs : s ≤ 4) (F : Nat → Int) (a b c d : Int) {t : Int} (ht : 0 < t) : rz s (ldot F a b c) (d * t) = true ↔ rel s (lin F (ptf (mkp a b c t))) (d : Rat) := by
  have t1 : (0 : Rat) < (t : Rat) := by exact_mod_cast ht
  rw [← rel_scale t1, lin_mkp F a b c ht]
  have e : (t : Rat) * (d : Rat) = ((d * t : Int) : Rat) := by push_cast; grind
  rw [e]
  generalize ldot F a b c = u
  generalize d * t = w
  unfold rz rel
  rcases (show s = 0 ∨ s = 1 ∨ s = 2 ∨ s = 3 ∨ s = 4 by omega) with rfl | rfl | rfl | rfl | rfl <;> simp <;> (constructor <;> intro z <;> exact_mod_cast z)
theorem clo_le {s : Nat} (hs : s ≤ 4) : clo true s ≤ 4 := by unfold clo; rw [if_pos rfl]; split; omega; split <;> omega
theorem hBl_c {nv m : Nat} {F : Nat → Nat → Int} {s : Nat → Nat} {d : Nat → Int} (hw : RW nv m F s d) (a b c : Int) {t : Int} (ht : 0 < t) : hBl m F s d true a b c t = true ↔ cHp m F s d (mkp a b c t) := by
  unfold hBl cHp
  rw [all_split]
  constructor
  · intro h i hi; exact (rz_rel (clo_le (hw i hi).1) _ _ _ _ _ ht).mp (h i hi)
  · intro h i hi; exact (rz_rel (clo_le (hw i hi).1) _ _ _ _ _ ht).mpr (h i hi)
theorem mkp_scale {k : Int} (hk : k ≠ 0) (a b c d : Int) : mkp (k * a) (k * b) (k * c) (k * d) = mkp a b c d := by
  have k1 : (k : Rat) ≠ 0 := fun q => hk (by exact_mod_cast q)
  have key : ∀ x : Int, ((k * x : Int) : Rat) / ((k * d : Int) : Rat) = (x : Rat) / (d : Rat) := fun x => by
    push_cast
    by_cases c : (d : Rat) = 0
    · rw [c, Rat.mul_zero, Rat.div_def, Rat.div_def, Rat.inv_zero]; grind
    · have e1 : (x : Rat) / (d : Rat) * (d : Rat) = (x : Rat) := Rat.div_mul_cancel c
      have e2 : ((k : Rat) * (x : Rat)) / ((k : Rat) * (d : Rat)) * ((k : Rat) * (d : Rat)) = (k : Rat) * (x : Rat) := Rat.div_mul_cancel (by
        intro q
        rcases Rat.mul_eq_zero.mp q with y | y
        · exact k1 y
        · exact c y)
      generalize (x : Rat) / (d : Rat) = y at *
      generalize ((k : Rat) * (x : Rat)) / ((k : Rat) * (d : Rat)) = z at *
      rcases Rat.mul_eq_zero.mp (show ((k : Rat) * (d : Rat)) * (z - y) = 0 by grind) with w | w
      · rcases Rat.mul_eq_zero.mp w with u | u
        · exact absurd u k1
        · exact absurd u c
      · grind
  unfold mkp
  rw [key, key, key]
theorem isWithin_z {H : Hp} {nq m : Nat} (hM : MB H 66 nq m) {p : P3} (hN : MNew H p) : ∃ b : Bool, s_X10_isWithin 66 H = some (bI b) ∧ (b = true ↔ cHp m (fF H) (mS H 66) (mD H 66) p) := by
  have hm := hM.2.1
  have z0l : (0 : Int64).toInt = 0 := by decide
  obtain ⟨⟨q0, q1, q2, q3⟩, rfl⟩ := hN
  have key : (∀ i, i < m → rz (clo true (mS H 66 i)) (ldot (fF H i) (H.2 88 0).toInt (H.2 88 1).toInt (H.2 88 2).toInt) (mD H 66 i * (H.2 88 3).toInt) = true) ↔ cHp m (fF H) (mS H 66) (mD H 66) (q4 (H.2 88 0) (H.2 88 1) (H.2 88 2) (H.2 88 3)) := by
    unfold cHp q4
    constructor
    · intro h i hi; exact (rz_rel (clo_le (hM.2.2.2 i hi).2.1.2) _ _ _ _ _ q3.1).mp (h i hi)
    · intro h i hi; exact (rz_rel (clo_le (hM.2.2.2 i hi).2.1.2) _ _ _ _ _ q3.1).mpr (h i hi)
  unfold s_X10_isWithin
  obtain ⟨e, he, hp⟩ := iter_fuel (f := fun s : Int32 => s_X10_isWithin_l2 66 s H)
    (fun z => ∃ j, z = nI j ∧ j ≤ m ∧ ∀ i, i < j → rz (clo true (mS H 66 i)) (ldot (fF H i) (H.2 88 0).toInt (H.2 88 1).toInt (H.2 88 2).toInt) (mD H 66 i * (H.2 88 3).toInt) = true)
    (fun z => 20 - z.toNatClampNeg)
    (fun e => (e = .inl () ∧ ∀ i, i < m → rz (clo true (mS H 66 i)) (ldot (fF H i) (H.2 88 0).toInt (H.2 88 1).toInt (H.2 88 2).toInt) (mD H 66 i * (H.2 88 3).toInt) = true) ∨ (e = .inr 0 ∧ ∃ i, i < m ∧ rz (clo true (mS H 66 i)) (ldot (fF H i) (H.2 88 0).toInt (H.2 88 1).toInt (H.2 88 2).toInt) (mD H 66 i * (H.2 88 3).toInt) = false)) (by
    rintro z ⟨j, rfl, hj, hz⟩
    unfold s_X10_isWithin_l2
    rw [hM.1]
    by_cases q : j < m
    · obtain ⟨⟨w1, w2⟩, ⟨w3, w4⟩, w5⟩ := hM.2.2.2 j q
      have wb : ∀ v, v < 3 → -3 ≤ fF H j v ∧ fF H j v ≤ 3 := fun v hv => hM.2.2.1 _ v w2 hv
      have w3' : H.1 68 (3 * j + 1) = nI (mS H 66 j) := w3
      have w5' : H.1 68 (3 * j + 2) = i32 (mD H 66 j) := (i32_of _).symm
      have e2 : nI (3 * j) + 2 = nI (3 * j + 2) := by rw [li2, nI_add]
      rw [if_pos (nI_lt q (by omega)), show (3 : Int32) * nI j = nI (3 * j) from by rw [li3, nI_mul], e2, show nI (3 * j) + 1 = nI (3 * j + 1) from nI_1 _, show (66 + 2 : Nat) = 68 from rfl, show (66 + 22 : Nat) = 88 from rfl, ldI_n (by omega) (by omega), w5']
      rw [show ∀ k : Int64 → Option (Int32 ⊕ (Unit ⊕ Int32)), ldJ H 88 4 (3 : Int32) k = k (H.2 88 3) from fun k => by rw [li3]; exact ldJ_n (by omega) (by omega)]
      rw [lt_red]
      have en : (-(i32 (mD H 66 j))).toInt64.toInt = - mD H 66 j := by rw [i32_neg, tl_z, i32_z (by omega) (by omega)]
      have ms := mulb (A := 50) (B := 1000000) (a := - mD H 66 j) (b := (H.2 88 3).toInt) (by omega) (by omega) (by omega) (by omega)
      have e0 : ((-(i32 (mD H 66 j))).toInt64 * H.2 88 3).toInt = - mD H 66 j * (H.2 88 3).toInt := by rw [mull_z (by rw [en]; omega) (by rw [en]; omega), en]
      have b0 := wb 0 (by omega)
      have b1 := wb 1 (by omega)
      have b2 := wb 2 (by omega)
      have m0 := mulb (A := 3) (B := 1000000) b0.1 b0.2 q0.1 q0.2
      have m1 := mulb (A := 3) (B := 1000000) b1.1 b1.2 q1.1 q1.2
      have m2 := mulb (A := 3) (B := 1000000) b2.1 b2.2 q2.1 q2.2
      -- the sum
      have sum : ∃ f : Int64, iter (fun s : Int64 × Int32 => s_X10_isWithin_l33 66 (nI j) s.1 s.2 H) FUEL ((-(i32 (mD H 66 j))).toInt64 * H.2 88 3, (0 : Int32)) = some f ∧ f.toInt = ldot (fF H j) (H.2 88 0).toInt (H.2 88 1).toInt (H.2 88 2).toInt - mD H 66 j * (H.2 88 3).toInt := by
        have one : ∀ (v : Nat) (x : Int64), v < 3 → s_X10_isWithin_l33 66 (nI j) x (nI v) H = some (.inl (x + (i32 (fF H j v)).toInt64 * H.2 88 v, nI (v + 1))) := fun v x hv => by
          unfold s_X10_isWithin_l33
          rw [if_pos (nI_ltn hv (by omega) (by decide)), coef_i hM q hv, bnd_s, show (66 + 22 : Nat) = 88 from rfl, ldJ_n (by omega) (by omega), lt_red, lt_red, nI_1]
        have endd : ∀ x : Int64, s_X10_isWithin_l33 66 (nI j) x (nI 3) H = some (.inr x) := fun x => by
          unfold s_X10_isWithin_l33
          rw [if_neg (nI_nltn (by decide))]
        have ef : ∀ v, v < 3 → (i32 (fF H j v)).toInt64.toInt = fF H j v := fun v hv => i32_tl (by have := wb v hv; omega) (by have := wb v hv; omega)
        generalize hx0 : (-(i32 (mD H 66 j))).toInt64 * H.2 88 3 = x0 at *
        have p0 : ((i32 (fF H j 0)).toInt64 * H.2 88 0).toInt = fF H j 0 * (H.2 88 0).toInt := by rw [mull_z (by rw [ef 0 (by omega)]; omega) (by rw [ef 0 (by omega)]; omega), ef 0 (by omega)]
        have p1 : ((i32 (fF H j 1)).toInt64 * H.2 88 1).toInt = fF H j 1 * (H.2 88 1).toInt := by rw [mull_z (by rw [ef 1 (by omega)]; omega) (by rw [ef 1 (by omega)]; omega), ef 1 (by omega)]
        have p2 : ((i32 (fF H j 2)).toInt64 * H.2 88 2).toInt = fF H j 2 * (H.2 88 2).toInt := by rw [mull_z (by rw [ef 2 (by omega)]; omega) (by rw [ef 2 (by omega)]; omega), ef 2 (by omega)]
        have s1 : (x0 + (i32 (fF H j 0)).toInt64 * H.2 88 0).toInt = - mD H 66 j * (H.2 88 3).toInt + fF H j 0 * (H.2 88 0).toInt := by rw [addl_z (by rw [e0, p0]; omega) (by rw [e0, p0]; omega), e0, p0]
        have s2 : (x0 + (i32 (fF H j 0)).toInt64 * H.2 88 0 + (i32 (fF H j 1)).toInt64 * H.2 88 1).toInt = - mD H 66 j * (H.2 88 3).toInt + fF H j 0 * (H.2 88 0).toInt + fF H j 1 * (H.2 88 1).toInt := by rw [addl_z (by rw [s1, p1]; omega) (by rw [s1, p1]; omega), s1, p1]
        have s3 : (x0 + (i32 (fF H j 0)).toInt64 * H.2 88 0 + (i32 (fF H j 1)).toInt64 * H.2 88 1 + (i32 (fF H j 2)).toInt64 * H.2 88 2).toInt = - mD H 66 j * (H.2 88 3).toInt + fF H j 0 * (H.2 88 0).toInt + fF H j 1 * (H.2 88 1).toInt + fF H j 2 * (H.2 88 2).toInt := by rw [addl_z (by rw [s2, p2]; omega) (by rw [s2, p2]; omega), s2, p2]
        refine ⟨x0 + (i32 (fF H j 0)).toInt64 * H.2 88 0 + (i32 (fF H j 1)).toInt64 * H.2 88 1 + (i32 (fF H j 2)).toInt64 * H.2 88 2, ?_, ?_⟩
        · obtain ⟨e, he, hp⟩ := iter_fuel (f := fun s : Int64 × Int32 => s_X10_isWithin_l33 66 (nI j) s.1 s.2 H)
            (fun z => z = (x0, nI 0) ∨ z = (x0 + (i32 (fF H j 0)).toInt64 * H.2 88 0, nI 1) ∨ z = (x0 + (i32 (fF H j 0)).toInt64 * H.2 88 0 + (i32 (fF H j 1)).toInt64 * H.2 88 1, nI 2) ∨ z = (x0 + (i32 (fF H j 0)).toInt64 * H.2 88 0 + (i32 (fF H j 1)).toInt64 * H.2 88 1 + (i32 (fF H j 2)).toInt64 * H.2 88 2, nI 3))
            (fun z => 20 - z.2.toNatClampNeg)
            (fun e => e = x0 + (i32 (fF H j 0)).toInt64 * H.2 88 0 + (i32 (fF H j 1)).toInt64 * H.2 88 1 + (i32 (fF H j 2)).toInt64 * H.2 88 2) (by
            rintro z (rfl | rfl | rfl | rfl)
            · exact Or.inl ⟨_, one 0 x0 (by omega), Or.inr (Or.inl rfl), by dsimp only; decide⟩
            · exact Or.inl ⟨_, one 1 _ (by omega), Or.inr (Or.inr (Or.inl rfl)), by dsimp only; decide⟩
            · exact Or.inl ⟨_, one 2 _ (by omega), Or.inr (Or.inr (Or.inr rfl)), by dsimp only; decide⟩
            · exact Or.inr ⟨_, endd _, rfl⟩)
            (x0, nI 0) (Or.inl rfl) (by dsimp only; decide)
          rw [li0, he, hp]
        · rw [s3]; unfold ldot; rw [Int.neg_mul]; omega
      obtain ⟨f, hf1, hf2⟩ := sum
      rw [hf1, bnd_s, ldI_n (by omega) (by omega), w3']
      have mu : 20 - (nI (j + 1)).toNatClampNeg < 20 - (nI j).toNatClampNeg := by rw [nI_clamp (by omega), nI_clamp (by omega)]; omega
      generalize hU : ldot (fF H j) (H.2 88 0).toInt (H.2 88 1).toInt (H.2 88 2).toInt = U at *
      generalize hV : mD H 66 j * (H.2 88 3).toInt = V at *
      have dec : (if nI (mS H 66 j) < (2 : Int32) then (if (0 : Int64) < f then (some (.inr (.inr (0 : Int32)))) else (s_X10_isWithin_b88 66 (nI j) f (nI (mS H 66 j)) H)) else (s_X10_isWithin_b88 66 (nI j) f (nI (mS H 66 j)) H)) = (if rz (clo true (mS H 66 j)) U V = true then some (.inl (nI (j + 1))) else some (.inr (.inr (0 : Int32))) : Option (Int32 ⊕ (Unit ⊕ Int32))) := by
        unfold s_X10_isWithin_b88 s_X10_isWithin_b100 s_X10_isWithin_b106 s_X10_isWithin_b120
        rw [lt_red, nI_1]
        have d1 : ((0 : Int64) < f) ↔ V < U := by rw [ltl_z, z0l, hf2]; omega
        have d2 : (f < (0 : Int64)) ↔ U < V := by rw [ltl_z, z0l, hf2]; omega
        have d3 : (f = (0 : Int64)) ↔ U = V := by rw [eql_z, z0l, hf2]; omega
        rcases (show mS H 66 j = 0 ∨ mS H 66 j = 1 ∨ mS H 66 j = 2 ∨ mS H 66 j = 3 ∨ mS H 66 j = 4 by omega) with e | e | e | e | e <;> rw [e]
        · rw [if_pos (show nI 0 < (2 : Int32) from by decide), if_neg (show ¬ nI 0 = (2 : Int32) from by decide), if_neg (show ¬ nI 0 = (3 : Int32) from by decide), if_neg (show ¬ nI 0 = (4 : Int32) from by decide)]
          simp only [d1]; simp [rz, clo]; (repeat' split) <;> first | rfl | omega
        · rw [if_pos (show nI 1 < (2 : Int32) from by decide), if_neg (show ¬ nI 1 = (2 : Int32) from by decide), if_neg (show ¬ nI 1 = (3 : Int32) from by decide), if_neg (show ¬ nI 1 = (4 : Int32) from by decide)]
          simp only [d1]; simp [rz, clo]; (repeat' split) <;> first | rfl | omega
        · rw [if_neg (show ¬ nI 2 < (2 : Int32) from by decide), if_pos (show nI 2 = (2 : Int32) from by decide), if_neg (show ¬ nI 2 = (4 : Int32) from by decide)]
          simp only [d2]; simp [rz, clo]; (repeat' split) <;> first | rfl | omega
        · rw [if_neg (show ¬ nI 3 < (2 : Int32) from by decide), if_neg (show ¬ nI 3 = (2 : Int32) from by decide), if_pos (show nI 3 = (3 : Int32) from by decide), if_neg (show ¬ nI 3 = (4 : Int32) from by decide)]
          simp only [d2]; simp [rz, clo]; (repeat' split) <;> first | rfl | omega
        · rw [if_neg (show ¬ nI 4 < (2 : Int32) from by decide), if_neg (show ¬ nI 4 = (2 : Int32) from by decide), if_neg (show ¬ nI 4 = (3 : Int32) from by decide), if_pos (show nI 4 = (4 : Int32) from by decide)]
          simp only [d3]; simp [rz, clo]
      rw [dec]
      cases hb : rz (clo true (mS H 66 j)) U V
      · rw [if_neg (by decide)]
        exact Or.inr ⟨_, rfl, Or.inr ⟨rfl, j, q, by rw [hU, hV]; exact hb⟩⟩
      · rw [if_pos rfl]
        refine Or.inl ⟨_, rfl, ⟨j + 1, rfl, by omega, fun i hi => ?_⟩, mu⟩
        rcases (show i < j ∨ i = j by omega) with y | rfl
        · exact hz i y
        · rw [hU, hV]; exact hb
    · rw [if_neg (nI_nlt (by omega) (by omega))]
      exact Or.inr ⟨_, rfl, Or.inl ⟨rfl, fun i hi => hz i (by omega)⟩⟩)
    (nI 0) ⟨0, rfl, by omega, fun i hi => by omega⟩ (by omega)
  rw [li0, he, bnd_s]
  rcases hp with ⟨rfl, q⟩ | ⟨rfl, i, hi, q⟩
  · exact ⟨true, rfl, fun _ => key.mp q, fun _ => rfl⟩
  · refine ⟨false, rfl, (fun y => nomatch y), fun y => ?_⟩
    have := key.mpr y i hi
    rw [q] at this; cases this
