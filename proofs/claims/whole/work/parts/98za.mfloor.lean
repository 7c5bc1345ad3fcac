/-! the model's floors, and how its interval meets the fractions of one bottom -/
theorem ediv_one {a b k : Int} (hb : 0 < b) (h1 : k * b ≤ a) (h2 : a < k * b + b) : a / b = k := by
  have a1 : k ≤ a / b := (Int.le_ediv_iff_mul_le hb).mpr h1
  have a2 : a / b < k + 1 := (Int.ediv_lt_iff_lt_mul hb).mpr (by rw [Int.add_mul, Int.one_mul]; exact h2)
  omega
theorem tdiv_fl {a b : Int} (hb : 0 < b) : a / b = if a - a.tdiv b * b < 0 then a.tdiv b - 1 else a.tdiv b := by
  have e : b * a.tdiv b + a.tmod b = a := Int.mul_tdiv_add_tmod a b
  have r1 := Int.tmod_lt_of_pos a hb
  have r2 := Int.lt_tmod_of_pos a hb
  have e2 : a.tdiv b * b = b * a.tdiv b := Int.mul_comm _ _
  by_cases c : a - a.tdiv b * b < 0
  · rw [if_pos c]
    refine ediv_one hb ?_ ?_
    · rw [Int.sub_mul, Int.one_mul]; omega
    · rw [Int.sub_mul, Int.one_mul]; omega
  · rw [if_neg c]
    exact ediv_one hb (by omega) (by omega)
theorem floorOf_z {a b : Int64} {h : Hp} {x y : Int} (ha : a.toInt = x) (hb : b.toInt = y) (hy : 0 < y) (hx1 : -4000000000000000000 ≤ x) (hx2 : x ≤ 4000000000000000000) : s_X10_floorOf a b h = some (i64 (x / y)) := by
  have yn : ¬ b = 0 := fun q => by rw [q] at hb; have : (0 : Int64).toInt = 0 := by decide
                                   omega
  have z0 : (0 : Int64).toInt = 0 := by decide
  have ed : (a / b).toInt = x.tdiv y := by rw [Jvm.Kit.i64_div (by omega), ha, hb]
  have e : y * x.tdiv y + x.tmod y = x := Int.mul_tdiv_add_tmod x y
  have r1 := Int.tmod_lt_of_pos x hy
  have r2 := Int.lt_tmod_of_pos x hy
  have e2 : x.tdiv y * y = y * x.tdiv y := Int.mul_comm _ _
  have yb : y ≤ 9223372036854775807 := by rw [← hb]; have := b.toInt_lt; omega
  have eq1 : a / b = i64 (x.tdiv y) := by rw [← ed, i64_of]
  have er : a - a / b * b = i64 (x - x.tdiv y * y) := by
    rw [eq1, ← i64_of a, ← i64_of b, ha, hb, i64_mul, i64_sub]
  have ez : (i64 (x - x.tdiv y * y)).toInt = x - x.tdiv y * y := i64_z (by omega) (by omega)
  unfold s_X10_floorOf nzJ
  rw [if_neg yn, lt_red, if_neg yn, er, tdiv_fl hy]
  by_cases c : x - x.tdiv y * y < 0
  · rw [if_pos (ltl_z.mpr (by rw [ez, z0]; exact c)), if_pos c, eq1, show (1 : Int64) = i64 1 from by decide, i64_sub]
  · rw [if_neg (fun q => c (by have := ltl_z.mp q; rw [ez, z0] at this; exact this)), if_neg c, eq1]
/-- rounding up -/
theorem ceil_le {X d p : Int} (hd : 0 < d) : -((-X) / d) ≤ p ↔ X ≤ p * d := by
  have := Int.le_ediv_iff_mul_le (c := d) (a := -p) (b := -X) hd
  rw [Int.neg_mul] at this
  constructor
  · intro h
    have := this.mp (by omega)
    omega
  · intro h
    have := this.mpr (by omega)
    omega
theorem floor_le {X d p : Int} (hd : 0 < d) : p ≤ X / d ↔ p * d ≤ X := Int.le_ediv_iff_mul_le hd
def plo (X d : Int) (o : Bool) : Int := -((-X) / d) + (if o = true ∧ -((-X) / d) * d = X then 1 else 0)
def phi (X d : Int) (o : Bool) : Int := X / d - (if o = true ∧ X / d * d = X then 1 else 0)
theorem plo_le {X d p : Int} {o : Bool} (hd : 0 < d) : plo X d o ≤ p ↔ (X < p * d ∨ (X = p * d ∧ o = false)) := by
  unfold plo
  have c0 := ceil_le (X := X) (p := p) hd
  cases o
  · rw [if_neg (by simp), Int.add_zero, c0]
    simp; omega
  · by_cases z : -((-X) / d) * d = X
    · rw [if_pos ⟨rfl, z⟩]
      have c1 := ceil_le (X := X) (p := p - 1) hd
      simp
      constructor
      · intro h
        have h1 : -((-X) / d) < p := by omega
        have := Int.mul_lt_mul_of_pos_right h1 hd
        omega
      · intro h
        by_cases w : -((-X) / d) < p
        · omega
        · have := Int.mul_le_mul_of_nonneg_right (show p ≤ -((-X) / d) by omega) (Int.le_of_lt hd)
          omega
    · rw [if_neg (fun q => z q.2), Int.add_zero, c0]
      simp
      constructor
      · intro h
        by_cases w : X = p * d
        · exfalso
          apply z
          have l1 := c0.mpr h
          have l2 : p ≤ -((-X) / d) := by
            have := (ceil_le (X := X) (p := -((-X) / d)) hd).mp (Int.le_refl _)
            rw [w] at this ⊢
            by_cases y : p ≤ -((-(p * d)) / d)
            · exact y
            · have := Int.mul_lt_mul_of_pos_right (show -((-(p * d)) / d) < p by omega) hd
              omega
          have : -((-X) / d) = p := by omega
          rw [this]; exact w.symm
        · omega
      · intro h; omega
theorem phi_le {X d p : Int} {o : Bool} (hd : 0 < d) : p ≤ phi X d o ↔ (p * d < X ∨ (p * d = X ∧ o = false)) := by
  have e : phi X d o = - plo (-X) d o := by
    unfold phi plo
    rw [Int.neg_neg, Int.neg_mul]
    by_cases z : o = true ∧ X / d * d = X
    · rw [if_pos z, if_pos ⟨z.1, by rw [z.2]⟩]; omega
    · rw [if_neg z, if_neg (fun q => z ⟨q.1, by omega⟩)]; omega
  have := plo_le (X := -X) (p := -p) (o := o) hd
  rw [Int.neg_mul] at this
  rw [e]
  constructor
  · intro h
    have := this.mp (by omega)
    rcases this with w | w
    · left; omega
    · right; exact ⟨by omega, w.2⟩
  · intro h
    have := this.mpr (by rcases h with w | w; · left; omega
                         · right; exact ⟨by omega, w.2⟩)
    omega
theorem ups_frc {d e c p k : Int} {o : Bool} (hk : 0 < k) : UpS d e o ((c : Rat) * frc p k) ↔ (d * (c * p) < e * k ∨ (d * (c * p) = e * k ∧ o = false)) := by
  have k1 : (0 : Rat) < (k : Rat) := by exact_mod_cast hk
  have ef : frc p k * (k : Rat) = (p : Rat) := by unfold frc; exact Rat.div_mul_cancel (by grind)
  have q1 : (d * (c * p) < e * k) ↔ (d : Rat) * ((c : Rat) * (p : Rat)) < (e : Rat) * (k : Rat) := by
    constructor
    · intro z; exact_mod_cast z
    · intro z; exact_mod_cast z
  have q2 : (d * (c * p) = e * k) ↔ (d : Rat) * ((c : Rat) * (p : Rat)) = (e : Rat) * (k : Rat) := by
    constructor
    · intro z; exact_mod_cast z
    · intro z; exact_mod_cast z
  rw [q1, q2, ← ef]
  generalize frc p k = x
  unfold UpS
  have s1 : (d : Rat) * ((c : Rat) * x) < (e : Rat) ↔ (d : Rat) * ((c : Rat) * (x * (k : Rat))) < (e : Rat) * (k : Rat) := by
    constructor
    · intro z
      have := Rat.mul_pos k1 (show 0 < (e : Rat) - (d : Rat) * ((c : Rat) * x) by grind)
      grind
    · intro z
      have := pos_of k1 (x := (e : Rat) - (d : Rat) * ((c : Rat) * x)) (by grind)
      grind
  have s2 : (d : Rat) * ((c : Rat) * x) = (e : Rat) ↔ (d : Rat) * ((c : Rat) * (x * (k : Rat))) = (e : Rat) * (k : Rat) := by
    constructor
    · intro z; grind
    · intro z
      have : (k : Rat) * ((e : Rat) - (d : Rat) * ((c : Rat) * x)) = 0 := by grind
      rcases Rat.mul_eq_zero.mp this with w | w
      · grind
      · grind
  rw [s1, s2]
/-- which fractions with bottom k lie in the model's interval, scaled -/
theorem in_frc {BA BE : Int} {H : Hp} {c k p : Int} (hW : WFI BA BE H 66) (h28 : H.1 66 28 = 0) (hc : 0 < c) (hk : 0 < k) : inI H 66 ((c : Rat) * frc p k) ↔ (H.1 66 20 = 1 → plo ((H.2 66 21).toInt * k) ((H.2 66 22).toInt * c) (decide (H.1 66 23 = 1)) ≤ p) ∧ (H.1 66 24 = 1 → p ≤ phi ((H.2 66 25).toInt * k) ((H.2 66 26).toInt * c) (decide (H.1 66 27 = 1))) := by
  unfold inI lowS highS
  have e : - ((c : Rat) * frc p k) = (c : Rat) * frc (-p) k := by rw [frc_neg]; grind
  rw [e, ups_frc hk, ups_frc hk]
  constructor
  · rintro ⟨-, a, b⟩
    refine ⟨fun q => ?_, fun q => ?_⟩
    · have d1 : 0 < (H.2 66 22).toInt := by rcases hW.1 with w | w; · rw [w] at q; cases q
                                            · exact w.2.1
      refine (plo_le (Int.mul_pos d1 hc)).mpr ?_
      have := a q
      rw [Int.mul_neg, Int.mul_neg, Int.neg_mul] at this
      rw [show p * ((H.2 66 22).toInt * c) = (H.2 66 22).toInt * (c * p) by grind]
      rcases this with w | w
      · left; omega
      · right; exact ⟨by omega, w.2⟩
    · have d1 : 0 < (H.2 66 26).toInt := by rcases hW.2.1 with w | w; · rw [w] at q; cases q
                                            · exact w.2.1
      refine (phi_le (Int.mul_pos d1 hc)).mpr ?_
      rw [show p * ((H.2 66 26).toInt * c) = (H.2 66 26).toInt * (c * p) by grind]
      exact b q
  · rintro ⟨a, b⟩
    refine ⟨h28, fun q => ?_, fun q => ?_⟩
    · have d1 : 0 < (H.2 66 22).toInt := by rcases hW.1 with w | w; · rw [w] at q; cases q
                                            · exact w.2.1
      have := (plo_le (Int.mul_pos d1 hc)).mp (a q)
      rw [show p * ((H.2 66 22).toInt * c) = (H.2 66 22).toInt * (c * p) by grind] at this
      rw [Int.mul_neg, Int.mul_neg, Int.neg_mul]
      rcases this with w | w
      · left; omega
      · right; exact ⟨by omega, w.2⟩
    · have d1 : 0 < (H.2 66 26).toInt := by rcases hW.2.1 with w | w; · rw [w] at q; cases q
                                            · exact w.2.1
      have := (phi_le (Int.mul_pos d1 hc)).mp (b q)
      rw [show p * ((H.2 66 26).toInt * c) = (H.2 66 26).toInt * (c * p) by grind] at this
      exact this
