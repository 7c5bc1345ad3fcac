/-! sees: the interval is what the rows leave of the first variable -/
theorem elim_bd {A D A' D' : Int} (hA : 1 ≤ A) (hD : 0 ≤ D) (eA : A' = 2 * (A * A)) (eD : D' = 2 * (A * D)) {v : Nat} (hv : v < 3) {L : List Rw} (h : ∀ r ∈ L, RB A D r) : ∀ r ∈ elim v L, RB A' D' r := by
  intro r hr
  have a1 : A ≤ A * A := by
    have := Int.mul_le_mul_of_nonneg_left hA (show 0 ≤ A by omega); omega
  have a2 : D ≤ A * D := by
    have := Int.mul_le_mul_of_nonneg_right hA hD; omega
  unfold elim at hr
  rw [List.mem_flatMap] at hr
  obtain ⟨p, hp, hr⟩ := hr
  have bp := h p hp
  rcases List.mem_append.mp hr with q | q
  · by_cases c : p.1 v = 0
    · rw [if_pos c] at q
      simp at q; subst q
      exact ⟨fun w hw => by have := bp.1 w hw; omega, by have := bp.2; omega⟩
    · rw [if_neg c] at q; simp at q
  · by_cases c : 0 < p.1 v
    · rw [if_pos c, List.mem_map] at q
      obtain ⟨s, hs, rfl⟩ := q
      have bs := h s ((List.mem_filter.mp hs).1)
      have s1 := bs.1 v hv
      have p1 := bp.1 v hv
      refine ⟨fun w hw => ?_, ?_⟩
      · have s2 := bs.1 w hw
        have p2 := bp.1 w hw
        have m1 := mulb (A := A) (B := A) (a := - s.1 v) (b := p.1 w) (by omega) (by omega) (by omega) (by omega)
        have m2 := mulb (A := A) (B := A) (a := p.1 v) (b := s.1 w) (by omega) (by omega) (by omega) (by omega)
        show -A' ≤ (- s.1 v) * p.1 w + p.1 v * s.1 w ∧ (- s.1 v) * p.1 w + p.1 v * s.1 w ≤ A'
        omega
      · have s2 := bs.2
        have p2 := bp.2
        have m1 := mulb (A := A) (B := D) (a := - s.1 v) (b := p.2.1) (by omega) (by omega) (by omega) (by omega)
        have m2 := mulb (A := A) (B := D) (a := p.1 v) (b := s.2.1) (by omega) (by omega) (by omega) (by omega)
        show -D' ≤ (- s.1 v) * p.2.1 + p.1 v * s.2.1 ∧ (- s.1 v) * p.2.1 + p.1 v * s.2.1 ≤ D'
        omega
    · rw [if_neg c] at q; simp at q
def pt (t : Rat) : Nat → Rat := fun w => if w = 0 then t else 0
def p3 (x y z : Rat) : Nat → Rat := fun w => if w = 0 then x else if w = 1 then y else z
theorem sat_ext {r : Rw} {p q : Nat → Rat} (h : ∀ w, w < 3 → p w = q w) : sat r p ↔ sat r q := by
  unfold sat lin
  rw [h 0 (by omega), h 1 (by omega), h 2 (by omega)]
theorem sat_pt (r : Rw) (t : Rat) : sat r (pt t) ↔ UpS (r.1 0) r.2.1 r.2.2 t := by
  have : lin r.1 (pt t) = (r.1 0 : Rat) * t := by simp [lin, pt]; grind
  unfold sat UpS
  rw [this]
  cases r.2.2
  · simp; constructor
    · intro q
      by_cases e : (r.1 0 : Rat) * t = r.2.1
      · exact Or.inr e
      · left; grind
    · rintro (q | q) <;> grind
  · simp
theorem elim_ex {L : List Rw} {t : Rat} : (∀ r ∈ elim 1 (elim 2 L), sat r (pt t)) ↔ ∃ y z, ∀ r ∈ L, sat r (p3 t y z) := by
  constructor
  · intro h
    obtain ⟨y, hy⟩ := elim_ok (by omega) h
    obtain ⟨z, hz⟩ := elim_ok (by omega) hy
    refine ⟨y, z, fun r hr => (sat_ext (fun w hw => ?_)).mp (hz r hr)⟩
    rcases (show w = 0 ∨ w = 1 ∨ w = 2 by omega) with rfl | rfl | rfl <;> simp [setp, pt, p3]
  · rintro ⟨y, z, h⟩
    refine elim_of (t := y) (by omega) (elim_of (t := z) (by omega) (fun r hr => (sat_ext (fun w hw => ?_)).mp (h r hr)))
    rcases (show w = 0 ∨ w = 1 ∨ w = 2 by omega) with rfl | rfl | rfl <;> simp [setp, pt, p3]
theorem div_ex {b : Int} (hb : 0 < b) (e : Int) : ∃ x : Rat, (b : Rat) * x = (e : Rat) := by
  have b1 : (0 : Rat) < (b : Rat) := by exact_mod_cast hb
  refine ⟨(e : Rat) / (b : Rat), ?_⟩
  rw [Rat.mul_comm]; exact Rat.div_mul_cancel (by grind)
theorem up_ex {b : Int} (hb : 0 < b) (e : Int) (o : Bool) : ∃ t, UpS b e o t := by
  obtain ⟨x, hx⟩ := div_ex hb e
  have b1 : (0 : Rat) < (b : Rat) := by exact_mod_cast hb
  exact ⟨x - 1, Or.inl (by grind)⟩
theorem both_ex {b c e f : Int} (hb : 0 < b) (hc : 0 < c) {o1 o2 : Bool} : (∃ t, UpS b (-e) o1 (-t) ∧ UpS c f o2 t) ↔ (0 < f * b - e * c ∨ (f * b - e * c = 0 ∧ o1 = false ∧ o2 = false)) := by
  obtain ⟨x, hx⟩ := div_ex hb e
  obtain ⟨y, hy⟩ := div_ex hc f
  have b1 : (0 : Rat) < (b : Rat) := by exact_mod_cast hb
  have c1 : (0 : Rat) < (c : Rat) := by exact_mod_cast hc
  have bc := Rat.mul_pos b1 c1
  have hv : ((f * b - e * c : Int) : Rat) = ((b : Rat) * (c : Rat)) * (y - x) := by push_cast; rw [← hx, ← hy]; grind
  have lo : ∀ t, UpS b (-e) o1 (-t) ↔ (x < t ∨ (x = t ∧ o1 = false)) := fun t => by
    unfold UpS
    have g : ((-e : Int) : Rat) - (b : Rat) * (-t) = (b : Rat) * (t - x) := by push_cast; grind
    obtain ⟨z1, z2⟩ := sgn_eq (a := 1) (by decide) b1 (x := ((-e : Int) : Rat) - (b : Rat) * (-t)) (y := t - x) (by grind)
    constructor
    · rintro (q | ⟨q, r⟩)
      · left; have := z1.mp (by grind); grind
      · right; have := z2.mp (by grind); exact ⟨by grind, r⟩
    · rintro (q | ⟨q, r⟩)
      · left; have := z1.mpr (by grind); grind
      · right; have := z2.mpr (by grind); exact ⟨by grind, r⟩
  have hi : ∀ t, UpS c f o2 t ↔ (t < y ∨ (t = y ∧ o2 = false)) := fun t => by
    unfold UpS
    obtain ⟨z1, z2⟩ := sgn_eq (a := 1) (by decide) c1 (x := (f : Rat) - (c : Rat) * t) (y := y - t) (by grind)
    constructor
    · rintro (q | ⟨q, r⟩)
      · left; have := z1.mp (by grind); grind
      · right; have := z2.mp (by grind); exact ⟨by grind, r⟩
    · rintro (q | ⟨q, r⟩)
      · left; have := z1.mpr (by grind); grind
      · right; have := z2.mpr (by grind); exact ⟨by grind, r⟩
  obtain ⟨v1, v2⟩ := sgn_eq (a := 1) (by decide) bc (x := ((f * b - e * c : Int) : Rat)) (y := y - x) (by grind)
  have w1 : 0 < f * b - e * c ↔ x < y := by
    rw [show (0 < f * b - e * c) ↔ (0 : Rat) < ((f * b - e * c : Int) : Rat) from ⟨fun q => by exact_mod_cast q, fun q => by exact_mod_cast q⟩, v1]
    constructor <;> intro q <;> grind
  have w2 : f * b - e * c = 0 ↔ x = y := by
    rw [show (f * b - e * c = 0) ↔ ((f * b - e * c : Int) : Rat) = 0 from ⟨fun q => by rw [q]; rfl, fun q => by exact_mod_cast q⟩, v2]
    constructor <;> intro q <;> grind
  rw [w1, w2]
  constructor
  · rintro ⟨t, q, r⟩
    rw [lo] at q; rw [hi] at r
    rcases q with q | ⟨q, q2⟩ <;> rcases r with r | ⟨r, r2⟩
    · left; grind
    · left; grind
    · left; grind
    · right; exact ⟨by grind, q2, r2⟩
  · rintro (q | ⟨q, q1, q2⟩)
    · exact ⟨(x + y) / 2, (lo _).mpr (Or.inl (by grind)), (hi _).mpr (Or.inl (by grind))⟩
    · exact ⟨x, (lo _).mpr (Or.inr ⟨rfl, q1⟩), (hi _).mpr (Or.inr ⟨q, q2⟩)⟩
