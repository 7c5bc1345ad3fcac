/-! which coefficients are allowed: class and model alike -/
def okC (nv v : Nat) (a : Int32) : Bool := decide ((-3 ≤ a.toInt ∧ a.toInt ≤ 3) ∧ (a.toInt = 0 ∨ v < nv))
theorem allow_z {h : Hp} {P nv v : Nat} (hv : h.1 P 0 = nI nv) (h1 : nv ≤ 3) (h2 : v < 3) (a : Int32) : s_X5_allowsCoefficient P (nI v) a h = some (bI (okC nv v a)) := by
  have z0 : (0 : Int32).toInt = 0 := by decide
  have z3 : (3 : Int32).toInt = 3 := by decide
  have m3 : (-3 : Int32).toInt = -3 := by decide
  unfold s_X5_allowsCoefficient okC
  rw [hv]
  by_cases c : v < nv
  · rw [if_pos (nI_lt c (by omega))]
    by_cases d : a.toInt < -3
    · rw [if_pos (show a < (-3 : Int32) from lt_z.mpr (by rw [m3]; exact d)), decide_eq_false (by omega)]; rfl
    · rw [if_neg (fun q : a < (-3 : Int32) => d (by have := lt_z.mp q; rw [m3] at this; exact this))]
      by_cases e : 3 < a.toInt
      · rw [if_pos (show (3 : Int32) < a from lt_z.mpr (by rw [z3]; exact e)), decide_eq_false (by omega)]; rfl
      · rw [if_neg (fun q : (3 : Int32) < a => e (by have := lt_z.mp q; rw [z3] at this; exact this)), decide_eq_true (by omega)]; rfl
  · rw [if_neg (nI_nlt (by omega) (by omega))]
    by_cases d : a.toInt = 0
    · rw [if_pos (show a = 0 from eq_z.mpr (by rw [z0]; exact d)), decide_eq_true (by omega)]; rfl
    · rw [if_neg (fun q : a = 0 => d (by rw [q]; exact z0)), decide_eq_false (by omega)]; rfl
theorem isco_z {h : Hp} {P nv v : Nat} (hv : h.1 P 0 = nI nv) (h1 : nv ≤ 3) (h2 : v < 3) (a : Int32) : s_X10_isCoefficient P (nI v) a h = some (bI (okC nv v a)) := by
  have z0 : (0 : Int32).toInt = 0 := by decide
  have z3 : (3 : Int32).toInt = 3 := by decide
  have m3 : (-3 : Int32).toInt = -3 := by decide
  unfold s_X10_isCoefficient okC
  rw [hv, in_z, m3, z3, bnd_s]
  by_cases c : -3 ≤ a.toInt ∧ a.toInt ≤ 3
  · rw [decide_eq_true c, if_neg (by decide)]
    by_cases d : a.toInt = 0
    · rw [if_pos (show a = 0 from eq_z.mpr (by rw [z0]; exact d)), decide_eq_true (by omega)]; rfl
    · rw [if_neg (fun q : a = 0 => d (by rw [q]; exact z0))]
      by_cases e : v < nv
      · rw [if_pos (nI_lt e (by omega)), decide_eq_true (by omega)]; rfl
      · rw [if_neg (nI_nlt (by omega) (by omega)), decide_eq_false (by omega)]; rfl
  · rw [decide_eq_false c, if_pos (by decide), decide_eq_false (by omega)]; rfl
