/-! cuts: the interval of the model, and one more row -/
def UpS (b e : Int) (o : Bool) (t : Rat) : Prop := (b : Rat) * t < (e : Rat) ∨ ((b : Rat) * t = (e : Rat) ∧ o = false)
theorem pos_of {a x : Rat} (ha : 0 < a) (h : 0 < a * x) : 0 < x := rat_neg_cancel' (c := -a) (by grind) (by grind)
theorem sgn_eq {a b x y : Rat} (ha : 0 < a) (hb : 0 < b) (h : a * x = b * y) : (0 < x ↔ 0 < y) ∧ (x = 0 ↔ y = 0) := by
  refine ⟨⟨fun q => pos_of hb (by rw [← h]; exact Rat.mul_pos ha q), fun q => pos_of ha (by rw [h]; exact Rat.mul_pos hb q)⟩, fun q => ?_, fun q => ?_⟩
  · subst q
    rcases Rat.mul_eq_zero.mp (show b * y = 0 by grind) with z | z
    · grind
    · exact z
  · subst q
    rcases Rat.mul_eq_zero.mp (show a * x = 0 by grind) with z | z
    · grind
    · exact z
theorem ups_lt {a d b e : Int} {s o : Bool} {t : Rat} (ha : 0 < a) (hb : 0 < b) (h : d * b < e * a) (q : UpS a d s t) : UpS b e o t := by
  have h1 : (d : Rat) * (b : Rat) < (e : Rat) * (a : Rat) := by exact_mod_cast h
  have a1 : (0 : Rat) < (a : Rat) := by exact_mod_cast ha
  have b1 : (0 : Rat) < (b : Rat) := by exact_mod_cast hb
  have q1 : 0 ≤ (d : Rat) - (a : Rat) * t := by rcases q with q | ⟨q, -⟩ <;> grind
  have q2 := Rat.mul_nonneg (Rat.le_of_lt b1) q1
  have q3 := pos_of a1 (x := (e : Rat) - (b : Rat) * t) (by grind)
  exact Or.inl (by grind)
theorem ups_eq {a d b e : Int} {s o : Bool} {t : Rat} (ha : 0 < a) (hb : 0 < b) (h : d * b = e * a) : UpS b e (o || s) t ↔ UpS b e o t ∧ UpS a d s t := by
  have h1 : (d : Rat) * (b : Rat) = (e : Rat) * (a : Rat) := by exact_mod_cast h
  have a1 : (0 : Rat) < (a : Rat) := by exact_mod_cast ha
  have b1 : (0 : Rat) < (b : Rat) := by exact_mod_cast hb
  obtain ⟨z1, z2⟩ := sgn_eq a1 b1 (x := (e : Rat) - (b : Rat) * t) (y := (d : Rat) - (a : Rat) * t) (by grind)
  unfold UpS
  constructor
  · rintro (q | ⟨q, r⟩)
    · have := z1.mp (by grind)
      exact ⟨Or.inl q, Or.inl (by grind)⟩
    · have := z2.mp (by grind)
      rw [Bool.or_eq_false_iff] at r
      exact ⟨Or.inr ⟨q, r.1⟩, Or.inr ⟨by grind, r.2⟩⟩
  · rintro ⟨q | ⟨q, r⟩, w⟩
    · exact Or.inl q
    · have := z2.mp (by grind)
      rcases w with w | ⟨w, w2⟩
      · grind
      · exact Or.inr ⟨q, by rw [r, w2]; rfl⟩
theorem ups_neg {a d : Int} {s : Bool} {t : Rat} : UpS (-a) d s (-t) ↔ UpS a d s t := by
  unfold UpS
  have : ((-a : Int) : Rat) * (-t) = (a : Rat) * t := by push_cast; grind
  rw [this]
theorem ups_zero {d : Int} {s : Bool} {t : Rat} : UpS 0 d s t ↔ (0 < d ∨ (d = 0 ∧ s = false)) := by
  unfold UpS
  have : ((0 : Int) : Rat) * t = 0 := by push_cast; grind
  rw [this]
  constructor
  · rintro (q | ⟨q, r⟩)
    · exact Or.inl (by exact_mod_cast q)
    · exact Or.inr ⟨by exact_mod_cast q.symm, r⟩
  · rintro (q | ⟨q, r⟩)
    · exact Or.inl (by exact_mod_cast q)
    · exact Or.inr ⟨by rw [q]; rfl, r⟩
def lowS (h : Hp) (C : Nat) (t : Rat) : Prop := h.1 C 20 = 1 → UpS (h.2 C 22).toInt (-(h.2 C 21).toInt) (decide (h.1 C 23 = 1)) (-t)
def highS (h : Hp) (C : Nat) (t : Rat) : Prop := h.1 C 24 = 1 → UpS (h.2 C 26).toInt (h.2 C 25).toInt (decide (h.1 C 27 = 1)) t
def inI (h : Hp) (C : Nat) (t : Rat) : Prop := h.1 C 28 = 0 ∧ lowS h C t ∧ highS h C t
def hasE (BA BE : Int) (h : Hp) (C f u l o : Nat) : Prop := h.1 C f = 0 ∨ (h.1 C f = 1 ∧ 0 < (h.2 C l).toInt ∧ (h.2 C l).toInt ≤ BA ∧ -BE ≤ (h.2 C u).toInt ∧ (h.2 C u).toInt ≤ BE ∧ (h.1 C o = 0 ∨ h.1 C o = 1))
def WFI (BA BE : Int) (h : Hp) (C : Nat) : Prop := hasE BA BE h C 20 21 22 23 ∧ hasE BA BE h C 24 25 26 27 ∧ (h.1 C 28 = 0 ∨ h.1 C 28 = 1)
theorem ckB_b {β : Type} (b : Bool) (k : Option β) : ckB (bI b) k = k := by cases b <;> simp [ckB, bI]
theorem one32 : (1 : Int32) = bI true := rfl
theorem zero32 : (0 : Int32) = bI false := rfl
theorem bI_1 (s : Bool) : (bI s = 1) ↔ s = true := by cases s <;> decide
theorem bI0q (s : Bool) : (bI s = 0) ↔ s = false := by cases s <;> decide
def CutP (BA BE : Int) (h : Hp) (C : Nat) (a d : Int) (s : Bool) (r : Option Hp) : Prop := ∃ h', r = some h' ∧ Fr [C] h h' ∧ FrK C [20, 21, 22, 23, 24, 25, 26, 27, 28] h h' ∧ WFI BA BE h' C ∧ ∀ t, inI h' C t ↔ inI h C t ∧ UpS a d s t
theorem cut_none {BA BE : Int} {h : Hp} {C : Nat} (hI : WFI BA BE h C) {d : Int} {s b : Bool} (hb : b = false ↔ (h.1 C 28 = 0 ∧ (0 < d ∨ (d = 0 ∧ s = false)))) : CutP BA BE h C 0 d s (s_X10_cuts_b37 C (bI b) h) := by
  unfold s_X10_cuts_b37
  rw [ckB_b, lt_red]
  refine ⟨_, rfl, Fr.sI (by simp), fun k hk => ⟨sI_ne (by simp at hk; omega), by rw [sI_J]⟩, ?_, fun t => ?_⟩
  · unfold WFI hasE at *
    refine ⟨by simpa [sI] using hI.1, by simpa [sI] using hI.2.1, ?_⟩
    rw [sI_same]; cases b <;> simp [bI]
  · rw [ups_zero]
    unfold inI lowS highS
    rw [sI_same, bI0q, hb, sI_ne (by omega), sI_ne (by omega), sI_ne (by omega), sI_ne (by omega), sI_J]
    constructor
    · rintro ⟨⟨a, b⟩, c, d⟩; exact ⟨⟨a, c, d⟩, b⟩
    · rintro ⟨⟨a, c, d⟩, b⟩; exact ⟨⟨a, b⟩, c, d⟩
theorem cut_high {BA BE : Int} {h : Hp} {C : Nat} (hI : WFI BA BE h C) {a d x : Int64} {s : Bool} (ha : 0 < a.toInt) (ha2 : a.toInt ≤ BA) (hd : -BE ≤ d.toInt ∧ d.toInt ≤ BE) (hx : (h.1 C 24 = 0 ∧ x.toInt < 0) ∨ (h.1 C 24 = 1 ∧ x.toInt = d.toInt * (h.2 C 26).toInt - (h.2 C 25).toInt * a.toInt)) : CutP BA BE h C a.toInt d.toInt s (s_X10_cuts_b75 C a d (bI s) x h) := by
  have hI2 := hI.2.1
  unfold hasE at hI2
  unfold s_X10_cuts_b75 s_X10_cuts_b133 s_X10_cuts_b106 s_X10_cuts_b138 s_X10_cuts_b141
  by_cases c : x.toInt < 0
  · rw [if_pos (ltl_z.mpr c), lt_red, lt_red]
    have : ∀ k : Int32 → Option Hp, (if bI s = 1 then k 1 else k 0) = k (bI s) := fun k => by cases s <;> simp [bI]
    rw [this (fun v => ckB v (lt (sI (sJ (sJ h C 25 d) C 26 a) C 27 v) fun h4 => lt (sI h4 C 24 1) fun h5 => some h5)), ckB_b, lt_red, lt_red]
    refine ⟨_, rfl, ((((Fr.sJ (by simp)).tr (Fr.sJ (by simp))).tr (Fr.sI (by simp))).tr (Fr.sI (by simp))), fun k hk => ?_, ?_, fun t => ?_⟩
    · simp at hk
      constructor
      · rw [sI_ne (by omega), sI_ne (by omega), sJ_I, sJ_I]
      · rw [sI_J, sI_J, sJ_ne (by omega), sJ_ne (by omega)]
    · unfold WFI hasE at *
      refine ⟨by simpa [sI, sJ] using hI.1, ?_, by simpa [sI, sJ] using hI.2.2⟩
      right
      simp [sI, sJ]
      refine ⟨ha, ha2, hd.1, hd.2, ?_⟩
      cases s <;> simp [bI]
    · unfold inI lowS highS
      simp only [sI, sJ]
      simp
      have hs : decide (bI s = 1) = s := by cases s <;> rfl
      rw [hs]
      rcases hx with ⟨q, -⟩ | ⟨q, r⟩
      · rw [q]; simp
        constructor
        · rintro ⟨z1, z2, z3⟩; exact ⟨⟨z1, z2⟩, z3⟩
        · rintro ⟨⟨z1, z2⟩, z3⟩; exact ⟨z1, z2, z3⟩
      · rw [q]; simp
        have hp : 0 < (h.2 C 26).toInt := by
          rcases hI2 with w | w
          · rw [w] at q; exact absurd q (by decide)
          · exact w.2.1
        constructor
        · rintro ⟨z1, z2, z3⟩; exact ⟨⟨z1, z2, ups_lt ha hp (by omega) z3⟩, z3⟩
        · rintro ⟨⟨z1, z2, -⟩, z3⟩; exact ⟨z1, z2, z3⟩
  · rw [if_neg (fun z => c (ltl_z.mp z))]
    rcases hx with ⟨q, r⟩ | ⟨q, r⟩
    · exact absurd r c
    rcases hI2 with w | ⟨-, w1, w2, w3, w4, w5⟩
    · rw [w] at q; exact absurd q (by decide)
    by_cases e : x.toInt = 0
    · rw [if_pos (eql_z.mpr e)]
      have : ∀ k : Int32 → Option Hp, (if h.1 C 27 = 0 then (if bI s = 1 then k 1 else k 0) else k 1) = k (bI (decide (h.1 C 27 = 1) || s)) := fun k => by rcases w5 with w | w <;> rw [w] <;> cases s <;> simp [bI]
      rw [this (fun v => ckB v (lt (sI h C 27 v) fun h4 => lt (sI h4 C 24 1) fun h5 => some h5)), ckB_b, lt_red, lt_red]
      refine ⟨_, rfl, (Fr.sI (by simp)).tr (Fr.sI (by simp)), fun k hk => ?_, ?_, fun t => ?_⟩
      · simp at hk
        constructor
        · rw [sI_ne (by omega), sI_ne (by omega)]
        · rw [sI_J, sI_J]
      · unfold WFI hasE at *
        refine ⟨by simpa [sI, sJ] using hI.1, ?_, by simpa [sI, sJ] using hI.2.2⟩
        right
        simp [sI, sJ]
        refine ⟨w1, w2, w3, w4, ?_⟩
        generalize (decide (h.1 C 27 = 1) || s) = b
        cases b <;> simp [bI]
      · have key := ups_eq (s := s) (o := decide (h.1 C 27 = 1)) (t := t) ha w1 (d := d.toInt) (e := (h.2 C 25).toInt) (by omega)
        have hs : ∀ b : Bool, decide (bI b = 1) = b := fun b => by cases b <;> rfl
        unfold inI lowS highS
        rw [sI_same, sI_ne (c' := C) (k' := 28) (by omega), sI_ne (c' := C) (k' := 28) (by omega), sI_ne (c' := C) (k' := 20) (by omega), sI_ne (c' := C) (k' := 20) (by omega), sI_ne (c' := C) (k' := 23) (by omega), sI_ne (c' := C) (k' := 23) (by omega), sI_ne (c' := C) (k' := 27) (by omega), sI_same, sI_J, sI_J, hs, key, q]
        constructor
        · rintro ⟨z1, z2, z3⟩; exact ⟨⟨z1, z2, fun _ => (z3 rfl).1⟩, (z3 rfl).2⟩
        · rintro ⟨⟨z1, z2, z4⟩, z3⟩; exact ⟨z1, z2, fun _ => ⟨z4 rfl, z3⟩⟩
    · rw [if_neg (fun z => e (eql_z.mp z)), lt_red]
      have hh : ∀ k, (sI h C 24 1).1 C k = h.1 C k := fun k => by
        by_cases z : k = 24
        · subst z; rw [sI_same, q]
        · rw [sI_ne z]
      refine ⟨_, rfl, Fr.sI (by simp), fun k hk => ⟨hh k, by rw [sI_J]⟩, ?_, fun t => ?_⟩
      · unfold WFI hasE at *
        simp only [hh, sI_J]; exact hI
      · unfold inI lowS highS
        simp only [hh, sI_J]
        constructor
        · rintro ⟨z1, z2, z3⟩
          exact ⟨⟨z1, z2, z3⟩, ups_lt w1 ha (by omega) (z3 q)⟩
        · rintro ⟨z, -⟩; exact z
