/-! doesFollow -/
theorem div_le_z {e b : Int} (hb : 0 < b) (w : Int) : (e : Rat) / (b : Rat) ≤ (w : Rat) ↔ e ≤ w * b := by
  have b1 : (0 : Rat) < (b : Rat) := by exact_mod_cast hb
  have hd : (e : Rat) / (b : Rat) * (b : Rat) = (e : Rat) := Rat.div_mul_cancel (by grind)
  generalize (e : Rat) / (b : Rat) = q at *
  have : e ≤ w * b ↔ (e : Rat) ≤ (w : Rat) * (b : Rat) := by
    constructor
    · intro z; exact_mod_cast z
    · intro z; exact_mod_cast z
  rw [this, ← hd]
  constructor
  · intro z
    have := Rat.mul_nonneg (show 0 ≤ (w : Rat) - q by grind) (Rat.le_of_lt b1)
    grind
  · intro z
    by_cases c : q ≤ (w : Rat)
    · exact c
    · have := Rat.mul_pos (show 0 < q - (w : Rat) by grind) b1
      grind
theorem div_lt_z {e b : Int} (hb : 0 < b) (w : Int) : (e : Rat) / (b : Rat) < (w : Rat) ↔ e < w * b := by
  have b1 : (0 : Rat) < (b : Rat) := by exact_mod_cast hb
  have hd : (e : Rat) / (b : Rat) * (b : Rat) = (e : Rat) := Rat.div_mul_cancel (by grind)
  generalize (e : Rat) / (b : Rat) = q at *
  have : e < w * b ↔ (e : Rat) < (w : Rat) * (b : Rat) := by
    constructor
    · intro z; exact_mod_cast z
    · intro z; exact_mod_cast z
  rw [this, ← hd]
  constructor
  · intro z
    have := Rat.mul_pos (show 0 < (w : Rat) - q by grind) b1
    grind
  · intro z
    by_cases c : q < (w : Rat)
    · exact c
    · have := Rat.mul_nonneg (show 0 ≤ q - (w : Rat) by grind) (Rat.le_of_lt b1)
      grind
theorem div_eq_z {e b : Int} (hb : 0 < b) (w : Int) : (e : Rat) / (b : Rat) = (w : Rat) ↔ e = w * b := by
  have h1 := div_le_z (e := e) hb w
  have h2 := div_lt_z (e := e) hb w
  constructor
  · intro z
    have := h1.mp (by grind)
    have : ¬ e < w * b := fun q => by have := h2.mpr q; grind
    omega
  · intro z
    have := h1.mpr (by omega)
    have : ¬ (e : Rat) / (b : Rat) < (w : Rat) := fun q => by have := h2.mp q; omega
    grind
/-- behind the question: whether an upper end lies at most at, or below, a number -/
def sideB (H : End) (w : Int) (less : Bool) : Prop := ∃ x, H = some x ∧ (x.1 < (w : Rat) ∨ (x.1 = (w : Rat) ∧ (x.2 = true ∨ less = false)))
theorem side_iv {L H : End} (hne : ∃ t, IV L H t) (w : Int) (less : Bool) : sideB H w less ↔ ∀ t, IV L H t → (t < (w : Rat) ∨ (t = (w : Rat) ∧ less = false)) := by
  unfold sideB
  cases less
  · have := iv_le hne (w : Rat)
    constructor
    · rintro ⟨x, hx, q⟩ t ht
      have := this.mpr ⟨x, hx, by rcases q with q | q <;> grind⟩ t ht
      by_cases c : t < (w : Rat)
      · exact Or.inl c
      · exact Or.inr ⟨by grind, rfl⟩
    · intro q
      obtain ⟨x, hx, y⟩ := this.mp (fun t ht => by rcases q t ht with z | z <;> grind)
      refine ⟨x, hx, ?_⟩
      by_cases c : x.1 < (w : Rat)
      · exact Or.inl c
      · exact Or.inr ⟨by grind, Or.inr rfl⟩
  · have := iv_lt hne (w : Rat)
    constructor
    · rintro ⟨x, hx, q⟩ t ht
      exact Or.inl (this.mpr ⟨x, hx, by rcases q with q | ⟨q, r | r⟩
                                        · exact Or.inl q
                                        · exact Or.inr ⟨q, r⟩
                                        · cases r⟩ t ht)
    · intro q
      obtain ⟨x, hx, y⟩ := this.mp (fun t ht => by rcases q t ht with z | ⟨-, z⟩
                                                   · exact z
                                                   · cases z)
      refine ⟨x, hx, ?_⟩
      rcases y with y | y
      · exact Or.inl y
      · exact Or.inr ⟨y.1, Or.inl y.2⟩
theorem isAtMost_z {h : Hp} (hW : WFI 839808 6998400 h 66) {w : Int} (hw : -50 ≤ w ∧ w ≤ 50) (less : Bool) : ∃ b : Bool, s_X10_isAtMost 66 (i32 w) (bI less) h = some (bI b) ∧ (b = true ↔ sideB (highO h 66) w less) := by
  have z0 : (0 : Int64).toInt = 0 := by decide
  unfold s_X10_isAtMost s_X10_isAtMost_b23
  rcases hW.2.1 with q | ⟨q, q1, q2, q3, q4, q5⟩
  · rw [if_pos q, if_neg (by decide), if_neg (by decide)]
    refine ⟨false, rfl, (fun z => nomatch z), ?_⟩
    rintro ⟨x, hx, -⟩
    unfold highO at hx
    rw [if_neg (by rw [q]; decide)] at hx
    cases hx
  · have ew : (i32 w).toInt64.toInt = w := by rw [tl_z]; exact i32_z (by omega) (by omega)
    have m1 := mulb (A := 50) (B := 839808) (a := w) (b := (h.2 66 26).toInt) (by omega) (by omega) (by omega) (by omega)
    have e1 : ((i32 w).toInt64 * h.2 66 26).toInt = w * (h.2 66 26).toInt := by rw [mull_z (by rw [ew]; omega) (by rw [ew]; omega), ew]
    have e2 : (h.2 66 25 - (i32 w).toInt64 * h.2 66 26).toInt = (h.2 66 25).toInt - w * (h.2 66 26).toInt := by rw [subl_z (by rw [e1]; omega) (by rw [e1]; omega), e1]
    have hO : highO h 66 = some (((h.2 66 25).toInt : Rat) / ((h.2 66 26).toInt : Rat), decide (h.1 66 27 = 1)) := if_pos q
    have sb : sideB (highO h 66) w less ↔ ((h.2 66 25).toInt < w * (h.2 66 26).toInt ∨ ((h.2 66 25).toInt = w * (h.2 66 26).toInt ∧ (h.1 66 27 = 1 ∨ less = false))) := by
      unfold sideB
      rw [hO, ← div_lt_z q1, ← div_eq_z q1]
      constructor
      · rintro ⟨x, hx, y⟩
        cases hx
        simpa using y
      · intro y
        exact ⟨_, rfl, by simpa using y⟩
    rw [if_neg (by rw [q]; decide)]
    generalize h.2 66 25 - (i32 w).toInt64 * h.2 66 26 = v at *
    by_cases c1 : v.toInt < 0
    · rw [if_pos (show v < (0 : Int64) from ltl_z.mpr (by rw [z0]; exact c1))]
      exact ⟨true, rfl, fun _ => sb.mpr (Or.inl (by omega)), fun _ => rfl⟩
    · rw [if_neg (show ¬ v < (0 : Int64) from fun z => c1 (by have := ltl_z.mp z; rw [z0] at this; exact this))]
      by_cases c2 : v.toInt = 0
      · rw [if_pos (show v = (0 : Int64) from eql_z.mpr (by rw [z0]; exact c2))]
        rcases q5 with o | o
        · rw [if_pos o]
          cases less
          · rw [if_pos (by decide)]
            exact ⟨true, rfl, fun _ => sb.mpr (Or.inr ⟨by omega, Or.inr rfl⟩), fun _ => rfl⟩
          · rw [if_neg (by decide)]
            refine ⟨false, rfl, (fun z => nomatch z), fun z => ?_⟩
            rcases sb.mp z with y | ⟨y, u | u⟩
            · omega
            · rw [o] at u; exact absurd u (by decide)
            · cases u
        · rw [if_neg (by rw [o]; decide)]
          exact ⟨true, rfl, fun _ => sb.mpr (Or.inr ⟨by omega, Or.inl o⟩), fun _ => rfl⟩
      · rw [if_neg (show ¬ v = (0 : Int64) from fun z => c2 (by have := eql_z.mp z; rw [z0] at this; exact this))]
        refine ⟨false, rfl, (fun z => nomatch z), fun z => ?_⟩
        rcases sb.mp z with y | ⟨y, -⟩ <;> omega
theorem isAtLeast_z {h : Hp} (hW : WFI 839808 6998400 h 66) {w : Int} (hw : -50 ≤ w ∧ w ≤ 50) (less : Bool) : ∃ b : Bool, s_X10_isAtLeast 66 (i32 w) (bI less) h = some (bI b) ∧ (b = true ↔ sideB (lowO h 66) (-w) less) := by
  have z0 : (0 : Int64).toInt = 0 := by decide
  unfold s_X10_isAtLeast s_X10_isAtLeast_b25
  rcases hW.1 with q | ⟨q, q1, q2, q3, q4, q5⟩
  · rw [if_pos q, if_neg (by decide), if_neg (by decide)]
    refine ⟨false, rfl, (fun z => nomatch z), ?_⟩
    rintro ⟨x, hx, -⟩
    unfold lowO at hx
    rw [if_neg (by rw [q]; decide)] at hx
    cases hx
  · have ew : (i32 w).toInt64.toInt = w := by rw [tl_z]; exact i32_z (by omega) (by omega)
    have m1 := mulb (A := 50) (B := 839808) (a := w) (b := (h.2 66 22).toInt) (by omega) (by omega) (by omega) (by omega)
    have e1 : ((i32 w).toInt64 * h.2 66 22).toInt = w * (h.2 66 22).toInt := by rw [mull_z (by rw [ew]; omega) (by rw [ew]; omega), ew]
    have e2 : (h.2 66 21 - (i32 w).toInt64 * h.2 66 22).toInt = (h.2 66 21).toInt - w * (h.2 66 22).toInt := by rw [subl_z (by rw [e1]; omega) (by rw [e1]; omega), e1]
    have hO : lowO h 66 = some (((-(h.2 66 21).toInt : Int) : Rat) / ((h.2 66 22).toInt : Rat), decide (h.1 66 23 = 1)) := if_pos q
    have hng : -w * (h.2 66 22).toInt = -(w * (h.2 66 22).toInt) := Int.neg_mul _ _
    have sb : sideB (lowO h 66) (-w) less ↔ ((-(h.2 66 21).toInt) < -w * (h.2 66 22).toInt ∨ ((-(h.2 66 21).toInt) = -w * (h.2 66 22).toInt ∧ (h.1 66 23 = 1 ∨ less = false))) := by
      unfold sideB
      rw [hO, ← div_lt_z q1, ← div_eq_z q1]
      constructor
      · rintro ⟨x, hx, y⟩
        cases hx
        simpa using y
      · intro y
        exact ⟨_, rfl, by simpa using y⟩
    rw [hng] at sb
    rw [if_neg (by rw [q]; decide)]
    generalize h.2 66 21 - (i32 w).toInt64 * h.2 66 22 = v at *
    by_cases c1 : 0 < v.toInt
    · rw [if_pos (show (0 : Int64) < v from ltl_z.mpr (by rw [z0]; exact c1))]
      exact ⟨true, rfl, fun _ => sb.mpr (Or.inl (by omega)), fun _ => rfl⟩
    · rw [if_neg (show ¬ (0 : Int64) < v from fun z => c1 (by have := ltl_z.mp z; rw [z0] at this; exact this))]
      by_cases c2 : v.toInt = 0
      · rw [if_pos (show v = (0 : Int64) from eql_z.mpr (by rw [z0]; exact c2))]
        rcases q5 with o | o
        · rw [if_pos o]
          cases less
          · rw [if_pos (by decide)]
            exact ⟨true, rfl, fun _ => sb.mpr (Or.inr ⟨by omega, Or.inr rfl⟩), fun _ => rfl⟩
          · rw [if_neg (by decide)]
            refine ⟨false, rfl, (fun z => nomatch z), fun z => ?_⟩
            rcases sb.mp z with y | ⟨y, u | u⟩
            · omega
            · rw [o] at u; exact absurd u (by decide)
            · cases u
        · rw [if_neg (by rw [o]; decide)]
          exact ⟨true, rfl, fun _ => sb.mpr (Or.inr ⟨by omega, Or.inl o⟩), fun _ => rfl⟩
      · rw [if_neg (show ¬ v = (0 : Int64) from fun z => c2 (by have := eql_z.mp z; rw [z0] at this; exact this))]
        refine ⟨false, rfl, (fun z => nomatch z), fun z => ?_⟩
        rcases sb.mp z with y | ⟨y, -⟩ <;> omega
noncomputable def fB (h : Hp) (m : Nat) (x : Int32) (g s : Nat) (w : Int) : Bool := @decide (∀ p, mHold h 66 x m p → rel s (lin (mK h 66 g) p) (w : Rat)) (Classical.propDecidable _)
theorem fB_iff {h : Hp} {m : Nat} {x : Int32} {g s : Nat} {w : Int} : fB h m x g s w = true ↔ ∀ p, mHold h 66 x m p → rel s (lin (mK h 66 g) p) (w : Rat) := by
  unfold fB
  exact @decide_eq_true_iff _ (Classical.propDecidable _)
theorem MB.fB {h h' : Hp} {nq m : Nat} {S ks : List Nat} (a : MB h 66 nq m) (f : Fr S h h') (k : FrK 66 ks h h') (h3 : 3 ∉ ks) (h1 : 67 ∉ S) (h2 : 68 ∉ S) (x : Int32) (g s : Nat) (w : Int) : fB h' m x g s w = fB h m x g s w := by
  obtain ⟨-, g1, g2, g3, g4⟩ := a.fr f k h3 h1 h2
  apply bool_eq
  rw [fB_iff, fB_iff]
  unfold mHold
  rw [mset_congr g1 g2 g3 g4, g4]
set_option maxHeartbeats 1000000 in
theorem doesFollow_z {h : Hp} {nq m g s : Nat} {w : Int} (hM : MB h 66 nq m) (hg : g < nq) (hne : ∃ v, v < 3 ∧ mK h 66 g v ≠ 0) (hs : s ≤ 4) (hw : -50 ≤ w ∧ w ≤ 50) (x : Int32) : ∃ h', s_X10_doesFollow 66 x (nI g) (nI s) (i32 w) h = some (bI (fB h m x g s w), h') ∧ Fr (scr 66) h h' ∧ FrK 66 scrK h h' := by
  obtain ⟨h', e, f, k, hW, ht, hn⟩ := seesForm_z hM hg x hne
  refine ⟨h', ?_, f, k⟩
  unfold s_X10_doesFollow
  rw [e, bnd_s]
  have fI : fB h m x g s w = true ↔ ∀ t, inI h' 66 t → rel s t (w : Rat) := by
    rw [fB_iff]
    constructor
    · intro q t hit
      obtain ⟨p, hp, rfl⟩ := (ht t).mp hit
      exact q p hp
    · intro q p hp
      exact q _ ((ht _).mpr ⟨p, hp, rfl⟩)
  by_cases c : h'.1 66 28 = 0
  · rw [if_pos c]
    have hin : ∀ t, inI h' 66 t ↔ IV (lowO h' 66) (highO h' 66) t := fun t => (inI_iv hW t).trans ⟨fun q => q.2, fun q => ⟨c, q⟩⟩
    have hnI : ∃ t, IV (lowO h' 66) (highO h' 66) t := by
      obtain ⟨t, q⟩ := hn.mp c
      exact ⟨t, (hin t).mp q⟩
    have hnI2 : ∃ t, IV (highO h' 66) (lowO h' 66) t := by
      obtain ⟨t, q⟩ := hnI
      exact ⟨-t, IV.sw.mpr q⟩
    have fI2 : fB h m x g s w = true ↔ ∀ t, IV (lowO h' 66) (highO h' 66) t → rel s t (w : Rat) := by
      rw [fI]
      exact ⟨fun q t y => q t ((hin t).mpr y), fun q t y => q t ((hin t).mp y)⟩
    have lowS : ∀ less, sideB (lowO h' 66) (-w) less ↔ ∀ t, IV (lowO h' 66) (highO h' 66) t → ((w : Rat) < t ∨ (t = (w : Rat) ∧ less = false)) := fun less => by
      rw [side_iv hnI2]
      constructor
      · intro q t y
        have := q (-t) (IV.sw.mpr y)
        push_cast at this
        rcases this with z | ⟨z, z2⟩
        · exact Or.inl (by grind)
        · exact Or.inr ⟨by grind, z2⟩
      · intro q t y
        have := q (-t) (IV.sw.mpr y)
        push_cast
        rcases this with z | ⟨z, z2⟩
        · exact Or.inl (by grind)
        · exact Or.inr ⟨by grind, z2⟩
    obtain ⟨bm0, em0, im0⟩ := isAtMost_z hW hw false
    obtain ⟨bm1, em1, im1⟩ := isAtMost_z hW hw true
    obtain ⟨bl0, el0, il0⟩ := isAtLeast_z hW hw false
    obtain ⟨bl1, el1, il1⟩ := isAtLeast_z hW hw true
    rw [side_iv hnI] at im0 im1
    rw [lowS] at il0 il1
    unfold s_X10_doesFollow_b61 s_X10_doesFollow_b78
    have fin : ∀ b : Bool, (b = true ↔ ∀ t, IV (lowO h' 66) (highO h' 66) t → rel s t (w : Rat)) → b = fB h m x g s w := fun b hb => bool_eq (hb.trans fI2.symm)
    rcases (show s = 0 ∨ s = 1 ∨ s = 2 ∨ s = 3 ∨ s = 4 by omega) with rfl | rfl | rfl | rfl | rfl
    · rw [if_pos (by decide), if_neg (by decide), show (0 : Int32) = bI false from rfl, em0, bnd_s, ckB_b]
      rw [fin bm0 (im0.trans (by
        unfold rel
        constructor
        · intro q t y; have := q t y; simp; rcases this with z | z <;> grind
        · intro q t y
          have := q t y
          simp at this
          by_cases u : t < (w : Rat)
          · exact Or.inl u
          · exact Or.inr ⟨by grind, rfl⟩))]
    · rw [if_neg (by decide), if_pos (by decide), if_pos (by decide), show (1 : Int32) = bI true from rfl, em1, bnd_s, ckB_b]
      rw [fin bm1 (im1.trans (by
        unfold rel
        constructor
        · intro q t y; have := q t y; simp; simpa using this
        · intro q t y
          have := q t y
          simp at this
          exact Or.inl this))]
    · rw [if_neg (by decide), if_neg (by decide), if_pos (by decide), if_neg (by decide), show (0 : Int32) = bI false from rfl, el0, bnd_s, ckB_b]
      rw [fin bl0 (il0.trans (by
        unfold rel
        constructor
        · intro q t y; have := q t y; simp; rcases this with z | z <;> grind
        · intro q t y
          have := q t y
          simp at this
          by_cases u : (w : Rat) < t
          · exact Or.inl u
          · exact Or.inr ⟨by grind, rfl⟩))]
    · rw [if_neg (by decide), if_neg (by decide), if_neg (by decide), if_pos (by decide), if_pos (by decide), show (1 : Int32) = bI true from rfl, el1, bnd_s, ckB_b]
      rw [fin bl1 (il1.trans (by
        unfold rel
        constructor
        · intro q t y; have := q t y; simp; simpa using this
        · intro q t y
          have := q t y
          simp at this
          exact Or.inl this))]
    · rw [if_neg (by decide), if_neg (by decide), if_neg (by decide), if_neg (by decide), show s_X10_isAtMost 66 (i32 w) 0 h' = some (bI bm0) from em0, bnd_s, show s_X10_isAtLeast 66 (i32 w) 0 h' = some (bI bl0) from el0]
      have key : (bm0 && bl0) = fB h m x g 4 w := fin _ (by
        rw [Bool.and_eq_true, im0, il0]
        unfold rel
        constructor
        · rintro ⟨q1, q2⟩ t y
          have a := q1 t y
          have b := q2 t y
          simp
          grind
        · intro q
          refine ⟨fun t y => ?_, fun t y => ?_⟩
          · have := q t y
            simp at this
            exact Or.inr ⟨this, rfl⟩
          · have := q t y
            simp at this
            exact Or.inr ⟨this, rfl⟩)
      rw [← key]
      cases bm0 <;> cases bl0 <;> rfl
  · rw [if_neg c]
    have : fB h m x g s w = true := fI.mpr (fun t ht => absurd ht.1 c)
    rw [this]; rfl
